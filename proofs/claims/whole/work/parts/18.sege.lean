/-! segments, by program -/
def LX12_known_0 (d n : Nat) (Q : Int → kS → Prop) (a0 : Int) (a1 : Int) (σ : kS) : Prop := K (d + 1) MX12_known (kPi n Q) (0, 0) 0 [(0, (2, a0)), (1, (0, a1))] [] n σ
def LX12_known_26 (d n : Nat) (Q : Int → kS → Prop) (a0 : Int) (a1 : Int) (a2 : Int) (σ : kS) : Prop := K (d + 1) MX12_known (kPi n Q) (0, 0) 26 [(0, (2, a0)), (1, (0, a1)), (2, (0, a2))] [] n σ
theorem SX12_known_0 {d n : Nat} {Q : Int → kS → Prop} {a0 a1 : Int} {σ : kS} (h : isO 12 n a0 ∧ (∀ s1, s1 = kst σ a0 0 0 → ((s1 a0 41) = 6 → Q (-1) s1) ∧ (¬ (s1 a0 41) = 6 → Ci d MX12_isLine [(2, a0), (0, a1)] n s1 (fun x2 s2 => (¬ x2 = 0 → LX12_known_26 d n Q a0 a1 0 s2) ∧ (¬ (¬ x2 = 0) → Q (-1) s2))))) : LX12_known_0 d n Q a0 a1 σ := by
  unfold LX12_known_0
  refine K_aload_n 0 (kdA dt_MX12_known 0 rfl) rfl rfl ?_
  refine K_iconst (kdA dt_MX12_known 1 rfl) (by decide) ?_
  obtain ⟨c1, h⟩ := h
  refine pf12_149 rfl (kdA dt_MX12_known 2 rfl) c1 (fun s1 es1 => ?_)
  have h := h s1 es1
  refine K_aload_n 0 (kdA dt_MX12_known 3 rfl) rfl rfl ?_
  refine gf12_420 rfl (kdA dt_MX12_known 4 rfl) c1 ?_
  refine K_bipush (kdA dt_MX12_known 5 rfl) (by decide +kernel) ?_
  refine K_icmp_eq (tgt := 22) (kdA dt_MX12_known 6 rfl) rfl (fun c => ?_) (fun c => ?_)
  · have h := h.1 c
    refine K_iconst (kdA dt_MX12_known 11 rfl) (by decide) ?_
    exact K_ireturn (kdA dt_MX12_known 12 rfl) rfl ⟨rfl, _, rfl, h⟩
  · have h := h.2 c
    refine K_aload_n 0 (kdA dt_MX12_known 7 rfl) rfl rfl ?_
    refine K_iload_n 1 (kdA dt_MX12_known 8 rfl) rfl rfl ?_
    refine K_cVi (c := 12) (as := [(0, a1)]) (st := []) (kdA dt_MX12_known 9 rfl) rfl cl_MX12_isLine lk12_383 rfl rfl (Nat.le_of_ble_eq_true rfl) c1 (Ci.mono h (fun x2 s2 h => ?_))
    refine K_if_ne (tgt := 24) (kdA dt_MX12_known 10 rfl) rfl (fun c => ?_) (fun c => ?_)
    · have h := h.1 c
      refine K_iconst (kdA dt_MX12_known 13 rfl) (by decide) ?_
      refine K_istore_n (ls' := [(0, (2, a0)), (1, (0, a1)), (2, (0, 0))]) (kdA dt_MX12_known 14 rfl) rfl (by decide) rfl ?_
      exact h
    · have h := h.2 c
      refine K_iconst (kdA dt_MX12_known 11 rfl) (by decide) ?_
      exact K_ireturn (kdA dt_MX12_known 12 rfl) rfl ⟨rfl, _, rfl, h⟩
theorem SX12_known_26 {d n : Nat} {Q : Int → kS → Prop} {a0 a1 a2 : Int} {σ : kS} (h : isO 12 n a0 ∧ (((σ a0 41) ≤ a2 → isA 20 n (σ a0 39) ∧ (((0 : Int) ≤ (σ a0 41) ∧ (σ a0 41) < klen (σ a0 39)) ∧ (∀ s1, s1 = kst σ (σ a0 39) (σ a0 41) a1 → (-2147483648 ≤ ((s1 a0 41) + 1) ∧ ((s1 a0 41) + 1) ≤ 2147483647) ∧ (∀ s2, s2 = kst s1 a0 41 ((s1 a0 41) + 1) → Q (s2 a0 41) s2)))) ∧ (¬ (σ a0 41) ≤ a2 → isA 20 n (σ a0 39) ∧ (((0 : Int) ≤ a2 ∧ a2 < klen (σ a0 39)) ∧ ((¬ (σ (σ a0 39) a2) = a1 → (-2147483648 ≤ (a2 + 1) ∧ (a2 + 1) ≤ 2147483647) ∧ (LX12_known_26 d n Q a0 a1 (a2 + 1) σ)) ∧ (¬ (¬ (σ (σ a0 39) a2) = a1) → Q (-1) σ)))))) : LX12_known_26 d n Q a0 a1 a2 σ := by
  unfold LX12_known_26
  refine K_iload_n 2 (kdA dt_MX12_known 15 rfl) rfl rfl ?_
  refine K_aload_n 0 (kdA dt_MX12_known 16 rfl) rfl rfl ?_
  obtain ⟨c1, h⟩ := h
  refine gf12_420 rfl (kdA dt_MX12_known 17 rfl) c1 ?_
  refine K_icmp_ge (tgt := 52) (kdA dt_MX12_known 18 rfl) rfl (fun c => ?_) (fun c => ?_)
  · have h := h.1 c
    refine K_aload_n 0 (kdA dt_MX12_known 29 rfl) rfl rfl ?_
    refine gf12_85 rfl (kdA dt_MX12_known 30 rfl) c1 ?_
    refine K_aload_n 0 (kdA dt_MX12_known 31 rfl) rfl rfl ?_
    refine gf12_420 rfl (kdA dt_MX12_known 32 rfl) c1 ?_
    refine K_iload_n 1 (kdA dt_MX12_known 33 rfl) rfl rfl ?_
    obtain ⟨c2, h⟩ := h
    obtain ⟨c3, h⟩ := h
    refine K_iastore' (kdA dt_MX12_known 34 rfl) c2 c3.1 c3.2 (fun s1 es1 => ?_)
    have h := h s1 es1
    refine K_aload_n 0 (kdA dt_MX12_known 35 rfl) rfl rfl ?_
    refine K_dup (kdA dt_MX12_known 36 rfl) rfl ?_
    refine gf12_420 rfl (kdA dt_MX12_known 37 rfl) c1 ?_
    refine K_iconst (kdA dt_MX12_known 38 rfl) (by decide) ?_
    obtain ⟨c4, h⟩ := h
    refine K_iadd (kdA dt_MX12_known 39 rfl) c4 ?_
    refine pf12_420 rfl (kdA dt_MX12_known 40 rfl) c1 (fun s2 es2 => ?_)
    have h := h s2 es2
    refine K_aload_n 0 (kdA dt_MX12_known 41 rfl) rfl rfl ?_
    refine gf12_420 rfl (kdA dt_MX12_known 42 rfl) c1 ?_
    exact K_ireturn (kdA dt_MX12_known 43 rfl) rfl ⟨rfl, _, rfl, h⟩
  · have h := h.2 c
    refine K_aload_n 0 (kdA dt_MX12_known 19 rfl) rfl rfl ?_
    refine gf12_85 rfl (kdA dt_MX12_known 20 rfl) c1 ?_
    refine K_iload_n 2 (kdA dt_MX12_known 21 rfl) rfl rfl ?_
    obtain ⟨c2, h⟩ := h
    obtain ⟨c3, h⟩ := h
    refine K_iaload (kdA dt_MX12_known 22 rfl) c2 c3.1 c3.2 ?_
    refine K_iload_n 1 (kdA dt_MX12_known 23 rfl) rfl rfl ?_
    refine K_icmp_ne (tgt := 46) (kdA dt_MX12_known 24 rfl) rfl (fun c => ?_) (fun c => ?_)
    · have h := h.1 c
      obtain ⟨c4, h⟩ := h
      refine K_iinc (ls' := [(0, (2, a0)), (1, (0, a1)), (2, (0, (a2 + 1)))]) 2 (kdA dt_MX12_known 27 rfl) rfl c4 (by decide) rfl ?_
      refine K_goto (tgt := 26) (kdA dt_MX12_known 28 rfl) rfl ?_
      exact h
    · have h := h.2 c
      refine K_iconst (kdA dt_MX12_known 25 rfl) (by decide) ?_
      exact K_ireturn (kdA dt_MX12_known 26 rfl) rfl ⟨rfl, _, rfl, h⟩
theorem EX12_known {d n : Nat} {Q : Int → kS → Prop} {a0 a1 : Int} {σ : kS} (h : (-2147483648 ≤ a1 ∧ a1 ≤ 2147483647) → kokw n σ → LX12_known_0 d n Q a0 a1 σ) : Ci (d + 1) MX12_known [(2, a0), (0, a1)] n σ Q := Tri_of (by decide +kernel) (Nat.le_of_ble_eq_true rfl) (fun hk hw => h (hk (0, a1) (List.mem_of_getElem? (i := 1) rfl)) hw)

def LX12_lasting_0 (d n : Nat) (Q : Int → kS → Prop) (a0 : Int) (a1 : Int) (a2 : Int) (a3 : Int) (a4 : Int) (a5 : Int) (σ : kS) : Prop := K (d + 1) MX12_lasting (kPi n Q) (0, 0) 0 [(0, (2, a0)), (1, (0, a1)), (2, (0, a2)), (3, (0, a3)), (4, (0, a4)), (5, (0, a5))] [] n σ
def LX12_lasting_23 (d n : Nat) (Q : Int → kS → Prop) (a0 : Int) (a1 : Int) (a2 : Int) (a3 : Int) (a4 : Int) (a5 : Int) (a6 : Int) (σ : kS) : Prop := K (d + 1) MX12_lasting (kPi n Q) (0, 0) 23 [(0, (2, a0)), (1, (0, a1)), (2, (0, a2)), (3, (0, a3)), (4, (0, a4)), (5, (0, a5)), (6, (0, a6))] [] n σ
def LX12_lasting_58 (d n : Nat) (Q : Int → kS → Prop) (a0 : Int) (a1 : Int) (a2 : Int) (a3 : Int) (a4 : Int) (a5 : Int) (a6 : Int) (σ : kS) : Prop := K (d + 1) MX12_lasting (kPi n Q) (0, 0) 58 [(0, (2, a0)), (1, (0, a1)), (2, (0, a2)), (3, (0, a3)), (4, (0, a4)), (5, (0, a5)), (6, (0, a6))] [] n σ
def LX12_lasting_104 (d n : Nat) (Q : Int → kS → Prop) (a0 : Int) (a1 : Int) (a2 : Int) (a3 : Int) (a4 : Int) (a5 : Int) (a6 : Int) (σ : kS) : Prop := K (d + 1) MX12_lasting (kPi n Q) (0, 0) 104 [(0, (2, a0)), (1, (0, a1)), (2, (0, a2)), (3, (0, a3)), (4, (0, a4)), (5, (0, a5)), (6, (0, a6))] [] n σ
def LX12_lasting_133 (d n : Nat) (Q : Int → kS → Prop) (a0 : Int) (a1 : Int) (a2 : Int) (a3 : Int) (a4 : Int) (a5 : Int) (a6 : Int) (a7 : Int) (σ : kS) : Prop := K (d + 1) MX12_lasting (kPi n Q) (0, 0) 133 [(0, (2, a0)), (1, (0, a1)), (2, (0, a2)), (3, (0, a3)), (4, (0, a4)), (5, (0, a5)), (6, (0, a6)), (7, (0, a7))] [] n σ
def LX12_lasting_146 (d n : Nat) (Q : Int → kS → Prop) (a0 : Int) (a1 : Int) (a2 : Int) (a3 : Int) (a4 : Int) (a5 : Int) (a6 : Int) (a7 : Int) (a8 : Int) (a9 : Int) (σ : kS) : Prop := K (d + 1) MX12_lasting (kPi n Q) (0, 0) 146 [(0, (2, a0)), (1, (0, a1)), (2, (0, a2)), (3, (0, a3)), (4, (0, a4)), (5, (0, a5)), (6, (0, a6)), (7, (0, a7)), (8, (0, a8)), (9, (0, a9))] [] n σ
def LX12_lasting_234 (d n : Nat) (Q : Int → kS → Prop) (a0 : Int) (a6 : Int) (a7 : Int) (σ : kS) : Prop := K (d + 1) MX12_lasting (kPi n Q) (0, 0) 234 [(0, (2, a0)), (6, (0, a6)), (7, (0, a7))] [] n σ
theorem SX12_lasting_0 {d n : Nat} {Q : Int → kS → Prop} {a0 a1 a2 a3 a4 a5 : Int} {σ : kS} (h : isO 12 n a0 ∧ (∀ s1, s1 = kst σ a0 0 0 → Ci d MX12_isWay [(2, a0), (0, a1), (0, a2), (0, a4), (0, a5)] n s1 (fun x2 s2 => (¬ x2 = 0 → LX12_lasting_23 d n Q a0 a1 a2 a3 a4 a5 0 s2) ∧ (¬ (¬ x2 = 0) → Q (-1) s2)))) : LX12_lasting_0 d n Q a0 a1 a2 a3 a4 a5 σ := by
  unfold LX12_lasting_0
  refine K_aload_n 0 (kdA dt_MX12_lasting 0 rfl) rfl rfl ?_
  refine K_iconst (kdA dt_MX12_lasting 1 rfl) (by decide) ?_
  obtain ⟨c1, h⟩ := h
  refine pf12_149 rfl (kdA dt_MX12_lasting 2 rfl) c1 (fun s1 es1 => ?_)
  have h := h s1 es1
  refine K_aload_n 0 (kdA dt_MX12_lasting 3 rfl) rfl rfl ?_
  refine K_iload_n 1 (kdA dt_MX12_lasting 4 rfl) rfl rfl ?_
  refine K_iload_n 2 (kdA dt_MX12_lasting 5 rfl) rfl rfl ?_
  refine K_iload 4 (kdA dt_MX12_lasting 6 rfl) rfl ?_
  refine K_iload 5 (kdA dt_MX12_lasting 7 rfl) rfl ?_
  refine K_cVi (c := 12) (as := [(0, a1), (0, a2), (0, a4), (0, a5)]) (st := []) (kdA dt_MX12_lasting 8 rfl) rfl cl_MX12_isWay lk12_341 rfl rfl (Nat.le_of_ble_eq_true rfl) c1 (Ci.mono h (fun x2 s2 h => ?_))
  refine K_if_ne (tgt := 20) (kdA dt_MX12_lasting 9 rfl) rfl (fun c => ?_) (fun c => ?_)
  · have h := h.1 c
    refine K_iconst (kdA dt_MX12_lasting 12 rfl) (by decide) ?_
    refine K_istore (ls' := [(0, (2, a0)), (1, (0, a1)), (2, (0, a2)), (3, (0, a3)), (4, (0, a4)), (5, (0, a5)), (6, (0, 0))]) (kdA dt_MX12_lasting 13 rfl) (by decide) rfl ?_
    exact h
  · have h := h.2 c
    refine K_iconst (kdA dt_MX12_lasting 10 rfl) (by decide) ?_
    exact K_ireturn (kdA dt_MX12_lasting 11 rfl) rfl ⟨rfl, _, rfl, h⟩
theorem SX12_lasting_23 {d n : Nat} {Q : Int → kS → Prop} {a0 a1 a2 a3 a4 a5 a6 : Int} {σ : kS} (h : (120 ≤ a6 → isO 12 n a0 ∧ (Cv d MX12_layWay [(2, a0), (0, a1), (0, a2), (0, a3), (0, a4), (0, a5)] n σ (fun s1 => LX12_lasting_58 d n Q a0 a1 a2 a3 a4 a5 0 s1))) ∧ (¬ 120 ≤ a6 → isO 12 n a0 ∧ (isA 22 n (σ a0 67) ∧ (((0 : Int) ≤ a6 ∧ a6 < klen (σ a0 67)) ∧ (((0 : Int) ≤ 0 ∧ 0 ≤ (1 : Int)) ∧ (∀ s1, s1 = kst σ (σ a0 67) a6 0 → (-2147483648 ≤ (a6 + 1) ∧ (a6 + 1) ≤ 2147483647) ∧ (LX12_lasting_23 d n Q a0 a1 a2 a3 a4 a5 (a6 + 1) s1))))))) : LX12_lasting_23 d n Q a0 a1 a2 a3 a4 a5 a6 σ := by
  unfold LX12_lasting_23
  refine K_iload 6 (kdA dt_MX12_lasting 14 rfl) rfl ?_
  refine K_bipush (kdA dt_MX12_lasting 15 rfl) (by decide +kernel) ?_
  refine K_icmp_ge (tgt := 44) (kdA dt_MX12_lasting 16 rfl) rfl (fun c => ?_) (fun c => ?_)
  · have h := h.1 c
    refine K_aload_n 0 (kdA dt_MX12_lasting 24 rfl) rfl rfl ?_
    refine K_iload_n 1 (kdA dt_MX12_lasting 25 rfl) rfl rfl ?_
    refine K_iload_n 2 (kdA dt_MX12_lasting 26 rfl) rfl rfl ?_
    refine K_iload_n 3 (kdA dt_MX12_lasting 27 rfl) rfl rfl ?_
    refine K_iload 4 (kdA dt_MX12_lasting 28 rfl) rfl ?_
    refine K_iload 5 (kdA dt_MX12_lasting 29 rfl) rfl ?_
    obtain ⟨c1, h⟩ := h
    refine K_cVv (c := 12) (as := [(0, a1), (0, a2), (0, a3), (0, a4), (0, a5)]) (st := []) (kdA dt_MX12_lasting 30 rfl) rfl cl_MX12_layWay lk12_345 rfl rfl (Nat.le_of_ble_eq_true rfl) c1 (Cv.mono h (fun s1 h => ?_))
    refine K_iconst (kdA dt_MX12_lasting 31 rfl) (by decide) ?_
    refine K_istore (ls' := [(0, (2, a0)), (1, (0, a1)), (2, (0, a2)), (3, (0, a3)), (4, (0, a4)), (5, (0, a5)), (6, (0, 0))]) (kdA dt_MX12_lasting 32 rfl) (by decide) rfl ?_
    exact h
  · have h := h.2 c
    refine K_aload_n 0 (kdA dt_MX12_lasting 17 rfl) rfl rfl ?_
    obtain ⟨c1, h⟩ := h
    refine gf12_145 rfl (kdA dt_MX12_lasting 18 rfl) c1 ?_
    refine K_iload 6 (kdA dt_MX12_lasting 19 rfl) rfl ?_
    refine K_iconst (kdA dt_MX12_lasting 20 rfl) (by decide) ?_
    obtain ⟨c2, h⟩ := h
    obtain ⟨c3, h⟩ := h
    obtain ⟨c4, h⟩ := h
    refine K_bastore' (kdA dt_MX12_lasting 21 rfl) (Or.inr ⟨c2, c4⟩) c3.1 c3.2 (fun s1 es1 => ?_)
    have h := h s1 es1
    obtain ⟨c5, h⟩ := h
    refine K_iinc (ls' := [(0, (2, a0)), (1, (0, a1)), (2, (0, a2)), (3, (0, a3)), (4, (0, a4)), (5, (0, a5)), (6, (0, (a6 + 1)))]) 6 (kdA dt_MX12_lasting 22 rfl) rfl c5 (by decide) rfl ?_
    refine K_goto (tgt := 23) (kdA dt_MX12_lasting 23 rfl) rfl ?_
    exact h
theorem SX12_lasting_58 {d n : Nat} {Q : Int → kS → Prop} {a0 a1 a2 a3 a4 a5 a6 : Int} {σ : kS} (h : isO 12 n a0 ∧ (((σ a0 30) ≤ a6 → Cv d MX12_leaveNow [(2, a0)] n σ (fun s1 => LX12_lasting_104 d n Q a0 a1 a2 a3 a4 a5 0 s1)) ∧ (¬ (σ a0 30) ≤ a6 → isA 20 n (σ a0 29) ∧ (((0 : Int) ≤ a6 ∧ a6 < klen (σ a0 29)) ∧ (((σ a0 68) ≤ 0 → isA 22 n (σ a0 67) ∧ (((0 : Int) ≤ (σ (σ a0 29) a6) ∧ (σ (σ a0 29) a6) < klen (σ a0 67)) ∧ (((0 : Int) ≤ 0 ∧ 0 ≤ (1 : Int)) ∧ (∀ s1, s1 = kst σ (σ a0 67) (σ (σ a0 29) a6) 0 → (-2147483648 ≤ (a6 + 1) ∧ (a6 + 1) ≤ 2147483647) ∧ (LX12_lasting_58 d n Q a0 a1 a2 a3 a4 a5 (a6 + 1) s1))))) ∧ (¬ (σ a0 68) ≤ 0 → isA 22 n (σ a0 67) ∧ (((0 : Int) ≤ (σ (σ a0 29) a6) ∧ (σ (σ a0 29) a6) < klen (σ a0 67)) ∧ (((0 : Int) ≤ 1 ∧ 1 ≤ (1 : Int)) ∧ (∀ s1, s1 = kst σ (σ a0 67) (σ (σ a0 29) a6) 1 → (-2147483648 ≤ (a6 + 1) ∧ (a6 + 1) ≤ 2147483647) ∧ (LX12_lasting_58 d n Q a0 a1 a2 a3 a4 a5 (a6 + 1) s1)))))))))) : LX12_lasting_58 d n Q a0 a1 a2 a3 a4 a5 a6 σ := by
  unfold LX12_lasting_58
  refine K_iload 6 (kdA dt_MX12_lasting 33 rfl) rfl ?_
  refine K_aload_n 0 (kdA dt_MX12_lasting 34 rfl) rfl rfl ?_
  obtain ⟨c1, h⟩ := h
  refine gf12_330 rfl (kdA dt_MX12_lasting 35 rfl) c1 ?_
  refine K_icmp_ge (tgt := 97) (kdA dt_MX12_lasting 36 rfl) rfl (fun c => ?_) (fun c => ?_)
  · have h := h.1 c
    refine K_aload_n 0 (kdA dt_MX12_lasting 52 rfl) rfl rfl ?_
    refine K_cVv (c := 12) (as := []) (st := []) (kdA dt_MX12_lasting 53 rfl) rfl cl_MX12_leaveNow lk12_541 rfl rfl (Nat.le_of_ble_eq_true rfl) c1 (Cv.mono h (fun s1 h => ?_))
    refine K_iconst (kdA dt_MX12_lasting 54 rfl) (by decide) ?_
    refine K_istore (ls' := [(0, (2, a0)), (1, (0, a1)), (2, (0, a2)), (3, (0, a3)), (4, (0, a4)), (5, (0, a5)), (6, (0, 0))]) (kdA dt_MX12_lasting 55 rfl) (by decide) rfl ?_
    exact h
  · have h := h.2 c
    refine K_aload_n 0 (kdA dt_MX12_lasting 37 rfl) rfl rfl ?_
    refine gf12_145 rfl (kdA dt_MX12_lasting 38 rfl) c1 ?_
    refine K_aload_n 0 (kdA dt_MX12_lasting 39 rfl) rfl rfl ?_
    refine gf12_64 rfl (kdA dt_MX12_lasting 40 rfl) c1 ?_
    refine K_iload 6 (kdA dt_MX12_lasting 41 rfl) rfl ?_
    obtain ⟨c2, h⟩ := h
    obtain ⟨c3, h⟩ := h
    refine K_iaload (kdA dt_MX12_lasting 42 rfl) c2 c3.1 c3.2 ?_
    refine K_aload_n 0 (kdA dt_MX12_lasting 43 rfl) rfl rfl ?_
    refine gf12_529 rfl (kdA dt_MX12_lasting 44 rfl) c1 ?_
    refine K_if_le (tgt := 89) (kdA dt_MX12_lasting 45 rfl) rfl (fun c => ?_) (fun c => ?_)
    · have h := h.1 c
      refine K_iconst (kdA dt_MX12_lasting 48 rfl) (by decide) ?_
      obtain ⟨c4, h⟩ := h
      obtain ⟨c5, h⟩ := h
      obtain ⟨c6, h⟩ := h
      refine K_bastore' (kdA dt_MX12_lasting 49 rfl) (Or.inr ⟨c4, c6⟩) c5.1 c5.2 (fun s1 es1 => ?_)
      have h := h s1 es1
      obtain ⟨c7, h⟩ := h
      refine K_iinc (ls' := [(0, (2, a0)), (1, (0, a1)), (2, (0, a2)), (3, (0, a3)), (4, (0, a4)), (5, (0, a5)), (6, (0, (a6 + 1)))]) 6 (kdA dt_MX12_lasting 50 rfl) rfl c7 (by decide) rfl ?_
      refine K_goto (tgt := 58) (kdA dt_MX12_lasting 51 rfl) rfl ?_
      exact h
    · have h := h.2 c
      refine K_iconst (kdA dt_MX12_lasting 46 rfl) (by decide) ?_
      refine K_goto (tgt := 90) (kdA dt_MX12_lasting 47 rfl) rfl ?_
      obtain ⟨c4, h⟩ := h
      obtain ⟨c5, h⟩ := h
      obtain ⟨c6, h⟩ := h
      refine K_bastore' (kdA dt_MX12_lasting 49 rfl) (Or.inr ⟨c4, c6⟩) c5.1 c5.2 (fun s1 es1 => ?_)
      have h := h s1 es1
      obtain ⟨c7, h⟩ := h
      refine K_iinc (ls' := [(0, (2, a0)), (1, (0, a1)), (2, (0, a2)), (3, (0, a3)), (4, (0, a4)), (5, (0, a5)), (6, (0, (a6 + 1)))]) 6 (kdA dt_MX12_lasting 50 rfl) rfl c7 (by decide) rfl ?_
      refine K_goto (tgt := 58) (kdA dt_MX12_lasting 51 rfl) rfl ?_
      exact h
theorem SX12_lasting_104 {d n : Nat} {Q : Int → kS → Prop} {a0 a1 a2 a3 a4 a5 a6 : Int} {σ : kS} (h : isO 12 n a0 ∧ (((σ a0 68) ≤ a6 → Cv d MX12_comeBack [(2, a0)] n σ (fun s1 => LX12_lasting_234 d n Q a0 0 0 s1)) ∧ (¬ (σ a0 68) ≤ a6 → Cv d MX12_goTo [(2, a0), (0, a6)] n σ (fun s1 => Cv d MX12_layWay [(2, a0), (0, a1), (0, a2), (0, a3), (0, a4), (0, a5)] n s1 (fun s2 => LX12_lasting_133 d n Q a0 a1 a2 a3 a4 a5 a6 0 s2))))) : LX12_lasting_104 d n Q a0 a1 a2 a3 a4 a5 a6 σ := by
  unfold LX12_lasting_104
  refine K_iload 6 (kdA dt_MX12_lasting 56 rfl) rfl ?_
  refine K_aload_n 0 (kdA dt_MX12_lasting 57 rfl) rfl rfl ?_
  obtain ⟨c1, h⟩ := h
  refine gf12_529 rfl (kdA dt_MX12_lasting 58 rfl) c1 ?_
  refine K_icmp_ge (tgt := 224) (kdA dt_MX12_lasting 59 rfl) rfl (fun c => ?_) (fun c => ?_)
  · have h := h.1 c
    refine K_aload_n 0 (kdA dt_MX12_lasting 115 rfl) rfl rfl ?_
    refine K_cVv (c := 12) (as := []) (st := []) (kdA dt_MX12_lasting 116 rfl) rfl cl_MX12_comeBack lk12_544 rfl rfl (Nat.le_of_ble_eq_true rfl) c1 (Cv.mono h (fun s1 h => ?_))
    refine K_iconst (kdA dt_MX12_lasting 117 rfl) (by decide) ?_
    refine K_istore (ls' := [(0, (2, a0)), (1, (0, a1)), (2, (0, a2)), (3, (0, a3)), (4, (0, a4)), (5, (0, a5)), (6, (0, 0))]) (kdA dt_MX12_lasting 118 rfl) (by decide) rfl ?_
    refine K_iconst (kdA dt_MX12_lasting 119 rfl) (by decide) ?_
    refine K_istore (ls' := [(0, (2, a0)), (1, (0, a1)), (2, (0, a2)), (3, (0, a3)), (4, (0, a4)), (5, (0, a5)), (6, (0, 0)), (7, (0, 0))]) (kdA dt_MX12_lasting 120 rfl) (by decide) rfl ?_
    refine K_pick [0, 6, 7] (ls' := [(0, (2, a0)), (6, (0, 0)), (7, (0, 0))]) rfl ?_
    exact h
  · have h := h.2 c
    refine K_aload_n 0 (kdA dt_MX12_lasting 60 rfl) rfl rfl ?_
    refine K_iload 6 (kdA dt_MX12_lasting 61 rfl) rfl ?_
    refine K_cVv (c := 12) (as := [(0, a6)]) (st := []) (kdA dt_MX12_lasting 62 rfl) rfl cl_MX12_goTo lk12_538 rfl rfl (Nat.le_of_ble_eq_true rfl) c1 (Cv.mono h (fun s1 h => ?_))
    refine K_aload_n 0 (kdA dt_MX12_lasting 63 rfl) rfl rfl ?_
    refine K_iload_n 1 (kdA dt_MX12_lasting 64 rfl) rfl rfl ?_
    refine K_iload_n 2 (kdA dt_MX12_lasting 65 rfl) rfl rfl ?_
    refine K_iload_n 3 (kdA dt_MX12_lasting 66 rfl) rfl rfl ?_
    refine K_iload 4 (kdA dt_MX12_lasting 67 rfl) rfl ?_
    refine K_iload 5 (kdA dt_MX12_lasting 68 rfl) rfl ?_
    refine K_cVv (c := 12) (as := [(0, a1), (0, a2), (0, a3), (0, a4), (0, a5)]) (st := []) (kdA dt_MX12_lasting 69 rfl) rfl cl_MX12_layWay lk12_345 rfl rfl (Nat.le_of_ble_eq_true rfl) c1 (Cv.mono h (fun s2 h => ?_))
    refine K_iconst (kdA dt_MX12_lasting 70 rfl) (by decide) ?_
    refine K_istore (ls' := [(0, (2, a0)), (1, (0, a1)), (2, (0, a2)), (3, (0, a3)), (4, (0, a4)), (5, (0, a5)), (6, (0, a6)), (7, (0, 0))]) (kdA dt_MX12_lasting 71 rfl) (by decide) rfl ?_
    exact h
theorem SX12_lasting_234 {d n : Nat} {Q : Int → kS → Prop} {a0 a6 a7 : Int} {σ : kS} (h : (120 ≤ a7 → Q a6 σ) ∧ (¬ 120 ≤ a7 → isO 12 n a0 ∧ (isA 22 n (σ a0 67) ∧ (((0 : Int) ≤ a7 ∧ a7 < klen (σ a0 67)) ∧ (((σ (σ a0 67) a7) = 0 → (-2147483648 ≤ (a6 + 0) ∧ (a6 + 0) ≤ 2147483647) ∧ ((-2147483648 ≤ (a7 + 1) ∧ (a7 + 1) ≤ 2147483647) ∧ (LX12_lasting_234 d n Q a0 (a6 + 0) (a7 + 1) σ))) ∧ (¬ (σ (σ a0 67) a7) = 0 → (-2147483648 ≤ (a6 + 1) ∧ (a6 + 1) ≤ 2147483647) ∧ ((-2147483648 ≤ (a7 + 1) ∧ (a7 + 1) ≤ 2147483647) ∧ (LX12_lasting_234 d n Q a0 (a6 + 1) (a7 + 1) σ)))))))) : LX12_lasting_234 d n Q a0 a6 a7 σ := by
  unfold LX12_lasting_234
  refine K_iload 2 (kdA dt_MX12_lasting 121 rfl) rfl ?_
  refine K_bipush (kdA dt_MX12_lasting 122 rfl) (by decide +kernel) ?_
  refine K_icmp_ge (tgt := 267) (kdA dt_MX12_lasting 123 rfl) rfl (fun c => ?_) (fun c => ?_)
  · have h := h.1 c
    refine K_iload 1 (kdA dt_MX12_lasting 137 rfl) rfl ?_
    exact K_ireturn (kdA dt_MX12_lasting 138 rfl) rfl ⟨rfl, _, rfl, h⟩
  · have h := h.2 c
    refine K_iload 1 (kdA dt_MX12_lasting 124 rfl) rfl ?_
    refine K_aload_n 0 (kdA dt_MX12_lasting 125 rfl) rfl rfl ?_
    obtain ⟨c1, h⟩ := h
    refine gf12_145 rfl (kdA dt_MX12_lasting 126 rfl) c1 ?_
    refine K_iload 2 (kdA dt_MX12_lasting 127 rfl) rfl ?_
    obtain ⟨c2, h⟩ := h
    obtain ⟨c3, h⟩ := h
    refine K_baload (kdA dt_MX12_lasting 128 rfl) (Or.inr c2) c3.1 c3.2 ?_
    refine K_if_eq (tgt := 257) (kdA dt_MX12_lasting 129 rfl) rfl (fun c => ?_) (fun c => ?_)
    · have h := h.1 c
      refine K_iconst (kdA dt_MX12_lasting 132 rfl) (by decide) ?_
      obtain ⟨c4, h⟩ := h
      refine K_iadd (kdA dt_MX12_lasting 133 rfl) c4 ?_
      refine K_istore (ls' := [(0, (2, a0)), (6, (0, (a6 + 0))), (7, (0, a7))]) (kdA dt_MX12_lasting 134 rfl) (by decide) rfl ?_
      obtain ⟨c5, h⟩ := h
      refine K_iinc (ls' := [(0, (2, a0)), (6, (0, (a6 + 0))), (7, (0, (a7 + 1)))]) 2 (kdA dt_MX12_lasting 135 rfl) rfl c5 (by decide) rfl ?_
      refine K_goto (tgt := 234) (kdA dt_MX12_lasting 136 rfl) rfl ?_
      exact h
    · have h := h.2 c
      refine K_iconst (kdA dt_MX12_lasting 130 rfl) (by decide) ?_
      refine K_goto (tgt := 258) (kdA dt_MX12_lasting 131 rfl) rfl ?_
      obtain ⟨c4, h⟩ := h
      refine K_iadd (kdA dt_MX12_lasting 133 rfl) c4 ?_
      refine K_istore (ls' := [(0, (2, a0)), (6, (0, (a6 + 1))), (7, (0, a7))]) (kdA dt_MX12_lasting 134 rfl) (by decide) rfl ?_
      obtain ⟨c5, h⟩ := h
      refine K_iinc (ls' := [(0, (2, a0)), (6, (0, (a6 + 1))), (7, (0, (a7 + 1)))]) 2 (kdA dt_MX12_lasting 135 rfl) rfl c5 (by decide) rfl ?_
      refine K_goto (tgt := 234) (kdA dt_MX12_lasting 136 rfl) rfl ?_
      exact h
theorem SX12_lasting_133 {d n : Nat} {Q : Int → kS → Prop} {a0 a1 a2 a3 a4 a5 a6 a7 : Int} {σ : kS} (h : (120 ≤ a7 → (-2147483648 ≤ (a6 + 1) ∧ (a6 + 1) ≤ 2147483647) ∧ (LX12_lasting_104 d n Q a0 a1 a2 a3 a4 a5 (a6 + 1) σ)) ∧ (¬ 120 ≤ a7 → LX12_lasting_146 d n Q a0 a1 a2 a3 a4 a5 a6 a7 0 0 σ)) : LX12_lasting_133 d n Q a0 a1 a2 a3 a4 a5 a6 a7 σ := by
  unfold LX12_lasting_133
  refine K_iload 7 (kdA dt_MX12_lasting 72 rfl) rfl ?_
  refine K_bipush (kdA dt_MX12_lasting 73 rfl) (by decide +kernel) ?_
  refine K_icmp_ge (tgt := 218) (kdA dt_MX12_lasting 74 rfl) rfl (fun c => ?_) (fun c => ?_)
  · have h := h.1 c
    obtain ⟨c1, h⟩ := h
    refine K_iinc (ls' := [(0, (2, a0)), (1, (0, a1)), (2, (0, a2)), (3, (0, a3)), (4, (0, a4)), (5, (0, a5)), (6, (0, (a6 + 1))), (7, (0, a7))]) 6 (kdA dt_MX12_lasting 113 rfl) rfl c1 (by decide) rfl ?_
    refine K_goto (tgt := 104) (kdA dt_MX12_lasting 114 rfl) rfl ?_
    refine K_pick [0, 1, 2, 3, 4, 5, 6] (ls' := [(0, (2, a0)), (1, (0, a1)), (2, (0, a2)), (3, (0, a3)), (4, (0, a4)), (5, (0, a5)), (6, (0, (a6 + 1)))]) rfl ?_
    exact h
  · have h := h.2 c
    refine K_iconst (kdA dt_MX12_lasting 75 rfl) (by decide) ?_
    refine K_istore (ls' := [(0, (2, a0)), (1, (0, a1)), (2, (0, a2)), (3, (0, a3)), (4, (0, a4)), (5, (0, a5)), (6, (0, a6)), (7, (0, a7)), (8, (0, 0))]) (kdA dt_MX12_lasting 76 rfl) (by decide) rfl ?_
    refine K_iconst (kdA dt_MX12_lasting 77 rfl) (by decide) ?_
    refine K_istore (ls' := [(0, (2, a0)), (1, (0, a1)), (2, (0, a2)), (3, (0, a3)), (4, (0, a4)), (5, (0, a5)), (6, (0, a6)), (7, (0, a7)), (8, (0, 0)), (9, (0, 0))]) (kdA dt_MX12_lasting 78 rfl) (by decide) rfl ?_
    exact h
theorem SX12_lasting_146 {d n : Nat} {Q : Int → kS → Prop} {a0 a1 a2 a3 a4 a5 a6 a7 a8 a9 : Int} {σ : kS} (h : isO 12 n a0 ∧ (((σ a0 30) ≤ a9 → isA 22 n (σ a0 67) ∧ (((0 : Int) ≤ a7 ∧ a7 < klen (σ a0 67)) ∧ (((σ (σ a0 67) a7) = 0 → ((0 : Int) ≤ 0 ∧ 0 ≤ (1 : Int)) ∧ (∀ s1, s1 = kst σ (σ a0 67) a7 0 → (-2147483648 ≤ (a7 + 1) ∧ (a7 + 1) ≤ 2147483647) ∧ (LX12_lasting_133 d n Q a0 a1 a2 a3 a4 a5 a6 (a7 + 1) s1))) ∧ (¬ (σ (σ a0 67) a7) = 0 → (a8 = 0 → ((0 : Int) ≤ 0 ∧ 0 ≤ (1 : Int)) ∧ (∀ s1, s1 = kst σ (σ a0 67) a7 0 → (-2147483648 ≤ (a7 + 1) ∧ (a7 + 1) ≤ 2147483647) ∧ (LX12_lasting_133 d n Q a0 a1 a2 a3 a4 a5 a6 (a7 + 1) s1))) ∧ (¬ a8 = 0 → ((0 : Int) ≤ 1 ∧ 1 ≤ (1 : Int)) ∧ (∀ s1, s1 = kst σ (σ a0 67) a7 1 → (-2147483648 ≤ (a7 + 1) ∧ (a7 + 1) ≤ 2147483647) ∧ (LX12_lasting_133 d n Q a0 a1 a2 a3 a4 a5 a6 (a7 + 1) s1))))))) ∧ (¬ (σ a0 30) ≤ a9 → (¬ a8 = 0 → (-2147483648 ≤ (a9 + 1) ∧ (a9 + 1) ≤ 2147483647) ∧ (LX12_lasting_146 d n Q a0 a1 a2 a3 a4 a5 a6 a7 1 (a9 + 1) σ)) ∧ (¬ (¬ a8 = 0) → isA 20 n (σ a0 29) ∧ (((0 : Int) ≤ a9 ∧ a9 < klen (σ a0 29)) ∧ ((¬ (σ (σ a0 29) a9) = a7 → (-2147483648 ≤ (a9 + 1) ∧ (a9 + 1) ≤ 2147483647) ∧ (LX12_lasting_146 d n Q a0 a1 a2 a3 a4 a5 a6 a7 0 (a9 + 1) σ)) ∧ (¬ (¬ (σ (σ a0 29) a9) = a7) → (-2147483648 ≤ (a9 + 1) ∧ (a9 + 1) ≤ 2147483647) ∧ (LX12_lasting_146 d n Q a0 a1 a2 a3 a4 a5 a6 a7 1 (a9 + 1) σ)))))))) : LX12_lasting_146 d n Q a0 a1 a2 a3 a4 a5 a6 a7 a8 a9 σ := by
  unfold LX12_lasting_146
  refine K_iload 9 (kdA dt_MX12_lasting 79 rfl) rfl ?_
  refine K_aload_n 0 (kdA dt_MX12_lasting 80 rfl) rfl rfl ?_
  obtain ⟨c1, h⟩ := h
  refine gf12_330 rfl (kdA dt_MX12_lasting 81 rfl) c1 ?_
  refine K_icmp_ge (tgt := 185) (kdA dt_MX12_lasting 82 rfl) rfl (fun c => ?_) (fun c => ?_)
  · have h := h.1 c
    refine K_aload_n 0 (kdA dt_MX12_lasting 97 rfl) rfl rfl ?_
    refine gf12_145 rfl (kdA dt_MX12_lasting 98 rfl) c1 ?_
    refine K_iload 7 (kdA dt_MX12_lasting 99 rfl) rfl ?_
    refine K_aload_n 0 (kdA dt_MX12_lasting 100 rfl) rfl rfl ?_
    refine gf12_145 rfl (kdA dt_MX12_lasting 101 rfl) c1 ?_
    refine K_iload 7 (kdA dt_MX12_lasting 102 rfl) rfl ?_
    obtain ⟨c2, h⟩ := h
    obtain ⟨c3, h⟩ := h
    refine K_baload (kdA dt_MX12_lasting 103 rfl) (Or.inr c2) c3.1 c3.2 ?_
    refine K_if_eq (tgt := 210) (kdA dt_MX12_lasting 104 rfl) rfl (fun c => ?_) (fun c => ?_)
    · have h := h.1 c
      refine K_iconst (kdA dt_MX12_lasting 109 rfl) (by decide) ?_
      obtain ⟨c4, h⟩ := h
      refine K_bastore' (kdA dt_MX12_lasting 110 rfl) (Or.inr ⟨c2, c4⟩) c3.1 c3.2 (fun s1 es1 => ?_)
      have h := h s1 es1
      obtain ⟨c5, h⟩ := h
      refine K_iinc (ls' := [(0, (2, a0)), (1, (0, a1)), (2, (0, a2)), (3, (0, a3)), (4, (0, a4)), (5, (0, a5)), (6, (0, a6)), (7, (0, (a7 + 1))), (8, (0, a8)), (9, (0, a9))]) 7 (kdA dt_MX12_lasting 111 rfl) rfl c5 (by decide) rfl ?_
      refine K_goto (tgt := 133) (kdA dt_MX12_lasting 112 rfl) rfl ?_
      refine K_pick [0, 1, 2, 3, 4, 5, 6, 7] (ls' := [(0, (2, a0)), (1, (0, a1)), (2, (0, a2)), (3, (0, a3)), (4, (0, a4)), (5, (0, a5)), (6, (0, a6)), (7, (0, (a7 + 1)))]) rfl ?_
      exact h
    · have h := h.2 c
      refine K_iload 8 (kdA dt_MX12_lasting 105 rfl) rfl ?_
      refine K_if_eq (tgt := 210) (kdA dt_MX12_lasting 106 rfl) rfl (fun c => ?_) (fun c => ?_)
      · have h := h.1 c
        refine K_iconst (kdA dt_MX12_lasting 109 rfl) (by decide) ?_
        obtain ⟨c4, h⟩ := h
        refine K_bastore' (kdA dt_MX12_lasting 110 rfl) (Or.inr ⟨c2, c4⟩) c3.1 c3.2 (fun s1 es1 => ?_)
        have h := h s1 es1
        obtain ⟨c5, h⟩ := h
        refine K_iinc (ls' := [(0, (2, a0)), (1, (0, a1)), (2, (0, a2)), (3, (0, a3)), (4, (0, a4)), (5, (0, a5)), (6, (0, a6)), (7, (0, (a7 + 1))), (8, (0, a8)), (9, (0, a9))]) 7 (kdA dt_MX12_lasting 111 rfl) rfl c5 (by decide) rfl ?_
        refine K_goto (tgt := 133) (kdA dt_MX12_lasting 112 rfl) rfl ?_
        refine K_pick [0, 1, 2, 3, 4, 5, 6, 7] (ls' := [(0, (2, a0)), (1, (0, a1)), (2, (0, a2)), (3, (0, a3)), (4, (0, a4)), (5, (0, a5)), (6, (0, a6)), (7, (0, (a7 + 1)))]) rfl ?_
        exact h
      · have h := h.2 c
        refine K_iconst (kdA dt_MX12_lasting 107 rfl) (by decide) ?_
        refine K_goto (tgt := 211) (kdA dt_MX12_lasting 108 rfl) rfl ?_
        obtain ⟨c4, h⟩ := h
        refine K_bastore' (kdA dt_MX12_lasting 110 rfl) (Or.inr ⟨c2, c4⟩) c3.1 c3.2 (fun s1 es1 => ?_)
        have h := h s1 es1
        obtain ⟨c5, h⟩ := h
        refine K_iinc (ls' := [(0, (2, a0)), (1, (0, a1)), (2, (0, a2)), (3, (0, a3)), (4, (0, a4)), (5, (0, a5)), (6, (0, a6)), (7, (0, (a7 + 1))), (8, (0, a8)), (9, (0, a9))]) 7 (kdA dt_MX12_lasting 111 rfl) rfl c5 (by decide) rfl ?_
        refine K_goto (tgt := 133) (kdA dt_MX12_lasting 112 rfl) rfl ?_
        refine K_pick [0, 1, 2, 3, 4, 5, 6, 7] (ls' := [(0, (2, a0)), (1, (0, a1)), (2, (0, a2)), (3, (0, a3)), (4, (0, a4)), (5, (0, a5)), (6, (0, a6)), (7, (0, (a7 + 1)))]) rfl ?_
        exact h
  · have h := h.2 c
    refine K_iload 8 (kdA dt_MX12_lasting 83 rfl) rfl ?_
    refine K_if_ne (tgt := 172) (kdA dt_MX12_lasting 84 rfl) rfl (fun c => ?_) (fun c => ?_)
    · have h := h.1 c
      refine K_iconst (kdA dt_MX12_lasting 91 rfl) (by decide) ?_
      refine K_goto (tgt := 177) (kdA dt_MX12_lasting 92 rfl) rfl ?_
      refine K_istore (ls' := [(0, (2, a0)), (1, (0, a1)), (2, (0, a2)), (3, (0, a3)), (4, (0, a4)), (5, (0, a5)), (6, (0, a6)), (7, (0, a7)), (8, (0, 1)), (9, (0, a9))]) (kdA dt_MX12_lasting 94 rfl) (by decide) rfl ?_
      obtain ⟨c2, h⟩ := h
      refine K_iinc (ls' := [(0, (2, a0)), (1, (0, a1)), (2, (0, a2)), (3, (0, a3)), (4, (0, a4)), (5, (0, a5)), (6, (0, a6)), (7, (0, a7)), (8, (0, 1)), (9, (0, (a9 + 1)))]) 9 (kdA dt_MX12_lasting 95 rfl) rfl c2 (by decide) rfl ?_
      refine K_goto (tgt := 146) (kdA dt_MX12_lasting 96 rfl) rfl ?_
      exact h
    · have h := h.2 c
      refine K_aload_n 0 (kdA dt_MX12_lasting 85 rfl) rfl rfl ?_
      refine gf12_64 rfl (kdA dt_MX12_lasting 86 rfl) c1 ?_
      refine K_iload 9 (kdA dt_MX12_lasting 87 rfl) rfl ?_
      obtain ⟨c2, h⟩ := h
      obtain ⟨c3, h⟩ := h
      refine K_iaload (kdA dt_MX12_lasting 88 rfl) c2 c3.1 c3.2 ?_
      refine K_iload 7 (kdA dt_MX12_lasting 89 rfl) rfl ?_
      refine K_icmp_ne (tgt := 176) (kdA dt_MX12_lasting 90 rfl) rfl (fun c => ?_) (fun c => ?_)
      · have h := h.1 c
        refine K_iconst (kdA dt_MX12_lasting 93 rfl) (by decide) ?_
        refine K_istore (ls' := [(0, (2, a0)), (1, (0, a1)), (2, (0, a2)), (3, (0, a3)), (4, (0, a4)), (5, (0, a5)), (6, (0, a6)), (7, (0, a7)), (8, (0, 0)), (9, (0, a9))]) (kdA dt_MX12_lasting 94 rfl) (by decide) rfl ?_
        obtain ⟨c4, h⟩ := h
        refine K_iinc (ls' := [(0, (2, a0)), (1, (0, a1)), (2, (0, a2)), (3, (0, a3)), (4, (0, a4)), (5, (0, a5)), (6, (0, a6)), (7, (0, a7)), (8, (0, 0)), (9, (0, (a9 + 1)))]) 9 (kdA dt_MX12_lasting 95 rfl) rfl c4 (by decide) rfl ?_
        refine K_goto (tgt := 146) (kdA dt_MX12_lasting 96 rfl) rfl ?_
        exact h
      · have h := h.2 c
        refine K_iconst (kdA dt_MX12_lasting 91 rfl) (by decide) ?_
        refine K_goto (tgt := 177) (kdA dt_MX12_lasting 92 rfl) rfl ?_
        refine K_istore (ls' := [(0, (2, a0)), (1, (0, a1)), (2, (0, a2)), (3, (0, a3)), (4, (0, a4)), (5, (0, a5)), (6, (0, a6)), (7, (0, a7)), (8, (0, 1)), (9, (0, a9))]) (kdA dt_MX12_lasting 94 rfl) (by decide) rfl ?_
        obtain ⟨c4, h⟩ := h
        refine K_iinc (ls' := [(0, (2, a0)), (1, (0, a1)), (2, (0, a2)), (3, (0, a3)), (4, (0, a4)), (5, (0, a5)), (6, (0, a6)), (7, (0, a7)), (8, (0, 1)), (9, (0, (a9 + 1)))]) 9 (kdA dt_MX12_lasting 95 rfl) rfl c4 (by decide) rfl ?_
        refine K_goto (tgt := 146) (kdA dt_MX12_lasting 96 rfl) rfl ?_
        exact h
theorem EX12_lasting {d n : Nat} {Q : Int → kS → Prop} {a0 a1 a2 a3 a4 a5 : Int} {σ : kS} (h : (-2147483648 ≤ a1 ∧ a1 ≤ 2147483647) → (-2147483648 ≤ a2 ∧ a2 ≤ 2147483647) → (-2147483648 ≤ a3 ∧ a3 ≤ 2147483647) → (-2147483648 ≤ a4 ∧ a4 ≤ 2147483647) → (-2147483648 ≤ a5 ∧ a5 ≤ 2147483647) → kokw n σ → LX12_lasting_0 d n Q a0 a1 a2 a3 a4 a5 σ) : Ci (d + 1) MX12_lasting [(2, a0), (0, a1), (0, a2), (0, a3), (0, a4), (0, a5)] n σ Q := Tri_of (by decide +kernel) (Nat.le_of_ble_eq_true rfl) (fun hk hw => h (hk (0, a1) (List.mem_of_getElem? (i := 1) rfl)) (hk (0, a2) (List.mem_of_getElem? (i := 2) rfl)) (hk (0, a3) (List.mem_of_getElem? (i := 3) rfl)) (hk (0, a4) (List.mem_of_getElem? (i := 4) rfl)) (hk (0, a5) (List.mem_of_getElem? (i := 5) rfl)) hw)

def LX12_layFrom_0 (d n : Nat) (Q : kS → Prop) (a0 : Int) (a1 : Int) (σ : kS) : Prop := K (d + 1) MX12_layFrom (kPv n Q) (0, 0) 0 [(0, (2, a0)), (1, (0, a1))] [] n σ
def LX12_layFrom_2 (d n : Nat) (Q : kS → Prop) (a0 : Int) (a1 : Int) (a2 : Int) (σ : kS) : Prop := K (d + 1) MX12_layFrom (kPv n Q) (0, 0) 2 [(0, (2, a0)), (1, (0, a1)), (2, (0, a2))] [] n σ
def LX12_layFrom_34 (d n : Nat) (Q : kS → Prop) (a0 : Int) (a2 : Int) (σ : kS) : Prop := K (d + 1) MX12_layFrom (kPv n Q) (0, 0) 34 [(0, (2, a0)), (2, (0, a2))] [] n σ
def LX12_layFrom_42 (d n : Nat) (Q : kS → Prop) (a0 : Int) (a2 : Int) (a3 : Int) (σ : kS) : Prop := K (d + 1) MX12_layFrom (kPv n Q) (0, 0) 42 [(0, (2, a0)), (2, (0, a2)), (3, (0, a3))] [] n σ
def LX12_layFrom_51 (d n : Nat) (Q : kS → Prop) (a0 : Int) (a2 : Int) (a3 : Int) (a4 : Int) (σ : kS) : Prop := K (d + 1) MX12_layFrom (kPv n Q) (0, 0) 51 [(0, (2, a0)), (2, (0, a2)), (3, (0, a3)), (4, (0, a4))] [] n σ
theorem SX12_layFrom_0 {d n : Nat} {Q : kS → Prop} {a0 a1 : Int} {σ : kS} (h : LX12_layFrom_2 d n Q a0 a1 0 σ) : LX12_layFrom_0 d n Q a0 a1 σ := by
  unfold LX12_layFrom_0
  refine K_iconst (kdA dt_MX12_layFrom 0 rfl) (by decide) ?_
  refine K_istore_n (ls' := [(0, (2, a0)), (1, (0, a1)), (2, (0, 0))]) (kdA dt_MX12_layFrom 1 rfl) rfl (by decide) rfl ?_
  exact h
theorem SX12_layFrom_2 {d n : Nat} {Q : kS → Prop} {a0 a1 a2 : Int} {σ : kS} (h : (120 ≤ a2 → LX12_layFrom_34 d n Q a0 1 σ) ∧ (¬ 120 ≤ a2 → isO 12 n a0 ∧ ((¬ a2 = a1 → isA 20 n (σ a0 28) ∧ (((0 : Int) ≤ a2 ∧ a2 < klen (σ a0 28)) ∧ (∀ s1, s1 = kst σ (σ a0 28) a2 2000000000 → (-2147483648 ≤ (a2 + 1) ∧ (a2 + 1) ≤ 2147483647) ∧ (LX12_layFrom_2 d n Q a0 a1 (a2 + 1) s1)))) ∧ (¬ (¬ a2 = a1) → isA 20 n (σ a0 28) ∧ (((0 : Int) ≤ a2 ∧ a2 < klen (σ a0 28)) ∧ (∀ s1, s1 = kst σ (σ a0 28) a2 0 → (-2147483648 ≤ (a2 + 1) ∧ (a2 + 1) ≤ 2147483647) ∧ (LX12_layFrom_2 d n Q a0 a1 (a2 + 1) s1))))))) : LX12_layFrom_2 d n Q a0 a1 a2 σ := by
  unfold LX12_layFrom_2
  refine K_iload_n 2 (kdA dt_MX12_layFrom 2 rfl) rfl rfl ?_
  refine K_bipush (kdA dt_MX12_layFrom 3 rfl) (by decide +kernel) ?_
  refine K_icmp_ge (tgt := 32) (kdA dt_MX12_layFrom 4 rfl) rfl (fun c => ?_) (fun c => ?_)
  · have h := h.1 c
    refine K_iconst (kdA dt_MX12_layFrom 17 rfl) (by decide) ?_
    refine K_istore_n (ls' := [(0, (2, a0)), (1, (0, a1)), (2, (0, 1))]) (kdA dt_MX12_layFrom 18 rfl) rfl (by decide) rfl ?_
    refine K_pick [0, 2] (ls' := [(0, (2, a0)), (2, (0, 1))]) rfl ?_
    exact h
  · have h := h.2 c
    refine K_aload_n 0 (kdA dt_MX12_layFrom 5 rfl) rfl rfl ?_
    obtain ⟨c1, h⟩ := h
    refine gf12_61 rfl (kdA dt_MX12_layFrom 6 rfl) c1 ?_
    refine K_iload_n 2 (kdA dt_MX12_layFrom 7 rfl) rfl rfl ?_
    refine K_iload_n 2 (kdA dt_MX12_layFrom 8 rfl) rfl rfl ?_
    refine K_iload_n 1 (kdA dt_MX12_layFrom 9 rfl) rfl rfl ?_
    refine K_icmp_ne (tgt := 22) (kdA dt_MX12_layFrom 10 rfl) rfl (fun c => ?_) (fun c => ?_)
    · have h := h.1 c
      refine K_ldcw (x := 2000000000) (kdA dt_MX12_layFrom 13 rfl) (tb7 185 rfl rfl) (by decide +kernel) ?_
      obtain ⟨c2, h⟩ := h
      obtain ⟨c3, h⟩ := h
      refine K_iastore' (kdA dt_MX12_layFrom 14 rfl) c2 c3.1 c3.2 (fun s1 es1 => ?_)
      have h := h s1 es1
      obtain ⟨c4, h⟩ := h
      refine K_iinc (ls' := [(0, (2, a0)), (1, (0, a1)), (2, (0, (a2 + 1)))]) 2 (kdA dt_MX12_layFrom 15 rfl) rfl c4 (by decide) rfl ?_
      refine K_goto (tgt := 2) (kdA dt_MX12_layFrom 16 rfl) rfl ?_
      exact h
    · have h := h.2 c
      refine K_iconst (kdA dt_MX12_layFrom 11 rfl) (by decide) ?_
      refine K_goto (tgt := 25) (kdA dt_MX12_layFrom 12 rfl) rfl ?_
      obtain ⟨c2, h⟩ := h
      obtain ⟨c3, h⟩ := h
      refine K_iastore' (kdA dt_MX12_layFrom 14 rfl) c2 c3.1 c3.2 (fun s1 es1 => ?_)
      have h := h s1 es1
      obtain ⟨c4, h⟩ := h
      refine K_iinc (ls' := [(0, (2, a0)), (1, (0, a1)), (2, (0, (a2 + 1)))]) 2 (kdA dt_MX12_layFrom 15 rfl) rfl c4 (by decide) rfl ?_
      refine K_goto (tgt := 2) (kdA dt_MX12_layFrom 16 rfl) rfl ?_
      exact h
theorem SX12_layFrom_34 {d n : Nat} {Q : kS → Prop} {a0 a2 : Int} {σ : kS} (h : (a2 = 0 → Q σ) ∧ (¬ a2 = 0 → LX12_layFrom_42 d n Q a0 0 0 σ)) : LX12_layFrom_34 d n Q a0 a2 σ := by
  unfold LX12_layFrom_34
  refine K_iload_n 1 (kdA dt_MX12_layFrom 19 rfl) rfl rfl ?_
  refine K_if_eq (tgt := 159) (kdA dt_MX12_layFrom 20 rfl) rfl (fun c => ?_) (fun c => ?_)
  · have h := h.1 c
    exact K_return (kdA dt_MX12_layFrom 89 rfl) rfl ⟨rfl, rfl, h⟩
  · have h := h.2 c
    refine K_iconst (kdA dt_MX12_layFrom 21 rfl) (by decide) ?_
    refine K_istore_n (ls' := [(0, (2, a0)), (2, (0, 0))]) (kdA dt_MX12_layFrom 22 rfl) rfl (by decide) rfl ?_
    refine K_iconst (kdA dt_MX12_layFrom 23 rfl) (by decide) ?_
    refine K_istore_n (ls' := [(0, (2, a0)), (2, (0, 0)), (3, (0, 0))]) (kdA dt_MX12_layFrom 24 rfl) rfl (by decide) rfl ?_
    exact h
theorem SX12_layFrom_42 {d n : Nat} {Q : kS → Prop} {a0 a2 a3 : Int} {σ : kS} (h : (120 ≤ a3 → LX12_layFrom_34 d n Q a0 a2 σ) ∧ (¬ 120 ≤ a3 → LX12_layFrom_51 d n Q a0 a2 a3 0 σ)) : LX12_layFrom_42 d n Q a0 a2 a3 σ := by
  unfold LX12_layFrom_42
  refine K_iload_n 2 (kdA dt_MX12_layFrom 25 rfl) rfl rfl ?_
  refine K_bipush (kdA dt_MX12_layFrom 26 rfl) (by decide +kernel) ?_
  refine K_icmp_ge (tgt := 156) (kdA dt_MX12_layFrom 27 rfl) rfl (fun c => ?_) (fun c => ?_)
  · have h := h.1 c
    refine K_goto (tgt := 34) (kdA dt_MX12_layFrom 88 rfl) rfl ?_
    refine K_pick [0, 1] (ls' := [(0, (2, a0)), (2, (0, a2))]) rfl ?_
    exact h
  · have h := h.2 c
    refine K_iconst (kdA dt_MX12_layFrom 28 rfl) (by decide) ?_
    refine K_istore (ls' := [(0, (2, a0)), (2, (0, a2)), (3, (0, a3)), (4, (0, 0))]) (kdA dt_MX12_layFrom 29 rfl) (by decide) rfl ?_
    exact h
theorem SX12_layFrom_51 {d n : Nat} {Q : kS → Prop} {a0 a2 a3 a4 : Int} {σ : kS} (h : (8 ≤ a4 → (-2147483648 ≤ (a3 + 1) ∧ (a3 + 1) ≤ 2147483647) ∧ (LX12_layFrom_42 d n Q a0 a2 (a3 + 1) σ)) ∧ (¬ 8 ≤ a4 → Ci d MX12_step [(0, a3), (0, a4)] n σ (fun x1 s1 => (x1 = (-1) → (-2147483648 ≤ (a4 + 1) ∧ (a4 + 1) ≤ 2147483647) ∧ (LX12_layFrom_51 d n Q a0 a2 a3 (a4 + 1) s1)) ∧ (¬ x1 = (-1) → isO 12 n a0 ∧ (isA 20 n (s1 a0 28) ∧ (((0 : Int) ≤ a3 ∧ a3 < klen (s1 a0 28)) ∧ (((s1 (s1 a0 28) a3) = 2000000000 → (-2147483648 ≤ (a4 + 1) ∧ (a4 + 1) ≤ 2147483647) ∧ (LX12_layFrom_51 d n Q a0 a2 a3 (a4 + 1) s1)) ∧ (¬ (s1 (s1 a0 28) a3) = 2000000000 → (-2147483648 ≤ (8 * a3) ∧ (8 * a3) ≤ 2147483647) ∧ ((-2147483648 ≤ ((8 * a3) + a4) ∧ ((8 * a3) + a4) ≤ 2147483647) ∧ (isA 20 n (s1 a0 26) ∧ (((0 : Int) ≤ ((8 * a3) + a4) ∧ ((8 * a3) + a4) < klen (s1 a0 26)) ∧ ((-2147483648 ≤ ((s1 (s1 a0 28) a3) + (s1 (s1 a0 26) ((8 * a3) + a4))) ∧ ((s1 (s1 a0 28) a3) + (s1 (s1 a0 26) ((8 * a3) + a4))) ≤ 2147483647) ∧ (((0 : Int) ≤ x1 ∧ x1 < klen (s1 a0 28)) ∧ ((((s1 (s1 a0 28) a3) + (s1 (s1 a0 26) ((8 * a3) + a4))) < (s1 (s1 a0 28) x1) → ∀ s2, s2 = kst s1 (s1 a0 28) x1 ((s1 (s1 a0 28) a3) + (s1 (s1 a0 26) ((8 * a3) + a4))) → (-2147483648 ≤ (a4 + 1) ∧ (a4 + 1) ≤ 2147483647) ∧ (LX12_layFrom_51 d n Q a0 1 a3 (a4 + 1) s2)) ∧ (¬ ((s1 (s1 a0 28) a3) + (s1 (s1 a0 26) ((8 * a3) + a4))) < (s1 (s1 a0 28) x1) → (-2147483648 ≤ (a4 + 1) ∧ (a4 + 1) ≤ 2147483647) ∧ (LX12_layFrom_51 d n Q a0 a2 a3 (a4 + 1) s1)))))))))))))))) : LX12_layFrom_51 d n Q a0 a2 a3 a4 σ := by
  unfold LX12_layFrom_51
  refine K_iload 3 (kdA dt_MX12_layFrom 30 rfl) rfl ?_
  refine K_bipush (kdA dt_MX12_layFrom 31 rfl) (by decide +kernel) ?_
  refine K_icmp_ge (tgt := 150) (kdA dt_MX12_layFrom 32 rfl) rfl (fun c => ?_) (fun c => ?_)
  · have h := h.1 c
    obtain ⟨c1, h⟩ := h
    refine K_iinc (ls' := [(0, (2, a0)), (2, (0, a2)), (3, (0, (a3 + 1))), (4, (0, a4))]) 2 (kdA dt_MX12_layFrom 86 rfl) rfl c1 (by decide) rfl ?_
    refine K_goto (tgt := 42) (kdA dt_MX12_layFrom 87 rfl) rfl ?_
    refine K_pick [0, 1, 2] (ls' := [(0, (2, a0)), (2, (0, a2)), (3, (0, (a3 + 1)))]) rfl ?_
    exact h
  · have h := h.2 c
    refine K_iload_n 2 (kdA dt_MX12_layFrom 33 rfl) rfl rfl ?_
    refine K_iload 3 (kdA dt_MX12_layFrom 34 rfl) rfl ?_
    refine K_cSi (as := [(0, a3), (0, a4)]) (st := []) (kdA dt_MX12_layFrom 35 rfl) cl_MX12_step lk12_314 rfl rfl (Nat.le_of_ble_eq_true rfl) (Ci.mono h (fun x1 s1 h => ?_))
    refine K_istore (ls' := [(0, (2, a0)), (2, (0, a2)), (3, (0, a3)), (4, (0, a4)), (5, (0, x1))]) (kdA dt_MX12_layFrom 36 rfl) (by decide) rfl ?_
    refine K_iload 4 (kdA dt_MX12_layFrom 37 rfl) rfl ?_
    refine K_iconst (kdA dt_MX12_layFrom 38 rfl) (by decide) ?_
    refine K_icmp_eq (tgt := 144) (kdA dt_MX12_layFrom 39 rfl) rfl (fun c => ?_) (fun c => ?_)
    · have h := h.1 c
      obtain ⟨c2, h⟩ := h
      refine K_iinc (ls' := [(0, (2, a0)), (2, (0, a2)), (3, (0, a3)), (4, (0, (a4 + 1))), (5, (0, x1))]) 3 (kdA dt_MX12_layFrom 84 rfl) rfl c2 (by decide) rfl ?_
      refine K_goto (tgt := 51) (kdA dt_MX12_layFrom 85 rfl) rfl ?_
      refine K_pick [0, 1, 2, 3] (ls' := [(0, (2, a0)), (2, (0, a2)), (3, (0, a3)), (4, (0, (a4 + 1)))]) rfl ?_
      exact h
    · have h := h.2 c
      refine K_aload_n 0 (kdA dt_MX12_layFrom 40 rfl) rfl rfl ?_
      obtain ⟨c2, h⟩ := h
      refine gf12_61 rfl (kdA dt_MX12_layFrom 41 rfl) c2 ?_
      refine K_iload_n 2 (kdA dt_MX12_layFrom 42 rfl) rfl rfl ?_
      obtain ⟨c3, h⟩ := h
      obtain ⟨c4, h⟩ := h
      refine K_iaload (kdA dt_MX12_layFrom 43 rfl) c3 c4.1 c4.2 ?_
      refine K_ldcw (x := 2000000000) (kdA dt_MX12_layFrom 44 rfl) (tb7 185 rfl rfl) (by decide +kernel) ?_
      refine K_icmp_eq (tgt := 144) (kdA dt_MX12_layFrom 45 rfl) rfl (fun c => ?_) (fun c => ?_)
      · have h := h.1 c
        obtain ⟨c5, h⟩ := h
        refine K_iinc (ls' := [(0, (2, a0)), (2, (0, a2)), (3, (0, a3)), (4, (0, (a4 + 1))), (5, (0, x1))]) 3 (kdA dt_MX12_layFrom 84 rfl) rfl c5 (by decide) rfl ?_
        refine K_goto (tgt := 51) (kdA dt_MX12_layFrom 85 rfl) rfl ?_
        refine K_pick [0, 1, 2, 3] (ls' := [(0, (2, a0)), (2, (0, a2)), (3, (0, a3)), (4, (0, (a4 + 1)))]) rfl ?_
        exact h
      · have h := h.2 c
        refine K_aload_n 0 (kdA dt_MX12_layFrom 46 rfl) rfl rfl ?_
        refine gf12_61 rfl (kdA dt_MX12_layFrom 47 rfl) c2 ?_
        refine K_iload_n 2 (kdA dt_MX12_layFrom 48 rfl) rfl rfl ?_
        refine K_iaload (kdA dt_MX12_layFrom 49 rfl) c3 c4.1 c4.2 ?_
        refine K_aload_n 0 (kdA dt_MX12_layFrom 50 rfl) rfl rfl ?_
        refine gf12_55 rfl (kdA dt_MX12_layFrom 51 rfl) c2 ?_
        refine K_bipush (kdA dt_MX12_layFrom 52 rfl) (by decide +kernel) ?_
        refine K_iload_n 2 (kdA dt_MX12_layFrom 53 rfl) rfl rfl ?_
        obtain ⟨c5, h⟩ := h
        refine K_imul (kdA dt_MX12_layFrom 54 rfl) c5 ?_
        refine K_iload 3 (kdA dt_MX12_layFrom 55 rfl) rfl ?_
        obtain ⟨c6, h⟩ := h
        refine K_iadd (kdA dt_MX12_layFrom 56 rfl) c6 ?_
        obtain ⟨c7, h⟩ := h
        obtain ⟨c8, h⟩ := h
        refine K_iaload (kdA dt_MX12_layFrom 57 rfl) c7 c8.1 c8.2 ?_
        obtain ⟨c9, h⟩ := h
        refine K_iadd (kdA dt_MX12_layFrom 58 rfl) c9 ?_
        refine K_aload_n 0 (kdA dt_MX12_layFrom 59 rfl) rfl rfl ?_
        refine gf12_61 rfl (kdA dt_MX12_layFrom 60 rfl) c2 ?_
        refine K_iload 4 (kdA dt_MX12_layFrom 61 rfl) rfl ?_
        obtain ⟨c10, h⟩ := h
        refine K_iaload (kdA dt_MX12_layFrom 62 rfl) c3 c10.1 c10.2 ?_
        refine K_icmp_lt (tgt := 116) (kdA dt_MX12_layFrom 63 rfl) rfl (fun c => ?_) (fun c => ?_)
        · have h := h.1 c
          refine K_aload_n 0 (kdA dt_MX12_layFrom 65 rfl) rfl rfl ?_
          refine gf12_61 rfl (kdA dt_MX12_layFrom 66 rfl) c2 ?_
          refine K_iload 4 (kdA dt_MX12_layFrom 67 rfl) rfl ?_
          refine K_aload_n 0 (kdA dt_MX12_layFrom 68 rfl) rfl rfl ?_
          refine gf12_61 rfl (kdA dt_MX12_layFrom 69 rfl) c2 ?_
          refine K_iload_n 2 (kdA dt_MX12_layFrom 70 rfl) rfl rfl ?_
          refine K_iaload (kdA dt_MX12_layFrom 71 rfl) c3 c4.1 c4.2 ?_
          refine K_aload_n 0 (kdA dt_MX12_layFrom 72 rfl) rfl rfl ?_
          refine gf12_55 rfl (kdA dt_MX12_layFrom 73 rfl) c2 ?_
          refine K_bipush (kdA dt_MX12_layFrom 74 rfl) (by decide +kernel) ?_
          refine K_iload_n 2 (kdA dt_MX12_layFrom 75 rfl) rfl rfl ?_
          refine K_imul (kdA dt_MX12_layFrom 76 rfl) c5 ?_
          refine K_iload 3 (kdA dt_MX12_layFrom 77 rfl) rfl ?_
          refine K_iadd (kdA dt_MX12_layFrom 78 rfl) c6 ?_
          refine K_iaload (kdA dt_MX12_layFrom 79 rfl) c7 c8.1 c8.2 ?_
          refine K_iadd (kdA dt_MX12_layFrom 80 rfl) c9 ?_
          refine K_iastore' (kdA dt_MX12_layFrom 81 rfl) c3 c10.1 c10.2 (fun s2 es2 => ?_)
          have h := h s2 es2
          refine K_iconst (kdA dt_MX12_layFrom 82 rfl) (by decide) ?_
          refine K_istore_n (ls' := [(0, (2, a0)), (2, (0, 1)), (3, (0, a3)), (4, (0, a4)), (5, (0, x1))]) (kdA dt_MX12_layFrom 83 rfl) rfl (by decide) rfl ?_
          obtain ⟨c11, h⟩ := h
          refine K_iinc (ls' := [(0, (2, a0)), (2, (0, 1)), (3, (0, a3)), (4, (0, (a4 + 1))), (5, (0, x1))]) 3 (kdA dt_MX12_layFrom 84 rfl) rfl c11 (by decide) rfl ?_
          refine K_goto (tgt := 51) (kdA dt_MX12_layFrom 85 rfl) rfl ?_
          refine K_pick [0, 1, 2, 3] (ls' := [(0, (2, a0)), (2, (0, 1)), (3, (0, a3)), (4, (0, (a4 + 1)))]) rfl ?_
          exact h
        · have h := h.2 c
          refine K_goto (tgt := 144) (kdA dt_MX12_layFrom 64 rfl) rfl ?_
          obtain ⟨c11, h⟩ := h
          refine K_iinc (ls' := [(0, (2, a0)), (2, (0, a2)), (3, (0, a3)), (4, (0, (a4 + 1))), (5, (0, x1))]) 3 (kdA dt_MX12_layFrom 84 rfl) rfl c11 (by decide) rfl ?_
          refine K_goto (tgt := 51) (kdA dt_MX12_layFrom 85 rfl) rfl ?_
          refine K_pick [0, 1, 2, 3] (ls' := [(0, (2, a0)), (2, (0, a2)), (3, (0, a3)), (4, (0, (a4 + 1)))]) rfl ?_
          exact h
theorem EX12_layFrom {d n : Nat} {Q : kS → Prop} {a0 a1 : Int} {σ : kS} (h : (-2147483648 ≤ a1 ∧ a1 ≤ 2147483647) → kokw n σ → LX12_layFrom_0 d n Q a0 a1 σ) : Cv (d + 1) MX12_layFrom [(2, a0), (0, a1)] n σ Q := Tri_of (by decide +kernel) (Nat.le_of_ble_eq_true rfl) (fun hk hw => h (hk (0, a1) (List.mem_of_getElem? (i := 1) rfl)) hw)

def LX12_layHops_0 (d n : Nat) (Q : kS → Prop) (a0 : Int) (a1 : Int) (a2 : Int) (σ : kS) : Prop := K (d + 1) MX12_layHops (kPv n Q) (0, 0) 0 [(0, (2, a0)), (1, (0, a1)), (2, (0, a2))] [] n σ
def LX12_layHops_2 (d n : Nat) (Q : kS → Prop) (a0 : Int) (a1 : Int) (a2 : Int) (a3 : Int) (σ : kS) : Prop := K (d + 1) MX12_layHops (kPv n Q) (0, 0) 2 [(0, (2, a0)), (1, (0, a1)), (2, (0, a2)), (3, (0, a3))] [] n σ
def LX12_layHops_33 (d n : Nat) (Q : kS → Prop) (a0 : Int) (a2 : Int) (a3 : Int) (σ : kS) : Prop := K (d + 1) MX12_layHops (kPv n Q) (0, 0) 33 [(0, (2, a0)), (2, (0, a2)), (3, (0, a3))] [] n σ
def LX12_layHops_42 (d n : Nat) (Q : kS → Prop) (a0 : Int) (a2 : Int) (a3 : Int) (a4 : Int) (σ : kS) : Prop := K (d + 1) MX12_layHops (kPv n Q) (0, 0) 42 [(0, (2, a0)), (2, (0, a2)), (3, (0, a3)), (4, (0, a4))] [] n σ
def LX12_layHops_52 (d n : Nat) (Q : kS → Prop) (a0 : Int) (a2 : Int) (a3 : Int) (a4 : Int) (a5 : Int) (σ : kS) : Prop := K (d + 1) MX12_layHops (kPv n Q) (0, 0) 52 [(0, (2, a0)), (2, (0, a2)), (3, (0, a3)), (4, (0, a4)), (5, (0, a5))] [] n σ
theorem SX12_layHops_0 {d n : Nat} {Q : kS → Prop} {a0 a1 a2 : Int} {σ : kS} (h : LX12_layHops_2 d n Q a0 a1 a2 0 σ) : LX12_layHops_0 d n Q a0 a1 a2 σ := by
  unfold LX12_layHops_0
  refine K_iconst (kdA dt_MX12_layHops 0 rfl) (by decide) ?_
  refine K_istore_n (ls' := [(0, (2, a0)), (1, (0, a1)), (2, (0, a2)), (3, (0, 0))]) (kdA dt_MX12_layHops 1 rfl) rfl (by decide) rfl ?_
  exact h
theorem SX12_layHops_2 {d n : Nat} {Q : kS → Prop} {a0 a1 a2 a3 : Int} {σ : kS} (h : (120 ≤ a3 → LX12_layHops_33 d n Q a0 a2 1 σ) ∧ (¬ 120 ≤ a3 → isO 12 n a0 ∧ ((¬ a3 = a1 → isA 20 n (σ a0 31) ∧ (((0 : Int) ≤ a3 ∧ a3 < klen (σ a0 31)) ∧ (∀ s1, s1 = kst σ (σ a0 31) a3 120 → (-2147483648 ≤ (a3 + 1) ∧ (a3 + 1) ≤ 2147483647) ∧ (LX12_layHops_2 d n Q a0 a1 a2 (a3 + 1) s1)))) ∧ (¬ (¬ a3 = a1) → isA 20 n (σ a0 31) ∧ (((0 : Int) ≤ a3 ∧ a3 < klen (σ a0 31)) ∧ (∀ s1, s1 = kst σ (σ a0 31) a3 0 → (-2147483648 ≤ (a3 + 1) ∧ (a3 + 1) ≤ 2147483647) ∧ (LX12_layHops_2 d n Q a0 a1 a2 (a3 + 1) s1))))))) : LX12_layHops_2 d n Q a0 a1 a2 a3 σ := by
  unfold LX12_layHops_2
  refine K_iload_n 3 (kdA dt_MX12_layHops 2 rfl) rfl rfl ?_
  refine K_bipush (kdA dt_MX12_layHops 3 rfl) (by decide +kernel) ?_
  refine K_icmp_ge (tgt := 31) (kdA dt_MX12_layHops 4 rfl) rfl (fun c => ?_) (fun c => ?_)
  · have h := h.1 c
    refine K_iconst (kdA dt_MX12_layHops 17 rfl) (by decide) ?_
    refine K_istore_n (ls' := [(0, (2, a0)), (1, (0, a1)), (2, (0, a2)), (3, (0, 1))]) (kdA dt_MX12_layHops 18 rfl) rfl (by decide) rfl ?_
    refine K_pick [0, 2, 3] (ls' := [(0, (2, a0)), (2, (0, a2)), (3, (0, 1))]) rfl ?_
    exact h
  · have h := h.2 c
    refine K_aload_n 0 (kdA dt_MX12_layHops 5 rfl) rfl rfl ?_
    obtain ⟨c1, h⟩ := h
    refine gf12_67 rfl (kdA dt_MX12_layHops 6 rfl) c1 ?_
    refine K_iload_n 3 (kdA dt_MX12_layHops 7 rfl) rfl rfl ?_
    refine K_iload_n 3 (kdA dt_MX12_layHops 8 rfl) rfl rfl ?_
    refine K_iload_n 1 (kdA dt_MX12_layHops 9 rfl) rfl rfl ?_
    refine K_icmp_ne (tgt := 22) (kdA dt_MX12_layHops 10 rfl) rfl (fun c => ?_) (fun c => ?_)
    · have h := h.1 c
      refine K_bipush (kdA dt_MX12_layHops 13 rfl) (by decide +kernel) ?_
      obtain ⟨c2, h⟩ := h
      obtain ⟨c3, h⟩ := h
      refine K_iastore' (kdA dt_MX12_layHops 14 rfl) c2 c3.1 c3.2 (fun s1 es1 => ?_)
      have h := h s1 es1
      obtain ⟨c4, h⟩ := h
      refine K_iinc (ls' := [(0, (2, a0)), (1, (0, a1)), (2, (0, a2)), (3, (0, (a3 + 1)))]) 3 (kdA dt_MX12_layHops 15 rfl) rfl c4 (by decide) rfl ?_
      refine K_goto (tgt := 2) (kdA dt_MX12_layHops 16 rfl) rfl ?_
      exact h
    · have h := h.2 c
      refine K_iconst (kdA dt_MX12_layHops 11 rfl) (by decide) ?_
      refine K_goto (tgt := 24) (kdA dt_MX12_layHops 12 rfl) rfl ?_
      obtain ⟨c2, h⟩ := h
      obtain ⟨c3, h⟩ := h
      refine K_iastore' (kdA dt_MX12_layHops 14 rfl) c2 c3.1 c3.2 (fun s1 es1 => ?_)
      have h := h s1 es1
      obtain ⟨c4, h⟩ := h
      refine K_iinc (ls' := [(0, (2, a0)), (1, (0, a1)), (2, (0, a2)), (3, (0, (a3 + 1)))]) 3 (kdA dt_MX12_layHops 15 rfl) rfl c4 (by decide) rfl ?_
      refine K_goto (tgt := 2) (kdA dt_MX12_layHops 16 rfl) rfl ?_
      exact h
theorem SX12_layHops_33 {d n : Nat} {Q : kS → Prop} {a0 a2 a3 : Int} {σ : kS} (h : (a3 = 0 → Q σ) ∧ (¬ a3 = 0 → LX12_layHops_42 d n Q a0 a2 0 0 σ)) : LX12_layHops_33 d n Q a0 a2 a3 σ := by
  unfold LX12_layHops_33
  refine K_iload_n 2 (kdA dt_MX12_layHops 19 rfl) rfl rfl ?_
  refine K_if_eq (tgt := 136) (kdA dt_MX12_layHops 20 rfl) rfl (fun c => ?_) (fun c => ?_)
  · have h := h.1 c
    exact K_return (kdA dt_MX12_layHops 72 rfl) rfl ⟨rfl, rfl, h⟩
  · have h := h.2 c
    refine K_iconst (kdA dt_MX12_layHops 21 rfl) (by decide) ?_
    refine K_istore_n (ls' := [(0, (2, a0)), (2, (0, a2)), (3, (0, 0))]) (kdA dt_MX12_layHops 22 rfl) rfl (by decide) rfl ?_
    refine K_iconst (kdA dt_MX12_layHops 23 rfl) (by decide) ?_
    refine K_istore (ls' := [(0, (2, a0)), (2, (0, a2)), (3, (0, 0)), (4, (0, 0))]) (kdA dt_MX12_layHops 24 rfl) (by decide) rfl ?_
    exact h
theorem SX12_layHops_42 {d n : Nat} {Q : kS → Prop} {a0 a2 a3 a4 : Int} {σ : kS} (h : (120 ≤ a4 → LX12_layHops_33 d n Q a0 a2 a3 σ) ∧ (¬ 120 ≤ a4 → LX12_layHops_52 d n Q a0 a2 a3 a4 0 σ)) : LX12_layHops_42 d n Q a0 a2 a3 a4 σ := by
  unfold LX12_layHops_42
  refine K_iload 3 (kdA dt_MX12_layHops 25 rfl) rfl ?_
  refine K_bipush (kdA dt_MX12_layHops 26 rfl) (by decide +kernel) ?_
  refine K_icmp_ge (tgt := 133) (kdA dt_MX12_layHops 27 rfl) rfl (fun c => ?_) (fun c => ?_)
  · have h := h.1 c
    refine K_goto (tgt := 33) (kdA dt_MX12_layHops 71 rfl) rfl ?_
    refine K_pick [0, 1, 2] (ls' := [(0, (2, a0)), (2, (0, a2)), (3, (0, a3))]) rfl ?_
    exact h
  · have h := h.2 c
    refine K_iconst (kdA dt_MX12_layHops 28 rfl) (by decide) ?_
    refine K_istore (ls' := [(0, (2, a0)), (2, (0, a2)), (3, (0, a3)), (4, (0, a4)), (5, (0, 0))]) (kdA dt_MX12_layHops 29 rfl) (by decide) rfl ?_
    exact h
theorem SX12_layHops_52 {d n : Nat} {Q : kS → Prop} {a0 a2 a3 a4 a5 : Int} {σ : kS} (h : (120 ≤ a5 → (-2147483648 ≤ (a4 + 1) ∧ (a4 + 1) ≤ 2147483647) ∧ (LX12_layHops_42 d n Q a0 a2 a3 (a4 + 1) σ)) ∧ (¬ 120 ≤ a5 → isO 12 n a0 ∧ (isA 20 n (σ a0 31) ∧ (((0 : Int) ≤ a5 ∧ a5 < klen (σ a0 31)) ∧ ((-2147483648 ≤ ((σ (σ a0 31) a5) + 1) ∧ ((σ (σ a0 31) a5) + 1) ≤ 2147483647) ∧ (((0 : Int) ≤ a4 ∧ a4 < klen (σ a0 31)) ∧ (((σ (σ a0 31) a4) ≤ ((σ (σ a0 31) a5) + 1) → (-2147483648 ≤ (a5 + 1) ∧ (a5 + 1) ≤ 2147483647) ∧ (LX12_layHops_52 d n Q a0 a2 a3 a4 (a5 + 1) σ)) ∧ (¬ (σ (σ a0 31) a4) ≤ ((σ (σ a0 31) a5) + 1) → Ci d MX12_apart [(0, a4), (0, a5)] n σ (fun x6 s1 => (a2 < x6 → (-2147483648 ≤ (a5 + 1) ∧ (a5 + 1) ≤ 2147483647) ∧ (LX12_layHops_52 d n Q a0 a2 a3 a4 (a5 + 1) s1)) ∧ (¬ a2 < x6 → Ci d MX12_seesIt [(2, a0), (0, a4), (0, a5)] n s1 (fun x7 s2 => (¬ x7 = 0 → isA 20 n (s2 a0 31) ∧ (((0 : Int) ≤ a5 ∧ a5 < klen (s2 a0 31)) ∧ ((-2147483648 ≤ ((s2 (s2 a0 31) a5) + 1) ∧ ((s2 (s2 a0 31) a5) + 1) ≤ 2147483647) ∧ (((0 : Int) ≤ a4 ∧ a4 < klen (s2 a0 31)) ∧ (∀ s3, s3 = kst s2 (s2 a0 31) a4 ((s2 (s2 a0 31) a5) + 1) → (-2147483648 ≤ (a5 + 1) ∧ (a5 + 1) ≤ 2147483647) ∧ (LX12_layHops_52 d n Q a0 a2 1 a4 (a5 + 1) s3)))))) ∧ (¬ (¬ x7 = 0) → (-2147483648 ≤ (a5 + 1) ∧ (a5 + 1) ≤ 2147483647) ∧ (LX12_layHops_52 d n Q a0 a2 a3 a4 (a5 + 1) s2))))))))))))) : LX12_layHops_52 d n Q a0 a2 a3 a4 a5 σ := by
  unfold LX12_layHops_52
  refine K_iload 4 (kdA dt_MX12_layHops 30 rfl) rfl ?_
  refine K_bipush (kdA dt_MX12_layHops 31 rfl) (by decide +kernel) ?_
  refine K_icmp_ge (tgt := 127) (kdA dt_MX12_layHops 32 rfl) rfl (fun c => ?_) (fun c => ?_)
  · have h := h.1 c
    obtain ⟨c1, h⟩ := h
    refine K_iinc (ls' := [(0, (2, a0)), (2, (0, a2)), (3, (0, a3)), (4, (0, (a4 + 1))), (5, (0, a5))]) 3 (kdA dt_MX12_layHops 69 rfl) rfl c1 (by decide) rfl ?_
    refine K_goto (tgt := 42) (kdA dt_MX12_layHops 70 rfl) rfl ?_
    refine K_pick [0, 1, 2, 3] (ls' := [(0, (2, a0)), (2, (0, a2)), (3, (0, a3)), (4, (0, (a4 + 1)))]) rfl ?_
    exact h
  · have h := h.2 c
    refine K_aload_n 0 (kdA dt_MX12_layHops 33 rfl) rfl rfl ?_
    obtain ⟨c1, h⟩ := h
    refine gf12_67 rfl (kdA dt_MX12_layHops 34 rfl) c1 ?_
    refine K_iload 4 (kdA dt_MX12_layHops 35 rfl) rfl ?_
    obtain ⟨c2, h⟩ := h
    obtain ⟨c3, h⟩ := h
    refine K_iaload (kdA dt_MX12_layHops 36 rfl) c2 c3.1 c3.2 ?_
    refine K_iconst (kdA dt_MX12_layHops 37 rfl) (by decide) ?_
    obtain ⟨c4, h⟩ := h
    refine K_iadd (kdA dt_MX12_layHops 38 rfl) c4 ?_
    refine K_aload_n 0 (kdA dt_MX12_layHops 39 rfl) rfl rfl ?_
    refine gf12_67 rfl (kdA dt_MX12_layHops 40 rfl) c1 ?_
    refine K_iload 3 (kdA dt_MX12_layHops 41 rfl) rfl ?_
    obtain ⟨c5, h⟩ := h
    refine K_iaload (kdA dt_MX12_layHops 42 rfl) c2 c5.1 c5.2 ?_
    refine K_icmp_ge (tgt := 121) (kdA dt_MX12_layHops 43 rfl) rfl (fun c => ?_) (fun c => ?_)
    · have h := h.1 c
      obtain ⟨c6, h⟩ := h
      refine K_iinc (ls' := [(0, (2, a0)), (2, (0, a2)), (3, (0, a3)), (4, (0, a4)), (5, (0, (a5 + 1)))]) 4 (kdA dt_MX12_layHops 67 rfl) rfl c6 (by decide) rfl ?_
      refine K_goto (tgt := 52) (kdA dt_MX12_layHops 68 rfl) rfl ?_
      exact h
    · have h := h.2 c
      refine K_iload 3 (kdA dt_MX12_layHops 44 rfl) rfl ?_
      refine K_iload 4 (kdA dt_MX12_layHops 45 rfl) rfl ?_
      refine K_cSi (as := [(0, a4), (0, a5)]) (st := []) (kdA dt_MX12_layHops 46 rfl) cl_MX12_apart lk12_352 rfl rfl (Nat.le_of_ble_eq_true rfl) (Ci.mono h (fun x6 s1 h => ?_))
      refine K_iload_n 1 (kdA dt_MX12_layHops 47 rfl) rfl rfl ?_
      refine K_icmp_gt (tgt := 121) (kdA dt_MX12_layHops 48 rfl) rfl (fun c => ?_) (fun c => ?_)
      · have h := h.1 c
        obtain ⟨c7, h⟩ := h
        refine K_iinc (ls' := [(0, (2, a0)), (2, (0, a2)), (3, (0, a3)), (4, (0, a4)), (5, (0, (a5 + 1)))]) 4 (kdA dt_MX12_layHops 67 rfl) rfl c7 (by decide) rfl ?_
        refine K_goto (tgt := 52) (kdA dt_MX12_layHops 68 rfl) rfl ?_
        exact h
      · have h := h.2 c
        refine K_aload_n 0 (kdA dt_MX12_layHops 49 rfl) rfl rfl ?_
        refine K_iload 3 (kdA dt_MX12_layHops 50 rfl) rfl ?_
        refine K_iload 4 (kdA dt_MX12_layHops 51 rfl) rfl ?_
        refine K_cVi (c := 12) (as := [(0, a4), (0, a5)]) (st := []) (kdA dt_MX12_layHops 52 rfl) rfl cl_MX12_seesIt lk12_362 rfl rfl (Nat.le_of_ble_eq_true rfl) c1 (Ci.mono h (fun x7 s2 h => ?_))
        refine K_if_ne (tgt := 103) (kdA dt_MX12_layHops 53 rfl) rfl (fun c => ?_) (fun c => ?_)
        · have h := h.1 c
          refine K_aload_n 0 (kdA dt_MX12_layHops 55 rfl) rfl rfl ?_
          refine gf12_67 rfl (kdA dt_MX12_layHops 56 rfl) c1 ?_
          refine K_iload 3 (kdA dt_MX12_layHops 57 rfl) rfl ?_
          refine K_aload_n 0 (kdA dt_MX12_layHops 58 rfl) rfl rfl ?_
          refine gf12_67 rfl (kdA dt_MX12_layHops 59 rfl) c1 ?_
          refine K_iload 4 (kdA dt_MX12_layHops 60 rfl) rfl ?_
          obtain ⟨c8, h⟩ := h
          obtain ⟨c9, h⟩ := h
          refine K_iaload (kdA dt_MX12_layHops 61 rfl) c8 c9.1 c9.2 ?_
          refine K_iconst (kdA dt_MX12_layHops 62 rfl) (by decide) ?_
          obtain ⟨c10, h⟩ := h
          refine K_iadd (kdA dt_MX12_layHops 63 rfl) c10 ?_
          obtain ⟨c11, h⟩ := h
          refine K_iastore' (kdA dt_MX12_layHops 64 rfl) c8 c11.1 c11.2 (fun s3 es3 => ?_)
          have h := h s3 es3
          refine K_iconst (kdA dt_MX12_layHops 65 rfl) (by decide) ?_
          refine K_istore_n (ls' := [(0, (2, a0)), (2, (0, a2)), (3, (0, 1)), (4, (0, a4)), (5, (0, a5))]) (kdA dt_MX12_layHops 66 rfl) rfl (by decide) rfl ?_
          obtain ⟨c12, h⟩ := h
          refine K_iinc (ls' := [(0, (2, a0)), (2, (0, a2)), (3, (0, 1)), (4, (0, a4)), (5, (0, (a5 + 1)))]) 4 (kdA dt_MX12_layHops 67 rfl) rfl c12 (by decide) rfl ?_
          refine K_goto (tgt := 52) (kdA dt_MX12_layHops 68 rfl) rfl ?_
          exact h
        · have h := h.2 c
          refine K_goto (tgt := 121) (kdA dt_MX12_layHops 54 rfl) rfl ?_
          obtain ⟨c8, h⟩ := h
          refine K_iinc (ls' := [(0, (2, a0)), (2, (0, a2)), (3, (0, a3)), (4, (0, a4)), (5, (0, (a5 + 1)))]) 4 (kdA dt_MX12_layHops 67 rfl) rfl c8 (by decide) rfl ?_
          refine K_goto (tgt := 52) (kdA dt_MX12_layHops 68 rfl) rfl ?_
          exact h
theorem EX12_layHops {d n : Nat} {Q : kS → Prop} {a0 a1 a2 : Int} {σ : kS} (h : (-2147483648 ≤ a1 ∧ a1 ≤ 2147483647) → (-2147483648 ≤ a2 ∧ a2 ≤ 2147483647) → kokw n σ → LX12_layHops_0 d n Q a0 a1 a2 σ) : Cv (d + 1) MX12_layHops [(2, a0), (0, a1), (0, a2)] n σ Q := Tri_of (by decide +kernel) (Nat.le_of_ble_eq_true rfl) (fun hk hw => h (hk (0, a1) (List.mem_of_getElem? (i := 1) rfl)) (hk (0, a2) (List.mem_of_getElem? (i := 2) rfl)) hw)

def LX12_layLeft_0 (d n : Nat) (Q : kS → Prop) (a0 : Int) (a1 : Int) (σ : kS) : Prop := K (d + 1) MX12_layLeft (kPv n Q) (0, 0) 0 [(0, (2, a0)), (1, (0, a1))] [] n σ
def LX12_layLeft_2 (d n : Nat) (Q : kS → Prop) (a0 : Int) (a1 : Int) (a2 : Int) (σ : kS) : Prop := K (d + 1) MX12_layLeft (kPv n Q) (0, 0) 2 [(0, (2, a0)), (1, (0, a1)), (2, (0, a2))] [] n σ
def LX12_layLeft_34 (d n : Nat) (Q : kS → Prop) (a0 : Int) (a2 : Int) (σ : kS) : Prop := K (d + 1) MX12_layLeft (kPv n Q) (0, 0) 34 [(0, (2, a0)), (2, (0, a2))] [] n σ
def LX12_layLeft_42 (d n : Nat) (Q : kS → Prop) (a0 : Int) (a2 : Int) (a3 : Int) (σ : kS) : Prop := K (d + 1) MX12_layLeft (kPv n Q) (0, 0) 42 [(0, (2, a0)), (2, (0, a2)), (3, (0, a3))] [] n σ
def LX12_layLeft_51 (d n : Nat) (Q : kS → Prop) (a0 : Int) (a2 : Int) (a3 : Int) (a4 : Int) (σ : kS) : Prop := K (d + 1) MX12_layLeft (kPv n Q) (0, 0) 51 [(0, (2, a0)), (2, (0, a2)), (3, (0, a3)), (4, (0, a4))] [] n σ
theorem SX12_layLeft_0 {d n : Nat} {Q : kS → Prop} {a0 a1 : Int} {σ : kS} (h : LX12_layLeft_2 d n Q a0 a1 0 σ) : LX12_layLeft_0 d n Q a0 a1 σ := by
  unfold LX12_layLeft_0
  refine K_iconst (kdA dt_MX12_layLeft 0 rfl) (by decide) ?_
  refine K_istore_n (ls' := [(0, (2, a0)), (1, (0, a1)), (2, (0, 0))]) (kdA dt_MX12_layLeft 1 rfl) rfl (by decide) rfl ?_
  exact h
theorem SX12_layLeft_2 {d n : Nat} {Q : kS → Prop} {a0 a1 a2 : Int} {σ : kS} (h : (120 ≤ a2 → LX12_layLeft_34 d n Q a0 1 σ) ∧ (¬ 120 ≤ a2 → isO 12 n a0 ∧ ((¬ a2 = a1 → isA 20 n (σ a0 27) ∧ (((0 : Int) ≤ a2 ∧ a2 < klen (σ a0 27)) ∧ (∀ s1, s1 = kst σ (σ a0 27) a2 2000000000 → (-2147483648 ≤ (a2 + 1) ∧ (a2 + 1) ≤ 2147483647) ∧ (LX12_layLeft_2 d n Q a0 a1 (a2 + 1) s1)))) ∧ (¬ (¬ a2 = a1) → isA 20 n (σ a0 27) ∧ (((0 : Int) ≤ a2 ∧ a2 < klen (σ a0 27)) ∧ (∀ s1, s1 = kst σ (σ a0 27) a2 0 → (-2147483648 ≤ (a2 + 1) ∧ (a2 + 1) ≤ 2147483647) ∧ (LX12_layLeft_2 d n Q a0 a1 (a2 + 1) s1))))))) : LX12_layLeft_2 d n Q a0 a1 a2 σ := by
  unfold LX12_layLeft_2
  refine K_iload_n 2 (kdA dt_MX12_layLeft 2 rfl) rfl rfl ?_
  refine K_bipush (kdA dt_MX12_layLeft 3 rfl) (by decide +kernel) ?_
  refine K_icmp_ge (tgt := 32) (kdA dt_MX12_layLeft 4 rfl) rfl (fun c => ?_) (fun c => ?_)
  · have h := h.1 c
    refine K_iconst (kdA dt_MX12_layLeft 17 rfl) (by decide) ?_
    refine K_istore_n (ls' := [(0, (2, a0)), (1, (0, a1)), (2, (0, 1))]) (kdA dt_MX12_layLeft 18 rfl) rfl (by decide) rfl ?_
    refine K_pick [0, 2] (ls' := [(0, (2, a0)), (2, (0, 1))]) rfl ?_
    exact h
  · have h := h.2 c
    refine K_aload_n 0 (kdA dt_MX12_layLeft 5 rfl) rfl rfl ?_
    obtain ⟨c1, h⟩ := h
    refine gf12_58 rfl (kdA dt_MX12_layLeft 6 rfl) c1 ?_
    refine K_iload_n 2 (kdA dt_MX12_layLeft 7 rfl) rfl rfl ?_
    refine K_iload_n 2 (kdA dt_MX12_layLeft 8 rfl) rfl rfl ?_
    refine K_iload_n 1 (kdA dt_MX12_layLeft 9 rfl) rfl rfl ?_
    refine K_icmp_ne (tgt := 22) (kdA dt_MX12_layLeft 10 rfl) rfl (fun c => ?_) (fun c => ?_)
    · have h := h.1 c
      refine K_ldcw (x := 2000000000) (kdA dt_MX12_layLeft 13 rfl) (tb7 185 rfl rfl) (by decide +kernel) ?_
      obtain ⟨c2, h⟩ := h
      obtain ⟨c3, h⟩ := h
      refine K_iastore' (kdA dt_MX12_layLeft 14 rfl) c2 c3.1 c3.2 (fun s1 es1 => ?_)
      have h := h s1 es1
      obtain ⟨c4, h⟩ := h
      refine K_iinc (ls' := [(0, (2, a0)), (1, (0, a1)), (2, (0, (a2 + 1)))]) 2 (kdA dt_MX12_layLeft 15 rfl) rfl c4 (by decide) rfl ?_
      refine K_goto (tgt := 2) (kdA dt_MX12_layLeft 16 rfl) rfl ?_
      exact h
    · have h := h.2 c
      refine K_iconst (kdA dt_MX12_layLeft 11 rfl) (by decide) ?_
      refine K_goto (tgt := 25) (kdA dt_MX12_layLeft 12 rfl) rfl ?_
      obtain ⟨c2, h⟩ := h
      obtain ⟨c3, h⟩ := h
      refine K_iastore' (kdA dt_MX12_layLeft 14 rfl) c2 c3.1 c3.2 (fun s1 es1 => ?_)
      have h := h s1 es1
      obtain ⟨c4, h⟩ := h
      refine K_iinc (ls' := [(0, (2, a0)), (1, (0, a1)), (2, (0, (a2 + 1)))]) 2 (kdA dt_MX12_layLeft 15 rfl) rfl c4 (by decide) rfl ?_
      refine K_goto (tgt := 2) (kdA dt_MX12_layLeft 16 rfl) rfl ?_
      exact h
theorem SX12_layLeft_34 {d n : Nat} {Q : kS → Prop} {a0 a2 : Int} {σ : kS} (h : (a2 = 0 → Q σ) ∧ (¬ a2 = 0 → LX12_layLeft_42 d n Q a0 0 0 σ)) : LX12_layLeft_34 d n Q a0 a2 σ := by
  unfold LX12_layLeft_34
  refine K_iload_n 1 (kdA dt_MX12_layLeft 19 rfl) rfl rfl ?_
  refine K_if_eq (tgt := 172) (kdA dt_MX12_layLeft 20 rfl) rfl (fun c => ?_) (fun c => ?_)
  · have h := h.1 c
    exact K_return (kdA dt_MX12_layLeft 97 rfl) rfl ⟨rfl, rfl, h⟩
  · have h := h.2 c
    refine K_iconst (kdA dt_MX12_layLeft 21 rfl) (by decide) ?_
    refine K_istore_n (ls' := [(0, (2, a0)), (2, (0, 0))]) (kdA dt_MX12_layLeft 22 rfl) rfl (by decide) rfl ?_
    refine K_iconst (kdA dt_MX12_layLeft 23 rfl) (by decide) ?_
    refine K_istore_n (ls' := [(0, (2, a0)), (2, (0, 0)), (3, (0, 0))]) (kdA dt_MX12_layLeft 24 rfl) rfl (by decide) rfl ?_
    exact h
theorem SX12_layLeft_42 {d n : Nat} {Q : kS → Prop} {a0 a2 a3 : Int} {σ : kS} (h : (120 ≤ a3 → LX12_layLeft_34 d n Q a0 a2 σ) ∧ (¬ 120 ≤ a3 → LX12_layLeft_51 d n Q a0 a2 a3 0 σ)) : LX12_layLeft_42 d n Q a0 a2 a3 σ := by
  unfold LX12_layLeft_42
  refine K_iload_n 2 (kdA dt_MX12_layLeft 25 rfl) rfl rfl ?_
  refine K_bipush (kdA dt_MX12_layLeft 26 rfl) (by decide +kernel) ?_
  refine K_icmp_ge (tgt := 169) (kdA dt_MX12_layLeft 27 rfl) rfl (fun c => ?_) (fun c => ?_)
  · have h := h.1 c
    refine K_goto (tgt := 34) (kdA dt_MX12_layLeft 96 rfl) rfl ?_
    refine K_pick [0, 1] (ls' := [(0, (2, a0)), (2, (0, a2))]) rfl ?_
    exact h
  · have h := h.2 c
    refine K_iconst (kdA dt_MX12_layLeft 28 rfl) (by decide) ?_
    refine K_istore (ls' := [(0, (2, a0)), (2, (0, a2)), (3, (0, a3)), (4, (0, 0))]) (kdA dt_MX12_layLeft 29 rfl) (by decide) rfl ?_
    exact h
theorem SX12_layLeft_51 {d n : Nat} {Q : kS → Prop} {a0 a2 a3 a4 : Int} {σ : kS} (h : (8 ≤ a4 → (-2147483648 ≤ (a3 + 1) ∧ (a3 + 1) ≤ 2147483647) ∧ (LX12_layLeft_42 d n Q a0 a2 (a3 + 1) σ)) ∧ (¬ 8 ≤ a4 → Ci d MX12_step [(0, a3), (0, a4)] n σ (fun x1 s1 => (x1 = (-1) → (-2147483648 ≤ (a4 + 1) ∧ (a4 + 1) ≤ 2147483647) ∧ (LX12_layLeft_51 d n Q a0 a2 a3 (a4 + 1) s1)) ∧ (¬ x1 = (-1) → isO 12 n a0 ∧ (isA 20 n (s1 a0 27) ∧ (((0 : Int) ≤ x1 ∧ x1 < klen (s1 a0 27)) ∧ (((s1 (s1 a0 27) x1) = 2000000000 → (-2147483648 ≤ (a4 + 1) ∧ (a4 + 1) ≤ 2147483647) ∧ (LX12_layLeft_51 d n Q a0 a2 a3 (a4 + 1) s1)) ∧ (¬ (s1 (s1 a0 27) x1) = 2000000000 → (-2147483648 ≤ (8 * a3) ∧ (8 * a3) ≤ 2147483647) ∧ ((-2147483648 ≤ ((8 * a3) + a4) ∧ ((8 * a3) + a4) ≤ 2147483647) ∧ (isA 20 n (s1 a0 26) ∧ (((0 : Int) ≤ ((8 * a3) + a4) ∧ ((8 * a3) + a4) < klen (s1 a0 26)) ∧ ((-2147483648 ≤ (1000 * (s1 (s1 a0 26) ((8 * a3) + a4))) ∧ (1000 * (s1 (s1 a0 26) ((8 * a3) + a4))) ≤ 2147483647) ∧ ((-2147483648 ≤ ((s1 (s1 a0 27) x1) + (1000 * (s1 (s1 a0 26) ((8 * a3) + a4)))) ∧ ((s1 (s1 a0 27) x1) + (1000 * (s1 (s1 a0 26) ((8 * a3) + a4)))) ≤ 2147483647) ∧ ((-2147483648 ≤ (((s1 (s1 a0 27) x1) + (1000 * (s1 (s1 a0 26) ((8 * a3) + a4)))) + 1) ∧ (((s1 (s1 a0 27) x1) + (1000 * (s1 (s1 a0 26) ((8 * a3) + a4)))) + 1) ≤ 2147483647) ∧ (((0 : Int) ≤ a3 ∧ a3 < klen (s1 a0 27)) ∧ (((((s1 (s1 a0 27) x1) + (1000 * (s1 (s1 a0 26) ((8 * a3) + a4)))) + 1) < (s1 (s1 a0 27) a3) → ∀ s2, s2 = kst s1 (s1 a0 27) a3 (((s1 (s1 a0 27) x1) + (1000 * (s1 (s1 a0 26) ((8 * a3) + a4)))) + 1) → (-2147483648 ≤ (a4 + 1) ∧ (a4 + 1) ≤ 2147483647) ∧ (LX12_layLeft_51 d n Q a0 1 a3 (a4 + 1) s2)) ∧ (¬ (((s1 (s1 a0 27) x1) + (1000 * (s1 (s1 a0 26) ((8 * a3) + a4)))) + 1) < (s1 (s1 a0 27) a3) → (-2147483648 ≤ (a4 + 1) ∧ (a4 + 1) ≤ 2147483647) ∧ (LX12_layLeft_51 d n Q a0 a2 a3 (a4 + 1) s1)))))))))))))))))) : LX12_layLeft_51 d n Q a0 a2 a3 a4 σ := by
  unfold LX12_layLeft_51
  refine K_iload 3 (kdA dt_MX12_layLeft 30 rfl) rfl ?_
  refine K_bipush (kdA dt_MX12_layLeft 31 rfl) (by decide +kernel) ?_
  refine K_icmp_ge (tgt := 163) (kdA dt_MX12_layLeft 32 rfl) rfl (fun c => ?_) (fun c => ?_)
  · have h := h.1 c
    obtain ⟨c1, h⟩ := h
    refine K_iinc (ls' := [(0, (2, a0)), (2, (0, a2)), (3, (0, (a3 + 1))), (4, (0, a4))]) 2 (kdA dt_MX12_layLeft 94 rfl) rfl c1 (by decide) rfl ?_
    refine K_goto (tgt := 42) (kdA dt_MX12_layLeft 95 rfl) rfl ?_
    refine K_pick [0, 1, 2] (ls' := [(0, (2, a0)), (2, (0, a2)), (3, (0, (a3 + 1)))]) rfl ?_
    exact h
  · have h := h.2 c
    refine K_iload_n 2 (kdA dt_MX12_layLeft 33 rfl) rfl rfl ?_
    refine K_iload 3 (kdA dt_MX12_layLeft 34 rfl) rfl ?_
    refine K_cSi (as := [(0, a3), (0, a4)]) (st := []) (kdA dt_MX12_layLeft 35 rfl) cl_MX12_step lk12_314 rfl rfl (Nat.le_of_ble_eq_true rfl) (Ci.mono h (fun x1 s1 h => ?_))
    refine K_istore (ls' := [(0, (2, a0)), (2, (0, a2)), (3, (0, a3)), (4, (0, a4)), (5, (0, x1))]) (kdA dt_MX12_layLeft 36 rfl) (by decide) rfl ?_
    refine K_iload 4 (kdA dt_MX12_layLeft 37 rfl) rfl ?_
    refine K_iconst (kdA dt_MX12_layLeft 38 rfl) (by decide) ?_
    refine K_icmp_eq (tgt := 157) (kdA dt_MX12_layLeft 39 rfl) rfl (fun c => ?_) (fun c => ?_)
    · have h := h.1 c
      obtain ⟨c2, h⟩ := h
      refine K_iinc (ls' := [(0, (2, a0)), (2, (0, a2)), (3, (0, a3)), (4, (0, (a4 + 1))), (5, (0, x1))]) 3 (kdA dt_MX12_layLeft 92 rfl) rfl c2 (by decide) rfl ?_
      refine K_goto (tgt := 51) (kdA dt_MX12_layLeft 93 rfl) rfl ?_
      refine K_pick [0, 1, 2, 3] (ls' := [(0, (2, a0)), (2, (0, a2)), (3, (0, a3)), (4, (0, (a4 + 1)))]) rfl ?_
      exact h
    · have h := h.2 c
      refine K_aload_n 0 (kdA dt_MX12_layLeft 40 rfl) rfl rfl ?_
      obtain ⟨c2, h⟩ := h
      refine gf12_58 rfl (kdA dt_MX12_layLeft 41 rfl) c2 ?_
      refine K_iload 4 (kdA dt_MX12_layLeft 42 rfl) rfl ?_
      obtain ⟨c3, h⟩ := h
      obtain ⟨c4, h⟩ := h
      refine K_iaload (kdA dt_MX12_layLeft 43 rfl) c3 c4.1 c4.2 ?_
      refine K_ldcw (x := 2000000000) (kdA dt_MX12_layLeft 44 rfl) (tb7 185 rfl rfl) (by decide +kernel) ?_
      refine K_icmp_eq (tgt := 157) (kdA dt_MX12_layLeft 45 rfl) rfl (fun c => ?_) (fun c => ?_)
      · have h := h.1 c
        obtain ⟨c5, h⟩ := h
        refine K_iinc (ls' := [(0, (2, a0)), (2, (0, a2)), (3, (0, a3)), (4, (0, (a4 + 1))), (5, (0, x1))]) 3 (kdA dt_MX12_layLeft 92 rfl) rfl c5 (by decide) rfl ?_
        refine K_goto (tgt := 51) (kdA dt_MX12_layLeft 93 rfl) rfl ?_
        refine K_pick [0, 1, 2, 3] (ls' := [(0, (2, a0)), (2, (0, a2)), (3, (0, a3)), (4, (0, (a4 + 1)))]) rfl ?_
        exact h
      · have h := h.2 c
        refine K_aload_n 0 (kdA dt_MX12_layLeft 46 rfl) rfl rfl ?_
        refine gf12_58 rfl (kdA dt_MX12_layLeft 47 rfl) c2 ?_
        refine K_iload 4 (kdA dt_MX12_layLeft 48 rfl) rfl ?_
        refine K_iaload (kdA dt_MX12_layLeft 49 rfl) c3 c4.1 c4.2 ?_
        refine K_sipush (kdA dt_MX12_layLeft 50 rfl) (by decide +kernel) ?_
        refine K_aload_n 0 (kdA dt_MX12_layLeft 51 rfl) rfl rfl ?_
        refine gf12_55 rfl (kdA dt_MX12_layLeft 52 rfl) c2 ?_
        refine K_bipush (kdA dt_MX12_layLeft 53 rfl) (by decide +kernel) ?_
        refine K_iload_n 2 (kdA dt_MX12_layLeft 54 rfl) rfl rfl ?_
        obtain ⟨c5, h⟩ := h
        refine K_imul (kdA dt_MX12_layLeft 55 rfl) c5 ?_
        refine K_iload 3 (kdA dt_MX12_layLeft 56 rfl) rfl ?_
        obtain ⟨c6, h⟩ := h
        refine K_iadd (kdA dt_MX12_layLeft 57 rfl) c6 ?_
        obtain ⟨c7, h⟩ := h
        obtain ⟨c8, h⟩ := h
        refine K_iaload (kdA dt_MX12_layLeft 58 rfl) c7 c8.1 c8.2 ?_
        obtain ⟨c9, h⟩ := h
        refine K_imul (kdA dt_MX12_layLeft 59 rfl) c9 ?_
        obtain ⟨c10, h⟩ := h
        refine K_iadd (kdA dt_MX12_layLeft 60 rfl) c10 ?_
        refine K_iconst (kdA dt_MX12_layLeft 61 rfl) (by decide) ?_
        obtain ⟨c11, h⟩ := h
        refine K_iadd (kdA dt_MX12_layLeft 62 rfl) c11 ?_
        refine K_aload_n 0 (kdA dt_MX12_layLeft 63 rfl) rfl rfl ?_
        refine gf12_58 rfl (kdA dt_MX12_layLeft 64 rfl) c2 ?_
        refine K_iload_n 2 (kdA dt_MX12_layLeft 65 rfl) rfl rfl ?_
        obtain ⟨c12, h⟩ := h
        refine K_iaload (kdA dt_MX12_layLeft 66 rfl) c3 c12.1 c12.2 ?_
        refine K_icmp_lt (tgt := 123) (kdA dt_MX12_layLeft 67 rfl) rfl (fun c => ?_) (fun c => ?_)
        · have h := h.1 c
          refine K_aload_n 0 (kdA dt_MX12_layLeft 69 rfl) rfl rfl ?_
          refine gf12_58 rfl (kdA dt_MX12_layLeft 70 rfl) c2 ?_
          refine K_iload_n 2 (kdA dt_MX12_layLeft 71 rfl) rfl rfl ?_
          refine K_aload_n 0 (kdA dt_MX12_layLeft 72 rfl) rfl rfl ?_
          refine gf12_58 rfl (kdA dt_MX12_layLeft 73 rfl) c2 ?_
          refine K_iload 4 (kdA dt_MX12_layLeft 74 rfl) rfl ?_
          refine K_iaload (kdA dt_MX12_layLeft 75 rfl) c3 c4.1 c4.2 ?_
          refine K_sipush (kdA dt_MX12_layLeft 76 rfl) (by decide +kernel) ?_
          refine K_aload_n 0 (kdA dt_MX12_layLeft 77 rfl) rfl rfl ?_
          refine gf12_55 rfl (kdA dt_MX12_layLeft 78 rfl) c2 ?_
          refine K_bipush (kdA dt_MX12_layLeft 79 rfl) (by decide +kernel) ?_
          refine K_iload_n 2 (kdA dt_MX12_layLeft 80 rfl) rfl rfl ?_
          refine K_imul (kdA dt_MX12_layLeft 81 rfl) c5 ?_
          refine K_iload 3 (kdA dt_MX12_layLeft 82 rfl) rfl ?_
          refine K_iadd (kdA dt_MX12_layLeft 83 rfl) c6 ?_
          refine K_iaload (kdA dt_MX12_layLeft 84 rfl) c7 c8.1 c8.2 ?_
          refine K_imul (kdA dt_MX12_layLeft 85 rfl) c9 ?_
          refine K_iadd (kdA dt_MX12_layLeft 86 rfl) c10 ?_
          refine K_iconst (kdA dt_MX12_layLeft 87 rfl) (by decide) ?_
          refine K_iadd (kdA dt_MX12_layLeft 88 rfl) c11 ?_
          refine K_iastore' (kdA dt_MX12_layLeft 89 rfl) c3 c12.1 c12.2 (fun s2 es2 => ?_)
          have h := h s2 es2
          refine K_iconst (kdA dt_MX12_layLeft 90 rfl) (by decide) ?_
          refine K_istore_n (ls' := [(0, (2, a0)), (2, (0, 1)), (3, (0, a3)), (4, (0, a4)), (5, (0, x1))]) (kdA dt_MX12_layLeft 91 rfl) rfl (by decide) rfl ?_
          obtain ⟨c13, h⟩ := h
          refine K_iinc (ls' := [(0, (2, a0)), (2, (0, 1)), (3, (0, a3)), (4, (0, (a4 + 1))), (5, (0, x1))]) 3 (kdA dt_MX12_layLeft 92 rfl) rfl c13 (by decide) rfl ?_
          refine K_goto (tgt := 51) (kdA dt_MX12_layLeft 93 rfl) rfl ?_
          refine K_pick [0, 1, 2, 3] (ls' := [(0, (2, a0)), (2, (0, 1)), (3, (0, a3)), (4, (0, (a4 + 1)))]) rfl ?_
          exact h
        · have h := h.2 c
          refine K_goto (tgt := 157) (kdA dt_MX12_layLeft 68 rfl) rfl ?_
          obtain ⟨c13, h⟩ := h
          refine K_iinc (ls' := [(0, (2, a0)), (2, (0, a2)), (3, (0, a3)), (4, (0, (a4 + 1))), (5, (0, x1))]) 3 (kdA dt_MX12_layLeft 92 rfl) rfl c13 (by decide) rfl ?_
          refine K_goto (tgt := 51) (kdA dt_MX12_layLeft 93 rfl) rfl ?_
          refine K_pick [0, 1, 2, 3] (ls' := [(0, (2, a0)), (2, (0, a2)), (3, (0, a3)), (4, (0, (a4 + 1)))]) rfl ?_
          exact h
theorem EX12_layLeft {d n : Nat} {Q : kS → Prop} {a0 a1 : Int} {σ : kS} (h : (-2147483648 ≤ a1 ∧ a1 ≤ 2147483647) → kokw n σ → LX12_layLeft_0 d n Q a0 a1 σ) : Cv (d + 1) MX12_layLeft [(2, a0), (0, a1)] n σ Q := Tri_of (by decide +kernel) (Nat.le_of_ble_eq_true rfl) (fun hk hw => h (hk (0, a1) (List.mem_of_getElem? (i := 1) rfl)) hw)

def LX12_layMisses_0 (d n : Nat) (Q : kS → Prop) (a0 : Int) (a1 : Int) (a2 : Int) (σ : kS) : Prop := K (d + 1) MX12_layMisses (kPv n Q) (0, 0) 0 [(0, (2, a0)), (1, (0, a1)), (2, (0, a2))] [] n σ
def LX12_layMisses_2 (d n : Nat) (Q : kS → Prop) (a0 : Int) (a1 : Int) (a2 : Int) (a3 : Int) (σ : kS) : Prop := K (d + 1) MX12_layMisses (kPv n Q) (0, 0) 2 [(0, (2, a0)), (1, (0, a1)), (2, (0, a2)), (3, (0, a3))] [] n σ
def LX12_layMisses_20 (d n : Nat) (Q : kS → Prop) (a0 : Int) (a1 : Int) (a2 : Int) (a3 : Int) (a4 : Int) (σ : kS) : Prop := K (d + 1) MX12_layMisses (kPv n Q) (0, 0) 20 [(0, (2, a0)), (1, (0, a1)), (2, (0, a2)), (3, (0, a3)), (4, (0, a4))] [] n σ
theorem SX12_layMisses_0 {d n : Nat} {Q : kS → Prop} {a0 a1 a2 : Int} {σ : kS} (h : LX12_layMisses_2 d n Q a0 a1 a2 0 σ) : LX12_layMisses_0 d n Q a0 a1 a2 σ := by
  unfold LX12_layMisses_0
  refine K_iconst (kdA dt_MX12_layMisses 0 rfl) (by decide) ?_
  refine K_istore_n (ls' := [(0, (2, a0)), (1, (0, a1)), (2, (0, a2)), (3, (0, 0))]) (kdA dt_MX12_layMisses 1 rfl) rfl (by decide) rfl ?_
  exact h
theorem SX12_layMisses_2 {d n : Nat} {Q : kS → Prop} {a0 a1 a2 a3 : Int} {σ : kS} (h : isO 12 n a0 ∧ (((σ a0 14) ≤ a3 → Q σ) ∧ (¬ (σ a0 14) ≤ a3 → Cv d MX12_layPains [(2, a0), (0, a3), (0, a1), (0, a2)] n σ (fun s1 => LX12_layMisses_20 d n Q a0 a1 a2 a3 0 s1)))) : LX12_layMisses_2 d n Q a0 a1 a2 a3 σ := by
  unfold LX12_layMisses_2
  refine K_iload_n 3 (kdA dt_MX12_layMisses 2 rfl) rfl rfl ?_
  refine K_aload_n 0 (kdA dt_MX12_layMisses 3 rfl) rfl rfl ?_
  obtain ⟨c1, h⟩ := h
  refine gf12_306 rfl (kdA dt_MX12_layMisses 4 rfl) c1 ?_
  refine K_icmp_ge (tgt := 59) (kdA dt_MX12_layMisses 5 rfl) rfl (fun c => ?_) (fun c => ?_)
  · have h := h.1 c
    exact K_return (kdA dt_MX12_layMisses 32 rfl) rfl ⟨rfl, rfl, h⟩
  · have h := h.2 c
    refine K_aload_n 0 (kdA dt_MX12_layMisses 6 rfl) rfl rfl ?_
    refine K_iload_n 3 (kdA dt_MX12_layMisses 7 rfl) rfl rfl ?_
    refine K_iload_n 1 (kdA dt_MX12_layMisses 8 rfl) rfl rfl ?_
    refine K_iload_n 2 (kdA dt_MX12_layMisses 9 rfl) rfl rfl ?_
    refine K_cVv (c := 12) (as := [(0, a3), (0, a1), (0, a2)]) (st := []) (kdA dt_MX12_layMisses 10 rfl) rfl cl_MX12_layPains lk12_333 rfl rfl (Nat.le_of_ble_eq_true rfl) c1 (Cv.mono h (fun s1 h => ?_))
    refine K_iconst (kdA dt_MX12_layMisses 11 rfl) (by decide) ?_
    refine K_istore (ls' := [(0, (2, a0)), (1, (0, a1)), (2, (0, a2)), (3, (0, a3)), (4, (0, 0))]) (kdA dt_MX12_layMisses 12 rfl) (by decide) rfl ?_
    exact h
theorem SX12_layMisses_20 {d n : Nat} {Q : kS → Prop} {a0 a1 a2 a3 a4 : Int} {σ : kS} (h : isO 12 n a0 ∧ (((σ a0 41) ≤ a4 → (-2147483648 ≤ (a3 + 1) ∧ (a3 + 1) ≤ 2147483647) ∧ (LX12_layMisses_2 d n Q a0 a1 a2 (a3 + 1) σ)) ∧ (¬ (σ a0 41) ≤ a4 → (-2147483648 ≤ (6 * a3) ∧ (6 * a3) ≤ 2147483647) ∧ ((-2147483648 ≤ ((6 * a3) + a4) ∧ ((6 * a3) + a4) ≤ 2147483647) ∧ (Ci d MX12_missOf [(2, a0), (0, a4)] n σ (fun x4 s1 => isA 20 n (σ a0 40) ∧ (((0 : Int) ≤ ((6 * a3) + a4) ∧ ((6 * a3) + a4) < klen (σ a0 40)) ∧ (∀ s2, s2 = kst s1 (σ a0 40) ((6 * a3) + a4) x4 → (-2147483648 ≤ (a4 + 1) ∧ (a4 + 1) ≤ 2147483647) ∧ (LX12_layMisses_20 d n Q a0 a1 a2 a3 (a4 + 1) s2))))))))) : LX12_layMisses_20 d n Q a0 a1 a2 a3 a4 σ := by
  unfold LX12_layMisses_20
  refine K_iload 4 (kdA dt_MX12_layMisses 13 rfl) rfl ?_
  refine K_aload_n 0 (kdA dt_MX12_layMisses 14 rfl) rfl rfl ?_
  obtain ⟨c1, h⟩ := h
  refine gf12_420 rfl (kdA dt_MX12_layMisses 15 rfl) c1 ?_
  refine K_icmp_ge (tgt := 53) (kdA dt_MX12_layMisses 16 rfl) rfl (fun c => ?_) (fun c => ?_)
  · have h := h.1 c
    obtain ⟨c2, h⟩ := h
    refine K_iinc (ls' := [(0, (2, a0)), (1, (0, a1)), (2, (0, a2)), (3, (0, (a3 + 1))), (4, (0, a4))]) 3 (kdA dt_MX12_layMisses 30 rfl) rfl c2 (by decide) rfl ?_
    refine K_goto (tgt := 2) (kdA dt_MX12_layMisses 31 rfl) rfl ?_
    refine K_pick [0, 1, 2, 3] (ls' := [(0, (2, a0)), (1, (0, a1)), (2, (0, a2)), (3, (0, (a3 + 1)))]) rfl ?_
    exact h
  · have h := h.2 c
    refine K_aload_n 0 (kdA dt_MX12_layMisses 17 rfl) rfl rfl ?_
    refine gf12_88 rfl (kdA dt_MX12_layMisses 18 rfl) c1 ?_
    refine K_bipush (kdA dt_MX12_layMisses 19 rfl) (by decide +kernel) ?_
    refine K_iload_n 3 (kdA dt_MX12_layMisses 20 rfl) rfl rfl ?_
    obtain ⟨c2, h⟩ := h
    refine K_imul (kdA dt_MX12_layMisses 21 rfl) c2 ?_
    refine K_iload 4 (kdA dt_MX12_layMisses 22 rfl) rfl ?_
    obtain ⟨c3, h⟩ := h
    refine K_iadd (kdA dt_MX12_layMisses 23 rfl) c3 ?_
    refine K_aload_n 0 (kdA dt_MX12_layMisses 24 rfl) rfl rfl ?_
    refine K_iload 4 (kdA dt_MX12_layMisses 25 rfl) rfl ?_
    refine K_cVi (c := 12) (as := [(0, a4)]) (st := [(0, ((6 * a3) + a4)), (2, (σ a0 40))]) (kdA dt_MX12_layMisses 26 rfl) rfl cl_MX12_missOf lk12_423 rfl rfl (Nat.le_of_ble_eq_true rfl) c1 (Ci.mono h (fun x4 s1 h => ?_))
    obtain ⟨c5, h⟩ := h
    obtain ⟨c6, h⟩ := h
    refine K_iastore' (kdA dt_MX12_layMisses 27 rfl) c5 c6.1 c6.2 (fun s2 es2 => ?_)
    have h := h s2 es2
    obtain ⟨c7, h⟩ := h
    refine K_iinc (ls' := [(0, (2, a0)), (1, (0, a1)), (2, (0, a2)), (3, (0, a3)), (4, (0, (a4 + 1)))]) 4 (kdA dt_MX12_layMisses 28 rfl) rfl c7 (by decide) rfl ?_
    refine K_goto (tgt := 20) (kdA dt_MX12_layMisses 29 rfl) rfl ?_
    exact h
theorem EX12_layMisses {d n : Nat} {Q : kS → Prop} {a0 a1 a2 : Int} {σ : kS} (h : (-2147483648 ≤ a1 ∧ a1 ≤ 2147483647) → (-2147483648 ≤ a2 ∧ a2 ≤ 2147483647) → kokw n σ → LX12_layMisses_0 d n Q a0 a1 a2 σ) : Cv (d + 1) MX12_layMisses [(2, a0), (0, a1), (0, a2)] n σ Q := Tri_of (by decide +kernel) (Nat.le_of_ble_eq_true rfl) (fun hk hw => h (hk (0, a1) (List.mem_of_getElem? (i := 1) rfl)) (hk (0, a2) (List.mem_of_getElem? (i := 2) rfl)) hw)

def LX12_layPains_0 (d n : Nat) (Q : kS → Prop) (a0 : Int) (a1 : Int) (a2 : Int) (a3 : Int) (σ : kS) : Prop := K (d + 1) MX12_layPains (kPv n Q) (0, 0) 0 [(0, (2, a0)), (1, (0, a1)), (2, (0, a2)), (3, (0, a3))] [] n σ
def LX12_layPains_3 (d n : Nat) (Q : kS → Prop) (a0 : Int) (a1 : Int) (a2 : Int) (a3 : Int) (a4 : Int) (σ : kS) : Prop := K (d + 1) MX12_layPains (kPv n Q) (0, 0) 3 [(0, (2, a0)), (1, (0, a1)), (2, (0, a2)), (3, (0, a3)), (4, (0, a4))] [] n σ
def LX12_layPains_13 (d n : Nat) (Q : kS → Prop) (a0 : Int) (a1 : Int) (a2 : Int) (a3 : Int) (a4 : Int) (a5 : Int) (σ : kS) : Prop := K (d + 1) MX12_layPains (kPv n Q) (0, 0) 13 [(0, (2, a0)), (1, (0, a1)), (2, (0, a2)), (3, (0, a3)), (4, (0, a4)), (5, (0, a5))] [] n σ
theorem SX12_layPains_0 {d n : Nat} {Q : kS → Prop} {a0 a1 a2 a3 : Int} {σ : kS} (h : LX12_layPains_3 d n Q a0 a1 a2 a3 0 σ) : LX12_layPains_0 d n Q a0 a1 a2 a3 σ := by
  unfold LX12_layPains_0
  refine K_iconst (kdA dt_MX12_layPains 0 rfl) (by decide) ?_
  refine K_istore (ls' := [(0, (2, a0)), (1, (0, a1)), (2, (0, a2)), (3, (0, a3)), (4, (0, 0))]) (kdA dt_MX12_layPains 1 rfl) (by decide) rfl ?_
  exact h
theorem SX12_layPains_3 {d n : Nat} {Q : kS → Prop} {a0 a1 a2 a3 a4 : Int} {σ : kS} (h : (120 ≤ a4 → Q σ) ∧ (¬ 120 ≤ a4 → LX12_layPains_13 d n Q a0 a1 a2 a3 a4 0 σ)) : LX12_layPains_3 d n Q a0 a1 a2 a3 a4 σ := by
  unfold LX12_layPains_3
  refine K_iload 4 (kdA dt_MX12_layPains 2 rfl) rfl ?_
  refine K_bipush (kdA dt_MX12_layPains 3 rfl) (by decide +kernel) ?_
  refine K_icmp_ge (tgt := 67) (kdA dt_MX12_layPains 4 rfl) rfl (fun c => ?_) (fun c => ?_)
  · have h := h.1 c
    exact K_return (kdA dt_MX12_layPains 34 rfl) rfl ⟨rfl, rfl, h⟩
  · have h := h.2 c
    refine K_iconst (kdA dt_MX12_layPains 5 rfl) (by decide) ?_
    refine K_istore (ls' := [(0, (2, a0)), (1, (0, a1)), (2, (0, a2)), (3, (0, a3)), (4, (0, a4)), (5, (0, 0))]) (kdA dt_MX12_layPains 6 rfl) (by decide) rfl ?_
    exact h
theorem SX12_layPains_13 {d n : Nat} {Q : kS → Prop} {a0 a1 a2 a3 a4 a5 : Int} {σ : kS} (h : (8 ≤ a5 → (-2147483648 ≤ (a4 + 1) ∧ (a4 + 1) ≤ 2147483647) ∧ (LX12_layPains_3 d n Q a0 a1 a2 a3 (a4 + 1) σ)) ∧ (¬ 8 ≤ a5 → Ci d MX12_step [(0, a4), (0, a5)] n σ (fun x1 s1 => (x1 = (-1) → (-2147483648 ≤ (a5 + 1) ∧ (a5 + 1) ≤ 2147483647) ∧ (LX12_layPains_13 d n Q a0 a1 a2 a3 a4 (a5 + 1) s1)) ∧ (¬ x1 = (-1) → isO 12 n a0 ∧ ((-2147483648 ≤ (8 * a4) ∧ (8 * a4) ≤ 2147483647) ∧ ((-2147483648 ≤ ((8 * a4) + a5) ∧ ((8 * a4) + a5) ≤ 2147483647) ∧ (Ci d MX12_painOf [(2, a0), (0, a1), (0, a2), (0, a3), (0, a4), (0, a5)] n s1 (fun x5 s2 => isA 20 n (s1 a0 26) ∧ (((0 : Int) ≤ ((8 * a4) + a5) ∧ ((8 * a4) + a5) < klen (s1 a0 26)) ∧ (∀ s3, s3 = kst s2 (s1 a0 26) ((8 * a4) + a5) x5 → (-2147483648 ≤ (a5 + 1) ∧ (a5 + 1) ≤ 2147483647) ∧ (LX12_layPains_13 d n Q a0 a1 a2 a3 a4 (a5 + 1) s3))))))))))) : LX12_layPains_13 d n Q a0 a1 a2 a3 a4 a5 σ := by
  unfold LX12_layPains_13
  refine K_iload 5 (kdA dt_MX12_layPains 7 rfl) rfl ?_
  refine K_bipush (kdA dt_MX12_layPains 8 rfl) (by decide +kernel) ?_
  refine K_icmp_ge (tgt := 61) (kdA dt_MX12_layPains 9 rfl) rfl (fun c => ?_) (fun c => ?_)
  · have h := h.1 c
    obtain ⟨c1, h⟩ := h
    refine K_iinc (ls' := [(0, (2, a0)), (1, (0, a1)), (2, (0, a2)), (3, (0, a3)), (4, (0, (a4 + 1))), (5, (0, a5))]) 4 (kdA dt_MX12_layPains 32 rfl) rfl c1 (by decide) rfl ?_
    refine K_goto (tgt := 3) (kdA dt_MX12_layPains 33 rfl) rfl ?_
    refine K_pick [0, 1, 2, 3, 4] (ls' := [(0, (2, a0)), (1, (0, a1)), (2, (0, a2)), (3, (0, a3)), (4, (0, (a4 + 1)))]) rfl ?_
    exact h
  · have h := h.2 c
    refine K_iload 4 (kdA dt_MX12_layPains 10 rfl) rfl ?_
    refine K_iload 5 (kdA dt_MX12_layPains 11 rfl) rfl ?_
    refine K_cSi (as := [(0, a4), (0, a5)]) (st := []) (kdA dt_MX12_layPains 12 rfl) cl_MX12_step lk12_314 rfl rfl (Nat.le_of_ble_eq_true rfl) (Ci.mono h (fun x1 s1 h => ?_))
    refine K_iconst (kdA dt_MX12_layPains 13 rfl) (by decide) ?_
    refine K_icmp_eq (tgt := 55) (kdA dt_MX12_layPains 14 rfl) rfl (fun c => ?_) (fun c => ?_)
    · have h := h.1 c
      obtain ⟨c2, h⟩ := h
      refine K_iinc (ls' := [(0, (2, a0)), (1, (0, a1)), (2, (0, a2)), (3, (0, a3)), (4, (0, a4)), (5, (0, (a5 + 1)))]) 5 (kdA dt_MX12_layPains 30 rfl) rfl c2 (by decide) rfl ?_
      refine K_goto (tgt := 13) (kdA dt_MX12_layPains 31 rfl) rfl ?_
      exact h
    · have h := h.2 c
      refine K_aload_n 0 (kdA dt_MX12_layPains 15 rfl) rfl rfl ?_
      obtain ⟨c2, h⟩ := h
      refine gf12_55 rfl (kdA dt_MX12_layPains 16 rfl) c2 ?_
      refine K_bipush (kdA dt_MX12_layPains 17 rfl) (by decide +kernel) ?_
      refine K_iload 4 (kdA dt_MX12_layPains 18 rfl) rfl ?_
      obtain ⟨c3, h⟩ := h
      refine K_imul (kdA dt_MX12_layPains 19 rfl) c3 ?_
      refine K_iload 5 (kdA dt_MX12_layPains 20 rfl) rfl ?_
      obtain ⟨c4, h⟩ := h
      refine K_iadd (kdA dt_MX12_layPains 21 rfl) c4 ?_
      refine K_aload_n 0 (kdA dt_MX12_layPains 22 rfl) rfl rfl ?_
      refine K_iload_n 1 (kdA dt_MX12_layPains 23 rfl) rfl rfl ?_
      refine K_iload_n 2 (kdA dt_MX12_layPains 24 rfl) rfl rfl ?_
      refine K_iload_n 3 (kdA dt_MX12_layPains 25 rfl) rfl rfl ?_
      refine K_iload 4 (kdA dt_MX12_layPains 26 rfl) rfl ?_
      refine K_iload 5 (kdA dt_MX12_layPains 27 rfl) rfl ?_
      refine K_cVi (c := 12) (as := [(0, a1), (0, a2), (0, a3), (0, a4), (0, a5)]) (st := [(0, ((8 * a4) + a5)), (2, (s1 a0 26))]) (kdA dt_MX12_layPains 28 rfl) rfl cl_MX12_painOf lk12_322 rfl rfl (Nat.le_of_ble_eq_true rfl) c2 (Ci.mono h (fun x5 s2 h => ?_))
      obtain ⟨c6, h⟩ := h
      obtain ⟨c7, h⟩ := h
      refine K_iastore' (kdA dt_MX12_layPains 29 rfl) c6 c7.1 c7.2 (fun s3 es3 => ?_)
      have h := h s3 es3
      obtain ⟨c8, h⟩ := h
      refine K_iinc (ls' := [(0, (2, a0)), (1, (0, a1)), (2, (0, a2)), (3, (0, a3)), (4, (0, a4)), (5, (0, (a5 + 1)))]) 5 (kdA dt_MX12_layPains 30 rfl) rfl c8 (by decide) rfl ?_
      refine K_goto (tgt := 13) (kdA dt_MX12_layPains 31 rfl) rfl ?_
      exact h
theorem EX12_layPains {d n : Nat} {Q : kS → Prop} {a0 a1 a2 a3 : Int} {σ : kS} (h : (-2147483648 ≤ a1 ∧ a1 ≤ 2147483647) → (-2147483648 ≤ a2 ∧ a2 ≤ 2147483647) → (-2147483648 ≤ a3 ∧ a3 ≤ 2147483647) → kokw n σ → LX12_layPains_0 d n Q a0 a1 a2 a3 σ) : Cv (d + 1) MX12_layPains [(2, a0), (0, a1), (0, a2), (0, a3)] n σ Q := Tri_of (by decide +kernel) (Nat.le_of_ble_eq_true rfl) (fun hk hw => h (hk (0, a1) (List.mem_of_getElem? (i := 1) rfl)) (hk (0, a2) (List.mem_of_getElem? (i := 2) rfl)) (hk (0, a3) (List.mem_of_getElem? (i := 3) rfl)) hw)

def LX12_layRoads_0 (d n : Nat) (Q : kS → Prop) (a0 : Int) (a1 : Int) (a2 : Int) (a3 : Int) (σ : kS) : Prop := K (d + 1) MX12_layRoads (kPv n Q) (0, 0) 0 [(0, (2, a0)), (1, (0, a1)), (2, (0, a2)), (3, (0, a3))] [] n σ
def LX12_layRoads_15 (d n : Nat) (Q : kS → Prop) (a0 : Int) (a4 : Int) (σ : kS) : Prop := K (d + 1) MX12_layRoads (kPv n Q) (0, 0) 15 [(0, (2, a0)), (4, (0, a4))] [] n σ
def LX12_layRoads_30 (d n : Nat) (Q : kS → Prop) (a0 : Int) (a4 : Int) (a5 : Int) (σ : kS) : Prop := K (d + 1) MX12_layRoads (kPv n Q) (0, 0) 30 [(0, (2, a0)), (4, (0, a4)), (5, (0, a5))] [] n σ
theorem SX12_layRoads_0 {d n : Nat} {Q : kS → Prop} {a0 a1 a2 a3 : Int} {σ : kS} (h : isO 12 n a0 ∧ (Cv d MX12_layPains [(2, a0), (0, a1), (0, a2), (0, a3)] n σ (fun s1 => ∀ s2, s2 = kst s1 a0 58 0 → LX12_layRoads_15 d n Q a0 0 s2))) : LX12_layRoads_0 d n Q a0 a1 a2 a3 σ := by
  unfold LX12_layRoads_0
  refine K_aload_n 0 (kdA dt_MX12_layRoads 0 rfl) rfl rfl ?_
  refine K_iload_n 1 (kdA dt_MX12_layRoads 1 rfl) rfl rfl ?_
  refine K_iload_n 2 (kdA dt_MX12_layRoads 2 rfl) rfl rfl ?_
  refine K_iload_n 3 (kdA dt_MX12_layRoads 3 rfl) rfl rfl ?_
  obtain ⟨c1, h⟩ := h
  refine K_cVv (c := 12) (as := [(0, a1), (0, a2), (0, a3)]) (st := []) (kdA dt_MX12_layRoads 4 rfl) rfl cl_MX12_layPains lk12_333 rfl rfl (Nat.le_of_ble_eq_true rfl) c1 (Cv.mono h (fun s1 h => ?_))
  refine K_aload_n 0 (kdA dt_MX12_layRoads 5 rfl) rfl rfl ?_
  refine K_iconst (kdA dt_MX12_layRoads 6 rfl) (by decide) ?_
  refine pf12_488 rfl (kdA dt_MX12_layRoads 7 rfl) c1 (fun s2 es2 => ?_)
  have h := h s2 es2
  refine K_iconst (kdA dt_MX12_layRoads 8 rfl) (by decide) ?_
  refine K_istore (ls' := [(0, (2, a0)), (1, (0, a1)), (2, (0, a2)), (3, (0, a3)), (4, (0, 0))]) (kdA dt_MX12_layRoads 9 rfl) (by decide) rfl ?_
  refine K_pick [0, 4] (ls' := [(0, (2, a0)), (4, (0, 0))]) rfl ?_
  exact h
theorem SX12_layRoads_15 {d n : Nat} {Q : kS → Prop} {a0 a4 : Int} {σ : kS} (h : isO 12 n a0 ∧ (((σ a0 3) ≤ a4 → Q σ) ∧ (¬ (σ a0 3) ≤ a4 → (-2147483648 ≤ (a4 + 1) ∧ (a4 + 1) ≤ 2147483647) ∧ (LX12_layRoads_30 d n Q a0 a4 (a4 + 1) σ)))) : LX12_layRoads_15 d n Q a0 a4 σ := by
  unfold LX12_layRoads_15
  refine K_iload 1 (kdA dt_MX12_layRoads 10 rfl) rfl ?_
  refine K_aload_n 0 (kdA dt_MX12_layRoads 11 rfl) rfl rfl ?_
  obtain ⟨c1, h⟩ := h
  refine gf12_165 rfl (kdA dt_MX12_layRoads 12 rfl) c1 ?_
  refine K_icmp_ge (tgt := 119) (kdA dt_MX12_layRoads 13 rfl) rfl (fun c => ?_) (fun c => ?_)
  · have h := h.1 c
    exact K_return (kdA dt_MX12_layRoads 64 rfl) rfl ⟨rfl, rfl, h⟩
  · have h := h.2 c
    refine K_iload 1 (kdA dt_MX12_layRoads 14 rfl) rfl ?_
    refine K_iconst (kdA dt_MX12_layRoads 15 rfl) (by decide) ?_
    obtain ⟨c2, h⟩ := h
    refine K_iadd (kdA dt_MX12_layRoads 16 rfl) c2 ?_
    refine K_istore (ls' := [(0, (2, a0)), (4, (0, a4)), (5, (0, (a4 + 1)))]) (kdA dt_MX12_layRoads 17 rfl) (by decide) rfl ?_
    exact h
theorem SX12_layRoads_30 {d n : Nat} {Q : kS → Prop} {a0 a4 a5 : Int} {σ : kS} (h : isO 12 n a0 ∧ (((σ a0 3) ≤ a5 → (-2147483648 ≤ (a4 + 1) ∧ (a4 + 1) ≤ 2147483647) ∧ (LX12_layRoads_15 d n Q a0 (a4 + 1) σ)) ∧ (¬ (σ a0 3) ≤ a5 → isA 20 n (σ a0 2) ∧ (((0 : Int) ≤ a5 ∧ a5 < klen (σ a0 2)) ∧ (Cv d MX12_layLeft [(2, a0), (0, (σ (σ a0 2) a5))] n σ (fun s1 => isA 20 n (s1 a0 2) ∧ (((0 : Int) ≤ a4 ∧ a4 < klen (s1 a0 2)) ∧ (isA 20 n (s1 a0 27) ∧ (((0 : Int) ≤ (s1 (s1 a0 2) a4) ∧ (s1 (s1 a0 2) a4) < klen (s1 a0 27)) ∧ (((0 : Int) ≤ (s1 (s1 a0 27) (s1 (s1 a0 2) a4))) ∧ (isA 20 n (s1 a0 55) ∧ (((0 : Int) ≤ (s1 a0 58) ∧ (s1 a0 58) < klen (s1 a0 55)) ∧ (∀ s2, s2 = kst s1 (s1 a0 55) (s1 a0 58) ((s1 (s1 a0 27) (s1 (s1 a0 2) a4)) / 1000) → isA 20 n (s2 a0 56) ∧ (((0 : Int) ≤ (s2 a0 58) ∧ (s2 a0 58) < klen (s2 a0 56)) ∧ (∀ s3, s3 = kst s2 (s2 a0 56) (s2 a0 58) a4 → isA 20 n (s3 a0 57) ∧ (((0 : Int) ≤ (s3 a0 58) ∧ (s3 a0 58) < klen (s3 a0 57)) ∧ (∀ s4, s4 = kst s3 (s3 a0 57) (s3 a0 58) a5 → (-2147483648 ≤ ((s4 a0 58) + 1) ∧ ((s4 a0 58) + 1) ≤ 2147483647) ∧ (∀ s5, s5 = kst s4 a0 58 ((s4 a0 58) + 1) → (-2147483648 ≤ (a5 + 1) ∧ (a5 + 1) ≤ 2147483647) ∧ (LX12_layRoads_30 d n Q a0 a4 (a5 + 1) s5))))))))))))))))))) : LX12_layRoads_30 d n Q a0 a4 a5 σ := by
  unfold LX12_layRoads_30
  refine K_iload 2 (kdA dt_MX12_layRoads 18 rfl) rfl ?_
  refine K_aload_n 0 (kdA dt_MX12_layRoads 19 rfl) rfl rfl ?_
  obtain ⟨c1, h⟩ := h
  refine gf12_165 rfl (kdA dt_MX12_layRoads 20 rfl) c1 ?_
  refine K_icmp_ge (tgt := 113) (kdA dt_MX12_layRoads 21 rfl) rfl (fun c => ?_) (fun c => ?_)
  · have h := h.1 c
    obtain ⟨c2, h⟩ := h
    refine K_iinc (ls' := [(0, (2, a0)), (4, (0, (a4 + 1))), (5, (0, a5))]) 1 (kdA dt_MX12_layRoads 62 rfl) rfl c2 (by decide) rfl ?_
    refine K_goto (tgt := 15) (kdA dt_MX12_layRoads 63 rfl) rfl ?_
    refine K_pick [0, 1] (ls' := [(0, (2, a0)), (4, (0, (a4 + 1)))]) rfl ?_
    exact h
  · have h := h.2 c
    refine K_aload_n 0 (kdA dt_MX12_layRoads 22 rfl) rfl rfl ?_
    refine K_aload_n 0 (kdA dt_MX12_layRoads 23 rfl) rfl rfl ?_
    refine gf12_13 rfl (kdA dt_MX12_layRoads 24 rfl) c1 ?_
    refine K_iload 2 (kdA dt_MX12_layRoads 25 rfl) rfl ?_
    obtain ⟨c2, h⟩ := h
    obtain ⟨c3, h⟩ := h
    refine K_iaload (kdA dt_MX12_layRoads 26 rfl) c2 c3.1 c3.2 ?_
    refine K_cVv (c := 12) (as := [(0, (σ (σ a0 2) a5))]) (st := []) (kdA dt_MX12_layRoads 27 rfl) rfl cl_MX12_layLeft lk12_327 rfl rfl (Nat.le_of_ble_eq_true rfl) c1 (Cv.mono h (fun s1 h => ?_))
    refine K_aload_n 0 (kdA dt_MX12_layRoads 28 rfl) rfl rfl ?_
    refine gf12_124 rfl (kdA dt_MX12_layRoads 29 rfl) c1 ?_
    refine K_aload_n 0 (kdA dt_MX12_layRoads 30 rfl) rfl rfl ?_
    refine gf12_488 rfl (kdA dt_MX12_layRoads 31 rfl) c1 ?_
    refine K_aload_n 0 (kdA dt_MX12_layRoads 32 rfl) rfl rfl ?_
    refine gf12_58 rfl (kdA dt_MX12_layRoads 33 rfl) c1 ?_
    refine K_aload_n 0 (kdA dt_MX12_layRoads 34 rfl) rfl rfl ?_
    refine gf12_13 rfl (kdA dt_MX12_layRoads 35 rfl) c1 ?_
    refine K_iload 1 (kdA dt_MX12_layRoads 36 rfl) rfl ?_
    obtain ⟨c5, h⟩ := h
    obtain ⟨c6, h⟩ := h
    refine K_iaload (kdA dt_MX12_layRoads 37 rfl) c5 c6.1 c6.2 ?_
    obtain ⟨c7, h⟩ := h
    obtain ⟨c8, h⟩ := h
    refine K_iaload (kdA dt_MX12_layRoads 38 rfl) c7 c8.1 c8.2 ?_
    refine K_sipush (kdA dt_MX12_layRoads 39 rfl) (by decide +kernel) ?_
    obtain ⟨c9, h⟩ := h
    refine K_idiv (kdA dt_MX12_layRoads 40 rfl) c9 (by decide) ?_
    obtain ⟨c10, h⟩ := h
    obtain ⟨c11, h⟩ := h
    refine K_iastore' (kdA dt_MX12_layRoads 41 rfl) c10 c11.1 c11.2 (fun s2 es2 => ?_)
    have h := h s2 es2
    refine K_aload_n 0 (kdA dt_MX12_layRoads 42 rfl) rfl rfl ?_
    refine gf12_127 rfl (kdA dt_MX12_layRoads 43 rfl) c1 ?_
    refine K_aload_n 0 (kdA dt_MX12_layRoads 44 rfl) rfl rfl ?_
    refine gf12_488 rfl (kdA dt_MX12_layRoads 45 rfl) c1 ?_
    refine K_iload 1 (kdA dt_MX12_layRoads 46 rfl) rfl ?_
    obtain ⟨c12, h⟩ := h
    obtain ⟨c13, h⟩ := h
    refine K_iastore' (kdA dt_MX12_layRoads 47 rfl) c12 c13.1 c13.2 (fun s3 es3 => ?_)
    have h := h s3 es3
    refine K_aload_n 0 (kdA dt_MX12_layRoads 48 rfl) rfl rfl ?_
    refine gf12_130 rfl (kdA dt_MX12_layRoads 49 rfl) c1 ?_
    refine K_aload_n 0 (kdA dt_MX12_layRoads 50 rfl) rfl rfl ?_
    refine gf12_488 rfl (kdA dt_MX12_layRoads 51 rfl) c1 ?_
    refine K_iload 2 (kdA dt_MX12_layRoads 52 rfl) rfl ?_
    obtain ⟨c14, h⟩ := h
    obtain ⟨c15, h⟩ := h
    refine K_iastore' (kdA dt_MX12_layRoads 53 rfl) c14 c15.1 c15.2 (fun s4 es4 => ?_)
    have h := h s4 es4
    refine K_aload_n 0 (kdA dt_MX12_layRoads 54 rfl) rfl rfl ?_
    refine K_dup (kdA dt_MX12_layRoads 55 rfl) rfl ?_
    refine gf12_488 rfl (kdA dt_MX12_layRoads 56 rfl) c1 ?_
    refine K_iconst (kdA dt_MX12_layRoads 57 rfl) (by decide) ?_
    obtain ⟨c16, h⟩ := h
    refine K_iadd (kdA dt_MX12_layRoads 58 rfl) c16 ?_
    refine pf12_488 rfl (kdA dt_MX12_layRoads 59 rfl) c1 (fun s5 es5 => ?_)
    have h := h s5 es5
    obtain ⟨c17, h⟩ := h
    refine K_iinc (ls' := [(0, (2, a0)), (4, (0, a4)), (5, (0, (a5 + 1)))]) 2 (kdA dt_MX12_layRoads 60 rfl) rfl c17 (by decide) rfl ?_
    refine K_goto (tgt := 30) (kdA dt_MX12_layRoads 61 rfl) rfl ?_
    exact h
theorem EX12_layRoads {d n : Nat} {Q : kS → Prop} {a0 a1 a2 a3 : Int} {σ : kS} (h : (-2147483648 ≤ a1 ∧ a1 ≤ 2147483647) → (-2147483648 ≤ a2 ∧ a2 ≤ 2147483647) → (-2147483648 ≤ a3 ∧ a3 ≤ 2147483647) → kokw n σ → LX12_layRoads_0 d n Q a0 a1 a2 a3 σ) : Cv (d + 1) MX12_layRoads [(2, a0), (0, a1), (0, a2), (0, a3)] n σ Q := Tri_of (by decide +kernel) (Nat.le_of_ble_eq_true rfl) (fun hk hw => h (hk (0, a1) (List.mem_of_getElem? (i := 1) rfl)) (hk (0, a2) (List.mem_of_getElem? (i := 2) rfl)) (hk (0, a3) (List.mem_of_getElem? (i := 3) rfl)) hw)

def LX12_layWay_0 (d n : Nat) (Q : kS → Prop) (a0 : Int) (a1 : Int) (a2 : Int) (a3 : Int) (a4 : Int) (a5 : Int) (σ : kS) : Prop := K (d + 1) MX12_layWay (kPv n Q) (0, 0) 0 [(0, (2, a0)), (1, (0, a1)), (2, (0, a2)), (3, (0, a3)), (4, (0, a4)), (5, (0, a5))] [] n σ
theorem SX12_layWay_0 {d n : Nat} {Q : kS → Prop} {a0 a1 a2 a3 a4 a5 : Int} {σ : kS} (h : isO 12 n a0 ∧ (Cv d MX12_layPains [(2, a0), (0, a1), (0, a2), (0, a3)] n σ (fun s1 => Cv d MX12_goWay [(2, a0), (0, a4), (0, a5)] n s1 (fun s2 => Q s2)))) : LX12_layWay_0 d n Q a0 a1 a2 a3 a4 a5 σ := by
  unfold LX12_layWay_0
  refine K_aload_n 0 (kdA dt_MX12_layWay 0 rfl) rfl rfl ?_
  refine K_iload_n 1 (kdA dt_MX12_layWay 1 rfl) rfl rfl ?_
  refine K_iload_n 2 (kdA dt_MX12_layWay 2 rfl) rfl rfl ?_
  refine K_iload_n 3 (kdA dt_MX12_layWay 3 rfl) rfl rfl ?_
  obtain ⟨c1, h⟩ := h
  refine K_cVv (c := 12) (as := [(0, a1), (0, a2), (0, a3)]) (st := []) (kdA dt_MX12_layWay 4 rfl) rfl cl_MX12_layPains lk12_333 rfl rfl (Nat.le_of_ble_eq_true rfl) c1 (Cv.mono h (fun s1 h => ?_))
  refine K_aload_n 0 (kdA dt_MX12_layWay 5 rfl) rfl rfl ?_
  refine K_iload 4 (kdA dt_MX12_layWay 6 rfl) rfl ?_
  refine K_iload 5 (kdA dt_MX12_layWay 7 rfl) rfl ?_
  refine K_cVv (c := 12) (as := [(0, a4), (0, a5)]) (st := []) (kdA dt_MX12_layWay 8 rfl) rfl cl_MX12_goWay lk12_337 rfl rfl (Nat.le_of_ble_eq_true rfl) c1 (Cv.mono h (fun s2 h => ?_))
  exact K_return (kdA dt_MX12_layWay 9 rfl) rfl ⟨rfl, rfl, h⟩
theorem EX12_layWay {d n : Nat} {Q : kS → Prop} {a0 a1 a2 a3 a4 a5 : Int} {σ : kS} (h : (-2147483648 ≤ a1 ∧ a1 ≤ 2147483647) → (-2147483648 ≤ a2 ∧ a2 ≤ 2147483647) → (-2147483648 ≤ a3 ∧ a3 ≤ 2147483647) → (-2147483648 ≤ a4 ∧ a4 ≤ 2147483647) → (-2147483648 ≤ a5 ∧ a5 ≤ 2147483647) → kokw n σ → LX12_layWay_0 d n Q a0 a1 a2 a3 a4 a5 σ) : Cv (d + 1) MX12_layWay [(2, a0), (0, a1), (0, a2), (0, a3), (0, a4), (0, a5)] n σ Q := Tri_of (by decide +kernel) (Nat.le_of_ble_eq_true rfl) (fun hk hw => h (hk (0, a1) (List.mem_of_getElem? (i := 1) rfl)) (hk (0, a2) (List.mem_of_getElem? (i := 2) rfl)) (hk (0, a3) (List.mem_of_getElem? (i := 3) rfl)) (hk (0, a4) (List.mem_of_getElem? (i := 4) rfl)) (hk (0, a5) (List.mem_of_getElem? (i := 5) rfl)) hw)

def LX12_layWorld_0 (d n : Nat) (Q : kS → Prop) (a0 : Int) (a1 : Int) (a2 : Int) (a3 : Int) (σ : kS) : Prop := K (d + 1) MX12_layWorld (kPv n Q) (0, 0) 0 [(0, (2, a0)), (1, (0, a1)), (2, (0, a2)), (3, (0, a3))] [] n σ
def LX12_layWorld_32 (d n : Nat) (Q : kS → Prop) (a0 : Int) (a1 : Int) (a4 : Int) (σ : kS) : Prop := K (d + 1) MX12_layWorld (kPv n Q) (0, 0) 32 [(0, (2, a0)), (1, (0, a1)), (4, (0, a4))] [] n σ
def LX12_layWorld_76 (d n : Nat) (Q : kS → Prop) (a0 : Int) (a1 : Int) (a4 : Int) (a5 : Int) (a6 : Int) (σ : kS) : Prop := K (d + 1) MX12_layWorld (kPv n Q) (0, 0) 76 [(0, (2, a0)), (1, (0, a1)), (4, (0, a4)), (5, (0, a5)), (6, (0, a6))] [] n σ
theorem SX12_layWorld_0 {d n : Nat} {Q : kS → Prop} {a0 a1 a2 a3 : Int} {σ : kS} (h : isO 12 n a0 ∧ (isA 20 n (σ a0 2) ∧ (((0 : Int) ≤ a2 ∧ a2 < klen (σ a0 2)) ∧ (((0 : Int) ≤ a3 ∧ a3 < klen (σ a0 2)) ∧ (Cv d MX12_layWay [(2, a0), (0, a1), (0, 0), (0, 0), (0, (σ (σ a0 2) a2)), (0, (σ (σ a0 2) a3))] n σ (fun s1 => isA 20 n (s1 a0 43) ∧ (((0 : Int) ≤ a1 ∧ a1 < klen (s1 a0 43)) ∧ (∀ s2, s2 = kst s1 (s1 a0 43) a1 (s1 a0 30) → LX12_layWorld_32 d n Q a0 a1 0 s2)))))))) : LX12_layWorld_0 d n Q a0 a1 a2 a3 σ := by
  unfold LX12_layWorld_0
  refine K_aload_n 0 (kdA dt_MX12_layWorld 0 rfl) rfl rfl ?_
  refine K_iload_n 1 (kdA dt_MX12_layWorld 1 rfl) rfl rfl ?_
  refine K_iconst (kdA dt_MX12_layWorld 2 rfl) (by decide) ?_
  refine K_iconst (kdA dt_MX12_layWorld 3 rfl) (by decide) ?_
  refine K_aload_n 0 (kdA dt_MX12_layWorld 4 rfl) rfl rfl ?_
  obtain ⟨c1, h⟩ := h
  refine gf12_13 rfl (kdA dt_MX12_layWorld 5 rfl) c1 ?_
  refine K_iload_n 2 (kdA dt_MX12_layWorld 6 rfl) rfl rfl ?_
  obtain ⟨c2, h⟩ := h
  obtain ⟨c3, h⟩ := h
  refine K_iaload (kdA dt_MX12_layWorld 7 rfl) c2 c3.1 c3.2 ?_
  refine K_aload_n 0 (kdA dt_MX12_layWorld 8 rfl) rfl rfl ?_
  refine gf12_13 rfl (kdA dt_MX12_layWorld 9 rfl) c1 ?_
  refine K_iload_n 3 (kdA dt_MX12_layWorld 10 rfl) rfl rfl ?_
  obtain ⟨c4, h⟩ := h
  refine K_iaload (kdA dt_MX12_layWorld 11 rfl) c2 c4.1 c4.2 ?_
  refine K_cVv (c := 12) (as := [(0, a1), (0, 0), (0, 0), (0, (σ (σ a0 2) a2)), (0, (σ (σ a0 2) a3))]) (st := []) (kdA dt_MX12_layWorld 12 rfl) rfl cl_MX12_layWay lk12_345 rfl rfl (Nat.le_of_ble_eq_true rfl) c1 (Cv.mono h (fun s1 h => ?_))
  refine K_aload_n 0 (kdA dt_MX12_layWorld 13 rfl) rfl rfl ?_
  refine gf12_94 rfl (kdA dt_MX12_layWorld 14 rfl) c1 ?_
  refine K_iload_n 1 (kdA dt_MX12_layWorld 15 rfl) rfl rfl ?_
  refine K_aload_n 0 (kdA dt_MX12_layWorld 16 rfl) rfl rfl ?_
  refine gf12_330 rfl (kdA dt_MX12_layWorld 17 rfl) c1 ?_
  obtain ⟨c6, h⟩ := h
  obtain ⟨c7, h⟩ := h
  refine K_iastore' (kdA dt_MX12_layWorld 18 rfl) c6 c7.1 c7.2 (fun s2 es2 => ?_)
  have h := h s2 es2
  refine K_iconst (kdA dt_MX12_layWorld 19 rfl) (by decide) ?_
  refine K_istore (ls' := [(0, (2, a0)), (1, (0, a1)), (2, (0, a2)), (3, (0, a3)), (4, (0, 0))]) (kdA dt_MX12_layWorld 20 rfl) (by decide) rfl ?_
  refine K_pick [0, 1, 4] (ls' := [(0, (2, a0)), (1, (0, a1)), (4, (0, 0))]) rfl ?_
  exact h
theorem SX12_layWorld_32 {d n : Nat} {Q : kS → Prop} {a0 a1 a4 : Int} {σ : kS} (h : isO 12 n a0 ∧ (((σ a0 30) ≤ a4 → LX12_layWorld_76 d n Q a0 a1 1 1 0 σ) ∧ (¬ (σ a0 30) ≤ a4 → (-2147483648 ≤ (140 * a1) ∧ (140 * a1) ≤ 2147483647) ∧ ((-2147483648 ≤ ((140 * a1) + a4) ∧ ((140 * a1) + a4) ≤ 2147483647) ∧ (isA 20 n (σ a0 29) ∧ (((0 : Int) ≤ a4 ∧ a4 < klen (σ a0 29)) ∧ (isA 20 n (σ a0 44) ∧ (((0 : Int) ≤ ((140 * a1) + a4) ∧ ((140 * a1) + a4) < klen (σ a0 44)) ∧ (∀ s1, s1 = kst σ (σ a0 44) ((140 * a1) + a4) (σ (σ a0 29) a4) → (-2147483648 ≤ (a4 + 1) ∧ (a4 + 1) ≤ 2147483647) ∧ (LX12_layWorld_32 d n Q a0 a1 (a4 + 1) s1)))))))))) : LX12_layWorld_32 d n Q a0 a1 a4 σ := by
  unfold LX12_layWorld_32
  refine K_iload 2 (kdA dt_MX12_layWorld 21 rfl) rfl ?_
  refine K_aload_n 0 (kdA dt_MX12_layWorld 22 rfl) rfl rfl ?_
  obtain ⟨c1, h⟩ := h
  refine gf12_330 rfl (kdA dt_MX12_layWorld 23 rfl) c1 ?_
  refine K_icmp_ge (tgt := 67) (kdA dt_MX12_layWorld 24 rfl) rfl (fun c => ?_) (fun c => ?_)
  · have h := h.1 c
    refine K_iconst (kdA dt_MX12_layWorld 39 rfl) (by decide) ?_
    refine K_istore (ls' := [(0, (2, a0)), (1, (0, a1)), (4, (0, 1))]) (kdA dt_MX12_layWorld 40 rfl) (by decide) rfl ?_
    refine K_iconst (kdA dt_MX12_layWorld 41 rfl) (by decide) ?_
    refine K_istore (ls' := [(0, (2, a0)), (1, (0, a1)), (4, (0, 1)), (5, (0, 1))]) (kdA dt_MX12_layWorld 42 rfl) (by decide) rfl ?_
    refine K_iconst (kdA dt_MX12_layWorld 43 rfl) (by decide) ?_
    refine K_istore (ls' := [(0, (2, a0)), (1, (0, a1)), (4, (0, 1)), (5, (0, 1)), (6, (0, 0))]) (kdA dt_MX12_layWorld 44 rfl) (by decide) rfl ?_
    exact h
  · have h := h.2 c
    refine K_aload_n 0 (kdA dt_MX12_layWorld 25 rfl) rfl rfl ?_
    refine gf12_97 rfl (kdA dt_MX12_layWorld 26 rfl) c1 ?_
    refine K_sipush (kdA dt_MX12_layWorld 27 rfl) (by decide +kernel) ?_
    refine K_iload_n 1 (kdA dt_MX12_layWorld 28 rfl) rfl rfl ?_
    obtain ⟨c2, h⟩ := h
    refine K_imul (kdA dt_MX12_layWorld 29 rfl) c2 ?_
    refine K_iload 2 (kdA dt_MX12_layWorld 30 rfl) rfl ?_
    obtain ⟨c3, h⟩ := h
    refine K_iadd (kdA dt_MX12_layWorld 31 rfl) c3 ?_
    refine K_aload_n 0 (kdA dt_MX12_layWorld 32 rfl) rfl rfl ?_
    refine gf12_64 rfl (kdA dt_MX12_layWorld 33 rfl) c1 ?_
    refine K_iload 2 (kdA dt_MX12_layWorld 34 rfl) rfl ?_
    obtain ⟨c4, h⟩ := h
    obtain ⟨c5, h⟩ := h
    refine K_iaload (kdA dt_MX12_layWorld 35 rfl) c4 c5.1 c5.2 ?_
    obtain ⟨c6, h⟩ := h
    obtain ⟨c7, h⟩ := h
    refine K_iastore' (kdA dt_MX12_layWorld 36 rfl) c6 c7.1 c7.2 (fun s1 es1 => ?_)
    have h := h s1 es1
    obtain ⟨c8, h⟩ := h
    refine K_iinc (ls' := [(0, (2, a0)), (1, (0, a1)), (4, (0, (a4 + 1)))]) 2 (kdA dt_MX12_layWorld 37 rfl) rfl c8 (by decide) rfl ?_
    refine K_goto (tgt := 32) (kdA dt_MX12_layWorld 38 rfl) rfl ?_
    exact h
theorem SX12_layWorld_76 {d n : Nat} {Q : kS → Prop} {a0 a1 a4 a5 a6 : Int} {σ : kS} (h : isO 12 n a0 ∧ (((σ a0 38) ≤ a6 → (a5 = 0 → isA 20 n (σ a0 45) ∧ (((0 : Int) ≤ a1 ∧ a1 < klen (σ a0 45)) ∧ (∀ s1, s1 = kst σ (σ a0 45) a1 0 → Q s1))) ∧ (¬ a5 = 0 → isA 20 n (σ a0 42) ∧ (((0 : Int) ≤ a1 ∧ a1 < klen (σ a0 42)) ∧ ((-2147483648 ≤ ((σ (σ a0 42) a1) * a4) ∧ ((σ (σ a0 42) a1) * a4) ≤ 2147483647) ∧ (isA 20 n (σ a0 45) ∧ (((0 : Int) ≤ a1 ∧ a1 < klen (σ a0 45)) ∧ (∀ s1, s1 = kst σ (σ a0 45) a1 ((σ (σ a0 42) a1) * a4) → Q s1))))))) ∧ (¬ (σ a0 38) ≤ a6 → isA 20 n (σ a0 36) ∧ (((0 : Int) ≤ a6 ∧ a6 < klen (σ a0 36)) ∧ ((2 ≤ (σ (σ a0 36) a6) → (a5 = 0 → (¬ (σ (σ a0 36) a6) = 1 → (-2147483648 ≤ (a4 + 0) ∧ (a4 + 0) ≤ 2147483647) ∧ ((-2147483648 ≤ (a6 + 1) ∧ (a6 + 1) ≤ 2147483647) ∧ (LX12_layWorld_76 d n Q a0 a1 (a4 + 0) 0 (a6 + 1) σ))) ∧ (¬ (¬ (σ (σ a0 36) a6) = 1) → (-2147483648 ≤ (a4 + 0) ∧ (a4 + 0) ≤ 2147483647) ∧ ((-2147483648 ≤ (a6 + 1) ∧ (a6 + 1) ≤ 2147483647) ∧ (LX12_layWorld_76 d n Q a0 a1 (a4 + 0) 0 (a6 + 1) σ)))) ∧ (¬ a5 = 0 → (¬ (σ (σ a0 36) a6) = 0 → (¬ (σ (σ a0 36) a6) = 1 → (-2147483648 ≤ (a4 + 0) ∧ (a4 + 0) ≤ 2147483647) ∧ ((-2147483648 ≤ (a6 + 1) ∧ (a6 + 1) ≤ 2147483647) ∧ (LX12_layWorld_76 d n Q a0 a1 (a4 + 0) 1 (a6 + 1) σ))) ∧ (¬ (¬ (σ (σ a0 36) a6) = 1) → (-2147483648 ≤ (a4 + 0) ∧ (a4 + 0) ≤ 2147483647) ∧ ((-2147483648 ≤ (a6 + 1) ∧ (a6 + 1) ≤ 2147483647) ∧ (LX12_layWorld_76 d n Q a0 a1 (a4 + 0) 1 (a6 + 1) σ)))) ∧ (¬ (¬ (σ (σ a0 36) a6) = 0) → (¬ (σ (σ a0 36) a6) = 1 → (-2147483648 ≤ (a4 + 0) ∧ (a4 + 0) ≤ 2147483647) ∧ ((-2147483648 ≤ (a6 + 1) ∧ (a6 + 1) ≤ 2147483647) ∧ (LX12_layWorld_76 d n Q a0 a1 (a4 + 0) 0 (a6 + 1) σ))) ∧ (¬ (¬ (σ (σ a0 36) a6) = 1) → (-2147483648 ≤ (a4 + 0) ∧ (a4 + 0) ≤ 2147483647) ∧ ((-2147483648 ≤ (a6 + 1) ∧ (a6 + 1) ≤ 2147483647) ∧ (LX12_layWorld_76 d n Q a0 a1 (a4 + 0) 0 (a6 + 1) σ)))))) ∧ (¬ 2 ≤ (σ (σ a0 36) a6) → isA 20 n (σ a0 35) ∧ (((0 : Int) ≤ a6 ∧ a6 < klen (σ a0 35)) ∧ (Ci d MX12_isByWay [(2, a0), (0, a1), (0, (σ (σ a0 35) a6))] n σ (fun x6 s1 => (x6 = 0 → (a5 = 0 → isA 20 n (s1 a0 36) ∧ (((0 : Int) ≤ a6 ∧ a6 < klen (s1 a0 36)) ∧ ((¬ (s1 (s1 a0 36) a6) = 1 → (-2147483648 ≤ (a4 + 0) ∧ (a4 + 0) ≤ 2147483647) ∧ ((-2147483648 ≤ (a6 + 1) ∧ (a6 + 1) ≤ 2147483647) ∧ (LX12_layWorld_76 d n Q a0 a1 (a4 + 0) 0 (a6 + 1) s1))) ∧ (¬ (¬ (s1 (s1 a0 36) a6) = 1) → (-2147483648 ≤ (a4 + 0) ∧ (a4 + 0) ≤ 2147483647) ∧ ((-2147483648 ≤ (a6 + 1) ∧ (a6 + 1) ≤ 2147483647) ∧ (LX12_layWorld_76 d n Q a0 a1 (a4 + 0) 0 (a6 + 1) s1)))))) ∧ (¬ a5 = 0 → isA 20 n (s1 a0 36) ∧ (((0 : Int) ≤ a6 ∧ a6 < klen (s1 a0 36)) ∧ ((¬ (s1 (s1 a0 36) a6) = 0 → (¬ (s1 (s1 a0 36) a6) = 1 → (-2147483648 ≤ (a4 + 0) ∧ (a4 + 0) ≤ 2147483647) ∧ ((-2147483648 ≤ (a6 + 1) ∧ (a6 + 1) ≤ 2147483647) ∧ (LX12_layWorld_76 d n Q a0 a1 (a4 + 0) 1 (a6 + 1) s1))) ∧ (¬ (¬ (s1 (s1 a0 36) a6) = 1) → (-2147483648 ≤ (a4 + 0) ∧ (a4 + 0) ≤ 2147483647) ∧ ((-2147483648 ≤ (a6 + 1) ∧ (a6 + 1) ≤ 2147483647) ∧ (LX12_layWorld_76 d n Q a0 a1 (a4 + 0) 1 (a6 + 1) s1)))) ∧ (¬ (¬ (s1 (s1 a0 36) a6) = 0) → (¬ (s1 (s1 a0 36) a6) = 1 → (-2147483648 ≤ (a4 + 0) ∧ (a4 + 0) ≤ 2147483647) ∧ ((-2147483648 ≤ (a6 + 1) ∧ (a6 + 1) ≤ 2147483647) ∧ (LX12_layWorld_76 d n Q a0 a1 (a4 + 0) 0 (a6 + 1) s1))) ∧ (¬ (¬ (s1 (s1 a0 36) a6) = 1) → (-2147483648 ≤ (a4 + 0) ∧ (a4 + 0) ≤ 2147483647) ∧ ((-2147483648 ≤ (a6 + 1) ∧ (a6 + 1) ≤ 2147483647) ∧ (LX12_layWorld_76 d n Q a0 a1 (a4 + 0) 0 (a6 + 1) s1)))))))) ∧ (¬ x6 = 0 → (a5 = 0 → isA 20 n (s1 a0 36) ∧ (((0 : Int) ≤ a6 ∧ a6 < klen (s1 a0 36)) ∧ ((¬ (s1 (s1 a0 36) a6) = 1 → (-2147483648 ≤ (a4 + 0) ∧ (a4 + 0) ≤ 2147483647) ∧ ((-2147483648 ≤ (a6 + 1) ∧ (a6 + 1) ≤ 2147483647) ∧ (LX12_layWorld_76 d n Q a0 a1 (a4 + 0) 0 (a6 + 1) s1))) ∧ (¬ (¬ (s1 (s1 a0 36) a6) = 1) → isA 20 n (s1 a0 37) ∧ (((0 : Int) ≤ a6 ∧ a6 < klen (s1 a0 37)) ∧ ((-2147483648 ≤ (a4 + (s1 (s1 a0 37) a6)) ∧ (a4 + (s1 (s1 a0 37) a6)) ≤ 2147483647) ∧ ((-2147483648 ≤ (a6 + 1) ∧ (a6 + 1) ≤ 2147483647) ∧ (LX12_layWorld_76 d n Q a0 a1 (a4 + (s1 (s1 a0 37) a6)) 0 (a6 + 1) s1)))))))) ∧ (¬ a5 = 0 → isA 20 n (s1 a0 36) ∧ (((0 : Int) ≤ a6 ∧ a6 < klen (s1 a0 36)) ∧ ((¬ (s1 (s1 a0 36) a6) = 0 → (¬ (s1 (s1 a0 36) a6) = 1 → (-2147483648 ≤ (a4 + 0) ∧ (a4 + 0) ≤ 2147483647) ∧ ((-2147483648 ≤ (a6 + 1) ∧ (a6 + 1) ≤ 2147483647) ∧ (LX12_layWorld_76 d n Q a0 a1 (a4 + 0) 1 (a6 + 1) s1))) ∧ (¬ (¬ (s1 (s1 a0 36) a6) = 1) → isA 20 n (s1 a0 37) ∧ (((0 : Int) ≤ a6 ∧ a6 < klen (s1 a0 37)) ∧ ((-2147483648 ≤ (a4 + (s1 (s1 a0 37) a6)) ∧ (a4 + (s1 (s1 a0 37) a6)) ≤ 2147483647) ∧ ((-2147483648 ≤ (a6 + 1) ∧ (a6 + 1) ≤ 2147483647) ∧ (LX12_layWorld_76 d n Q a0 a1 (a4 + (s1 (s1 a0 37) a6)) 1 (a6 + 1) s1)))))) ∧ (¬ (¬ (s1 (s1 a0 36) a6) = 0) → (¬ (s1 (s1 a0 36) a6) = 1 → (-2147483648 ≤ (a4 + 0) ∧ (a4 + 0) ≤ 2147483647) ∧ ((-2147483648 ≤ (a6 + 1) ∧ (a6 + 1) ≤ 2147483647) ∧ (LX12_layWorld_76 d n Q a0 a1 (a4 + 0) 1 (a6 + 1) s1))) ∧ (¬ (¬ (s1 (s1 a0 36) a6) = 1) → isA 20 n (s1 a0 37) ∧ (((0 : Int) ≤ a6 ∧ a6 < klen (s1 a0 37)) ∧ ((-2147483648 ≤ (a4 + (s1 (s1 a0 37) a6)) ∧ (a4 + (s1 (s1 a0 37) a6)) ≤ 2147483647) ∧ ((-2147483648 ≤ (a6 + 1) ∧ (a6 + 1) ≤ 2147483647) ∧ (LX12_layWorld_76 d n Q a0 a1 (a4 + (s1 (s1 a0 37) a6)) 1 (a6 + 1) s1))))))))))))))))))) : LX12_layWorld_76 d n Q a0 a1 a4 a5 a6 σ := by
  unfold LX12_layWorld_76
  refine K_iload 4 (kdA dt_MX12_layWorld 45 rfl) rfl ?_
  refine K_aload_n 0 (kdA dt_MX12_layWorld 46 rfl) rfl rfl ?_
  obtain ⟨c1, h⟩ := h
  refine gf12_400 rfl (kdA dt_MX12_layWorld 47 rfl) c1 ?_
  refine K_icmp_ge (tgt := 183) (kdA dt_MX12_layWorld 48 rfl) rfl (fun c => ?_) (fun c => ?_)
  · have h := h.1 c
    refine K_aload_n 0 (kdA dt_MX12_layWorld 99 rfl) rfl rfl ?_
    refine gf12_100 rfl (kdA dt_MX12_layWorld 100 rfl) c1 ?_
    refine K_iload_n 1 (kdA dt_MX12_layWorld 101 rfl) rfl rfl ?_
    refine K_iload 3 (kdA dt_MX12_layWorld 102 rfl) rfl ?_
    refine K_if_eq (tgt := 205) (kdA dt_MX12_layWorld 103 rfl) rfl (fun c => ?_) (fun c => ?_)
    · have h := h.1 c
      refine K_iconst (kdA dt_MX12_layWorld 111 rfl) (by decide) ?_
      obtain ⟨c2, h⟩ := h
      obtain ⟨c3, h⟩ := h
      refine K_iastore' (kdA dt_MX12_layWorld 112 rfl) c2 c3.1 c3.2 (fun s1 es1 => ?_)
      have h := h s1 es1
      exact K_return (kdA dt_MX12_layWorld 113 rfl) rfl ⟨rfl, rfl, h⟩
    · have h := h.2 c
      refine K_aload_n 0 (kdA dt_MX12_layWorld 104 rfl) rfl rfl ?_
      refine gf12_91 rfl (kdA dt_MX12_layWorld 105 rfl) c1 ?_
      refine K_iload_n 1 (kdA dt_MX12_layWorld 106 rfl) rfl rfl ?_
      obtain ⟨c2, h⟩ := h
      obtain ⟨c3, h⟩ := h
      refine K_iaload (kdA dt_MX12_layWorld 107 rfl) c2 c3.1 c3.2 ?_
      refine K_iload 2 (kdA dt_MX12_layWorld 108 rfl) rfl ?_
      obtain ⟨c4, h⟩ := h
      refine K_imul (kdA dt_MX12_layWorld 109 rfl) c4 ?_
      refine K_goto (tgt := 206) (kdA dt_MX12_layWorld 110 rfl) rfl ?_
      obtain ⟨c5, h⟩ := h
      obtain ⟨c6, h⟩ := h
      refine K_iastore' (kdA dt_MX12_layWorld 112 rfl) c5 c6.1 c6.2 (fun s1 es1 => ?_)
      have h := h s1 es1
      exact K_return (kdA dt_MX12_layWorld 113 rfl) rfl ⟨rfl, rfl, h⟩
  · have h := h.2 c
    refine K_aload_n 0 (kdA dt_MX12_layWorld 49 rfl) rfl rfl ?_
    refine gf12_79 rfl (kdA dt_MX12_layWorld 50 rfl) c1 ?_
    refine K_iload 4 (kdA dt_MX12_layWorld 51 rfl) rfl ?_
    obtain ⟨c2, h⟩ := h
    obtain ⟨c3, h⟩ := h
    refine K_iaload (kdA dt_MX12_layWorld 52 rfl) c2 c3.1 c3.2 ?_
    refine K_iconst (kdA dt_MX12_layWorld 53 rfl) (by decide) ?_
    refine K_icmp_ge (tgt := 115) (kdA dt_MX12_layWorld 54 rfl) rfl (fun c => ?_) (fun c => ?_)
    · have h := h.1 c
      refine K_iconst (kdA dt_MX12_layWorld 65 rfl) (by decide) ?_
      refine K_istore (ls' := [(0, (2, a0)), (1, (0, a1)), (4, (0, a4)), (5, (0, a5)), (6, (0, a6)), (7, (0, 0))]) (kdA dt_MX12_layWorld 66 rfl) (by decide) rfl ?_
      refine K_iload 3 (kdA dt_MX12_layWorld 67 rfl) rfl ?_
      refine K_if_eq (tgt := 142) (kdA dt_MX12_layWorld 68 rfl) rfl (fun c => ?_) (fun c => ?_)
      · have h := h.1 c
        refine K_iconst (kdA dt_MX12_layWorld 78 rfl) (by decide) ?_
        refine K_istore (ls' := [(0, (2, a0)), (1, (0, a1)), (4, (0, a4)), (5, (0, 0)), (6, (0, a6)), (7, (0, 0))]) (kdA dt_MX12_layWorld 79 rfl) (by decide) rfl ?_
        refine K_iload 2 (kdA dt_MX12_layWorld 80 rfl) rfl ?_
        refine K_aload_n 0 (kdA dt_MX12_layWorld 81 rfl) rfl rfl ?_
        refine gf12_79 rfl (kdA dt_MX12_layWorld 82 rfl) c1 ?_
        refine K_iload 4 (kdA dt_MX12_layWorld 83 rfl) rfl ?_
        refine K_iaload (kdA dt_MX12_layWorld 84 rfl) c2 c3.1 c3.2 ?_
        refine K_iconst (kdA dt_MX12_layWorld 85 rfl) (by decide) ?_
        refine K_icmp_ne (tgt := 173) (kdA dt_MX12_layWorld 86 rfl) rfl (fun c => ?_) (fun c => ?_)
        · have h := h.1 c
          refine K_iconst (kdA dt_MX12_layWorld 94 rfl) (by decide) ?_
          obtain ⟨c4, h⟩ := h
          refine K_iadd (kdA dt_MX12_layWorld 95 rfl) c4 ?_
          refine K_istore (ls' := [(0, (2, a0)), (1, (0, a1)), (4, (0, (a4 + 0))), (5, (0, 0)), (6, (0, a6)), (7, (0, 0))]) (kdA dt_MX12_layWorld 96 rfl) (by decide) rfl ?_
          obtain ⟨c5, h⟩ := h
          refine K_iinc (ls' := [(0, (2, a0)), (1, (0, a1)), (4, (0, (a4 + 0))), (5, (0, 0)), (6, (0, (a6 + 1))), (7, (0, 0))]) 4 (kdA dt_MX12_layWorld 97 rfl) rfl c5 (by decide) rfl ?_
          refine K_goto (tgt := 76) (kdA dt_MX12_layWorld 98 rfl) rfl ?_
          refine K_pick [0, 1, 2, 3, 4] (ls' := [(0, (2, a0)), (1, (0, a1)), (4, (0, (a4 + 0))), (5, (0, 0)), (6, (0, (a6 + 1)))]) rfl ?_
          exact h
        · have h := h.2 c
          refine K_iload 5 (kdA dt_MX12_layWorld 87 rfl) rfl ?_
          refine K_if_eq (tgt := 173) (kdA dt_MX12_layWorld 88 rfl) rfl (fun _ => ?_) (fun c => absurd (by decide) c)
          refine K_iconst (kdA dt_MX12_layWorld 94 rfl) (by decide) ?_
          obtain ⟨c4, h⟩ := h
          refine K_iadd (kdA dt_MX12_layWorld 95 rfl) c4 ?_
          refine K_istore (ls' := [(0, (2, a0)), (1, (0, a1)), (4, (0, (a4 + 0))), (5, (0, 0)), (6, (0, a6)), (7, (0, 0))]) (kdA dt_MX12_layWorld 96 rfl) (by decide) rfl ?_
          obtain ⟨c5, h⟩ := h
          refine K_iinc (ls' := [(0, (2, a0)), (1, (0, a1)), (4, (0, (a4 + 0))), (5, (0, 0)), (6, (0, (a6 + 1))), (7, (0, 0))]) 4 (kdA dt_MX12_layWorld 97 rfl) rfl c5 (by decide) rfl ?_
          refine K_goto (tgt := 76) (kdA dt_MX12_layWorld 98 rfl) rfl ?_
          refine K_pick [0, 1, 2, 3, 4] (ls' := [(0, (2, a0)), (1, (0, a1)), (4, (0, (a4 + 0))), (5, (0, 0)), (6, (0, (a6 + 1)))]) rfl ?_
          exact h
      · have h := h.2 c
        refine K_aload_n 0 (kdA dt_MX12_layWorld 69 rfl) rfl rfl ?_
        refine gf12_79 rfl (kdA dt_MX12_layWorld 70 rfl) c1 ?_
        refine K_iload 4 (kdA dt_MX12_layWorld 71 rfl) rfl ?_
        refine K_iaload (kdA dt_MX12_layWorld 72 rfl) c2 c3.1 c3.2 ?_
        refine K_if_ne (tgt := 138) (kdA dt_MX12_layWorld 73 rfl) rfl (fun c => ?_) (fun c => ?_)
        · have h := h.1 c
          refine K_iconst (kdA dt_MX12_layWorld 76 rfl) (by decide) ?_
          refine K_goto (tgt := 143) (kdA dt_MX12_layWorld 77 rfl) rfl ?_
          refine K_istore (ls' := [(0, (2, a0)), (1, (0, a1)), (4, (0, a4)), (5, (0, 1)), (6, (0, a6)), (7, (0, 0))]) (kdA dt_MX12_layWorld 79 rfl) (by decide) rfl ?_
          refine K_iload 2 (kdA dt_MX12_layWorld 80 rfl) rfl ?_
          refine K_aload_n 0 (kdA dt_MX12_layWorld 81 rfl) rfl rfl ?_
          refine gf12_79 rfl (kdA dt_MX12_layWorld 82 rfl) c1 ?_
          refine K_iload 4 (kdA dt_MX12_layWorld 83 rfl) rfl ?_
          refine K_iaload (kdA dt_MX12_layWorld 84 rfl) c2 c3.1 c3.2 ?_
          refine K_iconst (kdA dt_MX12_layWorld 85 rfl) (by decide) ?_
          refine K_icmp_ne (tgt := 173) (kdA dt_MX12_layWorld 86 rfl) rfl (fun c => ?_) (fun c => ?_)
          · have h := h.1 c
            refine K_iconst (kdA dt_MX12_layWorld 94 rfl) (by decide) ?_
            obtain ⟨c4, h⟩ := h
            refine K_iadd (kdA dt_MX12_layWorld 95 rfl) c4 ?_
            refine K_istore (ls' := [(0, (2, a0)), (1, (0, a1)), (4, (0, (a4 + 0))), (5, (0, 1)), (6, (0, a6)), (7, (0, 0))]) (kdA dt_MX12_layWorld 96 rfl) (by decide) rfl ?_
            obtain ⟨c5, h⟩ := h
            refine K_iinc (ls' := [(0, (2, a0)), (1, (0, a1)), (4, (0, (a4 + 0))), (5, (0, 1)), (6, (0, (a6 + 1))), (7, (0, 0))]) 4 (kdA dt_MX12_layWorld 97 rfl) rfl c5 (by decide) rfl ?_
            refine K_goto (tgt := 76) (kdA dt_MX12_layWorld 98 rfl) rfl ?_
            refine K_pick [0, 1, 2, 3, 4] (ls' := [(0, (2, a0)), (1, (0, a1)), (4, (0, (a4 + 0))), (5, (0, 1)), (6, (0, (a6 + 1)))]) rfl ?_
            exact h
          · have h := h.2 c
            refine K_iload 5 (kdA dt_MX12_layWorld 87 rfl) rfl ?_
            refine K_if_eq (tgt := 173) (kdA dt_MX12_layWorld 88 rfl) rfl (fun _ => ?_) (fun c => absurd (by decide) c)
            refine K_iconst (kdA dt_MX12_layWorld 94 rfl) (by decide) ?_
            obtain ⟨c4, h⟩ := h
            refine K_iadd (kdA dt_MX12_layWorld 95 rfl) c4 ?_
            refine K_istore (ls' := [(0, (2, a0)), (1, (0, a1)), (4, (0, (a4 + 0))), (5, (0, 1)), (6, (0, a6)), (7, (0, 0))]) (kdA dt_MX12_layWorld 96 rfl) (by decide) rfl ?_
            obtain ⟨c5, h⟩ := h
            refine K_iinc (ls' := [(0, (2, a0)), (1, (0, a1)), (4, (0, (a4 + 0))), (5, (0, 1)), (6, (0, (a6 + 1))), (7, (0, 0))]) 4 (kdA dt_MX12_layWorld 97 rfl) rfl c5 (by decide) rfl ?_
            refine K_goto (tgt := 76) (kdA dt_MX12_layWorld 98 rfl) rfl ?_
            refine K_pick [0, 1, 2, 3, 4] (ls' := [(0, (2, a0)), (1, (0, a1)), (4, (0, (a4 + 0))), (5, (0, 1)), (6, (0, (a6 + 1)))]) rfl ?_
            exact h
        · have h := h.2 c
          refine K_iload 5 (kdA dt_MX12_layWorld 74 rfl) rfl ?_
          refine K_if_eq (tgt := 142) (kdA dt_MX12_layWorld 75 rfl) rfl (fun _ => ?_) (fun c => absurd (by decide) c)
          refine K_iconst (kdA dt_MX12_layWorld 78 rfl) (by decide) ?_
          refine K_istore (ls' := [(0, (2, a0)), (1, (0, a1)), (4, (0, a4)), (5, (0, 0)), (6, (0, a6)), (7, (0, 0))]) (kdA dt_MX12_layWorld 79 rfl) (by decide) rfl ?_
          refine K_iload 2 (kdA dt_MX12_layWorld 80 rfl) rfl ?_
          refine K_aload_n 0 (kdA dt_MX12_layWorld 81 rfl) rfl rfl ?_
          refine gf12_79 rfl (kdA dt_MX12_layWorld 82 rfl) c1 ?_
          refine K_iload 4 (kdA dt_MX12_layWorld 83 rfl) rfl ?_
          refine K_iaload (kdA dt_MX12_layWorld 84 rfl) c2 c3.1 c3.2 ?_
          refine K_iconst (kdA dt_MX12_layWorld 85 rfl) (by decide) ?_
          refine K_icmp_ne (tgt := 173) (kdA dt_MX12_layWorld 86 rfl) rfl (fun c => ?_) (fun c => ?_)
          · have h := h.1 c
            refine K_iconst (kdA dt_MX12_layWorld 94 rfl) (by decide) ?_
            obtain ⟨c4, h⟩ := h
            refine K_iadd (kdA dt_MX12_layWorld 95 rfl) c4 ?_
            refine K_istore (ls' := [(0, (2, a0)), (1, (0, a1)), (4, (0, (a4 + 0))), (5, (0, 0)), (6, (0, a6)), (7, (0, 0))]) (kdA dt_MX12_layWorld 96 rfl) (by decide) rfl ?_
            obtain ⟨c5, h⟩ := h
            refine K_iinc (ls' := [(0, (2, a0)), (1, (0, a1)), (4, (0, (a4 + 0))), (5, (0, 0)), (6, (0, (a6 + 1))), (7, (0, 0))]) 4 (kdA dt_MX12_layWorld 97 rfl) rfl c5 (by decide) rfl ?_
            refine K_goto (tgt := 76) (kdA dt_MX12_layWorld 98 rfl) rfl ?_
            refine K_pick [0, 1, 2, 3, 4] (ls' := [(0, (2, a0)), (1, (0, a1)), (4, (0, (a4 + 0))), (5, (0, 0)), (6, (0, (a6 + 1)))]) rfl ?_
            exact h
          · have h := h.2 c
            refine K_iload 5 (kdA dt_MX12_layWorld 87 rfl) rfl ?_
            refine K_if_eq (tgt := 173) (kdA dt_MX12_layWorld 88 rfl) rfl (fun _ => ?_) (fun c => absurd (by decide) c)
            refine K_iconst (kdA dt_MX12_layWorld 94 rfl) (by decide) ?_
            obtain ⟨c4, h⟩ := h
            refine K_iadd (kdA dt_MX12_layWorld 95 rfl) c4 ?_
            refine K_istore (ls' := [(0, (2, a0)), (1, (0, a1)), (4, (0, (a4 + 0))), (5, (0, 0)), (6, (0, a6)), (7, (0, 0))]) (kdA dt_MX12_layWorld 96 rfl) (by decide) rfl ?_
            obtain ⟨c5, h⟩ := h
            refine K_iinc (ls' := [(0, (2, a0)), (1, (0, a1)), (4, (0, (a4 + 0))), (5, (0, 0)), (6, (0, (a6 + 1))), (7, (0, 0))]) 4 (kdA dt_MX12_layWorld 97 rfl) rfl c5 (by decide) rfl ?_
            refine K_goto (tgt := 76) (kdA dt_MX12_layWorld 98 rfl) rfl ?_
            refine K_pick [0, 1, 2, 3, 4] (ls' := [(0, (2, a0)), (1, (0, a1)), (4, (0, (a4 + 0))), (5, (0, 0)), (6, (0, (a6 + 1)))]) rfl ?_
            exact h
    · have h := h.2 c
      refine K_aload_n 0 (kdA dt_MX12_layWorld 55 rfl) rfl rfl ?_
      refine K_iload_n 1 (kdA dt_MX12_layWorld 56 rfl) rfl rfl ?_
      refine K_aload_n 0 (kdA dt_MX12_layWorld 57 rfl) rfl rfl ?_
      refine gf12_76 rfl (kdA dt_MX12_layWorld 58 rfl) c1 ?_
      refine K_iload 4 (kdA dt_MX12_layWorld 59 rfl) rfl ?_
      obtain ⟨c4, h⟩ := h
      obtain ⟨c5, h⟩ := h
      refine K_iaload (kdA dt_MX12_layWorld 60 rfl) c4 c5.1 c5.2 ?_
      refine K_cVi (c := 12) (as := [(0, a1), (0, (σ (σ a0 35) a6))]) (st := []) (kdA dt_MX12_layWorld 61 rfl) rfl cl_MX12_isByWay lk12_446 rfl rfl (Nat.le_of_ble_eq_true rfl) c1 (Ci.mono h (fun x6 s1 h => ?_))
      refine K_if_eq (tgt := 115) (kdA dt_MX12_layWorld 62 rfl) rfl (fun c => ?_) (fun c => ?_)
      · have h := h.1 c
        refine K_iconst (kdA dt_MX12_layWorld 65 rfl) (by decide) ?_
        refine K_istore (ls' := [(0, (2, a0)), (1, (0, a1)), (4, (0, a4)), (5, (0, a5)), (6, (0, a6)), (7, (0, 0))]) (kdA dt_MX12_layWorld 66 rfl) (by decide) rfl ?_
        refine K_iload 3 (kdA dt_MX12_layWorld 67 rfl) rfl ?_
        refine K_if_eq (tgt := 142) (kdA dt_MX12_layWorld 68 rfl) rfl (fun c => ?_) (fun c => ?_)
        · have h := h.1 c
          refine K_iconst (kdA dt_MX12_layWorld 78 rfl) (by decide) ?_
          refine K_istore (ls' := [(0, (2, a0)), (1, (0, a1)), (4, (0, a4)), (5, (0, 0)), (6, (0, a6)), (7, (0, 0))]) (kdA dt_MX12_layWorld 79 rfl) (by decide) rfl ?_
          refine K_iload 2 (kdA dt_MX12_layWorld 80 rfl) rfl ?_
          refine K_aload_n 0 (kdA dt_MX12_layWorld 81 rfl) rfl rfl ?_
          refine gf12_79 rfl (kdA dt_MX12_layWorld 82 rfl) c1 ?_
          refine K_iload 4 (kdA dt_MX12_layWorld 83 rfl) rfl ?_
          obtain ⟨c7, h⟩ := h
          obtain ⟨c8, h⟩ := h
          refine K_iaload (kdA dt_MX12_layWorld 84 rfl) c7 c8.1 c8.2 ?_
          refine K_iconst (kdA dt_MX12_layWorld 85 rfl) (by decide) ?_
          refine K_icmp_ne (tgt := 173) (kdA dt_MX12_layWorld 86 rfl) rfl (fun c => ?_) (fun c => ?_)
          · have h := h.1 c
            refine K_iconst (kdA dt_MX12_layWorld 94 rfl) (by decide) ?_
            obtain ⟨c9, h⟩ := h
            refine K_iadd (kdA dt_MX12_layWorld 95 rfl) c9 ?_
            refine K_istore (ls' := [(0, (2, a0)), (1, (0, a1)), (4, (0, (a4 + 0))), (5, (0, 0)), (6, (0, a6)), (7, (0, 0))]) (kdA dt_MX12_layWorld 96 rfl) (by decide) rfl ?_
            obtain ⟨c10, h⟩ := h
            refine K_iinc (ls' := [(0, (2, a0)), (1, (0, a1)), (4, (0, (a4 + 0))), (5, (0, 0)), (6, (0, (a6 + 1))), (7, (0, 0))]) 4 (kdA dt_MX12_layWorld 97 rfl) rfl c10 (by decide) rfl ?_
            refine K_goto (tgt := 76) (kdA dt_MX12_layWorld 98 rfl) rfl ?_
            refine K_pick [0, 1, 2, 3, 4] (ls' := [(0, (2, a0)), (1, (0, a1)), (4, (0, (a4 + 0))), (5, (0, 0)), (6, (0, (a6 + 1)))]) rfl ?_
            exact h
          · have h := h.2 c
            refine K_iload 5 (kdA dt_MX12_layWorld 87 rfl) rfl ?_
            refine K_if_eq (tgt := 173) (kdA dt_MX12_layWorld 88 rfl) rfl (fun _ => ?_) (fun c => absurd (by decide) c)
            refine K_iconst (kdA dt_MX12_layWorld 94 rfl) (by decide) ?_
            obtain ⟨c9, h⟩ := h
            refine K_iadd (kdA dt_MX12_layWorld 95 rfl) c9 ?_
            refine K_istore (ls' := [(0, (2, a0)), (1, (0, a1)), (4, (0, (a4 + 0))), (5, (0, 0)), (6, (0, a6)), (7, (0, 0))]) (kdA dt_MX12_layWorld 96 rfl) (by decide) rfl ?_
            obtain ⟨c10, h⟩ := h
            refine K_iinc (ls' := [(0, (2, a0)), (1, (0, a1)), (4, (0, (a4 + 0))), (5, (0, 0)), (6, (0, (a6 + 1))), (7, (0, 0))]) 4 (kdA dt_MX12_layWorld 97 rfl) rfl c10 (by decide) rfl ?_
            refine K_goto (tgt := 76) (kdA dt_MX12_layWorld 98 rfl) rfl ?_
            refine K_pick [0, 1, 2, 3, 4] (ls' := [(0, (2, a0)), (1, (0, a1)), (4, (0, (a4 + 0))), (5, (0, 0)), (6, (0, (a6 + 1)))]) rfl ?_
            exact h
        · have h := h.2 c
          refine K_aload_n 0 (kdA dt_MX12_layWorld 69 rfl) rfl rfl ?_
          refine gf12_79 rfl (kdA dt_MX12_layWorld 70 rfl) c1 ?_
          refine K_iload 4 (kdA dt_MX12_layWorld 71 rfl) rfl ?_
          obtain ⟨c7, h⟩ := h
          obtain ⟨c8, h⟩ := h
          refine K_iaload (kdA dt_MX12_layWorld 72 rfl) c7 c8.1 c8.2 ?_
          refine K_if_ne (tgt := 138) (kdA dt_MX12_layWorld 73 rfl) rfl (fun c => ?_) (fun c => ?_)
          · have h := h.1 c
            refine K_iconst (kdA dt_MX12_layWorld 76 rfl) (by decide) ?_
            refine K_goto (tgt := 143) (kdA dt_MX12_layWorld 77 rfl) rfl ?_
            refine K_istore (ls' := [(0, (2, a0)), (1, (0, a1)), (4, (0, a4)), (5, (0, 1)), (6, (0, a6)), (7, (0, 0))]) (kdA dt_MX12_layWorld 79 rfl) (by decide) rfl ?_
            refine K_iload 2 (kdA dt_MX12_layWorld 80 rfl) rfl ?_
            refine K_aload_n 0 (kdA dt_MX12_layWorld 81 rfl) rfl rfl ?_
            refine gf12_79 rfl (kdA dt_MX12_layWorld 82 rfl) c1 ?_
            refine K_iload 4 (kdA dt_MX12_layWorld 83 rfl) rfl ?_
            refine K_iaload (kdA dt_MX12_layWorld 84 rfl) c7 c8.1 c8.2 ?_
            refine K_iconst (kdA dt_MX12_layWorld 85 rfl) (by decide) ?_
            refine K_icmp_ne (tgt := 173) (kdA dt_MX12_layWorld 86 rfl) rfl (fun c => ?_) (fun c => ?_)
            · have h := h.1 c
              refine K_iconst (kdA dt_MX12_layWorld 94 rfl) (by decide) ?_
              obtain ⟨c9, h⟩ := h
              refine K_iadd (kdA dt_MX12_layWorld 95 rfl) c9 ?_
              refine K_istore (ls' := [(0, (2, a0)), (1, (0, a1)), (4, (0, (a4 + 0))), (5, (0, 1)), (6, (0, a6)), (7, (0, 0))]) (kdA dt_MX12_layWorld 96 rfl) (by decide) rfl ?_
              obtain ⟨c10, h⟩ := h
              refine K_iinc (ls' := [(0, (2, a0)), (1, (0, a1)), (4, (0, (a4 + 0))), (5, (0, 1)), (6, (0, (a6 + 1))), (7, (0, 0))]) 4 (kdA dt_MX12_layWorld 97 rfl) rfl c10 (by decide) rfl ?_
              refine K_goto (tgt := 76) (kdA dt_MX12_layWorld 98 rfl) rfl ?_
              refine K_pick [0, 1, 2, 3, 4] (ls' := [(0, (2, a0)), (1, (0, a1)), (4, (0, (a4 + 0))), (5, (0, 1)), (6, (0, (a6 + 1)))]) rfl ?_
              exact h
            · have h := h.2 c
              refine K_iload 5 (kdA dt_MX12_layWorld 87 rfl) rfl ?_
              refine K_if_eq (tgt := 173) (kdA dt_MX12_layWorld 88 rfl) rfl (fun _ => ?_) (fun c => absurd (by decide) c)
              refine K_iconst (kdA dt_MX12_layWorld 94 rfl) (by decide) ?_
              obtain ⟨c9, h⟩ := h
              refine K_iadd (kdA dt_MX12_layWorld 95 rfl) c9 ?_
              refine K_istore (ls' := [(0, (2, a0)), (1, (0, a1)), (4, (0, (a4 + 0))), (5, (0, 1)), (6, (0, a6)), (7, (0, 0))]) (kdA dt_MX12_layWorld 96 rfl) (by decide) rfl ?_
              obtain ⟨c10, h⟩ := h
              refine K_iinc (ls' := [(0, (2, a0)), (1, (0, a1)), (4, (0, (a4 + 0))), (5, (0, 1)), (6, (0, (a6 + 1))), (7, (0, 0))]) 4 (kdA dt_MX12_layWorld 97 rfl) rfl c10 (by decide) rfl ?_
              refine K_goto (tgt := 76) (kdA dt_MX12_layWorld 98 rfl) rfl ?_
              refine K_pick [0, 1, 2, 3, 4] (ls' := [(0, (2, a0)), (1, (0, a1)), (4, (0, (a4 + 0))), (5, (0, 1)), (6, (0, (a6 + 1)))]) rfl ?_
              exact h
          · have h := h.2 c
            refine K_iload 5 (kdA dt_MX12_layWorld 74 rfl) rfl ?_
            refine K_if_eq (tgt := 142) (kdA dt_MX12_layWorld 75 rfl) rfl (fun _ => ?_) (fun c => absurd (by decide) c)
            refine K_iconst (kdA dt_MX12_layWorld 78 rfl) (by decide) ?_
            refine K_istore (ls' := [(0, (2, a0)), (1, (0, a1)), (4, (0, a4)), (5, (0, 0)), (6, (0, a6)), (7, (0, 0))]) (kdA dt_MX12_layWorld 79 rfl) (by decide) rfl ?_
            refine K_iload 2 (kdA dt_MX12_layWorld 80 rfl) rfl ?_
            refine K_aload_n 0 (kdA dt_MX12_layWorld 81 rfl) rfl rfl ?_
            refine gf12_79 rfl (kdA dt_MX12_layWorld 82 rfl) c1 ?_
            refine K_iload 4 (kdA dt_MX12_layWorld 83 rfl) rfl ?_
            refine K_iaload (kdA dt_MX12_layWorld 84 rfl) c7 c8.1 c8.2 ?_
            refine K_iconst (kdA dt_MX12_layWorld 85 rfl) (by decide) ?_
            refine K_icmp_ne (tgt := 173) (kdA dt_MX12_layWorld 86 rfl) rfl (fun c => ?_) (fun c => ?_)
            · have h := h.1 c
              refine K_iconst (kdA dt_MX12_layWorld 94 rfl) (by decide) ?_
              obtain ⟨c9, h⟩ := h
              refine K_iadd (kdA dt_MX12_layWorld 95 rfl) c9 ?_
              refine K_istore (ls' := [(0, (2, a0)), (1, (0, a1)), (4, (0, (a4 + 0))), (5, (0, 0)), (6, (0, a6)), (7, (0, 0))]) (kdA dt_MX12_layWorld 96 rfl) (by decide) rfl ?_
              obtain ⟨c10, h⟩ := h
              refine K_iinc (ls' := [(0, (2, a0)), (1, (0, a1)), (4, (0, (a4 + 0))), (5, (0, 0)), (6, (0, (a6 + 1))), (7, (0, 0))]) 4 (kdA dt_MX12_layWorld 97 rfl) rfl c10 (by decide) rfl ?_
              refine K_goto (tgt := 76) (kdA dt_MX12_layWorld 98 rfl) rfl ?_
              refine K_pick [0, 1, 2, 3, 4] (ls' := [(0, (2, a0)), (1, (0, a1)), (4, (0, (a4 + 0))), (5, (0, 0)), (6, (0, (a6 + 1)))]) rfl ?_
              exact h
            · have h := h.2 c
              refine K_iload 5 (kdA dt_MX12_layWorld 87 rfl) rfl ?_
              refine K_if_eq (tgt := 173) (kdA dt_MX12_layWorld 88 rfl) rfl (fun _ => ?_) (fun c => absurd (by decide) c)
              refine K_iconst (kdA dt_MX12_layWorld 94 rfl) (by decide) ?_
              obtain ⟨c9, h⟩ := h
              refine K_iadd (kdA dt_MX12_layWorld 95 rfl) c9 ?_
              refine K_istore (ls' := [(0, (2, a0)), (1, (0, a1)), (4, (0, (a4 + 0))), (5, (0, 0)), (6, (0, a6)), (7, (0, 0))]) (kdA dt_MX12_layWorld 96 rfl) (by decide) rfl ?_
              obtain ⟨c10, h⟩ := h
              refine K_iinc (ls' := [(0, (2, a0)), (1, (0, a1)), (4, (0, (a4 + 0))), (5, (0, 0)), (6, (0, (a6 + 1))), (7, (0, 0))]) 4 (kdA dt_MX12_layWorld 97 rfl) rfl c10 (by decide) rfl ?_
              refine K_goto (tgt := 76) (kdA dt_MX12_layWorld 98 rfl) rfl ?_
              refine K_pick [0, 1, 2, 3, 4] (ls' := [(0, (2, a0)), (1, (0, a1)), (4, (0, (a4 + 0))), (5, (0, 0)), (6, (0, (a6 + 1)))]) rfl ?_
              exact h
      · have h := h.2 c
        refine K_iconst (kdA dt_MX12_layWorld 63 rfl) (by decide) ?_
        refine K_goto (tgt := 116) (kdA dt_MX12_layWorld 64 rfl) rfl ?_
        refine K_istore (ls' := [(0, (2, a0)), (1, (0, a1)), (4, (0, a4)), (5, (0, a5)), (6, (0, a6)), (7, (0, 1))]) (kdA dt_MX12_layWorld 66 rfl) (by decide) rfl ?_
        refine K_iload 3 (kdA dt_MX12_layWorld 67 rfl) rfl ?_
        refine K_if_eq (tgt := 142) (kdA dt_MX12_layWorld 68 rfl) rfl (fun c => ?_) (fun c => ?_)
        · have h := h.1 c
          refine K_iconst (kdA dt_MX12_layWorld 78 rfl) (by decide) ?_
          refine K_istore (ls' := [(0, (2, a0)), (1, (0, a1)), (4, (0, a4)), (5, (0, 0)), (6, (0, a6)), (7, (0, 1))]) (kdA dt_MX12_layWorld 79 rfl) (by decide) rfl ?_
          refine K_iload 2 (kdA dt_MX12_layWorld 80 rfl) rfl ?_
          refine K_aload_n 0 (kdA dt_MX12_layWorld 81 rfl) rfl rfl ?_
          refine gf12_79 rfl (kdA dt_MX12_layWorld 82 rfl) c1 ?_
          refine K_iload 4 (kdA dt_MX12_layWorld 83 rfl) rfl ?_
          obtain ⟨c7, h⟩ := h
          obtain ⟨c8, h⟩ := h
          refine K_iaload (kdA dt_MX12_layWorld 84 rfl) c7 c8.1 c8.2 ?_
          refine K_iconst (kdA dt_MX12_layWorld 85 rfl) (by decide) ?_
          refine K_icmp_ne (tgt := 173) (kdA dt_MX12_layWorld 86 rfl) rfl (fun c => ?_) (fun c => ?_)
          · have h := h.1 c
            refine K_iconst (kdA dt_MX12_layWorld 94 rfl) (by decide) ?_
            obtain ⟨c9, h⟩ := h
            refine K_iadd (kdA dt_MX12_layWorld 95 rfl) c9 ?_
            refine K_istore (ls' := [(0, (2, a0)), (1, (0, a1)), (4, (0, (a4 + 0))), (5, (0, 0)), (6, (0, a6)), (7, (0, 1))]) (kdA dt_MX12_layWorld 96 rfl) (by decide) rfl ?_
            obtain ⟨c10, h⟩ := h
            refine K_iinc (ls' := [(0, (2, a0)), (1, (0, a1)), (4, (0, (a4 + 0))), (5, (0, 0)), (6, (0, (a6 + 1))), (7, (0, 1))]) 4 (kdA dt_MX12_layWorld 97 rfl) rfl c10 (by decide) rfl ?_
            refine K_goto (tgt := 76) (kdA dt_MX12_layWorld 98 rfl) rfl ?_
            refine K_pick [0, 1, 2, 3, 4] (ls' := [(0, (2, a0)), (1, (0, a1)), (4, (0, (a4 + 0))), (5, (0, 0)), (6, (0, (a6 + 1)))]) rfl ?_
            exact h
          · have h := h.2 c
            refine K_iload 5 (kdA dt_MX12_layWorld 87 rfl) rfl ?_
            refine K_if_eq (tgt := 173) (kdA dt_MX12_layWorld 88 rfl) rfl (fun c => absurd c (by decide)) (fun _ => ?_)
            refine K_aload_n 0 (kdA dt_MX12_layWorld 89 rfl) rfl rfl ?_
            refine gf12_82 rfl (kdA dt_MX12_layWorld 90 rfl) c1 ?_
            refine K_iload 4 (kdA dt_MX12_layWorld 91 rfl) rfl ?_
            obtain ⟨c9, h⟩ := h
            obtain ⟨c10, h⟩ := h
            refine K_iaload (kdA dt_MX12_layWorld 92 rfl) c9 c10.1 c10.2 ?_
            refine K_goto (tgt := 174) (kdA dt_MX12_layWorld 93 rfl) rfl ?_
            obtain ⟨c11, h⟩ := h
            refine K_iadd (kdA dt_MX12_layWorld 95 rfl) c11 ?_
            refine K_istore (ls' := [(0, (2, a0)), (1, (0, a1)), (4, (0, (a4 + (s1 (s1 a0 37) a6)))), (5, (0, 0)), (6, (0, a6)), (7, (0, 1))]) (kdA dt_MX12_layWorld 96 rfl) (by decide) rfl ?_
            obtain ⟨c12, h⟩ := h
            refine K_iinc (ls' := [(0, (2, a0)), (1, (0, a1)), (4, (0, (a4 + (s1 (s1 a0 37) a6)))), (5, (0, 0)), (6, (0, (a6 + 1))), (7, (0, 1))]) 4 (kdA dt_MX12_layWorld 97 rfl) rfl c12 (by decide) rfl ?_
            refine K_goto (tgt := 76) (kdA dt_MX12_layWorld 98 rfl) rfl ?_
            refine K_pick [0, 1, 2, 3, 4] (ls' := [(0, (2, a0)), (1, (0, a1)), (4, (0, (a4 + (s1 (s1 a0 37) a6)))), (5, (0, 0)), (6, (0, (a6 + 1)))]) rfl ?_
            exact h
        · have h := h.2 c
          refine K_aload_n 0 (kdA dt_MX12_layWorld 69 rfl) rfl rfl ?_
          refine gf12_79 rfl (kdA dt_MX12_layWorld 70 rfl) c1 ?_
          refine K_iload 4 (kdA dt_MX12_layWorld 71 rfl) rfl ?_
          obtain ⟨c7, h⟩ := h
          obtain ⟨c8, h⟩ := h
          refine K_iaload (kdA dt_MX12_layWorld 72 rfl) c7 c8.1 c8.2 ?_
          refine K_if_ne (tgt := 138) (kdA dt_MX12_layWorld 73 rfl) rfl (fun c => ?_) (fun c => ?_)
          · have h := h.1 c
            refine K_iconst (kdA dt_MX12_layWorld 76 rfl) (by decide) ?_
            refine K_goto (tgt := 143) (kdA dt_MX12_layWorld 77 rfl) rfl ?_
            refine K_istore (ls' := [(0, (2, a0)), (1, (0, a1)), (4, (0, a4)), (5, (0, 1)), (6, (0, a6)), (7, (0, 1))]) (kdA dt_MX12_layWorld 79 rfl) (by decide) rfl ?_
            refine K_iload 2 (kdA dt_MX12_layWorld 80 rfl) rfl ?_
            refine K_aload_n 0 (kdA dt_MX12_layWorld 81 rfl) rfl rfl ?_
            refine gf12_79 rfl (kdA dt_MX12_layWorld 82 rfl) c1 ?_
            refine K_iload 4 (kdA dt_MX12_layWorld 83 rfl) rfl ?_
            refine K_iaload (kdA dt_MX12_layWorld 84 rfl) c7 c8.1 c8.2 ?_
            refine K_iconst (kdA dt_MX12_layWorld 85 rfl) (by decide) ?_
            refine K_icmp_ne (tgt := 173) (kdA dt_MX12_layWorld 86 rfl) rfl (fun c => ?_) (fun c => ?_)
            · have h := h.1 c
              refine K_iconst (kdA dt_MX12_layWorld 94 rfl) (by decide) ?_
              obtain ⟨c9, h⟩ := h
              refine K_iadd (kdA dt_MX12_layWorld 95 rfl) c9 ?_
              refine K_istore (ls' := [(0, (2, a0)), (1, (0, a1)), (4, (0, (a4 + 0))), (5, (0, 1)), (6, (0, a6)), (7, (0, 1))]) (kdA dt_MX12_layWorld 96 rfl) (by decide) rfl ?_
              obtain ⟨c10, h⟩ := h
              refine K_iinc (ls' := [(0, (2, a0)), (1, (0, a1)), (4, (0, (a4 + 0))), (5, (0, 1)), (6, (0, (a6 + 1))), (7, (0, 1))]) 4 (kdA dt_MX12_layWorld 97 rfl) rfl c10 (by decide) rfl ?_
              refine K_goto (tgt := 76) (kdA dt_MX12_layWorld 98 rfl) rfl ?_
              refine K_pick [0, 1, 2, 3, 4] (ls' := [(0, (2, a0)), (1, (0, a1)), (4, (0, (a4 + 0))), (5, (0, 1)), (6, (0, (a6 + 1)))]) rfl ?_
              exact h
            · have h := h.2 c
              refine K_iload 5 (kdA dt_MX12_layWorld 87 rfl) rfl ?_
              refine K_if_eq (tgt := 173) (kdA dt_MX12_layWorld 88 rfl) rfl (fun c => absurd c (by decide)) (fun _ => ?_)
              refine K_aload_n 0 (kdA dt_MX12_layWorld 89 rfl) rfl rfl ?_
              refine gf12_82 rfl (kdA dt_MX12_layWorld 90 rfl) c1 ?_
              refine K_iload 4 (kdA dt_MX12_layWorld 91 rfl) rfl ?_
              obtain ⟨c9, h⟩ := h
              obtain ⟨c10, h⟩ := h
              refine K_iaload (kdA dt_MX12_layWorld 92 rfl) c9 c10.1 c10.2 ?_
              refine K_goto (tgt := 174) (kdA dt_MX12_layWorld 93 rfl) rfl ?_
              obtain ⟨c11, h⟩ := h
              refine K_iadd (kdA dt_MX12_layWorld 95 rfl) c11 ?_
              refine K_istore (ls' := [(0, (2, a0)), (1, (0, a1)), (4, (0, (a4 + (s1 (s1 a0 37) a6)))), (5, (0, 1)), (6, (0, a6)), (7, (0, 1))]) (kdA dt_MX12_layWorld 96 rfl) (by decide) rfl ?_
              obtain ⟨c12, h⟩ := h
              refine K_iinc (ls' := [(0, (2, a0)), (1, (0, a1)), (4, (0, (a4 + (s1 (s1 a0 37) a6)))), (5, (0, 1)), (6, (0, (a6 + 1))), (7, (0, 1))]) 4 (kdA dt_MX12_layWorld 97 rfl) rfl c12 (by decide) rfl ?_
              refine K_goto (tgt := 76) (kdA dt_MX12_layWorld 98 rfl) rfl ?_
              refine K_pick [0, 1, 2, 3, 4] (ls' := [(0, (2, a0)), (1, (0, a1)), (4, (0, (a4 + (s1 (s1 a0 37) a6)))), (5, (0, 1)), (6, (0, (a6 + 1)))]) rfl ?_
              exact h
          · have h := h.2 c
            refine K_iload 5 (kdA dt_MX12_layWorld 74 rfl) rfl ?_
            refine K_if_eq (tgt := 142) (kdA dt_MX12_layWorld 75 rfl) rfl (fun c => absurd c (by decide)) (fun _ => ?_)
            refine K_iconst (kdA dt_MX12_layWorld 76 rfl) (by decide) ?_
            refine K_goto (tgt := 143) (kdA dt_MX12_layWorld 77 rfl) rfl ?_
            refine K_istore (ls' := [(0, (2, a0)), (1, (0, a1)), (4, (0, a4)), (5, (0, 1)), (6, (0, a6)), (7, (0, 1))]) (kdA dt_MX12_layWorld 79 rfl) (by decide) rfl ?_
            refine K_iload 2 (kdA dt_MX12_layWorld 80 rfl) rfl ?_
            refine K_aload_n 0 (kdA dt_MX12_layWorld 81 rfl) rfl rfl ?_
            refine gf12_79 rfl (kdA dt_MX12_layWorld 82 rfl) c1 ?_
            refine K_iload 4 (kdA dt_MX12_layWorld 83 rfl) rfl ?_
            refine K_iaload (kdA dt_MX12_layWorld 84 rfl) c7 c8.1 c8.2 ?_
            refine K_iconst (kdA dt_MX12_layWorld 85 rfl) (by decide) ?_
            refine K_icmp_ne (tgt := 173) (kdA dt_MX12_layWorld 86 rfl) rfl (fun c => ?_) (fun c => ?_)
            · have h := h.1 c
              refine K_iconst (kdA dt_MX12_layWorld 94 rfl) (by decide) ?_
              obtain ⟨c9, h⟩ := h
              refine K_iadd (kdA dt_MX12_layWorld 95 rfl) c9 ?_
              refine K_istore (ls' := [(0, (2, a0)), (1, (0, a1)), (4, (0, (a4 + 0))), (5, (0, 1)), (6, (0, a6)), (7, (0, 1))]) (kdA dt_MX12_layWorld 96 rfl) (by decide) rfl ?_
              obtain ⟨c10, h⟩ := h
              refine K_iinc (ls' := [(0, (2, a0)), (1, (0, a1)), (4, (0, (a4 + 0))), (5, (0, 1)), (6, (0, (a6 + 1))), (7, (0, 1))]) 4 (kdA dt_MX12_layWorld 97 rfl) rfl c10 (by decide) rfl ?_
              refine K_goto (tgt := 76) (kdA dt_MX12_layWorld 98 rfl) rfl ?_
              refine K_pick [0, 1, 2, 3, 4] (ls' := [(0, (2, a0)), (1, (0, a1)), (4, (0, (a4 + 0))), (5, (0, 1)), (6, (0, (a6 + 1)))]) rfl ?_
              exact h
            · have h := h.2 c
              refine K_iload 5 (kdA dt_MX12_layWorld 87 rfl) rfl ?_
              refine K_if_eq (tgt := 173) (kdA dt_MX12_layWorld 88 rfl) rfl (fun c => absurd c (by decide)) (fun _ => ?_)
              refine K_aload_n 0 (kdA dt_MX12_layWorld 89 rfl) rfl rfl ?_
              refine gf12_82 rfl (kdA dt_MX12_layWorld 90 rfl) c1 ?_
              refine K_iload 4 (kdA dt_MX12_layWorld 91 rfl) rfl ?_
              obtain ⟨c9, h⟩ := h
              obtain ⟨c10, h⟩ := h
              refine K_iaload (kdA dt_MX12_layWorld 92 rfl) c9 c10.1 c10.2 ?_
              refine K_goto (tgt := 174) (kdA dt_MX12_layWorld 93 rfl) rfl ?_
              obtain ⟨c11, h⟩ := h
              refine K_iadd (kdA dt_MX12_layWorld 95 rfl) c11 ?_
              refine K_istore (ls' := [(0, (2, a0)), (1, (0, a1)), (4, (0, (a4 + (s1 (s1 a0 37) a6)))), (5, (0, 1)), (6, (0, a6)), (7, (0, 1))]) (kdA dt_MX12_layWorld 96 rfl) (by decide) rfl ?_
              obtain ⟨c12, h⟩ := h
              refine K_iinc (ls' := [(0, (2, a0)), (1, (0, a1)), (4, (0, (a4 + (s1 (s1 a0 37) a6)))), (5, (0, 1)), (6, (0, (a6 + 1))), (7, (0, 1))]) 4 (kdA dt_MX12_layWorld 97 rfl) rfl c12 (by decide) rfl ?_
              refine K_goto (tgt := 76) (kdA dt_MX12_layWorld 98 rfl) rfl ?_
              refine K_pick [0, 1, 2, 3, 4] (ls' := [(0, (2, a0)), (1, (0, a1)), (4, (0, (a4 + (s1 (s1 a0 37) a6)))), (5, (0, 1)), (6, (0, (a6 + 1)))]) rfl ?_
              exact h
theorem EX12_layWorld {d n : Nat} {Q : kS → Prop} {a0 a1 a2 a3 : Int} {σ : kS} (h : (-2147483648 ≤ a1 ∧ a1 ≤ 2147483647) → (-2147483648 ≤ a2 ∧ a2 ≤ 2147483647) → (-2147483648 ≤ a3 ∧ a3 ≤ 2147483647) → kokw n σ → LX12_layWorld_0 d n Q a0 a1 a2 a3 σ) : Cv (d + 1) MX12_layWorld [(2, a0), (0, a1), (0, a2), (0, a3)] n σ Q := Tri_of (by decide +kernel) (Nat.le_of_ble_eq_true rfl) (fun hk hw => h (hk (0, a1) (List.mem_of_getElem? (i := 1) rfl)) (hk (0, a2) (List.mem_of_getElem? (i := 2) rfl)) (hk (0, a3) (List.mem_of_getElem? (i := 3) rfl)) hw)

def LX12_layWorlds_0 (d n : Nat) (Q : kS → Prop) (a0 : Int) (a1 : Int) (a2 : Int) (σ : kS) : Prop := K (d + 1) MX12_layWorlds (kPv n Q) (0, 0) 0 [(0, (2, a0)), (1, (0, a1)), (2, (0, a2))] [] n σ
def LX12_layWorlds_2 (d n : Nat) (Q : kS → Prop) (a0 : Int) (a1 : Int) (a2 : Int) (a3 : Int) (σ : kS) : Prop := K (d + 1) MX12_layWorlds (kPv n Q) (0, 0) 2 [(0, (2, a0)), (1, (0, a1)), (2, (0, a2)), (3, (0, a3))] [] n σ
theorem SX12_layWorlds_0 {d n : Nat} {Q : kS → Prop} {a0 a1 a2 : Int} {σ : kS} (h : LX12_layWorlds_2 d n Q a0 a1 a2 0 σ) : LX12_layWorlds_0 d n Q a0 a1 a2 σ := by
  unfold LX12_layWorlds_0
  refine K_iconst (kdA dt_MX12_layWorlds 0 rfl) (by decide) ?_
  refine K_istore_n (ls' := [(0, (2, a0)), (1, (0, a1)), (2, (0, a2)), (3, (0, 0))]) (kdA dt_MX12_layWorlds 1 rfl) rfl (by decide) rfl ?_
  exact h
theorem SX12_layWorlds_2 {d n : Nat} {Q : kS → Prop} {a0 a1 a2 a3 : Int} {σ : kS} (h : isO 12 n a0 ∧ (((σ a0 14) ≤ a3 → Q σ) ∧ (¬ (σ a0 14) ≤ a3 → Cv d MX12_layWorld [(2, a0), (0, a3), (0, a1), (0, a2)] n σ (fun s1 => (-2147483648 ≤ (a3 + 1) ∧ (a3 + 1) ≤ 2147483647) ∧ (LX12_layWorlds_2 d n Q a0 a1 a2 (a3 + 1) s1))))) : LX12_layWorlds_2 d n Q a0 a1 a2 a3 σ := by
  unfold LX12_layWorlds_2
  refine K_iload_n 3 (kdA dt_MX12_layWorlds 2 rfl) rfl rfl ?_
  refine K_aload_n 0 (kdA dt_MX12_layWorlds 3 rfl) rfl rfl ?_
  obtain ⟨c1, h⟩ := h
  refine gf12_306 rfl (kdA dt_MX12_layWorlds 4 rfl) c1 ?_
  refine K_icmp_ge (tgt := 23) (kdA dt_MX12_layWorlds 5 rfl) rfl (fun c => ?_) (fun c => ?_)
  · have h := h.1 c
    exact K_return (kdA dt_MX12_layWorlds 13 rfl) rfl ⟨rfl, rfl, h⟩
  · have h := h.2 c
    refine K_aload_n 0 (kdA dt_MX12_layWorlds 6 rfl) rfl rfl ?_
    refine K_iload_n 3 (kdA dt_MX12_layWorlds 7 rfl) rfl rfl ?_
    refine K_iload_n 1 (kdA dt_MX12_layWorlds 8 rfl) rfl rfl ?_
    refine K_iload_n 2 (kdA dt_MX12_layWorlds 9 rfl) rfl rfl ?_
    refine K_cVv (c := 12) (as := [(0, a3), (0, a1), (0, a2)]) (st := []) (kdA dt_MX12_layWorlds 10 rfl) rfl cl_MX12_layWorld lk12_452 rfl rfl (Nat.le_of_ble_eq_true rfl) c1 (Cv.mono h (fun s1 h => ?_))
    obtain ⟨c3, h⟩ := h
    refine K_iinc (ls' := [(0, (2, a0)), (1, (0, a1)), (2, (0, a2)), (3, (0, (a3 + 1)))]) 3 (kdA dt_MX12_layWorlds 11 rfl) rfl c3 (by decide) rfl ?_
    refine K_goto (tgt := 2) (kdA dt_MX12_layWorlds 12 rfl) rfl ?_
    exact h
theorem EX12_layWorlds {d n : Nat} {Q : kS → Prop} {a0 a1 a2 : Int} {σ : kS} (h : (-2147483648 ≤ a1 ∧ a1 ≤ 2147483647) → (-2147483648 ≤ a2 ∧ a2 ≤ 2147483647) → kokw n σ → LX12_layWorlds_0 d n Q a0 a1 a2 σ) : Cv (d + 1) MX12_layWorlds [(2, a0), (0, a1), (0, a2)] n σ Q := Tri_of (by decide +kernel) (Nat.le_of_ble_eq_true rfl) (fun hk hw => h (hk (0, a1) (List.mem_of_getElem? (i := 1) rfl)) (hk (0, a2) (List.mem_of_getElem? (i := 2) rfl)) hw)

def LX12_leaveNow_0 (d n : Nat) (Q : kS → Prop) (a0 : Int) (σ : kS) : Prop := K (d + 1) MX12_leaveNow (kPv n Q) (0, 0) 0 [(0, (2, a0))] [] n σ
def LX12_leaveNow_2 (d n : Nat) (Q : kS → Prop) (a0 : Int) (a1 : Int) (σ : kS) : Prop := K (d + 1) MX12_leaveNow (kPv n Q) (0, 0) 2 [(0, (2, a0)), (1, (0, a1))] [] n σ
theorem SX12_leaveNow_0 {d n : Nat} {Q : kS → Prop} {a0 : Int} {σ : kS} (h : LX12_leaveNow_2 d n Q a0 0 σ) : LX12_leaveNow_0 d n Q a0 σ := by
  unfold LX12_leaveNow_0
  refine K_iconst (kdA dt_MX12_leaveNow 0 rfl) (by decide) ?_
  refine K_istore_n (ls' := [(0, (2, a0)), (1, (0, 0))]) (kdA dt_MX12_leaveNow 1 rfl) rfl (by decide) rfl ?_
  exact h
theorem SX12_leaveNow_2 {d n : Nat} {Q : kS → Prop} {a0 a1 : Int} {σ : kS} (h : (480 ≤ a1 → Q σ) ∧ (¬ 480 ≤ a1 → isO 12 n a0 ∧ (isA 20 n (σ a0 1) ∧ (((0 : Int) ≤ a1 ∧ a1 < klen (σ a0 1)) ∧ (isA 20 n (σ a0 66) ∧ (((0 : Int) ≤ a1 ∧ a1 < klen (σ a0 66)) ∧ (∀ s1, s1 = kst σ (σ a0 66) a1 (σ (σ a0 1) a1) → (-2147483648 ≤ (a1 + 1) ∧ (a1 + 1) ≤ 2147483647) ∧ (LX12_leaveNow_2 d n Q a0 (a1 + 1) s1)))))))) : LX12_leaveNow_2 d n Q a0 a1 σ := by
  unfold LX12_leaveNow_2
  refine K_iload_n 1 (kdA dt_MX12_leaveNow 2 rfl) rfl rfl ?_
  refine K_sipush (kdA dt_MX12_leaveNow 3 rfl) (by decide +kernel) ?_
  refine K_icmp_ge (tgt := 27) (kdA dt_MX12_leaveNow 4 rfl) rfl (fun c => ?_) (fun c => ?_)
  · have h := h.1 c
    exact K_return (kdA dt_MX12_leaveNow 15 rfl) rfl ⟨rfl, rfl, h⟩
  · have h := h.2 c
    refine K_aload_n 0 (kdA dt_MX12_leaveNow 5 rfl) rfl rfl ?_
    obtain ⟨c1, h⟩ := h
    refine gf12_142 rfl (kdA dt_MX12_leaveNow 6 rfl) c1 ?_
    refine K_iload_n 1 (kdA dt_MX12_leaveNow 7 rfl) rfl rfl ?_
    refine K_aload_n 0 (kdA dt_MX12_leaveNow 8 rfl) rfl rfl ?_
    refine gf12_9 rfl (kdA dt_MX12_leaveNow 9 rfl) c1 ?_
    refine K_iload_n 1 (kdA dt_MX12_leaveNow 10 rfl) rfl rfl ?_
    obtain ⟨c2, h⟩ := h
    obtain ⟨c3, h⟩ := h
    refine K_iaload (kdA dt_MX12_leaveNow 11 rfl) c2 c3.1 c3.2 ?_
    obtain ⟨c4, h⟩ := h
    obtain ⟨c5, h⟩ := h
    refine K_iastore' (kdA dt_MX12_leaveNow 12 rfl) c4 c5.1 c5.2 (fun s1 es1 => ?_)
    have h := h s1 es1
    obtain ⟨c6, h⟩ := h
    refine K_iinc (ls' := [(0, (2, a0)), (1, (0, (a1 + 1)))]) 1 (kdA dt_MX12_leaveNow 13 rfl) rfl c6 (by decide) rfl ?_
    refine K_goto (tgt := 2) (kdA dt_MX12_leaveNow 14 rfl) rfl ?_
    exact h
theorem EX12_leaveNow {d n : Nat} {Q : kS → Prop} {a0 : Int} {σ : kS} (h : kokw n σ → LX12_leaveNow_0 d n Q a0 σ) : Cv (d + 1) MX12_leaveNow [(2, a0)] n σ Q := Tri_of (by decide +kernel) (Nat.le_of_ble_eq_true rfl) (fun hk hw => h hw)

def LX12_lies_0 (d n : Nat) (Q : Int → kS → Prop) (a0 : Int) (a1 : Int) (a2 : Int) (σ : kS) : Prop := K (d + 1) MX12_lies (kPi n Q) (0, 0) 0 [(0, (2, a0)), (1, (0, a1)), (2, (0, a2))] [] n σ
theorem SX12_lies_0 {d n : Nat} {Q : Int → kS → Prop} {a0 a1 a2 : Int} {σ : kS} (h : ((0 : Int) ≤ a2) ∧ (isO 12 n a0 ∧ (isA 20 n (σ a0 50) ∧ (((0 : Int) ≤ a1 ∧ a1 < klen (σ a0 50)) ∧ (isA 20 n (σ a0 52) ∧ (((0 : Int) ≤ a1 ∧ a1 < klen (σ a0 52)) ∧ (Ci d MX12_isIn [(0, (a2 % 12)), (0, (σ (σ a0 50) a1)), (0, (σ (σ a0 52) a1))] n σ (fun x7 s1 => (x7 = 0 → Q 0 s1) ∧ (¬ x7 = 0 → isA 20 n (s1 a0 51) ∧ (((0 : Int) ≤ a1 ∧ a1 < klen (s1 a0 51)) ∧ (isA 20 n (s1 a0 53) ∧ (((0 : Int) ≤ a1 ∧ a1 < klen (s1 a0 53)) ∧ (Ci d MX12_isIn [(0, (a2 / 12)), (0, (s1 (s1 a0 51) a1)), (0, (s1 (s1 a0 53) a1))] n s1 (fun x12 s2 => (¬ x12 = 0 → isA 20 n (s2 a0 50) ∧ (((0 : Int) ≤ a1 ∧ a1 < klen (s2 a0 50)) ∧ (((a2 % 12) = (s2 (s2 a0 50) a1) → Q 1 s2) ∧ (¬ (a2 % 12) = (s2 (s2 a0 50) a1) → isA 20 n (s2 a0 52) ∧ (((0 : Int) ≤ a1 ∧ a1 < klen (s2 a0 52)) ∧ (((a2 % 12) = (s2 (s2 a0 52) a1) → Q 1 s2) ∧ (¬ (a2 % 12) = (s2 (s2 a0 52) a1) → isA 20 n (s2 a0 51) ∧ (((0 : Int) ≤ a1 ∧ a1 < klen (s2 a0 51)) ∧ (((a2 / 12) = (s2 (s2 a0 51) a1) → Q 1 s2) ∧ (¬ (a2 / 12) = (s2 (s2 a0 51) a1) → isA 20 n (s2 a0 53) ∧ (((0 : Int) ≤ a1 ∧ a1 < klen (s2 a0 53)) ∧ ((¬ (a2 / 12) = (s2 (s2 a0 53) a1) → Q 2 s2) ∧ (¬ (¬ (a2 / 12) = (s2 (s2 a0 53) a1)) → Q 1 s2))))))))))))) ∧ (¬ (¬ x12 = 0) → Q 0 s2))))))))))))))) : LX12_lies_0 d n Q a0 a1 a2 σ := by
  unfold LX12_lies_0
  refine K_iload_n 2 (kdA dt_MX12_lies 0 rfl) rfl rfl ?_
  refine K_bipush (kdA dt_MX12_lies 1 rfl) (by decide +kernel) ?_
  obtain ⟨c1, h⟩ := h
  refine K_irem (kdA dt_MX12_lies 2 rfl) c1 (by decide) ?_
  refine K_istore_n (ls' := [(0, (2, a0)), (1, (0, a1)), (2, (0, a2)), (3, (0, (a2 % 12)))]) (kdA dt_MX12_lies 3 rfl) rfl (by decide) rfl ?_
  refine K_iload_n 2 (kdA dt_MX12_lies 4 rfl) rfl rfl ?_
  refine K_bipush (kdA dt_MX12_lies 5 rfl) (by decide +kernel) ?_
  refine K_idiv (kdA dt_MX12_lies 6 rfl) c1 (by decide) ?_
  refine K_istore (ls' := [(0, (2, a0)), (1, (0, a1)), (2, (0, a2)), (3, (0, (a2 % 12))), (4, (0, (a2 / 12)))]) (kdA dt_MX12_lies 7 rfl) (by decide) rfl ?_
  refine K_iload_n 3 (kdA dt_MX12_lies 8 rfl) rfl rfl ?_
  refine K_aload_n 0 (kdA dt_MX12_lies 9 rfl) rfl rfl ?_
  obtain ⟨c2, h⟩ := h
  refine gf12_112 rfl (kdA dt_MX12_lies 10 rfl) c2 ?_
  refine K_iload_n 1 (kdA dt_MX12_lies 11 rfl) rfl rfl ?_
  obtain ⟨c3, h⟩ := h
  obtain ⟨c4, h⟩ := h
  refine K_iaload (kdA dt_MX12_lies 12 rfl) c3 c4.1 c4.2 ?_
  refine K_aload_n 0 (kdA dt_MX12_lies 13 rfl) rfl rfl ?_
  refine gf12_118 rfl (kdA dt_MX12_lies 14 rfl) c2 ?_
  refine K_iload_n 1 (kdA dt_MX12_lies 15 rfl) rfl rfl ?_
  obtain ⟨c5, h⟩ := h
  obtain ⟨c6, h⟩ := h
  refine K_iaload (kdA dt_MX12_lies 16 rfl) c5 c6.1 c6.2 ?_
  refine K_cSi (as := [(0, (a2 % 12)), (0, (σ (σ a0 50) a1)), (0, (σ (σ a0 52) a1))]) (st := []) (kdA dt_MX12_lies 17 rfl) cl_MX12_isIn lk12_153 rfl rfl (Nat.le_of_ble_eq_true rfl) (Ci.mono h (fun x7 s1 h => ?_))
  refine K_if_eq (tgt := 50) (kdA dt_MX12_lies 18 rfl) rfl (fun c => ?_) (fun c => ?_)
  · have h := h.1 c
    refine K_iconst (kdA dt_MX12_lies 30 rfl) (by decide) ?_
    exact K_ireturn (kdA dt_MX12_lies 31 rfl) rfl ⟨rfl, _, rfl, h⟩
  · have h := h.2 c
    refine K_iload 4 (kdA dt_MX12_lies 19 rfl) rfl ?_
    refine K_aload_n 0 (kdA dt_MX12_lies 20 rfl) rfl rfl ?_
    refine gf12_115 rfl (kdA dt_MX12_lies 21 rfl) c2 ?_
    refine K_iload_n 1 (kdA dt_MX12_lies 22 rfl) rfl rfl ?_
    obtain ⟨c8, h⟩ := h
    obtain ⟨c9, h⟩ := h
    refine K_iaload (kdA dt_MX12_lies 23 rfl) c8 c9.1 c9.2 ?_
    refine K_aload_n 0 (kdA dt_MX12_lies 24 rfl) rfl rfl ?_
    refine gf12_121 rfl (kdA dt_MX12_lies 25 rfl) c2 ?_
    refine K_iload_n 1 (kdA dt_MX12_lies 26 rfl) rfl rfl ?_
    obtain ⟨c10, h⟩ := h
    obtain ⟨c11, h⟩ := h
    refine K_iaload (kdA dt_MX12_lies 27 rfl) c10 c11.1 c11.2 ?_
    refine K_cSi (as := [(0, (a2 / 12)), (0, (s1 (s1 a0 51) a1)), (0, (s1 (s1 a0 53) a1))]) (st := []) (kdA dt_MX12_lies 28 rfl) cl_MX12_isIn lk12_153 rfl rfl (Nat.le_of_ble_eq_true rfl) (Ci.mono h (fun x12 s2 h => ?_))
    refine K_if_ne (tgt := 52) (kdA dt_MX12_lies 29 rfl) rfl (fun c => ?_) (fun c => ?_)
    · have h := h.1 c
      refine K_iload_n 3 (kdA dt_MX12_lies 32 rfl) rfl rfl ?_
      refine K_aload_n 0 (kdA dt_MX12_lies 33 rfl) rfl rfl ?_
      refine gf12_112 rfl (kdA dt_MX12_lies 34 rfl) c2 ?_
      refine K_iload_n 1 (kdA dt_MX12_lies 35 rfl) rfl rfl ?_
      obtain ⟨c13, h⟩ := h
      obtain ⟨c14, h⟩ := h
      refine K_iaload (kdA dt_MX12_lies 36 rfl) c13 c14.1 c14.2 ?_
      refine K_icmp_eq (tgt := 94) (kdA dt_MX12_lies 37 rfl) rfl (fun c => ?_) (fun c => ?_)
      · have h := h.1 c
        refine K_iconst (kdA dt_MX12_lies 56 rfl) (by decide) ?_
        refine K_goto (tgt := 99) (kdA dt_MX12_lies 57 rfl) rfl ?_
        exact K_ireturn (kdA dt_MX12_lies 59 rfl) rfl ⟨rfl, _, rfl, h⟩
      · have h := h.2 c
        refine K_iload_n 3 (kdA dt_MX12_lies 38 rfl) rfl rfl ?_
        refine K_aload_n 0 (kdA dt_MX12_lies 39 rfl) rfl rfl ?_
        refine gf12_118 rfl (kdA dt_MX12_lies 40 rfl) c2 ?_
        refine K_iload_n 1 (kdA dt_MX12_lies 41 rfl) rfl rfl ?_
        obtain ⟨c15, h⟩ := h
        obtain ⟨c16, h⟩ := h
        refine K_iaload (kdA dt_MX12_lies 42 rfl) c15 c16.1 c16.2 ?_
        refine K_icmp_eq (tgt := 94) (kdA dt_MX12_lies 43 rfl) rfl (fun c => ?_) (fun c => ?_)
        · have h := h.1 c
          refine K_iconst (kdA dt_MX12_lies 56 rfl) (by decide) ?_
          refine K_goto (tgt := 99) (kdA dt_MX12_lies 57 rfl) rfl ?_
          exact K_ireturn (kdA dt_MX12_lies 59 rfl) rfl ⟨rfl, _, rfl, h⟩
        · have h := h.2 c
          refine K_iload 4 (kdA dt_MX12_lies 44 rfl) rfl ?_
          refine K_aload_n 0 (kdA dt_MX12_lies 45 rfl) rfl rfl ?_
          refine gf12_115 rfl (kdA dt_MX12_lies 46 rfl) c2 ?_
          refine K_iload_n 1 (kdA dt_MX12_lies 47 rfl) rfl rfl ?_
          obtain ⟨c17, h⟩ := h
          obtain ⟨c18, h⟩ := h
          refine K_iaload (kdA dt_MX12_lies 48 rfl) c17 c18.1 c18.2 ?_
          refine K_icmp_eq (tgt := 94) (kdA dt_MX12_lies 49 rfl) rfl (fun c => ?_) (fun c => ?_)
          · have h := h.1 c
            refine K_iconst (kdA dt_MX12_lies 56 rfl) (by decide) ?_
            refine K_goto (tgt := 99) (kdA dt_MX12_lies 57 rfl) rfl ?_
            exact K_ireturn (kdA dt_MX12_lies 59 rfl) rfl ⟨rfl, _, rfl, h⟩
          · have h := h.2 c
            refine K_iload 4 (kdA dt_MX12_lies 50 rfl) rfl ?_
            refine K_aload_n 0 (kdA dt_MX12_lies 51 rfl) rfl rfl ?_
            refine gf12_121 rfl (kdA dt_MX12_lies 52 rfl) c2 ?_
            refine K_iload_n 1 (kdA dt_MX12_lies 53 rfl) rfl rfl ?_
            obtain ⟨c19, h⟩ := h
            obtain ⟨c20, h⟩ := h
            refine K_iaload (kdA dt_MX12_lies 54 rfl) c19 c20.1 c20.2 ?_
            refine K_icmp_ne (tgt := 98) (kdA dt_MX12_lies 55 rfl) rfl (fun c => ?_) (fun c => ?_)
            · have h := h.1 c
              refine K_iconst (kdA dt_MX12_lies 58 rfl) (by decide) ?_
              exact K_ireturn (kdA dt_MX12_lies 59 rfl) rfl ⟨rfl, _, rfl, h⟩
            · have h := h.2 c
              refine K_iconst (kdA dt_MX12_lies 56 rfl) (by decide) ?_
              refine K_goto (tgt := 99) (kdA dt_MX12_lies 57 rfl) rfl ?_
              exact K_ireturn (kdA dt_MX12_lies 59 rfl) rfl ⟨rfl, _, rfl, h⟩
    · have h := h.2 c
      refine K_iconst (kdA dt_MX12_lies 30 rfl) (by decide) ?_
      exact K_ireturn (kdA dt_MX12_lies 31 rfl) rfl ⟨rfl, _, rfl, h⟩
theorem EX12_lies {d n : Nat} {Q : Int → kS → Prop} {a0 a1 a2 : Int} {σ : kS} (h : (-2147483648 ≤ a1 ∧ a1 ≤ 2147483647) → (-2147483648 ≤ a2 ∧ a2 ≤ 2147483647) → kokw n σ → LX12_lies_0 d n Q a0 a1 a2 σ) : Ci (d + 1) MX12_lies [(2, a0), (0, a1), (0, a2)] n σ Q := Tri_of (by decide +kernel) (Nat.le_of_ble_eq_true rfl) (fun hk hw => h (hk (0, a1) (List.mem_of_getElem? (i := 1) rfl)) (hk (0, a2) (List.mem_of_getElem? (i := 2) rfl)) hw)

def LX12_line_0 (d n : Nat) (Q : Int → kS → Prop) (a0 : Int) (a1 : Int) (a2 : Int) (σ : kS) : Prop := K (d + 1) MX12_line (kPi n Q) (0, 0) 0 [(0, (2, a0)), (1, (0, a1)), (2, (0, a2))] [] n σ
theorem SX12_line_0 {d n : Nat} {Q : Int → kS → Prop} {a0 a1 a2 : Int} {σ : kS} (h : isO 12 n a0 ∧ (∀ s1, s1 = kst σ a0 0 0 → Ci d MX12_isLine [(2, a0), (0, a1)] n s1 (fun x2 s2 => (¬ x2 = 0 → (¬ a2 = (-1) → isA 20 n (s2 a0 32) ∧ (((0 : Int) ≤ a1 ∧ a1 < klen (s2 a0 32)) ∧ ((-2147483648 ≤ ((s2 (s2 a0 32) a1) - 1) ∧ ((s2 (s2 a0 32) a1) - 1) ≤ 2147483647) ∧ (Ci d MX12_isIn [(0, a2), (0, 0), (0, ((s2 (s2 a0 32) a1) - 1))] n s2 (fun x6 s3 => (x6 = 0 → Q (-1) s3) ∧ (¬ x6 = 0 → Ci d MX12_cellOf [(2, a0), (0, a1), (0, a2)] n s3 (fun x7 s4 => Q x7 s4))))))) ∧ (¬ (¬ a2 = (-1)) → isA 20 n (s2 a0 32) ∧ (((0 : Int) ≤ a1 ∧ a1 < klen (s2 a0 32)) ∧ (Q (s2 (s2 a0 32) a1) s2)))) ∧ (¬ (¬ x2 = 0) → Q (-1) s2)))) : LX12_line_0 d n Q a0 a1 a2 σ := by
  unfold LX12_line_0
  refine K_aload_n 0 (kdA dt_MX12_line 0 rfl) rfl rfl ?_
  refine K_iconst (kdA dt_MX12_line 1 rfl) (by decide) ?_
  obtain ⟨c1, h⟩ := h
  refine pf12_149 rfl (kdA dt_MX12_line 2 rfl) c1 (fun s1 es1 => ?_)
  have h := h s1 es1
  refine K_aload_n 0 (kdA dt_MX12_line 3 rfl) rfl rfl ?_
  refine K_iload_n 1 (kdA dt_MX12_line 4 rfl) rfl rfl ?_
  refine K_cVi (c := 12) (as := [(0, a1)]) (st := []) (kdA dt_MX12_line 5 rfl) rfl cl_MX12_isLine lk12_383 rfl rfl (Nat.le_of_ble_eq_true rfl) c1 (Ci.mono h (fun x2 s2 h => ?_))
  refine K_if_ne (tgt := 15) (kdA dt_MX12_line 6 rfl) rfl (fun c => ?_) (fun c => ?_)
  · have h := h.1 c
    refine K_iload_n 2 (kdA dt_MX12_line 9 rfl) rfl rfl ?_
    refine K_iconst (kdA dt_MX12_line 10 rfl) (by decide) ?_
    refine K_icmp_ne (tgt := 29) (kdA dt_MX12_line 11 rfl) rfl (fun c => ?_) (fun c => ?_)
    · have h := h.1 c
      refine K_iload_n 2 (kdA dt_MX12_line 17 rfl) rfl rfl ?_
      refine K_iconst (kdA dt_MX12_line 18 rfl) (by decide) ?_
      refine K_aload_n 0 (kdA dt_MX12_line 19 rfl) rfl rfl ?_
      refine gf12_70 rfl (kdA dt_MX12_line 20 rfl) c1 ?_
      refine K_iload_n 1 (kdA dt_MX12_line 21 rfl) rfl rfl ?_
      obtain ⟨c3, h⟩ := h
      obtain ⟨c4, h⟩ := h
      refine K_iaload (kdA dt_MX12_line 22 rfl) c3 c4.1 c4.2 ?_
      refine K_iconst (kdA dt_MX12_line 23 rfl) (by decide) ?_
      obtain ⟨c5, h⟩ := h
      refine K_isub (kdA dt_MX12_line 24 rfl) c5 ?_
      refine K_cSi (as := [(0, a2), (0, 0), (0, ((s2 (s2 a0 32) a1) - 1))]) (st := []) (kdA dt_MX12_line 25 rfl) cl_MX12_isIn lk12_153 rfl rfl (Nat.le_of_ble_eq_true rfl) (Ci.mono h (fun x6 s3 h => ?_))
      refine K_if_eq (tgt := 54) (kdA dt_MX12_line 26 rfl) rfl (fun c => ?_) (fun c => ?_)
      · have h := h.1 c
        refine K_iconst (kdA dt_MX12_line 32 rfl) (by decide) ?_
        exact K_ireturn (kdA dt_MX12_line 33 rfl) rfl ⟨rfl, _, rfl, h⟩
      · have h := h.2 c
        refine K_aload_n 0 (kdA dt_MX12_line 27 rfl) rfl rfl ?_
        refine K_iload_n 1 (kdA dt_MX12_line 28 rfl) rfl rfl ?_
        refine K_iload_n 2 (kdA dt_MX12_line 29 rfl) rfl rfl ?_
        refine K_cVi (c := 12) (as := [(0, a1), (0, a2)]) (st := []) (kdA dt_MX12_line 30 rfl) rfl cl_MX12_cellOf lk12_386 rfl rfl (Nat.le_of_ble_eq_true rfl) c1 (Ci.mono h (fun x7 s4 h => ?_))
        refine K_goto (tgt := 55) (kdA dt_MX12_line 31 rfl) rfl ?_
        exact K_ireturn (kdA dt_MX12_line 33 rfl) rfl ⟨rfl, _, rfl, h⟩
    · have h := h.2 c
      refine K_aload_n 0 (kdA dt_MX12_line 12 rfl) rfl rfl ?_
      refine gf12_70 rfl (kdA dt_MX12_line 13 rfl) c1 ?_
      refine K_iload_n 1 (kdA dt_MX12_line 14 rfl) rfl rfl ?_
      obtain ⟨c3, h⟩ := h
      obtain ⟨c4, h⟩ := h
      refine K_iaload (kdA dt_MX12_line 15 rfl) c3 c4.1 c4.2 ?_
      refine K_goto (tgt := 55) (kdA dt_MX12_line 16 rfl) rfl ?_
      exact K_ireturn (kdA dt_MX12_line 33 rfl) rfl ⟨rfl, _, rfl, h⟩
  · have h := h.2 c
    refine K_iconst (kdA dt_MX12_line 7 rfl) (by decide) ?_
    exact K_ireturn (kdA dt_MX12_line 8 rfl) rfl ⟨rfl, _, rfl, h⟩
theorem EX12_line {d n : Nat} {Q : Int → kS → Prop} {a0 a1 a2 : Int} {σ : kS} (h : (-2147483648 ≤ a1 ∧ a1 ≤ 2147483647) → (-2147483648 ≤ a2 ∧ a2 ≤ 2147483647) → kokw n σ → LX12_line_0 d n Q a0 a1 a2 σ) : Ci (d + 1) MX12_line [(2, a0), (0, a1), (0, a2)] n σ Q := Tri_of (by decide +kernel) (Nat.le_of_ble_eq_true rfl) (fun hk hw => h (hk (0, a1) (List.mem_of_getElem? (i := 1) rfl)) (hk (0, a2) (List.mem_of_getElem? (i := 2) rfl)) hw)

def LX12_lineAt_0 (d n : Nat) (Q : Int → kS → Prop) (a0 : Int) (a1 : Int) (σ : kS) : Prop := K (d + 1) MX12_lineAt (kPi n Q) (0, 0) 0 [(0, (2, a0)), (1, (0, a1))] [] n σ
theorem SX12_lineAt_0 {d n : Nat} {Q : Int → kS → Prop} {a0 a1 : Int} {σ : kS} (h : isO 12 n a0 ∧ (∀ s1, s1 = kst σ a0 0 0 → ((s1 a0 34) = 10 → Q (-1) s1) ∧ (¬ (s1 a0 34) = 10 → Ci d MX12_isCell [(0, a1)] n s1 (fun x2 s2 => (¬ x2 = 0 → isA 20 n (s2 a0 32) ∧ (((0 : Int) ≤ (s2 a0 34) ∧ (s2 a0 34) < klen (s2 a0 32)) ∧ (∀ s3, s3 = kst s2 (s2 a0 32) (s2 a0 34) 0 → Cv d MX12_addCell [(2, a0), (0, a1)] n s3 (fun s4 => Ci d MX12_added [(2, a0)] n s4 (fun x6 s5 => Q x6 s5))))) ∧ (¬ (¬ x2 = 0) → Q (-1) s2))))) : LX12_lineAt_0 d n Q a0 a1 σ := by
  unfold LX12_lineAt_0
  refine K_aload_n 0 (kdA dt_MX12_lineAt 0 rfl) rfl rfl ?_
  refine K_iconst (kdA dt_MX12_lineAt 1 rfl) (by decide) ?_
  obtain ⟨c1, h⟩ := h
  refine pf12_149 rfl (kdA dt_MX12_lineAt 2 rfl) c1 (fun s1 es1 => ?_)
  have h := h s1 es1
  refine K_aload_n 0 (kdA dt_MX12_lineAt 3 rfl) rfl rfl ?_
  refine gf12_371 rfl (kdA dt_MX12_lineAt 4 rfl) c1 ?_
  refine K_bipush (kdA dt_MX12_lineAt 5 rfl) (by decide +kernel) ?_
  refine K_icmp_eq (tgt := 21) (kdA dt_MX12_lineAt 6 rfl) rfl (fun c => ?_) (fun c => ?_)
  · have h := h.1 c
    refine K_iconst (kdA dt_MX12_lineAt 10 rfl) (by decide) ?_
    exact K_ireturn (kdA dt_MX12_lineAt 11 rfl) rfl ⟨rfl, _, rfl, h⟩
  · have h := h.2 c
    refine K_iload_n 1 (kdA dt_MX12_lineAt 7 rfl) rfl rfl ?_
    refine K_cSi (as := [(0, a1)]) (st := []) (kdA dt_MX12_lineAt 8 rfl) cl_MX12_isCell lk12_161 rfl rfl (Nat.le_of_ble_eq_true rfl) (Ci.mono h (fun x2 s2 h => ?_))
    refine K_if_ne (tgt := 23) (kdA dt_MX12_lineAt 9 rfl) rfl (fun c => ?_) (fun c => ?_)
    · have h := h.1 c
      refine K_aload_n 0 (kdA dt_MX12_lineAt 12 rfl) rfl rfl ?_
      refine gf12_70 rfl (kdA dt_MX12_lineAt 13 rfl) c1 ?_
      refine K_aload_n 0 (kdA dt_MX12_lineAt 14 rfl) rfl rfl ?_
      refine gf12_371 rfl (kdA dt_MX12_lineAt 15 rfl) c1 ?_
      refine K_iconst (kdA dt_MX12_lineAt 16 rfl) (by decide) ?_
      obtain ⟨c3, h⟩ := h
      obtain ⟨c4, h⟩ := h
      refine K_iastore' (kdA dt_MX12_lineAt 17 rfl) c3 c4.1 c4.2 (fun s3 es3 => ?_)
      have h := h s3 es3
      refine K_aload_n 0 (kdA dt_MX12_lineAt 18 rfl) rfl rfl ?_
      refine K_iload_n 1 (kdA dt_MX12_lineAt 19 rfl) rfl rfl ?_
      refine K_cVv (c := 12) (as := [(0, a1)]) (st := []) (kdA dt_MX12_lineAt 20 rfl) rfl cl_MX12_addCell lk12_374 rfl rfl (Nat.le_of_ble_eq_true rfl) c1 (Cv.mono h (fun s4 h => ?_))
      refine K_aload_n 0 (kdA dt_MX12_lineAt 21 rfl) rfl rfl ?_
      refine K_cVi (c := 12) (as := []) (st := []) (kdA dt_MX12_lineAt 22 rfl) rfl cl_MX12_added lk12_377 rfl rfl (Nat.le_of_ble_eq_true rfl) c1 (Ci.mono h (fun x6 s5 h => ?_))
      exact K_ireturn (kdA dt_MX12_lineAt 23 rfl) rfl ⟨rfl, _, rfl, h⟩
    · have h := h.2 c
      refine K_iconst (kdA dt_MX12_lineAt 10 rfl) (by decide) ?_
      exact K_ireturn (kdA dt_MX12_lineAt 11 rfl) rfl ⟨rfl, _, rfl, h⟩
theorem EX12_lineAt {d n : Nat} {Q : Int → kS → Prop} {a0 a1 : Int} {σ : kS} (h : (-2147483648 ≤ a1 ∧ a1 ≤ 2147483647) → kokw n σ → LX12_lineAt_0 d n Q a0 a1 σ) : Ci (d + 1) MX12_lineAt [(2, a0), (0, a1)] n σ Q := Tri_of (by decide +kernel) (Nat.le_of_ble_eq_true rfl) (fun hk hw => h (hk (0, a1) (List.mem_of_getElem? (i := 1) rfl)) hw)

def LX12_lineOfSight_0 (d n : Nat) (Q : Int → kS → Prop) (a0 : Int) (a1 : Int) (a2 : Int) (a3 : Int) (σ : kS) : Prop := K (d + 1) MX12_lineOfSight (kPi n Q) (0, 0) 0 [(0, (2, a0)), (1, (0, a1)), (2, (0, a2)), (3, (0, a3))] [] n σ
def LX12_lineOfSight_79 (d n : Nat) (Q : Int → kS → Prop) (a0 : Int) (a2 : Int) (a3 : Int) (a4 : Int) (σ : kS) : Prop := K (d + 1) MX12_lineOfSight (kPi n Q) (0, 0) 79 [(0, (2, a0)), (2, (0, a2)), (3, (0, a3)), (4, (0, a4))] [] n σ
theorem SX12_lineOfSight_0 {d n : Nat} {Q : Int → kS → Prop} {a0 a1 a2 a3 : Int} {σ : kS} (h : isO 12 n a0 ∧ (∀ s1, s1 = kst σ a0 0 0 → ((s1 a0 34) = 10 → Q (-1) s1) ∧ (¬ (s1 a0 34) = 10 → Ci d MX12_isCell [(0, a1)] n s1 (fun x2 s2 => (x2 = 0 → Q (-1) s2) ∧ (¬ x2 = 0 → Ci d MX12_isCell [(0, a2)] n s2 (fun x3 s3 => (x3 = 0 → Q (-1) s3) ∧ (¬ x3 = 0 → Ci d MX12_isIn [(0, a3), (0, 0), (0, 11)] n s3 (fun x4 s4 => (¬ x4 = 0 → isA 20 n (s4 a0 32) ∧ (((0 : Int) ≤ (s4 a0 34) ∧ (s4 a0 34) < klen (s4 a0 32)) ∧ (∀ s5, s5 = kst s4 (s4 a0 32) (s4 a0 34) 0 → Cv d MX12_addCell [(2, a0), (0, a1)] n s5 (fun s6 => (¬ a3 = 0 → Cv d MX12_layHops [(2, a0), (0, a2), (0, a3)] n s6 (fun s7 => LX12_lineOfSight_79 d n Q a0 a2 a3 a1 s7)) ∧ (¬ (¬ a3 = 0) → Cv d MX12_addHop [(2, a0), (0, a1), (0, a2)] n s6 (fun s7 => Ci d MX12_added [(2, a0)] n s7 (fun x9 s8 => Q x9 s8))))))) ∧ (¬ (¬ x4 = 0) → Q (-1) s4))))))))) : LX12_lineOfSight_0 d n Q a0 a1 a2 a3 σ := by
  unfold LX12_lineOfSight_0
  refine K_aload_n 0 (kdA dt_MX12_lineOfSight 0 rfl) rfl rfl ?_
  refine K_iconst (kdA dt_MX12_lineOfSight 1 rfl) (by decide) ?_
  obtain ⟨c1, h⟩ := h
  refine pf12_149 rfl (kdA dt_MX12_lineOfSight 2 rfl) c1 (fun s1 es1 => ?_)
  have h := h s1 es1
  refine K_aload_n 0 (kdA dt_MX12_lineOfSight 3 rfl) rfl rfl ?_
  refine gf12_371 rfl (kdA dt_MX12_lineOfSight 4 rfl) c1 ?_
  refine K_bipush (kdA dt_MX12_lineOfSight 5 rfl) (by decide +kernel) ?_
  refine K_icmp_eq (tgt := 38) (kdA dt_MX12_lineOfSight 6 rfl) rfl (fun c => ?_) (fun c => ?_)
  · have h := h.1 c
    refine K_iconst (kdA dt_MX12_lineOfSight 18 rfl) (by decide) ?_
    exact K_ireturn (kdA dt_MX12_lineOfSight 19 rfl) rfl ⟨rfl, _, rfl, h⟩
  · have h := h.2 c
    refine K_iload_n 1 (kdA dt_MX12_lineOfSight 7 rfl) rfl rfl ?_
    refine K_cSi (as := [(0, a1)]) (st := []) (kdA dt_MX12_lineOfSight 8 rfl) cl_MX12_isCell lk12_161 rfl rfl (Nat.le_of_ble_eq_true rfl) (Ci.mono h (fun x2 s2 h => ?_))
    refine K_if_eq (tgt := 38) (kdA dt_MX12_lineOfSight 9 rfl) rfl (fun c => ?_) (fun c => ?_)
    · have h := h.1 c
      refine K_iconst (kdA dt_MX12_lineOfSight 18 rfl) (by decide) ?_
      exact K_ireturn (kdA dt_MX12_lineOfSight 19 rfl) rfl ⟨rfl, _, rfl, h⟩
    · have h := h.2 c
      refine K_iload_n 2 (kdA dt_MX12_lineOfSight 10 rfl) rfl rfl ?_
      refine K_cSi (as := [(0, a2)]) (st := []) (kdA dt_MX12_lineOfSight 11 rfl) cl_MX12_isCell lk12_161 rfl rfl (Nat.le_of_ble_eq_true rfl) (Ci.mono h (fun x3 s3 h => ?_))
      refine K_if_eq (tgt := 38) (kdA dt_MX12_lineOfSight 12 rfl) rfl (fun c => ?_) (fun c => ?_)
      · have h := h.1 c
        refine K_iconst (kdA dt_MX12_lineOfSight 18 rfl) (by decide) ?_
        exact K_ireturn (kdA dt_MX12_lineOfSight 19 rfl) rfl ⟨rfl, _, rfl, h⟩
      · have h := h.2 c
        refine K_iload_n 3 (kdA dt_MX12_lineOfSight 13 rfl) rfl rfl ?_
        refine K_iconst (kdA dt_MX12_lineOfSight 14 rfl) (by decide) ?_
        refine K_bipush (kdA dt_MX12_lineOfSight 15 rfl) (by decide +kernel) ?_
        refine K_cSi (as := [(0, a3), (0, 0), (0, 11)]) (st := []) (kdA dt_MX12_lineOfSight 16 rfl) cl_MX12_isIn lk12_153 rfl rfl (Nat.le_of_ble_eq_true rfl) (Ci.mono h (fun x4 s4 h => ?_))
        refine K_if_ne (tgt := 40) (kdA dt_MX12_lineOfSight 17 rfl) rfl (fun c => ?_) (fun c => ?_)
        · have h := h.1 c
          refine K_aload_n 0 (kdA dt_MX12_lineOfSight 20 rfl) rfl rfl ?_
          refine gf12_70 rfl (kdA dt_MX12_lineOfSight 21 rfl) c1 ?_
          refine K_aload_n 0 (kdA dt_MX12_lineOfSight 22 rfl) rfl rfl ?_
          refine gf12_371 rfl (kdA dt_MX12_lineOfSight 23 rfl) c1 ?_
          refine K_iconst (kdA dt_MX12_lineOfSight 24 rfl) (by decide) ?_
          obtain ⟨c5, h⟩ := h
          obtain ⟨c6, h⟩ := h
          refine K_iastore' (kdA dt_MX12_lineOfSight 25 rfl) c5 c6.1 c6.2 (fun s5 es5 => ?_)
          have h := h s5 es5
          refine K_aload_n 0 (kdA dt_MX12_lineOfSight 26 rfl) rfl rfl ?_
          refine K_iload_n 1 (kdA dt_MX12_lineOfSight 27 rfl) rfl rfl ?_
          refine K_cVv (c := 12) (as := [(0, a1)]) (st := []) (kdA dt_MX12_lineOfSight 28 rfl) rfl cl_MX12_addCell lk12_374 rfl rfl (Nat.le_of_ble_eq_true rfl) c1 (Cv.mono h (fun s6 h => ?_))
          refine K_iload_n 3 (kdA dt_MX12_lineOfSight 29 rfl) rfl rfl ?_
          refine K_if_ne (tgt := 70) (kdA dt_MX12_lineOfSight 30 rfl) rfl (fun c => ?_) (fun c => ?_)
          · have h := h.1 c
            refine K_aload_n 0 (kdA dt_MX12_lineOfSight 38 rfl) rfl rfl ?_
            refine K_iload_n 2 (kdA dt_MX12_lineOfSight 39 rfl) rfl rfl ?_
            refine K_iload_n 3 (kdA dt_MX12_lineOfSight 40 rfl) rfl rfl ?_
            refine K_cVv (c := 12) (as := [(0, a2), (0, a3)]) (st := []) (kdA dt_MX12_lineOfSight 41 rfl) rfl cl_MX12_layHops lk12_365 rfl rfl (Nat.le_of_ble_eq_true rfl) c1 (Cv.mono h (fun s7 h => ?_))
            refine K_iload_n 1 (kdA dt_MX12_lineOfSight 42 rfl) rfl rfl ?_
            refine K_istore (ls' := [(0, (2, a0)), (1, (0, a1)), (2, (0, a2)), (3, (0, a3)), (4, (0, a1))]) (kdA dt_MX12_lineOfSight 43 rfl) (by decide) rfl ?_
            refine K_pick [0, 2, 3, 4] (ls' := [(0, (2, a0)), (2, (0, a2)), (3, (0, a3)), (4, (0, a1))]) rfl ?_
            exact h
          · have h := h.2 c
            refine K_aload_n 0 (kdA dt_MX12_lineOfSight 31 rfl) rfl rfl ?_
            refine K_iload_n 1 (kdA dt_MX12_lineOfSight 32 rfl) rfl rfl ?_
            refine K_iload_n 2 (kdA dt_MX12_lineOfSight 33 rfl) rfl rfl ?_
            refine K_cVv (c := 12) (as := [(0, a1), (0, a2)]) (st := []) (kdA dt_MX12_lineOfSight 34 rfl) rfl cl_MX12_addHop lk12_380 rfl rfl (Nat.le_of_ble_eq_true rfl) c1 (Cv.mono h (fun s7 h => ?_))
            refine K_aload_n 0 (kdA dt_MX12_lineOfSight 35 rfl) rfl rfl ?_
            refine K_cVi (c := 12) (as := []) (st := []) (kdA dt_MX12_lineOfSight 36 rfl) rfl cl_MX12_added lk12_377 rfl rfl (Nat.le_of_ble_eq_true rfl) c1 (Ci.mono h (fun x9 s8 h => ?_))
            exact K_ireturn (kdA dt_MX12_lineOfSight 37 rfl) rfl ⟨rfl, _, rfl, h⟩
        · have h := h.2 c
          refine K_iconst (kdA dt_MX12_lineOfSight 18 rfl) (by decide) ?_
          exact K_ireturn (kdA dt_MX12_lineOfSight 19 rfl) rfl ⟨rfl, _, rfl, h⟩
theorem SX12_lineOfSight_79 {d n : Nat} {Q : Int → kS → Prop} {a0 a2 a3 a4 : Int} {σ : kS} (h : (a4 = a2 → isO 12 n a0 ∧ (Ci d MX12_added [(2, a0)] n σ (fun x2 s1 => Q x2 s1))) ∧ (¬ a4 = a2 → isO 12 n a0 ∧ (Ci d MX12_nextHop [(2, a0), (0, a4), (0, a3)] n σ (fun x2 s1 => Cv d MX12_addHop [(2, a0), (0, a4), (0, x2)] n s1 (fun s2 => (-2147483648 ≤ (140 * (s2 a0 34)) ∧ (140 * (s2 a0 34)) ≤ 2147483647) ∧ (isA 20 n (s2 a0 32) ∧ (((0 : Int) ≤ (s2 a0 34) ∧ (s2 a0 34) < klen (s2 a0 32)) ∧ ((-2147483648 ≤ ((140 * (s2 a0 34)) + (s2 (s2 a0 32) (s2 a0 34))) ∧ ((140 * (s2 a0 34)) + (s2 (s2 a0 32) (s2 a0 34))) ≤ 2147483647) ∧ ((-2147483648 ≤ (((140 * (s2 a0 34)) + (s2 (s2 a0 32) (s2 a0 34))) - 1) ∧ (((140 * (s2 a0 34)) + (s2 (s2 a0 32) (s2 a0 34))) - 1) ≤ 2147483647) ∧ (isA 20 n (s2 a0 33) ∧ (((0 : Int) ≤ (((140 * (s2 a0 34)) + (s2 (s2 a0 32) (s2 a0 34))) - 1) ∧ (((140 * (s2 a0 34)) + (s2 (s2 a0 32) (s2 a0 34))) - 1) < klen (s2 a0 33)) ∧ (LX12_lineOfSight_79 d n Q a0 a2 a3 (s2 (s2 a0 33) (((140 * (s2 a0 34)) + (s2 (s2 a0 32) (s2 a0 34))) - 1)) s2)))))))))))) : LX12_lineOfSight_79 d n Q a0 a2 a3 a4 σ := by
  unfold LX12_lineOfSight_79
  refine K_iload 3 (kdA dt_MX12_lineOfSight 44 rfl) rfl ?_
  refine K_iload_n 1 (kdA dt_MX12_lineOfSight 45 rfl) rfl rfl ?_
  refine K_icmp_eq (tgt := 128) (kdA dt_MX12_lineOfSight 46 rfl) rfl (fun c => ?_) (fun c => ?_)
  · have h := h.1 c
    refine K_aload_n 0 (kdA dt_MX12_lineOfSight 71 rfl) rfl rfl ?_
    obtain ⟨c1, h⟩ := h
    refine K_cVi (c := 12) (as := []) (st := []) (kdA dt_MX12_lineOfSight 72 rfl) rfl cl_MX12_added lk12_377 rfl rfl (Nat.le_of_ble_eq_true rfl) c1 (Ci.mono h (fun x2 s1 h => ?_))
    exact K_ireturn (kdA dt_MX12_lineOfSight 73 rfl) rfl ⟨rfl, _, rfl, h⟩
  · have h := h.2 c
    refine K_aload_n 0 (kdA dt_MX12_lineOfSight 47 rfl) rfl rfl ?_
    refine K_iload 3 (kdA dt_MX12_lineOfSight 48 rfl) rfl ?_
    refine K_aload_n 0 (kdA dt_MX12_lineOfSight 49 rfl) rfl rfl ?_
    refine K_iload 3 (kdA dt_MX12_lineOfSight 50 rfl) rfl ?_
    refine K_iload_n 2 (kdA dt_MX12_lineOfSight 51 rfl) rfl rfl ?_
    obtain ⟨c1, h⟩ := h
    refine K_cVi (c := 12) (as := [(0, a4), (0, a3)]) (st := [(0, a4), (2, a0)]) (kdA dt_MX12_lineOfSight 52 rfl) rfl cl_MX12_nextHop lk12_368 rfl rfl (Nat.le_of_ble_eq_true rfl) c1 (Ci.mono h (fun x2 s1 h => ?_))
    refine K_cVv (c := 12) (as := [(0, a4), (0, x2)]) (st := []) (kdA dt_MX12_lineOfSight 53 rfl) rfl cl_MX12_addHop lk12_380 rfl rfl (Nat.le_of_ble_eq_true rfl) c1 (Cv.mono h (fun s2 h => ?_))
    refine K_aload_n 0 (kdA dt_MX12_lineOfSight 54 rfl) rfl rfl ?_
    refine gf12_73 rfl (kdA dt_MX12_lineOfSight 55 rfl) c1 ?_
    refine K_sipush (kdA dt_MX12_lineOfSight 56 rfl) (by decide +kernel) ?_
    refine K_aload_n 0 (kdA dt_MX12_lineOfSight 57 rfl) rfl rfl ?_
    refine gf12_371 rfl (kdA dt_MX12_lineOfSight 58 rfl) c1 ?_
    obtain ⟨c4, h⟩ := h
    refine K_imul (kdA dt_MX12_lineOfSight 59 rfl) c4 ?_
    refine K_aload_n 0 (kdA dt_MX12_lineOfSight 60 rfl) rfl rfl ?_
    refine gf12_70 rfl (kdA dt_MX12_lineOfSight 61 rfl) c1 ?_
    refine K_aload_n 0 (kdA dt_MX12_lineOfSight 62 rfl) rfl rfl ?_
    refine gf12_371 rfl (kdA dt_MX12_lineOfSight 63 rfl) c1 ?_
    obtain ⟨c5, h⟩ := h
    obtain ⟨c6, h⟩ := h
    refine K_iaload (kdA dt_MX12_lineOfSight 64 rfl) c5 c6.1 c6.2 ?_
    obtain ⟨c7, h⟩ := h
    refine K_iadd (kdA dt_MX12_lineOfSight 65 rfl) c7 ?_
    refine K_iconst (kdA dt_MX12_lineOfSight 66 rfl) (by decide) ?_
    obtain ⟨c8, h⟩ := h
    refine K_isub (kdA dt_MX12_lineOfSight 67 rfl) c8 ?_
    obtain ⟨c9, h⟩ := h
    obtain ⟨c10, h⟩ := h
    refine K_iaload (kdA dt_MX12_lineOfSight 68 rfl) c9 c10.1 c10.2 ?_
    refine K_istore (ls' := [(0, (2, a0)), (2, (0, a2)), (3, (0, a3)), (4, (0, (s2 (s2 a0 33) (((140 * (s2 a0 34)) + (s2 (s2 a0 32) (s2 a0 34))) - 1))))]) (kdA dt_MX12_lineOfSight 69 rfl) (by decide) rfl ?_
    refine K_goto (tgt := 79) (kdA dt_MX12_lineOfSight 70 rfl) rfl ?_
    exact h
theorem EX12_lineOfSight {d n : Nat} {Q : Int → kS → Prop} {a0 a1 a2 a3 : Int} {σ : kS} (h : (-2147483648 ≤ a1 ∧ a1 ≤ 2147483647) → (-2147483648 ≤ a2 ∧ a2 ≤ 2147483647) → (-2147483648 ≤ a3 ∧ a3 ≤ 2147483647) → kokw n σ → LX12_lineOfSight_0 d n Q a0 a1 a2 a3 σ) : Ci (d + 1) MX12_lineOfSight [(2, a0), (0, a1), (0, a2), (0, a3)] n σ Q := Tri_of (by decide +kernel) (Nat.le_of_ble_eq_true rfl) (fun hk hw => h (hk (0, a1) (List.mem_of_getElem? (i := 1) rfl)) (hk (0, a2) (List.mem_of_getElem? (i := 2) rfl)) (hk (0, a3) (List.mem_of_getElem? (i := 3) rfl)) hw)

def LX12_lineOfWay_0 (d n : Nat) (Q : Int → kS → Prop) (a0 : Int) (a1 : Int) (a2 : Int) (a3 : Int) (a4 : Int) (a5 : Int) (σ : kS) : Prop := K (d + 1) MX12_lineOfWay (kPi n Q) (0, 0) 0 [(0, (2, a0)), (1, (0, a1)), (2, (0, a2)), (3, (0, a3)), (4, (0, a4)), (5, (0, a5))] [] n σ
def LX12_lineOfWay_53 (d n : Nat) (Q : Int → kS → Prop) (a0 : Int) (a6 : Int) (σ : kS) : Prop := K (d + 1) MX12_lineOfWay (kPi n Q) (0, 0) 53 [(0, (2, a0)), (6, (0, a6))] [] n σ
theorem SX12_lineOfWay_0 {d n : Nat} {Q : Int → kS → Prop} {a0 a1 a2 a3 a4 a5 : Int} {σ : kS} (h : isO 12 n a0 ∧ (∀ s1, s1 = kst σ a0 0 0 → ((s1 a0 34) = 10 → Q (-1) s1) ∧ (¬ (s1 a0 34) = 10 → Ci d MX12_isWay [(2, a0), (0, a1), (0, a2), (0, a4), (0, a5)] n s1 (fun x2 s2 => (¬ x2 = 0 → Cv d MX12_layWay [(2, a0), (0, a1), (0, a2), (0, a3), (0, a4), (0, a5)] n s2 (fun s3 => isA 20 n (s3 a0 32) ∧ (((0 : Int) ≤ (s3 a0 34) ∧ (s3 a0 34) < klen (s3 a0 32)) ∧ (∀ s4, s4 = kst s3 (s3 a0 32) (s3 a0 34) 0 → LX12_lineOfWay_53 d n Q a0 0 s4)))) ∧ (¬ (¬ x2 = 0) → Q (-1) s2))))) : LX12_lineOfWay_0 d n Q a0 a1 a2 a3 a4 a5 σ := by
  unfold LX12_lineOfWay_0
  refine K_aload_n 0 (kdA dt_MX12_lineOfWay 0 rfl) rfl rfl ?_
  refine K_iconst (kdA dt_MX12_lineOfWay 1 rfl) (by decide) ?_
  obtain ⟨c1, h⟩ := h
  refine pf12_149 rfl (kdA dt_MX12_lineOfWay 2 rfl) c1 (fun s1 es1 => ?_)
  have h := h s1 es1
  refine K_aload_n 0 (kdA dt_MX12_lineOfWay 3 rfl) rfl rfl ?_
  refine gf12_371 rfl (kdA dt_MX12_lineOfWay 4 rfl) c1 ?_
  refine K_bipush (kdA dt_MX12_lineOfWay 5 rfl) (by decide +kernel) ?_
  refine K_icmp_eq (tgt := 27) (kdA dt_MX12_lineOfWay 6 rfl) rfl (fun c => ?_) (fun c => ?_)
  · have h := h.1 c
    refine K_iconst (kdA dt_MX12_lineOfWay 14 rfl) (by decide) ?_
    exact K_ireturn (kdA dt_MX12_lineOfWay 15 rfl) rfl ⟨rfl, _, rfl, h⟩
  · have h := h.2 c
    refine K_aload_n 0 (kdA dt_MX12_lineOfWay 7 rfl) rfl rfl ?_
    refine K_iload_n 1 (kdA dt_MX12_lineOfWay 8 rfl) rfl rfl ?_
    refine K_iload_n 2 (kdA dt_MX12_lineOfWay 9 rfl) rfl rfl ?_
    refine K_iload 4 (kdA dt_MX12_lineOfWay 10 rfl) rfl ?_
    refine K_iload 5 (kdA dt_MX12_lineOfWay 11 rfl) rfl ?_
    refine K_cVi (c := 12) (as := [(0, a1), (0, a2), (0, a4), (0, a5)]) (st := []) (kdA dt_MX12_lineOfWay 12 rfl) rfl cl_MX12_isWay lk12_341 rfl rfl (Nat.le_of_ble_eq_true rfl) c1 (Ci.mono h (fun x2 s2 h => ?_))
    refine K_if_ne (tgt := 29) (kdA dt_MX12_lineOfWay 13 rfl) rfl (fun c => ?_) (fun c => ?_)
    · have h := h.1 c
      refine K_aload_n 0 (kdA dt_MX12_lineOfWay 16 rfl) rfl rfl ?_
      refine K_iload_n 1 (kdA dt_MX12_lineOfWay 17 rfl) rfl rfl ?_
      refine K_iload_n 2 (kdA dt_MX12_lineOfWay 18 rfl) rfl rfl ?_
      refine K_iload_n 3 (kdA dt_MX12_lineOfWay 19 rfl) rfl rfl ?_
      refine K_iload 4 (kdA dt_MX12_lineOfWay 20 rfl) rfl ?_
      refine K_iload 5 (kdA dt_MX12_lineOfWay 21 rfl) rfl ?_
      refine K_cVv (c := 12) (as := [(0, a1), (0, a2), (0, a3), (0, a4), (0, a5)]) (st := []) (kdA dt_MX12_lineOfWay 22 rfl) rfl cl_MX12_layWay lk12_345 rfl rfl (Nat.le_of_ble_eq_true rfl) c1 (Cv.mono h (fun s3 h => ?_))
      refine K_aload_n 0 (kdA dt_MX12_lineOfWay 23 rfl) rfl rfl ?_
      refine gf12_70 rfl (kdA dt_MX12_lineOfWay 24 rfl) c1 ?_
      refine K_aload_n 0 (kdA dt_MX12_lineOfWay 25 rfl) rfl rfl ?_
      refine gf12_371 rfl (kdA dt_MX12_lineOfWay 26 rfl) c1 ?_
      refine K_iconst (kdA dt_MX12_lineOfWay 27 rfl) (by decide) ?_
      obtain ⟨c4, h⟩ := h
      obtain ⟨c5, h⟩ := h
      refine K_iastore' (kdA dt_MX12_lineOfWay 28 rfl) c4 c5.1 c5.2 (fun s4 es4 => ?_)
      have h := h s4 es4
      refine K_iconst (kdA dt_MX12_lineOfWay 29 rfl) (by decide) ?_
      refine K_istore (ls' := [(0, (2, a0)), (1, (0, a1)), (2, (0, a2)), (3, (0, a3)), (4, (0, a4)), (5, (0, a5)), (6, (0, 0))]) (kdA dt_MX12_lineOfWay 30 rfl) (by decide) rfl ?_
      refine K_pick [0, 6] (ls' := [(0, (2, a0)), (6, (0, 0))]) rfl ?_
      exact h
    · have h := h.2 c
      refine K_iconst (kdA dt_MX12_lineOfWay 14 rfl) (by decide) ?_
      exact K_ireturn (kdA dt_MX12_lineOfWay 15 rfl) rfl ⟨rfl, _, rfl, h⟩
theorem SX12_lineOfWay_53 {d n : Nat} {Q : Int → kS → Prop} {a0 a6 : Int} {σ : kS} (h : isO 12 n a0 ∧ (((σ a0 30) ≤ a6 → Ci d MX12_added [(2, a0)] n σ (fun x2 s1 => Q x2 s1)) ∧ (¬ (σ a0 30) ≤ a6 → isA 20 n (σ a0 29) ∧ (((0 : Int) ≤ a6 ∧ a6 < klen (σ a0 29)) ∧ (Cv d MX12_addCell [(2, a0), (0, (σ (σ a0 29) a6))] n σ (fun s1 => (-2147483648 ≤ (a6 + 1) ∧ (a6 + 1) ≤ 2147483647) ∧ (LX12_lineOfWay_53 d n Q a0 (a6 + 1) s1))))))) : LX12_lineOfWay_53 d n Q a0 a6 σ := by
  unfold LX12_lineOfWay_53
  refine K_iload 1 (kdA dt_MX12_lineOfWay 31 rfl) rfl ?_
  refine K_aload_n 0 (kdA dt_MX12_lineOfWay 32 rfl) rfl rfl ?_
  obtain ⟨c1, h⟩ := h
  refine gf12_330 rfl (kdA dt_MX12_lineOfWay 33 rfl) c1 ?_
  refine K_icmp_ge (tgt := 79) (kdA dt_MX12_lineOfWay 34 rfl) rfl (fun c => ?_) (fun c => ?_)
  · have h := h.1 c
    refine K_aload_n 0 (kdA dt_MX12_lineOfWay 43 rfl) rfl rfl ?_
    refine K_cVi (c := 12) (as := []) (st := []) (kdA dt_MX12_lineOfWay 44 rfl) rfl cl_MX12_added lk12_377 rfl rfl (Nat.le_of_ble_eq_true rfl) c1 (Ci.mono h (fun x2 s1 h => ?_))
    exact K_ireturn (kdA dt_MX12_lineOfWay 45 rfl) rfl ⟨rfl, _, rfl, h⟩
  · have h := h.2 c
    refine K_aload_n 0 (kdA dt_MX12_lineOfWay 35 rfl) rfl rfl ?_
    refine K_aload_n 0 (kdA dt_MX12_lineOfWay 36 rfl) rfl rfl ?_
    refine gf12_64 rfl (kdA dt_MX12_lineOfWay 37 rfl) c1 ?_
    refine K_iload 1 (kdA dt_MX12_lineOfWay 38 rfl) rfl ?_
    obtain ⟨c2, h⟩ := h
    obtain ⟨c3, h⟩ := h
    refine K_iaload (kdA dt_MX12_lineOfWay 39 rfl) c2 c3.1 c3.2 ?_
    refine K_cVv (c := 12) (as := [(0, (σ (σ a0 29) a6))]) (st := []) (kdA dt_MX12_lineOfWay 40 rfl) rfl cl_MX12_addCell lk12_374 rfl rfl (Nat.le_of_ble_eq_true rfl) c1 (Cv.mono h (fun s1 h => ?_))
    obtain ⟨c5, h⟩ := h
    refine K_iinc (ls' := [(0, (2, a0)), (6, (0, (a6 + 1)))]) 1 (kdA dt_MX12_lineOfWay 41 rfl) rfl c5 (by decide) rfl ?_
    refine K_goto (tgt := 53) (kdA dt_MX12_lineOfWay 42 rfl) rfl ?_
    exact h
theorem EX12_lineOfWay {d n : Nat} {Q : Int → kS → Prop} {a0 a1 a2 a3 a4 a5 : Int} {σ : kS} (h : (-2147483648 ≤ a1 ∧ a1 ≤ 2147483647) → (-2147483648 ≤ a2 ∧ a2 ≤ 2147483647) → (-2147483648 ≤ a3 ∧ a3 ≤ 2147483647) → (-2147483648 ≤ a4 ∧ a4 ≤ 2147483647) → (-2147483648 ≤ a5 ∧ a5 ≤ 2147483647) → kokw n σ → LX12_lineOfWay_0 d n Q a0 a1 a2 a3 a4 a5 σ) : Ci (d + 1) MX12_lineOfWay [(2, a0), (0, a1), (0, a2), (0, a3), (0, a4), (0, a5)] n σ Q := Tri_of (by decide +kernel) (Nat.le_of_ble_eq_true rfl) (fun hk hw => h (hk (0, a1) (List.mem_of_getElem? (i := 1) rfl)) (hk (0, a2) (List.mem_of_getElem? (i := 2) rfl)) (hk (0, a3) (List.mem_of_getElem? (i := 3) rfl)) (hk (0, a4) (List.mem_of_getElem? (i := 4) rfl)) (hk (0, a5) (List.mem_of_getElem? (i := 5) rfl)) hw)

def LX12_look_0 (d n : Nat) (Q : Int → kS → Prop) (a0 : Int) (σ : kS) : Prop := K (d + 1) MX12_look (kPi n Q) (0, 0) 0 [(0, (2, a0))] [] n σ
theorem SX12_look_0 {d n : Nat} {Q : Int → kS → Prop} {a0 : Int} {σ : kS} (h : isO 12 n a0 ∧ (((σ a0 17) ≤ (σ a0 18) → ((σ a0 17) ≤ (σ a0 18) → Q (-1) σ) ∧ (¬ (σ a0 17) ≤ (σ a0 18) → (-2147483648 ≤ ((σ a0 16) + (σ a0 18)) ∧ ((σ a0 16) + (σ a0 18)) ≤ 2147483647) ∧ (isA 21 n (σ a0 12) ∧ (((0 : Int) ≤ ((σ a0 16) + (σ a0 18)) ∧ ((σ a0 16) + (σ a0 18)) < klen (σ a0 12)) ∧ (Q (kand (σ (σ a0 12) ((σ a0 16) + (σ a0 18))) 255) σ))))) ∧ (¬ (σ a0 17) ≤ (σ a0 18) → (-2147483648 ≤ ((σ a0 16) + (σ a0 18)) ∧ ((σ a0 16) + (σ a0 18)) ≤ 2147483647) ∧ (isA 21 n (σ a0 12) ∧ (((0 : Int) ≤ ((σ a0 16) + (σ a0 18)) ∧ ((σ a0 16) + (σ a0 18)) < klen (σ a0 12)) ∧ ((¬ (σ (σ a0 12) ((σ a0 16) + (σ a0 18))) = 32 → ((σ a0 17) ≤ (σ a0 18) → Q (-1) σ) ∧ (¬ (σ a0 17) ≤ (σ a0 18) → Q (kand (σ (σ a0 12) ((σ a0 16) + (σ a0 18))) 255) σ)) ∧ (¬ (¬ (σ (σ a0 12) ((σ a0 16) + (σ a0 18))) = 32) → (-2147483648 ≤ ((σ a0 18) + 1) ∧ ((σ a0 18) + 1) ≤ 2147483647) ∧ (∀ s1, s1 = kst σ a0 18 ((σ a0 18) + 1) → LX12_look_0 d n Q a0 s1)))))))) : LX12_look_0 d n Q a0 σ := by
  unfold LX12_look_0
  refine K_aload_n 0 (kdA dt_MX12_look 0 rfl) rfl rfl ?_
  obtain ⟨c1, h⟩ := h
  refine gf12_203 rfl (kdA dt_MX12_look 1 rfl) c1 ?_
  refine K_aload_n 0 (kdA dt_MX12_look 2 rfl) rfl rfl ?_
  refine gf12_206 rfl (kdA dt_MX12_look 3 rfl) c1 ?_
  refine K_icmp_ge (tgt := 43) (kdA dt_MX12_look 4 rfl) rfl (fun c => ?_) (fun c => ?_)
  · have h := h.1 c
    refine K_aload_n 0 (kdA dt_MX12_look 22 rfl) rfl rfl ?_
    refine gf12_203 rfl (kdA dt_MX12_look 23 rfl) c1 ?_
    refine K_aload_n 0 (kdA dt_MX12_look 24 rfl) rfl rfl ?_
    refine gf12_206 rfl (kdA dt_MX12_look 25 rfl) c1 ?_
    refine K_icmp_ge (tgt := 75) (kdA dt_MX12_look 26 rfl) rfl (fun c => ?_) (fun c => ?_)
    · have h := h.1 c
      refine K_iconst (kdA dt_MX12_look 38 rfl) (by decide) ?_
      exact K_ireturn (kdA dt_MX12_look 39 rfl) rfl ⟨rfl, _, rfl, h⟩
    · have h := h.2 c
      refine K_aload_n 0 (kdA dt_MX12_look 27 rfl) rfl rfl ?_
      refine gf12_41 rfl (kdA dt_MX12_look 28 rfl) c1 ?_
      refine K_aload_n 0 (kdA dt_MX12_look 29 rfl) rfl rfl ?_
      refine gf12_209 rfl (kdA dt_MX12_look 30 rfl) c1 ?_
      refine K_aload_n 0 (kdA dt_MX12_look 31 rfl) rfl rfl ?_
      refine gf12_203 rfl (kdA dt_MX12_look 32 rfl) c1 ?_
      obtain ⟨c2, h⟩ := h
      refine K_iadd (kdA dt_MX12_look 33 rfl) c2 ?_
      obtain ⟨c3, h⟩ := h
      obtain ⟨c4, h⟩ := h
      refine K_baload (kdA dt_MX12_look 34 rfl) (Or.inl c3) c4.1 c4.2 ?_
      refine K_sipush (kdA dt_MX12_look 35 rfl) (by decide +kernel) ?_
      refine K_iand (kdA dt_MX12_look 36 rfl) ?_
      refine K_goto (tgt := 76) (kdA dt_MX12_look 37 rfl) rfl ?_
      exact K_ireturn (kdA dt_MX12_look 39 rfl) rfl ⟨rfl, _, rfl, h⟩
  · have h := h.2 c
    refine K_aload_n 0 (kdA dt_MX12_look 5 rfl) rfl rfl ?_
    refine gf12_41 rfl (kdA dt_MX12_look 6 rfl) c1 ?_
    refine K_aload_n 0 (kdA dt_MX12_look 7 rfl) rfl rfl ?_
    refine gf12_209 rfl (kdA dt_MX12_look 8 rfl) c1 ?_
    refine K_aload_n 0 (kdA dt_MX12_look 9 rfl) rfl rfl ?_
    refine gf12_203 rfl (kdA dt_MX12_look 10 rfl) c1 ?_
    obtain ⟨c2, h⟩ := h
    refine K_iadd (kdA dt_MX12_look 11 rfl) c2 ?_
    obtain ⟨c3, h⟩ := h
    obtain ⟨c4, h⟩ := h
    refine K_baload (kdA dt_MX12_look 12 rfl) (Or.inl c3) c4.1 c4.2 ?_
    refine K_bipush (kdA dt_MX12_look 13 rfl) (by decide +kernel) ?_
    refine K_icmp_ne (tgt := 43) (kdA dt_MX12_look 14 rfl) rfl (fun c => ?_) (fun c => ?_)
    · have h := h.1 c
      refine K_aload_n 0 (kdA dt_MX12_look 22 rfl) rfl rfl ?_
      refine gf12_203 rfl (kdA dt_MX12_look 23 rfl) c1 ?_
      refine K_aload_n 0 (kdA dt_MX12_look 24 rfl) rfl rfl ?_
      refine gf12_206 rfl (kdA dt_MX12_look 25 rfl) c1 ?_
      refine K_icmp_ge (tgt := 75) (kdA dt_MX12_look 26 rfl) rfl (fun c => ?_) (fun c => ?_)
      · have h := h.1 c
        refine K_iconst (kdA dt_MX12_look 38 rfl) (by decide) ?_
        exact K_ireturn (kdA dt_MX12_look 39 rfl) rfl ⟨rfl, _, rfl, h⟩
      · have h := h.2 c
        refine K_aload_n 0 (kdA dt_MX12_look 27 rfl) rfl rfl ?_
        refine gf12_41 rfl (kdA dt_MX12_look 28 rfl) c1 ?_
        refine K_aload_n 0 (kdA dt_MX12_look 29 rfl) rfl rfl ?_
        refine gf12_209 rfl (kdA dt_MX12_look 30 rfl) c1 ?_
        refine K_aload_n 0 (kdA dt_MX12_look 31 rfl) rfl rfl ?_
        refine gf12_203 rfl (kdA dt_MX12_look 32 rfl) c1 ?_
        refine K_iadd (kdA dt_MX12_look 33 rfl) c2 ?_
        refine K_baload (kdA dt_MX12_look 34 rfl) (Or.inl c3) c4.1 c4.2 ?_
        refine K_sipush (kdA dt_MX12_look 35 rfl) (by decide +kernel) ?_
        refine K_iand (kdA dt_MX12_look 36 rfl) ?_
        refine K_goto (tgt := 76) (kdA dt_MX12_look 37 rfl) rfl ?_
        exact K_ireturn (kdA dt_MX12_look 39 rfl) rfl ⟨rfl, _, rfl, h⟩
    · have h := h.2 c
      refine K_aload_n 0 (kdA dt_MX12_look 15 rfl) rfl rfl ?_
      refine K_dup (kdA dt_MX12_look 16 rfl) rfl ?_
      refine gf12_203 rfl (kdA dt_MX12_look 17 rfl) c1 ?_
      refine K_iconst (kdA dt_MX12_look 18 rfl) (by decide) ?_
      obtain ⟨c5, h⟩ := h
      refine K_iadd (kdA dt_MX12_look 19 rfl) c5 ?_
      refine pf12_203 rfl (kdA dt_MX12_look 20 rfl) c1 (fun s1 es1 => ?_)
      have h := h s1 es1
      refine K_goto (tgt := 0) (kdA dt_MX12_look 21 rfl) rfl ?_
      exact h
theorem EX12_look {d n : Nat} {Q : Int → kS → Prop} {a0 : Int} {σ : kS} (h : kokw n σ → LX12_look_0 d n Q a0 σ) : Ci (d + 1) MX12_look [(2, a0)] n σ Q := Tri_of (by decide +kernel) (Nat.le_of_ble_eq_true rfl) (fun hk hw => h hw)

def LX12_meets_0 (d n : Nat) (Q : Int → kS → Prop) (a0 : Int) (a1 : Int) (a2 : Int) (σ : kS) : Prop := K (d + 1) MX12_meets (kPi n Q) (0, 0) 0 [(0, (2, a0)), (1, (0, a1)), (2, (0, a2))] [] n σ
theorem SX12_meets_0 {d n : Nat} {Q : Int → kS → Prop} {a0 a1 a2 : Int} {σ : kS} (h : isO 12 n a0 ∧ (∀ s1, s1 = kst σ a0 0 0 → Ci d MX12_isLine [(2, a0), (0, a1)] n s1 (fun x2 s2 => (x2 = 0 → Q (-1) s2) ∧ (¬ x2 = 0 → (-2147483648 ≤ ((s2 a0 54) - 1) ∧ ((s2 a0 54) - 1) ≤ 2147483647) ∧ (Ci d MX12_isIn [(0, a2), (0, 0), (0, ((s2 a0 54) - 1))] n s2 (fun x4 s3 => (x4 = 0 → Q (-1) s3) ∧ (¬ x4 = 0 → Ci d MX12_meetsOf [(2, a0), (0, a1), (0, a2)] n s3 (fun x5 s4 => Q x5 s4)))))))) : LX12_meets_0 d n Q a0 a1 a2 σ := by
  unfold LX12_meets_0
  refine K_aload_n 0 (kdA dt_MX12_meets 0 rfl) rfl rfl ?_
  refine K_iconst (kdA dt_MX12_meets 1 rfl) (by decide) ?_
  obtain ⟨c1, h⟩ := h
  refine pf12_149 rfl (kdA dt_MX12_meets 2 rfl) c1 (fun s1 es1 => ?_)
  have h := h s1 es1
  refine K_aload_n 0 (kdA dt_MX12_meets 3 rfl) rfl rfl ?_
  refine K_iload_n 1 (kdA dt_MX12_meets 4 rfl) rfl rfl ?_
  refine K_cVi (c := 12) (as := [(0, a1)]) (st := []) (kdA dt_MX12_meets 5 rfl) rfl cl_MX12_isLine lk12_383 rfl rfl (Nat.le_of_ble_eq_true rfl) c1 (Ci.mono h (fun x2 s2 h => ?_))
  refine K_if_eq (tgt := 36) (kdA dt_MX12_meets 6 rfl) rfl (fun c => ?_) (fun c => ?_)
  · have h := h.1 c
    refine K_iconst (kdA dt_MX12_meets 20 rfl) (by decide) ?_
    exact K_ireturn (kdA dt_MX12_meets 21 rfl) rfl ⟨rfl, _, rfl, h⟩
  · have h := h.2 c
    refine K_iload_n 2 (kdA dt_MX12_meets 7 rfl) rfl rfl ?_
    refine K_iconst (kdA dt_MX12_meets 8 rfl) (by decide) ?_
    refine K_aload_n 0 (kdA dt_MX12_meets 9 rfl) rfl rfl ?_
    refine gf12_479 rfl (kdA dt_MX12_meets 10 rfl) c1 ?_
    refine K_iconst (kdA dt_MX12_meets 11 rfl) (by decide) ?_
    obtain ⟨c3, h⟩ := h
    refine K_isub (kdA dt_MX12_meets 12 rfl) c3 ?_
    refine K_cSi (as := [(0, a2), (0, 0), (0, ((s2 a0 54) - 1))]) (st := []) (kdA dt_MX12_meets 13 rfl) cl_MX12_isIn lk12_153 rfl rfl (Nat.le_of_ble_eq_true rfl) (Ci.mono h (fun x4 s3 h => ?_))
    refine K_if_eq (tgt := 36) (kdA dt_MX12_meets 14 rfl) rfl (fun c => ?_) (fun c => ?_)
    · have h := h.1 c
      refine K_iconst (kdA dt_MX12_meets 20 rfl) (by decide) ?_
      exact K_ireturn (kdA dt_MX12_meets 21 rfl) rfl ⟨rfl, _, rfl, h⟩
    · have h := h.2 c
      refine K_aload_n 0 (kdA dt_MX12_meets 15 rfl) rfl rfl ?_
      refine K_iload_n 1 (kdA dt_MX12_meets 16 rfl) rfl rfl ?_
      refine K_iload_n 2 (kdA dt_MX12_meets 17 rfl) rfl rfl ?_
      refine K_cVi (c := 12) (as := [(0, a1), (0, a2)]) (st := []) (kdA dt_MX12_meets 18 rfl) rfl cl_MX12_meetsOf lk12_485 rfl rfl (Nat.le_of_ble_eq_true rfl) c1 (Ci.mono h (fun x5 s4 h => ?_))
      refine K_goto (tgt := 37) (kdA dt_MX12_meets 19 rfl) rfl ?_
      exact K_ireturn (kdA dt_MX12_meets 21 rfl) rfl ⟨rfl, _, rfl, h⟩
theorem EX12_meets {d n : Nat} {Q : Int → kS → Prop} {a0 a1 a2 : Int} {σ : kS} (h : (-2147483648 ≤ a1 ∧ a1 ≤ 2147483647) → (-2147483648 ≤ a2 ∧ a2 ≤ 2147483647) → kokw n σ → LX12_meets_0 d n Q a0 a1 a2 σ) : Ci (d + 1) MX12_meets [(2, a0), (0, a1), (0, a2)] n σ Q := Tri_of (by decide +kernel) (Nat.le_of_ble_eq_true rfl) (fun hk hw => h (hk (0, a1) (List.mem_of_getElem? (i := 1) rfl)) (hk (0, a2) (List.mem_of_getElem? (i := 2) rfl)) hw)

def LX12_meetsOf_0 (d n : Nat) (Q : Int → kS → Prop) (a0 : Int) (a1 : Int) (a2 : Int) (σ : kS) : Prop := K (d + 1) MX12_meetsOf (kPi n Q) (0, 0) 0 [(0, (2, a0)), (1, (0, a1)), (2, (0, a2))] [] n σ
def LX12_meetsOf_11 (d n : Nat) (Q : Int → kS → Prop) (a0 : Int) (a1 : Int) (a2 : Int) (a3 : Int) (a4 : Int) (a5 : Int) (a6 : Int) (σ : kS) : Prop := K (d + 1) MX12_meetsOf (kPi n Q) (0, 0) 11 [(0, (2, a0)), (1, (0, a1)), (2, (0, a2)), (3, (0, a3)), (4, (0, a4)), (5, (0, a5)), (6, (0, a6))] [] n σ
theorem SX12_meetsOf_0 {d n : Nat} {Q : Int → kS → Prop} {a0 a1 a2 : Int} {σ : kS} (h : LX12_meetsOf_11 d n Q a0 a1 a2 0 0 0 0 σ) : LX12_meetsOf_0 d n Q a0 a1 a2 σ := by
  unfold LX12_meetsOf_0
  refine K_iconst (kdA dt_MX12_meetsOf 0 rfl) (by decide) ?_
  refine K_istore_n (ls' := [(0, (2, a0)), (1, (0, a1)), (2, (0, a2)), (3, (0, 0))]) (kdA dt_MX12_meetsOf 1 rfl) rfl (by decide) rfl ?_
  refine K_iconst (kdA dt_MX12_meetsOf 2 rfl) (by decide) ?_
  refine K_istore (ls' := [(0, (2, a0)), (1, (0, a1)), (2, (0, a2)), (3, (0, 0)), (4, (0, 0))]) (kdA dt_MX12_meetsOf 3 rfl) (by decide) rfl ?_
  refine K_iconst (kdA dt_MX12_meetsOf 4 rfl) (by decide) ?_
  refine K_istore (ls' := [(0, (2, a0)), (1, (0, a1)), (2, (0, a2)), (3, (0, 0)), (4, (0, 0)), (5, (0, 0))]) (kdA dt_MX12_meetsOf 5 rfl) (by decide) rfl ?_
  refine K_iconst (kdA dt_MX12_meetsOf 6 rfl) (by decide) ?_
  refine K_istore (ls' := [(0, (2, a0)), (1, (0, a1)), (2, (0, a2)), (3, (0, 0)), (4, (0, 0)), (5, (0, 0)), (6, (0, 0))]) (kdA dt_MX12_meetsOf 7 rfl) (by decide) rfl ?_
  exact h
theorem SX12_meetsOf_11 {d n : Nat} {Q : Int → kS → Prop} {a0 a1 a2 a3 a4 a5 a6 : Int} {σ : kS} (h : isO 12 n a0 ∧ (isA 20 n (σ a0 32) ∧ (((0 : Int) ≤ a1 ∧ a1 < klen (σ a0 32)) ∧ (((σ (σ a0 32) a1) ≤ a6 → (a3 = 0 → (a4 = 0 → Q (0 + 0) σ) ∧ (¬ a4 = 0 → Q (0 + 2) σ)) ∧ (¬ a3 = 0 → (a4 = 0 → Q (1 + 0) σ) ∧ (¬ a4 = 0 → Q (1 + 2) σ))) ∧ (¬ (σ (σ a0 32) a1) ≤ a6 → Ci d MX12_cellOf [(2, a0), (0, a1), (0, a6)] n σ (fun x4 s1 => Ci d MX12_lies [(2, a0), (0, a2), (0, x4)] n s1 (fun x5 s2 => (¬ a3 = 0 → (¬ x5 = 1 → (¬ a4 = 0 → (-2147483648 ≤ (a6 + 1) ∧ (a6 + 1) ≤ 2147483647) ∧ (LX12_meetsOf_11 d n Q a0 a1 a2 1 1 0 (a6 + 1) s2)) ∧ (¬ (¬ a4 = 0) → (-2147483648 ≤ (a6 + 1) ∧ (a6 + 1) ≤ 2147483647) ∧ (LX12_meetsOf_11 d n Q a0 a1 a2 1 0 0 (a6 + 1) s2))) ∧ (¬ (¬ x5 = 1) → (-2147483648 ≤ (a5 + 1) ∧ (a5 + 1) ≤ 2147483647) ∧ ((¬ a4 = 0 → (-2147483648 ≤ (a6 + 1) ∧ (a6 + 1) ≤ 2147483647) ∧ (LX12_meetsOf_11 d n Q a0 a1 a2 1 1 (a5 + 1) (a6 + 1) s2)) ∧ (¬ (¬ a4 = 0) → (¬ (a5 + 1) = 3 → (-2147483648 ≤ (a6 + 1) ∧ (a6 + 1) ≤ 2147483647) ∧ (LX12_meetsOf_11 d n Q a0 a1 a2 1 0 (a5 + 1) (a6 + 1) s2)) ∧ (¬ (¬ (a5 + 1) = 3) → (-2147483648 ≤ (a6 + 1) ∧ (a6 + 1) ≤ 2147483647) ∧ (LX12_meetsOf_11 d n Q a0 a1 a2 1 1 (a5 + 1) (a6 + 1) s2)))))) ∧ (¬ (¬ a3 = 0) → (¬ x5 = 2 → (¬ x5 = 1 → (¬ a4 = 0 → (-2147483648 ≤ (a6 + 1) ∧ (a6 + 1) ≤ 2147483647) ∧ (LX12_meetsOf_11 d n Q a0 a1 a2 0 1 0 (a6 + 1) s2)) ∧ (¬ (¬ a4 = 0) → (-2147483648 ≤ (a6 + 1) ∧ (a6 + 1) ≤ 2147483647) ∧ (LX12_meetsOf_11 d n Q a0 a1 a2 0 0 0 (a6 + 1) s2))) ∧ (¬ (¬ x5 = 1) → (-2147483648 ≤ (a5 + 1) ∧ (a5 + 1) ≤ 2147483647) ∧ ((¬ a4 = 0 → (-2147483648 ≤ (a6 + 1) ∧ (a6 + 1) ≤ 2147483647) ∧ (LX12_meetsOf_11 d n Q a0 a1 a2 0 1 (a5 + 1) (a6 + 1) s2)) ∧ (¬ (¬ a4 = 0) → (¬ (a5 + 1) = 3 → (-2147483648 ≤ (a6 + 1) ∧ (a6 + 1) ≤ 2147483647) ∧ (LX12_meetsOf_11 d n Q a0 a1 a2 0 0 (a5 + 1) (a6 + 1) s2)) ∧ (¬ (¬ (a5 + 1) = 3) → (-2147483648 ≤ (a6 + 1) ∧ (a6 + 1) ≤ 2147483647) ∧ (LX12_meetsOf_11 d n Q a0 a1 a2 0 1 (a5 + 1) (a6 + 1) s2)))))) ∧ (¬ (¬ x5 = 2) → (¬ x5 = 1 → (¬ a4 = 0 → (-2147483648 ≤ (a6 + 1) ∧ (a6 + 1) ≤ 2147483647) ∧ (LX12_meetsOf_11 d n Q a0 a1 a2 1 1 0 (a6 + 1) s2)) ∧ (¬ (¬ a4 = 0) → (-2147483648 ≤ (a6 + 1) ∧ (a6 + 1) ≤ 2147483647) ∧ (LX12_meetsOf_11 d n Q a0 a1 a2 1 0 0 (a6 + 1) s2))) ∧ (¬ (¬ x5 = 1) → (-2147483648 ≤ (a5 + 1) ∧ (a5 + 1) ≤ 2147483647) ∧ ((¬ a4 = 0 → (-2147483648 ≤ (a6 + 1) ∧ (a6 + 1) ≤ 2147483647) ∧ (LX12_meetsOf_11 d n Q a0 a1 a2 1 1 (a5 + 1) (a6 + 1) s2)) ∧ (¬ (¬ a4 = 0) → (¬ (a5 + 1) = 3 → (-2147483648 ≤ (a6 + 1) ∧ (a6 + 1) ≤ 2147483647) ∧ (LX12_meetsOf_11 d n Q a0 a1 a2 1 0 (a5 + 1) (a6 + 1) s2)) ∧ (¬ (¬ (a5 + 1) = 3) → (-2147483648 ≤ (a6 + 1) ∧ (a6 + 1) ≤ 2147483647) ∧ (LX12_meetsOf_11 d n Q a0 a1 a2 1 1 (a5 + 1) (a6 + 1) s2)))))))))))))) : LX12_meetsOf_11 d n Q a0 a1 a2 a3 a4 a5 a6 σ := by
  unfold LX12_meetsOf_11
  refine K_iload 6 (kdA dt_MX12_meetsOf 8 rfl) rfl ?_
  refine K_aload_n 0 (kdA dt_MX12_meetsOf 9 rfl) rfl rfl ?_
  obtain ⟨c1, h⟩ := h
  refine gf12_70 rfl (kdA dt_MX12_meetsOf 10 rfl) c1 ?_
  refine K_iload_n 1 (kdA dt_MX12_meetsOf 11 rfl) rfl rfl ?_
  obtain ⟨c2, h⟩ := h
  obtain ⟨c3, h⟩ := h
  refine K_iaload (kdA dt_MX12_meetsOf 12 rfl) c2 c3.1 c3.2 ?_
  refine K_icmp_ge (tgt := 92) (kdA dt_MX12_meetsOf 13 rfl) rfl (fun c => ?_) (fun c => ?_)
  · have h := h.1 c
    refine K_iload_n 3 (kdA dt_MX12_meetsOf 51 rfl) rfl rfl ?_
    refine K_if_eq (tgt := 100) (kdA dt_MX12_meetsOf 52 rfl) rfl (fun c => ?_) (fun c => ?_)
    · have h := h.1 c
      refine K_iconst (kdA dt_MX12_meetsOf 55 rfl) (by decide) ?_
      refine K_iload 4 (kdA dt_MX12_meetsOf 56 rfl) rfl ?_
      refine K_if_eq (tgt := 110) (kdA dt_MX12_meetsOf 57 rfl) rfl (fun c => ?_) (fun c => ?_)
      · have h := h.1 c
        refine K_iconst (kdA dt_MX12_meetsOf 60 rfl) (by decide) ?_
        refine K_iadd (kdA dt_MX12_meetsOf 61 rfl) ⟨by decide, by decide⟩ ?_
        exact K_ireturn (kdA dt_MX12_meetsOf 62 rfl) rfl ⟨rfl, _, rfl, h⟩
      · have h := h.2 c
        refine K_iconst (kdA dt_MX12_meetsOf 58 rfl) (by decide) ?_
        refine K_goto (tgt := 111) (kdA dt_MX12_meetsOf 59 rfl) rfl ?_
        refine K_iadd (kdA dt_MX12_meetsOf 61 rfl) ⟨by decide, by decide⟩ ?_
        exact K_ireturn (kdA dt_MX12_meetsOf 62 rfl) rfl ⟨rfl, _, rfl, h⟩
    · have h := h.2 c
      refine K_iconst (kdA dt_MX12_meetsOf 53 rfl) (by decide) ?_
      refine K_goto (tgt := 101) (kdA dt_MX12_meetsOf 54 rfl) rfl ?_
      refine K_iload 4 (kdA dt_MX12_meetsOf 56 rfl) rfl ?_
      refine K_if_eq (tgt := 110) (kdA dt_MX12_meetsOf 57 rfl) rfl (fun c => ?_) (fun c => ?_)
      · have h := h.1 c
        refine K_iconst (kdA dt_MX12_meetsOf 60 rfl) (by decide) ?_
        refine K_iadd (kdA dt_MX12_meetsOf 61 rfl) ⟨by decide, by decide⟩ ?_
        exact K_ireturn (kdA dt_MX12_meetsOf 62 rfl) rfl ⟨rfl, _, rfl, h⟩
      · have h := h.2 c
        refine K_iconst (kdA dt_MX12_meetsOf 58 rfl) (by decide) ?_
        refine K_goto (tgt := 111) (kdA dt_MX12_meetsOf 59 rfl) rfl ?_
        refine K_iadd (kdA dt_MX12_meetsOf 61 rfl) ⟨by decide, by decide⟩ ?_
        exact K_ireturn (kdA dt_MX12_meetsOf 62 rfl) rfl ⟨rfl, _, rfl, h⟩
  · have h := h.2 c
    refine K_aload_n 0 (kdA dt_MX12_meetsOf 14 rfl) rfl rfl ?_
    refine K_iload_n 2 (kdA dt_MX12_meetsOf 15 rfl) rfl rfl ?_
    refine K_aload_n 0 (kdA dt_MX12_meetsOf 16 rfl) rfl rfl ?_
    refine K_iload_n 1 (kdA dt_MX12_meetsOf 17 rfl) rfl rfl ?_
    refine K_iload 6 (kdA dt_MX12_meetsOf 18 rfl) rfl ?_
    refine K_cVi (c := 12) (as := [(0, a1), (0, a6)]) (st := [(0, a2), (2, a0)]) (kdA dt_MX12_meetsOf 19 rfl) rfl cl_MX12_cellOf lk12_386 rfl rfl (Nat.le_of_ble_eq_true rfl) c1 (Ci.mono h (fun x4 s1 h => ?_))
    refine K_cVi (c := 12) (as := [(0, a2), (0, x4)]) (st := []) (kdA dt_MX12_meetsOf 20 rfl) rfl cl_MX12_lies lk12_482 rfl rfl (Nat.le_of_ble_eq_true rfl) c1 (Ci.mono h (fun x5 s2 h => ?_))
    refine K_istore (ls' := [(0, (2, a0)), (1, (0, a1)), (2, (0, a2)), (3, (0, a3)), (4, (0, a4)), (5, (0, a5)), (6, (0, a6)), (7, (0, x5))]) (kdA dt_MX12_meetsOf 21 rfl) (by decide) rfl ?_
    refine K_iload_n 3 (kdA dt_MX12_meetsOf 22 rfl) rfl rfl ?_
    refine K_if_ne (tgt := 46) (kdA dt_MX12_meetsOf 23 rfl) rfl (fun c => ?_) (fun c => ?_)
    · have h := h.1 c
      refine K_iconst (kdA dt_MX12_meetsOf 27 rfl) (by decide) ?_
      refine K_goto (tgt := 51) (kdA dt_MX12_meetsOf 28 rfl) rfl ?_
      refine K_istore_n (ls' := [(0, (2, a0)), (1, (0, a1)), (2, (0, a2)), (3, (0, 1)), (4, (0, a4)), (5, (0, a5)), (6, (0, a6)), (7, (0, x5))]) (kdA dt_MX12_meetsOf 30 rfl) rfl (by decide) rfl ?_
      refine K_iload 7 (kdA dt_MX12_meetsOf 31 rfl) rfl ?_
      refine K_iconst (kdA dt_MX12_meetsOf 32 rfl) (by decide) ?_
      refine K_icmp_ne (tgt := 65) (kdA dt_MX12_meetsOf 33 rfl) rfl (fun c => ?_) (fun c => ?_)
      · have h := h.1 c
        refine K_iconst (kdA dt_MX12_meetsOf 38 rfl) (by decide) ?_
        refine K_istore (ls' := [(0, (2, a0)), (1, (0, a1)), (2, (0, a2)), (3, (0, 1)), (4, (0, a4)), (5, (0, 0)), (6, (0, a6)), (7, (0, x5))]) (kdA dt_MX12_meetsOf 39 rfl) (by decide) rfl ?_
        refine K_iload 4 (kdA dt_MX12_meetsOf 40 rfl) rfl ?_
        refine K_if_ne (tgt := 79) (kdA dt_MX12_meetsOf 41 rfl) rfl (fun c => ?_) (fun c => ?_)
        · have h := h.1 c
          refine K_iconst (kdA dt_MX12_meetsOf 45 rfl) (by decide) ?_
          refine K_goto (tgt := 84) (kdA dt_MX12_meetsOf 46 rfl) rfl ?_
          refine K_istore (ls' := [(0, (2, a0)), (1, (0, a1)), (2, (0, a2)), (3, (0, 1)), (4, (0, 1)), (5, (0, 0)), (6, (0, a6)), (7, (0, x5))]) (kdA dt_MX12_meetsOf 48 rfl) (by decide) rfl ?_
          obtain ⟨c6, h⟩ := h
          refine K_iinc (ls' := [(0, (2, a0)), (1, (0, a1)), (2, (0, a2)), (3, (0, 1)), (4, (0, 1)), (5, (0, 0)), (6, (0, (a6 + 1))), (7, (0, x5))]) 6 (kdA dt_MX12_meetsOf 49 rfl) rfl c6 (by decide) rfl ?_
          refine K_goto (tgt := 11) (kdA dt_MX12_meetsOf 50 rfl) rfl ?_
          refine K_pick [0, 1, 2, 3, 4, 5, 6] (ls' := [(0, (2, a0)), (1, (0, a1)), (2, (0, a2)), (3, (0, 1)), (4, (0, 1)), (5, (0, 0)), (6, (0, (a6 + 1)))]) rfl ?_
          exact h
        · have h := h.2 c
          refine K_iload 5 (kdA dt_MX12_meetsOf 42 rfl) rfl ?_
          refine K_iconst (kdA dt_MX12_meetsOf 43 rfl) (by decide) ?_
          refine K_icmp_ne (tgt := 83) (kdA dt_MX12_meetsOf 44 rfl) rfl (fun _ => ?_) (fun c => absurd (by decide) c)
          refine K_iconst (kdA dt_MX12_meetsOf 47 rfl) (by decide) ?_
          refine K_istore (ls' := [(0, (2, a0)), (1, (0, a1)), (2, (0, a2)), (3, (0, 1)), (4, (0, 0)), (5, (0, 0)), (6, (0, a6)), (7, (0, x5))]) (kdA dt_MX12_meetsOf 48 rfl) (by decide) rfl ?_
          obtain ⟨c6, h⟩ := h
          refine K_iinc (ls' := [(0, (2, a0)), (1, (0, a1)), (2, (0, a2)), (3, (0, 1)), (4, (0, 0)), (5, (0, 0)), (6, (0, (a6 + 1))), (7, (0, x5))]) 6 (kdA dt_MX12_meetsOf 49 rfl) rfl c6 (by decide) rfl ?_
          refine K_goto (tgt := 11) (kdA dt_MX12_meetsOf 50 rfl) rfl ?_
          refine K_pick [0, 1, 2, 3, 4, 5, 6] (ls' := [(0, (2, a0)), (1, (0, a1)), (2, (0, a2)), (3, (0, 1)), (4, (0, 0)), (5, (0, 0)), (6, (0, (a6 + 1)))]) rfl ?_
          exact h
      · have h := h.2 c
        refine K_iload 5 (kdA dt_MX12_meetsOf 34 rfl) rfl ?_
        refine K_iconst (kdA dt_MX12_meetsOf 35 rfl) (by decide) ?_
        obtain ⟨c6, h⟩ := h
        refine K_iadd (kdA dt_MX12_meetsOf 36 rfl) c6 ?_
        refine K_goto (tgt := 66) (kdA dt_MX12_meetsOf 37 rfl) rfl ?_
        refine K_istore (ls' := [(0, (2, a0)), (1, (0, a1)), (2, (0, a2)), (3, (0, 1)), (4, (0, a4)), (5, (0, (a5 + 1))), (6, (0, a6)), (7, (0, x5))]) (kdA dt_MX12_meetsOf 39 rfl) (by decide) rfl ?_
        refine K_iload 4 (kdA dt_MX12_meetsOf 40 rfl) rfl ?_
        refine K_if_ne (tgt := 79) (kdA dt_MX12_meetsOf 41 rfl) rfl (fun c => ?_) (fun c => ?_)
        · have h := h.1 c
          refine K_iconst (kdA dt_MX12_meetsOf 45 rfl) (by decide) ?_
          refine K_goto (tgt := 84) (kdA dt_MX12_meetsOf 46 rfl) rfl ?_
          refine K_istore (ls' := [(0, (2, a0)), (1, (0, a1)), (2, (0, a2)), (3, (0, 1)), (4, (0, 1)), (5, (0, (a5 + 1))), (6, (0, a6)), (7, (0, x5))]) (kdA dt_MX12_meetsOf 48 rfl) (by decide) rfl ?_
          obtain ⟨c7, h⟩ := h
          refine K_iinc (ls' := [(0, (2, a0)), (1, (0, a1)), (2, (0, a2)), (3, (0, 1)), (4, (0, 1)), (5, (0, (a5 + 1))), (6, (0, (a6 + 1))), (7, (0, x5))]) 6 (kdA dt_MX12_meetsOf 49 rfl) rfl c7 (by decide) rfl ?_
          refine K_goto (tgt := 11) (kdA dt_MX12_meetsOf 50 rfl) rfl ?_
          refine K_pick [0, 1, 2, 3, 4, 5, 6] (ls' := [(0, (2, a0)), (1, (0, a1)), (2, (0, a2)), (3, (0, 1)), (4, (0, 1)), (5, (0, (a5 + 1))), (6, (0, (a6 + 1)))]) rfl ?_
          exact h
        · have h := h.2 c
          refine K_iload 5 (kdA dt_MX12_meetsOf 42 rfl) rfl ?_
          refine K_iconst (kdA dt_MX12_meetsOf 43 rfl) (by decide) ?_
          refine K_icmp_ne (tgt := 83) (kdA dt_MX12_meetsOf 44 rfl) rfl (fun c => ?_) (fun c => ?_)
          · have h := h.1 c
            refine K_iconst (kdA dt_MX12_meetsOf 47 rfl) (by decide) ?_
            refine K_istore (ls' := [(0, (2, a0)), (1, (0, a1)), (2, (0, a2)), (3, (0, 1)), (4, (0, 0)), (5, (0, (a5 + 1))), (6, (0, a6)), (7, (0, x5))]) (kdA dt_MX12_meetsOf 48 rfl) (by decide) rfl ?_
            obtain ⟨c7, h⟩ := h
            refine K_iinc (ls' := [(0, (2, a0)), (1, (0, a1)), (2, (0, a2)), (3, (0, 1)), (4, (0, 0)), (5, (0, (a5 + 1))), (6, (0, (a6 + 1))), (7, (0, x5))]) 6 (kdA dt_MX12_meetsOf 49 rfl) rfl c7 (by decide) rfl ?_
            refine K_goto (tgt := 11) (kdA dt_MX12_meetsOf 50 rfl) rfl ?_
            refine K_pick [0, 1, 2, 3, 4, 5, 6] (ls' := [(0, (2, a0)), (1, (0, a1)), (2, (0, a2)), (3, (0, 1)), (4, (0, 0)), (5, (0, (a5 + 1))), (6, (0, (a6 + 1)))]) rfl ?_
            exact h
          · have h := h.2 c
            refine K_iconst (kdA dt_MX12_meetsOf 45 rfl) (by decide) ?_
            refine K_goto (tgt := 84) (kdA dt_MX12_meetsOf 46 rfl) rfl ?_
            refine K_istore (ls' := [(0, (2, a0)), (1, (0, a1)), (2, (0, a2)), (3, (0, 1)), (4, (0, 1)), (5, (0, (a5 + 1))), (6, (0, a6)), (7, (0, x5))]) (kdA dt_MX12_meetsOf 48 rfl) (by decide) rfl ?_
            obtain ⟨c7, h⟩ := h
            refine K_iinc (ls' := [(0, (2, a0)), (1, (0, a1)), (2, (0, a2)), (3, (0, 1)), (4, (0, 1)), (5, (0, (a5 + 1))), (6, (0, (a6 + 1))), (7, (0, x5))]) 6 (kdA dt_MX12_meetsOf 49 rfl) rfl c7 (by decide) rfl ?_
            refine K_goto (tgt := 11) (kdA dt_MX12_meetsOf 50 rfl) rfl ?_
            refine K_pick [0, 1, 2, 3, 4, 5, 6] (ls' := [(0, (2, a0)), (1, (0, a1)), (2, (0, a2)), (3, (0, 1)), (4, (0, 1)), (5, (0, (a5 + 1))), (6, (0, (a6 + 1)))]) rfl ?_
            exact h
    · have h := h.2 c
      refine K_iload 7 (kdA dt_MX12_meetsOf 24 rfl) rfl ?_
      refine K_iconst (kdA dt_MX12_meetsOf 25 rfl) (by decide) ?_
      refine K_icmp_ne (tgt := 50) (kdA dt_MX12_meetsOf 26 rfl) rfl (fun c => ?_) (fun c => ?_)
      · have h := h.1 c
        refine K_iconst (kdA dt_MX12_meetsOf 29 rfl) (by decide) ?_
        refine K_istore_n (ls' := [(0, (2, a0)), (1, (0, a1)), (2, (0, a2)), (3, (0, 0)), (4, (0, a4)), (5, (0, a5)), (6, (0, a6)), (7, (0, x5))]) (kdA dt_MX12_meetsOf 30 rfl) rfl (by decide) rfl ?_
        refine K_iload 7 (kdA dt_MX12_meetsOf 31 rfl) rfl ?_
        refine K_iconst (kdA dt_MX12_meetsOf 32 rfl) (by decide) ?_
        refine K_icmp_ne (tgt := 65) (kdA dt_MX12_meetsOf 33 rfl) rfl (fun c => ?_) (fun c => ?_)
        · have h := h.1 c
          refine K_iconst (kdA dt_MX12_meetsOf 38 rfl) (by decide) ?_
          refine K_istore (ls' := [(0, (2, a0)), (1, (0, a1)), (2, (0, a2)), (3, (0, 0)), (4, (0, a4)), (5, (0, 0)), (6, (0, a6)), (7, (0, x5))]) (kdA dt_MX12_meetsOf 39 rfl) (by decide) rfl ?_
          refine K_iload 4 (kdA dt_MX12_meetsOf 40 rfl) rfl ?_
          refine K_if_ne (tgt := 79) (kdA dt_MX12_meetsOf 41 rfl) rfl (fun c => ?_) (fun c => ?_)
          · have h := h.1 c
            refine K_iconst (kdA dt_MX12_meetsOf 45 rfl) (by decide) ?_
            refine K_goto (tgt := 84) (kdA dt_MX12_meetsOf 46 rfl) rfl ?_
            refine K_istore (ls' := [(0, (2, a0)), (1, (0, a1)), (2, (0, a2)), (3, (0, 0)), (4, (0, 1)), (5, (0, 0)), (6, (0, a6)), (7, (0, x5))]) (kdA dt_MX12_meetsOf 48 rfl) (by decide) rfl ?_
            obtain ⟨c6, h⟩ := h
            refine K_iinc (ls' := [(0, (2, a0)), (1, (0, a1)), (2, (0, a2)), (3, (0, 0)), (4, (0, 1)), (5, (0, 0)), (6, (0, (a6 + 1))), (7, (0, x5))]) 6 (kdA dt_MX12_meetsOf 49 rfl) rfl c6 (by decide) rfl ?_
            refine K_goto (tgt := 11) (kdA dt_MX12_meetsOf 50 rfl) rfl ?_
            refine K_pick [0, 1, 2, 3, 4, 5, 6] (ls' := [(0, (2, a0)), (1, (0, a1)), (2, (0, a2)), (3, (0, 0)), (4, (0, 1)), (5, (0, 0)), (6, (0, (a6 + 1)))]) rfl ?_
            exact h
          · have h := h.2 c
            refine K_iload 5 (kdA dt_MX12_meetsOf 42 rfl) rfl ?_
            refine K_iconst (kdA dt_MX12_meetsOf 43 rfl) (by decide) ?_
            refine K_icmp_ne (tgt := 83) (kdA dt_MX12_meetsOf 44 rfl) rfl (fun _ => ?_) (fun c => absurd (by decide) c)
            refine K_iconst (kdA dt_MX12_meetsOf 47 rfl) (by decide) ?_
            refine K_istore (ls' := [(0, (2, a0)), (1, (0, a1)), (2, (0, a2)), (3, (0, 0)), (4, (0, 0)), (5, (0, 0)), (6, (0, a6)), (7, (0, x5))]) (kdA dt_MX12_meetsOf 48 rfl) (by decide) rfl ?_
            obtain ⟨c6, h⟩ := h
            refine K_iinc (ls' := [(0, (2, a0)), (1, (0, a1)), (2, (0, a2)), (3, (0, 0)), (4, (0, 0)), (5, (0, 0)), (6, (0, (a6 + 1))), (7, (0, x5))]) 6 (kdA dt_MX12_meetsOf 49 rfl) rfl c6 (by decide) rfl ?_
            refine K_goto (tgt := 11) (kdA dt_MX12_meetsOf 50 rfl) rfl ?_
            refine K_pick [0, 1, 2, 3, 4, 5, 6] (ls' := [(0, (2, a0)), (1, (0, a1)), (2, (0, a2)), (3, (0, 0)), (4, (0, 0)), (5, (0, 0)), (6, (0, (a6 + 1)))]) rfl ?_
            exact h
        · have h := h.2 c
          refine K_iload 5 (kdA dt_MX12_meetsOf 34 rfl) rfl ?_
          refine K_iconst (kdA dt_MX12_meetsOf 35 rfl) (by decide) ?_
          obtain ⟨c6, h⟩ := h
          refine K_iadd (kdA dt_MX12_meetsOf 36 rfl) c6 ?_
          refine K_goto (tgt := 66) (kdA dt_MX12_meetsOf 37 rfl) rfl ?_
          refine K_istore (ls' := [(0, (2, a0)), (1, (0, a1)), (2, (0, a2)), (3, (0, 0)), (4, (0, a4)), (5, (0, (a5 + 1))), (6, (0, a6)), (7, (0, x5))]) (kdA dt_MX12_meetsOf 39 rfl) (by decide) rfl ?_
          refine K_iload 4 (kdA dt_MX12_meetsOf 40 rfl) rfl ?_
          refine K_if_ne (tgt := 79) (kdA dt_MX12_meetsOf 41 rfl) rfl (fun c => ?_) (fun c => ?_)
          · have h := h.1 c
            refine K_iconst (kdA dt_MX12_meetsOf 45 rfl) (by decide) ?_
            refine K_goto (tgt := 84) (kdA dt_MX12_meetsOf 46 rfl) rfl ?_
            refine K_istore (ls' := [(0, (2, a0)), (1, (0, a1)), (2, (0, a2)), (3, (0, 0)), (4, (0, 1)), (5, (0, (a5 + 1))), (6, (0, a6)), (7, (0, x5))]) (kdA dt_MX12_meetsOf 48 rfl) (by decide) rfl ?_
            obtain ⟨c7, h⟩ := h
            refine K_iinc (ls' := [(0, (2, a0)), (1, (0, a1)), (2, (0, a2)), (3, (0, 0)), (4, (0, 1)), (5, (0, (a5 + 1))), (6, (0, (a6 + 1))), (7, (0, x5))]) 6 (kdA dt_MX12_meetsOf 49 rfl) rfl c7 (by decide) rfl ?_
            refine K_goto (tgt := 11) (kdA dt_MX12_meetsOf 50 rfl) rfl ?_
            refine K_pick [0, 1, 2, 3, 4, 5, 6] (ls' := [(0, (2, a0)), (1, (0, a1)), (2, (0, a2)), (3, (0, 0)), (4, (0, 1)), (5, (0, (a5 + 1))), (6, (0, (a6 + 1)))]) rfl ?_
            exact h
          · have h := h.2 c
            refine K_iload 5 (kdA dt_MX12_meetsOf 42 rfl) rfl ?_
            refine K_iconst (kdA dt_MX12_meetsOf 43 rfl) (by decide) ?_
            refine K_icmp_ne (tgt := 83) (kdA dt_MX12_meetsOf 44 rfl) rfl (fun c => ?_) (fun c => ?_)
            · have h := h.1 c
              refine K_iconst (kdA dt_MX12_meetsOf 47 rfl) (by decide) ?_
              refine K_istore (ls' := [(0, (2, a0)), (1, (0, a1)), (2, (0, a2)), (3, (0, 0)), (4, (0, 0)), (5, (0, (a5 + 1))), (6, (0, a6)), (7, (0, x5))]) (kdA dt_MX12_meetsOf 48 rfl) (by decide) rfl ?_
              obtain ⟨c7, h⟩ := h
              refine K_iinc (ls' := [(0, (2, a0)), (1, (0, a1)), (2, (0, a2)), (3, (0, 0)), (4, (0, 0)), (5, (0, (a5 + 1))), (6, (0, (a6 + 1))), (7, (0, x5))]) 6 (kdA dt_MX12_meetsOf 49 rfl) rfl c7 (by decide) rfl ?_
              refine K_goto (tgt := 11) (kdA dt_MX12_meetsOf 50 rfl) rfl ?_
              refine K_pick [0, 1, 2, 3, 4, 5, 6] (ls' := [(0, (2, a0)), (1, (0, a1)), (2, (0, a2)), (3, (0, 0)), (4, (0, 0)), (5, (0, (a5 + 1))), (6, (0, (a6 + 1)))]) rfl ?_
              exact h
            · have h := h.2 c
              refine K_iconst (kdA dt_MX12_meetsOf 45 rfl) (by decide) ?_
              refine K_goto (tgt := 84) (kdA dt_MX12_meetsOf 46 rfl) rfl ?_
              refine K_istore (ls' := [(0, (2, a0)), (1, (0, a1)), (2, (0, a2)), (3, (0, 0)), (4, (0, 1)), (5, (0, (a5 + 1))), (6, (0, a6)), (7, (0, x5))]) (kdA dt_MX12_meetsOf 48 rfl) (by decide) rfl ?_
              obtain ⟨c7, h⟩ := h
              refine K_iinc (ls' := [(0, (2, a0)), (1, (0, a1)), (2, (0, a2)), (3, (0, 0)), (4, (0, 1)), (5, (0, (a5 + 1))), (6, (0, (a6 + 1))), (7, (0, x5))]) 6 (kdA dt_MX12_meetsOf 49 rfl) rfl c7 (by decide) rfl ?_
              refine K_goto (tgt := 11) (kdA dt_MX12_meetsOf 50 rfl) rfl ?_
              refine K_pick [0, 1, 2, 3, 4, 5, 6] (ls' := [(0, (2, a0)), (1, (0, a1)), (2, (0, a2)), (3, (0, 0)), (4, (0, 1)), (5, (0, (a5 + 1))), (6, (0, (a6 + 1)))]) rfl ?_
              exact h
      · have h := h.2 c
        refine K_iconst (kdA dt_MX12_meetsOf 27 rfl) (by decide) ?_
        refine K_goto (tgt := 51) (kdA dt_MX12_meetsOf 28 rfl) rfl ?_
        refine K_istore_n (ls' := [(0, (2, a0)), (1, (0, a1)), (2, (0, a2)), (3, (0, 1)), (4, (0, a4)), (5, (0, a5)), (6, (0, a6)), (7, (0, x5))]) (kdA dt_MX12_meetsOf 30 rfl) rfl (by decide) rfl ?_
        refine K_iload 7 (kdA dt_MX12_meetsOf 31 rfl) rfl ?_
        refine K_iconst (kdA dt_MX12_meetsOf 32 rfl) (by decide) ?_
        refine K_icmp_ne (tgt := 65) (kdA dt_MX12_meetsOf 33 rfl) rfl (fun c => ?_) (fun c => ?_)
        · have h := h.1 c
          refine K_iconst (kdA dt_MX12_meetsOf 38 rfl) (by decide) ?_
          refine K_istore (ls' := [(0, (2, a0)), (1, (0, a1)), (2, (0, a2)), (3, (0, 1)), (4, (0, a4)), (5, (0, 0)), (6, (0, a6)), (7, (0, x5))]) (kdA dt_MX12_meetsOf 39 rfl) (by decide) rfl ?_
          refine K_iload 4 (kdA dt_MX12_meetsOf 40 rfl) rfl ?_
          refine K_if_ne (tgt := 79) (kdA dt_MX12_meetsOf 41 rfl) rfl (fun c => ?_) (fun c => ?_)
          · have h := h.1 c
            refine K_iconst (kdA dt_MX12_meetsOf 45 rfl) (by decide) ?_
            refine K_goto (tgt := 84) (kdA dt_MX12_meetsOf 46 rfl) rfl ?_
            refine K_istore (ls' := [(0, (2, a0)), (1, (0, a1)), (2, (0, a2)), (3, (0, 1)), (4, (0, 1)), (5, (0, 0)), (6, (0, a6)), (7, (0, x5))]) (kdA dt_MX12_meetsOf 48 rfl) (by decide) rfl ?_
            obtain ⟨c6, h⟩ := h
            refine K_iinc (ls' := [(0, (2, a0)), (1, (0, a1)), (2, (0, a2)), (3, (0, 1)), (4, (0, 1)), (5, (0, 0)), (6, (0, (a6 + 1))), (7, (0, x5))]) 6 (kdA dt_MX12_meetsOf 49 rfl) rfl c6 (by decide) rfl ?_
            refine K_goto (tgt := 11) (kdA dt_MX12_meetsOf 50 rfl) rfl ?_
            refine K_pick [0, 1, 2, 3, 4, 5, 6] (ls' := [(0, (2, a0)), (1, (0, a1)), (2, (0, a2)), (3, (0, 1)), (4, (0, 1)), (5, (0, 0)), (6, (0, (a6 + 1)))]) rfl ?_
            exact h
          · have h := h.2 c
            refine K_iload 5 (kdA dt_MX12_meetsOf 42 rfl) rfl ?_
            refine K_iconst (kdA dt_MX12_meetsOf 43 rfl) (by decide) ?_
            refine K_icmp_ne (tgt := 83) (kdA dt_MX12_meetsOf 44 rfl) rfl (fun _ => ?_) (fun c => absurd (by decide) c)
            refine K_iconst (kdA dt_MX12_meetsOf 47 rfl) (by decide) ?_
            refine K_istore (ls' := [(0, (2, a0)), (1, (0, a1)), (2, (0, a2)), (3, (0, 1)), (4, (0, 0)), (5, (0, 0)), (6, (0, a6)), (7, (0, x5))]) (kdA dt_MX12_meetsOf 48 rfl) (by decide) rfl ?_
            obtain ⟨c6, h⟩ := h
            refine K_iinc (ls' := [(0, (2, a0)), (1, (0, a1)), (2, (0, a2)), (3, (0, 1)), (4, (0, 0)), (5, (0, 0)), (6, (0, (a6 + 1))), (7, (0, x5))]) 6 (kdA dt_MX12_meetsOf 49 rfl) rfl c6 (by decide) rfl ?_
            refine K_goto (tgt := 11) (kdA dt_MX12_meetsOf 50 rfl) rfl ?_
            refine K_pick [0, 1, 2, 3, 4, 5, 6] (ls' := [(0, (2, a0)), (1, (0, a1)), (2, (0, a2)), (3, (0, 1)), (4, (0, 0)), (5, (0, 0)), (6, (0, (a6 + 1)))]) rfl ?_
            exact h
        · have h := h.2 c
          refine K_iload 5 (kdA dt_MX12_meetsOf 34 rfl) rfl ?_
          refine K_iconst (kdA dt_MX12_meetsOf 35 rfl) (by decide) ?_
          obtain ⟨c6, h⟩ := h
          refine K_iadd (kdA dt_MX12_meetsOf 36 rfl) c6 ?_
          refine K_goto (tgt := 66) (kdA dt_MX12_meetsOf 37 rfl) rfl ?_
          refine K_istore (ls' := [(0, (2, a0)), (1, (0, a1)), (2, (0, a2)), (3, (0, 1)), (4, (0, a4)), (5, (0, (a5 + 1))), (6, (0, a6)), (7, (0, x5))]) (kdA dt_MX12_meetsOf 39 rfl) (by decide) rfl ?_
          refine K_iload 4 (kdA dt_MX12_meetsOf 40 rfl) rfl ?_
          refine K_if_ne (tgt := 79) (kdA dt_MX12_meetsOf 41 rfl) rfl (fun c => ?_) (fun c => ?_)
          · have h := h.1 c
            refine K_iconst (kdA dt_MX12_meetsOf 45 rfl) (by decide) ?_
            refine K_goto (tgt := 84) (kdA dt_MX12_meetsOf 46 rfl) rfl ?_
            refine K_istore (ls' := [(0, (2, a0)), (1, (0, a1)), (2, (0, a2)), (3, (0, 1)), (4, (0, 1)), (5, (0, (a5 + 1))), (6, (0, a6)), (7, (0, x5))]) (kdA dt_MX12_meetsOf 48 rfl) (by decide) rfl ?_
            obtain ⟨c7, h⟩ := h
            refine K_iinc (ls' := [(0, (2, a0)), (1, (0, a1)), (2, (0, a2)), (3, (0, 1)), (4, (0, 1)), (5, (0, (a5 + 1))), (6, (0, (a6 + 1))), (7, (0, x5))]) 6 (kdA dt_MX12_meetsOf 49 rfl) rfl c7 (by decide) rfl ?_
            refine K_goto (tgt := 11) (kdA dt_MX12_meetsOf 50 rfl) rfl ?_
            refine K_pick [0, 1, 2, 3, 4, 5, 6] (ls' := [(0, (2, a0)), (1, (0, a1)), (2, (0, a2)), (3, (0, 1)), (4, (0, 1)), (5, (0, (a5 + 1))), (6, (0, (a6 + 1)))]) rfl ?_
            exact h
          · have h := h.2 c
            refine K_iload 5 (kdA dt_MX12_meetsOf 42 rfl) rfl ?_
            refine K_iconst (kdA dt_MX12_meetsOf 43 rfl) (by decide) ?_
            refine K_icmp_ne (tgt := 83) (kdA dt_MX12_meetsOf 44 rfl) rfl (fun c => ?_) (fun c => ?_)
            · have h := h.1 c
              refine K_iconst (kdA dt_MX12_meetsOf 47 rfl) (by decide) ?_
              refine K_istore (ls' := [(0, (2, a0)), (1, (0, a1)), (2, (0, a2)), (3, (0, 1)), (4, (0, 0)), (5, (0, (a5 + 1))), (6, (0, a6)), (7, (0, x5))]) (kdA dt_MX12_meetsOf 48 rfl) (by decide) rfl ?_
              obtain ⟨c7, h⟩ := h
              refine K_iinc (ls' := [(0, (2, a0)), (1, (0, a1)), (2, (0, a2)), (3, (0, 1)), (4, (0, 0)), (5, (0, (a5 + 1))), (6, (0, (a6 + 1))), (7, (0, x5))]) 6 (kdA dt_MX12_meetsOf 49 rfl) rfl c7 (by decide) rfl ?_
              refine K_goto (tgt := 11) (kdA dt_MX12_meetsOf 50 rfl) rfl ?_
              refine K_pick [0, 1, 2, 3, 4, 5, 6] (ls' := [(0, (2, a0)), (1, (0, a1)), (2, (0, a2)), (3, (0, 1)), (4, (0, 0)), (5, (0, (a5 + 1))), (6, (0, (a6 + 1)))]) rfl ?_
              exact h
            · have h := h.2 c
              refine K_iconst (kdA dt_MX12_meetsOf 45 rfl) (by decide) ?_
              refine K_goto (tgt := 84) (kdA dt_MX12_meetsOf 46 rfl) rfl ?_
              refine K_istore (ls' := [(0, (2, a0)), (1, (0, a1)), (2, (0, a2)), (3, (0, 1)), (4, (0, 1)), (5, (0, (a5 + 1))), (6, (0, a6)), (7, (0, x5))]) (kdA dt_MX12_meetsOf 48 rfl) (by decide) rfl ?_
              obtain ⟨c7, h⟩ := h
              refine K_iinc (ls' := [(0, (2, a0)), (1, (0, a1)), (2, (0, a2)), (3, (0, 1)), (4, (0, 1)), (5, (0, (a5 + 1))), (6, (0, (a6 + 1))), (7, (0, x5))]) 6 (kdA dt_MX12_meetsOf 49 rfl) rfl c7 (by decide) rfl ?_
              refine K_goto (tgt := 11) (kdA dt_MX12_meetsOf 50 rfl) rfl ?_
              refine K_pick [0, 1, 2, 3, 4, 5, 6] (ls' := [(0, (2, a0)), (1, (0, a1)), (2, (0, a2)), (3, (0, 1)), (4, (0, 1)), (5, (0, (a5 + 1))), (6, (0, (a6 + 1)))]) rfl ?_
              exact h
theorem EX12_meetsOf {d n : Nat} {Q : Int → kS → Prop} {a0 a1 a2 : Int} {σ : kS} (h : (-2147483648 ≤ a1 ∧ a1 ≤ 2147483647) → (-2147483648 ≤ a2 ∧ a2 ≤ 2147483647) → kokw n σ → LX12_meetsOf_0 d n Q a0 a1 a2 σ) : Ci (d + 1) MX12_meetsOf [(2, a0), (0, a1), (0, a2)] n σ Q := Tri_of (by decide +kernel) (Nat.le_of_ble_eq_true rfl) (fun hk hw => h (hk (0, a1) (List.mem_of_getElem? (i := 1) rfl)) (hk (0, a2) (List.mem_of_getElem? (i := 2) rfl)) hw)

def LX12_milesOfRow_0 (d n : Nat) (Q : Int → kS → Prop) (a0 : Int) (a1 : Int) (a2 : Int) (a3 : Int) (σ : kS) : Prop := K (d + 1) MX12_milesOfRow (kPi n Q) (0, 0) 0 [(0, (2, a0)), (1, (2, a1)), (2, (0, a2)), (3, (0, a3))] [] n σ
def LX12_milesOfRow_6 (d n : Nat) (Q : Int → kS → Prop) (a1 : Int) (a2 : Int) (a3 : Int) (a4 : Int) (a5 : Int) (σ : kS) : Prop := K (d + 1) MX12_milesOfRow (kPi n Q) (0, 0) 6 [(1, (2, a1)), (2, (0, a2)), (3, (0, a3)), (4, (0, a4)), (5, (0, a5))] [] n σ
theorem SX12_milesOfRow_0 {d n : Nat} {Q : Int → kS → Prop} {a0 a1 a2 a3 : Int} {σ : kS} (h : LX12_milesOfRow_6 d n Q a1 a2 a3 0 1 σ) : LX12_milesOfRow_0 d n Q a0 a1 a2 a3 σ := by
  unfold LX12_milesOfRow_0
  refine K_iconst (kdA dt_MX12_milesOfRow 0 rfl) (by decide) ?_
  refine K_istore (ls' := [(0, (2, a0)), (1, (2, a1)), (2, (0, a2)), (3, (0, a3)), (4, (0, 0))]) (kdA dt_MX12_milesOfRow 1 rfl) (by decide) rfl ?_
  refine K_iconst (kdA dt_MX12_milesOfRow 2 rfl) (by decide) ?_
  refine K_istore (ls' := [(0, (2, a0)), (1, (2, a1)), (2, (0, a2)), (3, (0, a3)), (4, (0, 0)), (5, (0, 1))]) (kdA dt_MX12_milesOfRow 3 rfl) (by decide) rfl ?_
  refine K_pick [1, 2, 3, 4, 5] (ls' := [(1, (2, a1)), (2, (0, a2)), (3, (0, a3)), (4, (0, 0)), (5, (0, 1))]) rfl ?_
  exact h
theorem SX12_milesOfRow_6 {d n : Nat} {Q : Int → kS → Prop} {a1 a2 a3 a4 a5 : Int} {σ : kS} (h : (a3 ≤ a5 → ((0 : Int) ≤ a4) ∧ (Q (a4 / 10) σ)) ∧ (¬ a3 ≤ a5 → (-2147483648 ≤ (a2 + a5) ∧ (a2 + a5) ≤ 2147483647) ∧ ((-2147483648 ≤ ((a2 + a5) - 1) ∧ ((a2 + a5) - 1) ≤ 2147483647) ∧ (isA 20 n a1 ∧ (((0 : Int) ≤ ((a2 + a5) - 1) ∧ ((a2 + a5) - 1) < klen a1) ∧ (((0 : Int) ≤ (a2 + a5) ∧ (a2 + a5) < klen a1) ∧ (Ci d MX12_directionOf [(0, (σ a1 ((a2 + a5) - 1))), (0, (σ a1 (a2 + a5)))] n σ (fun x6 s1 => ((0 : Int) ≤ x6) ∧ ((¬ (x6 % 2) = 0 → (-2147483648 ≤ (a4 + 14) ∧ (a4 + 14) ≤ 2147483647) ∧ ((-2147483648 ≤ (a5 + 1) ∧ (a5 + 1) ≤ 2147483647) ∧ (LX12_milesOfRow_6 d n Q a1 a2 a3 (a4 + 14) (a5 + 1) s1))) ∧ (¬ (¬ (x6 % 2) = 0) → (-2147483648 ≤ (a4 + 10) ∧ (a4 + 10) ≤ 2147483647) ∧ ((-2147483648 ≤ (a5 + 1) ∧ (a5 + 1) ≤ 2147483647) ∧ (LX12_milesOfRow_6 d n Q a1 a2 a3 (a4 + 10) (a5 + 1) s1)))))))))))) : LX12_milesOfRow_6 d n Q a1 a2 a3 a4 a5 σ := by
  unfold LX12_milesOfRow_6
  refine K_iload 4 (kdA dt_MX12_milesOfRow 4 rfl) rfl ?_
  refine K_iload_n 2 (kdA dt_MX12_milesOfRow 5 rfl) rfl rfl ?_
  refine K_icmp_ge (tgt := 52) (kdA dt_MX12_milesOfRow 6 rfl) rfl (fun c => ?_) (fun c => ?_)
  · have h := h.1 c
    refine K_iload 3 (kdA dt_MX12_milesOfRow 31 rfl) rfl ?_
    refine K_bipush (kdA dt_MX12_milesOfRow 32 rfl) (by decide +kernel) ?_
    obtain ⟨c1, h⟩ := h
    refine K_idiv (kdA dt_MX12_milesOfRow 33 rfl) c1 (by decide) ?_
    exact K_ireturn (kdA dt_MX12_milesOfRow 34 rfl) rfl ⟨rfl, _, rfl, h⟩
  · have h := h.2 c
    refine K_iload 3 (kdA dt_MX12_milesOfRow 7 rfl) rfl ?_
    refine K_aload_n 0 (kdA dt_MX12_milesOfRow 8 rfl) rfl rfl ?_
    refine K_iload_n 1 (kdA dt_MX12_milesOfRow 9 rfl) rfl rfl ?_
    refine K_iload 4 (kdA dt_MX12_milesOfRow 10 rfl) rfl ?_
    obtain ⟨c1, h⟩ := h
    refine K_iadd (kdA dt_MX12_milesOfRow 11 rfl) c1 ?_
    refine K_iconst (kdA dt_MX12_milesOfRow 12 rfl) (by decide) ?_
    obtain ⟨c2, h⟩ := h
    refine K_isub (kdA dt_MX12_milesOfRow 13 rfl) c2 ?_
    obtain ⟨c3, h⟩ := h
    obtain ⟨c4, h⟩ := h
    refine K_iaload (kdA dt_MX12_milesOfRow 14 rfl) c3 c4.1 c4.2 ?_
    refine K_aload_n 0 (kdA dt_MX12_milesOfRow 15 rfl) rfl rfl ?_
    refine K_iload_n 1 (kdA dt_MX12_milesOfRow 16 rfl) rfl rfl ?_
    refine K_iload 4 (kdA dt_MX12_milesOfRow 17 rfl) rfl ?_
    refine K_iadd (kdA dt_MX12_milesOfRow 18 rfl) c1 ?_
    obtain ⟨c5, h⟩ := h
    refine K_iaload (kdA dt_MX12_milesOfRow 19 rfl) c3 c5.1 c5.2 ?_
    refine K_cSi (as := [(0, (σ a1 ((a2 + a5) - 1))), (0, (σ a1 (a2 + a5)))]) (st := [(0, a4)]) (kdA dt_MX12_milesOfRow 20 rfl) cl_MX12_directionOf lk12_389 rfl rfl (Nat.le_of_ble_eq_true rfl) (Ci.mono h (fun x6 s1 h => ?_))
    refine K_iconst (kdA dt_MX12_milesOfRow 21 rfl) (by decide) ?_
    obtain ⟨c7, h⟩ := h
    refine K_irem (kdA dt_MX12_milesOfRow 22 rfl) c7 (by decide) ?_
    refine K_if_ne (tgt := 41) (kdA dt_MX12_milesOfRow 23 rfl) rfl (fun c => ?_) (fun c => ?_)
    · have h := h.1 c
      refine K_bipush (kdA dt_MX12_milesOfRow 26 rfl) (by decide +kernel) ?_
      obtain ⟨c8, h⟩ := h
      refine K_iadd (kdA dt_MX12_milesOfRow 27 rfl) c8 ?_
      refine K_istore (ls' := [(1, (2, a1)), (2, (0, a2)), (3, (0, a3)), (4, (0, (a4 + 14))), (5, (0, a5))]) (kdA dt_MX12_milesOfRow 28 rfl) (by decide) rfl ?_
      obtain ⟨c9, h⟩ := h
      refine K_iinc (ls' := [(1, (2, a1)), (2, (0, a2)), (3, (0, a3)), (4, (0, (a4 + 14))), (5, (0, (a5 + 1)))]) 4 (kdA dt_MX12_milesOfRow 29 rfl) rfl c9 (by decide) rfl ?_
      refine K_goto (tgt := 6) (kdA dt_MX12_milesOfRow 30 rfl) rfl ?_
      exact h
    · have h := h.2 c
      refine K_bipush (kdA dt_MX12_milesOfRow 24 rfl) (by decide +kernel) ?_
      refine K_goto (tgt := 43) (kdA dt_MX12_milesOfRow 25 rfl) rfl ?_
      obtain ⟨c8, h⟩ := h
      refine K_iadd (kdA dt_MX12_milesOfRow 27 rfl) c8 ?_
      refine K_istore (ls' := [(1, (2, a1)), (2, (0, a2)), (3, (0, a3)), (4, (0, (a4 + 10))), (5, (0, a5))]) (kdA dt_MX12_milesOfRow 28 rfl) (by decide) rfl ?_
      obtain ⟨c9, h⟩ := h
      refine K_iinc (ls' := [(1, (2, a1)), (2, (0, a2)), (3, (0, a3)), (4, (0, (a4 + 10))), (5, (0, (a5 + 1)))]) 4 (kdA dt_MX12_milesOfRow 29 rfl) rfl c9 (by decide) rfl ?_
      refine K_goto (tgt := 6) (kdA dt_MX12_milesOfRow 30 rfl) rfl ?_
      exact h
theorem EX12_milesOfRow {d n : Nat} {Q : Int → kS → Prop} {a0 a1 a2 a3 : Int} {σ : kS} (h : (-2147483648 ≤ a2 ∧ a2 ≤ 2147483647) → (-2147483648 ≤ a3 ∧ a3 ≤ 2147483647) → kokw n σ → LX12_milesOfRow_0 d n Q a0 a1 a2 a3 σ) : Ci (d + 1) MX12_milesOfRow [(2, a0), (2, a1), (0, a2), (0, a3)] n σ Q := Tri_of (by decide +kernel) (Nat.le_of_ble_eq_true rfl) (fun hk hw => h (hk (0, a2) (List.mem_of_getElem? (i := 2) rfl)) (hk (0, a3) (List.mem_of_getElem? (i := 3) rfl)) hw)

def LX12_miss_0 (d n : Nat) (Q : Int → kS → Prop) (a0 : Int) (a1 : Int) (a2 : Int) (a3 : Int) (a4 : Int) (σ : kS) : Prop := K (d + 1) MX12_miss (kPi n Q) (0, 0) 0 [(0, (2, a0)), (1, (0, a1)), (2, (0, a2)), (3, (0, a3)), (4, (0, a4))] [] n σ
theorem SX12_miss_0 {d n : Nat} {Q : Int → kS → Prop} {a0 a1 a2 a3 a4 : Int} {σ : kS} (h : isO 12 n a0 ∧ (∀ s1, s1 = kst σ a0 0 0 → Ci d MX12_isManner [(2, a0), (0, a1), (0, a2)] n s1 (fun x2 s2 => (x2 = 0 → Q (-1) s2) ∧ (¬ x2 = 0 → (-2147483648 ≤ ((s2 a0 41) - 1) ∧ ((s2 a0 41) - 1) ≤ 2147483647) ∧ (Ci d MX12_isIn [(0, a4), (0, 0), (0, ((s2 a0 41) - 1))] n s2 (fun x4 s3 => (¬ x4 = 0 → Cv d MX12_layPains [(2, a0), (0, a1), (0, a2), (0, a3)] n s3 (fun s4 => Ci d MX12_missOf [(2, a0), (0, a4)] n s4 (fun x6 s5 => Q x6 s5))) ∧ (¬ (¬ x4 = 0) → Q (-1) s3))))))) : LX12_miss_0 d n Q a0 a1 a2 a3 a4 σ := by
  unfold LX12_miss_0
  refine K_aload_n 0 (kdA dt_MX12_miss 0 rfl) rfl rfl ?_
  refine K_iconst (kdA dt_MX12_miss 1 rfl) (by decide) ?_
  obtain ⟨c1, h⟩ := h
  refine pf12_149 rfl (kdA dt_MX12_miss 2 rfl) c1 (fun s1 es1 => ?_)
  have h := h s1 es1
  refine K_aload_n 0 (kdA dt_MX12_miss 3 rfl) rfl rfl ?_
  refine K_iload_n 1 (kdA dt_MX12_miss 4 rfl) rfl rfl ?_
  refine K_iload_n 2 (kdA dt_MX12_miss 5 rfl) rfl rfl ?_
  refine K_cVi (c := 12) (as := [(0, a1), (0, a2)]) (st := []) (kdA dt_MX12_miss 6 rfl) rfl cl_MX12_isManner lk12_319 rfl rfl (Nat.le_of_ble_eq_true rfl) c1 (Ci.mono h (fun x2 s2 h => ?_))
  refine K_if_eq (tgt := 29) (kdA dt_MX12_miss 7 rfl) rfl (fun c => ?_) (fun c => ?_)
  · have h := h.1 c
    refine K_iconst (kdA dt_MX12_miss 16 rfl) (by decide) ?_
    exact K_ireturn (kdA dt_MX12_miss 17 rfl) rfl ⟨rfl, _, rfl, h⟩
  · have h := h.2 c
    refine K_iload 4 (kdA dt_MX12_miss 8 rfl) rfl ?_
    refine K_iconst (kdA dt_MX12_miss 9 rfl) (by decide) ?_
    refine K_aload_n 0 (kdA dt_MX12_miss 10 rfl) rfl rfl ?_
    refine gf12_420 rfl (kdA dt_MX12_miss 11 rfl) c1 ?_
    refine K_iconst (kdA dt_MX12_miss 12 rfl) (by decide) ?_
    obtain ⟨c3, h⟩ := h
    refine K_isub (kdA dt_MX12_miss 13 rfl) c3 ?_
    refine K_cSi (as := [(0, a4), (0, 0), (0, ((s2 a0 41) - 1))]) (st := []) (kdA dt_MX12_miss 14 rfl) cl_MX12_isIn lk12_153 rfl rfl (Nat.le_of_ble_eq_true rfl) (Ci.mono h (fun x4 s3 h => ?_))
    refine K_if_ne (tgt := 31) (kdA dt_MX12_miss 15 rfl) rfl (fun c => ?_) (fun c => ?_)
    · have h := h.1 c
      refine K_aload_n 0 (kdA dt_MX12_miss 18 rfl) rfl rfl ?_
      refine K_iload_n 1 (kdA dt_MX12_miss 19 rfl) rfl rfl ?_
      refine K_iload_n 2 (kdA dt_MX12_miss 20 rfl) rfl rfl ?_
      refine K_iload_n 3 (kdA dt_MX12_miss 21 rfl) rfl rfl ?_
      refine K_cVv (c := 12) (as := [(0, a1), (0, a2), (0, a3)]) (st := []) (kdA dt_MX12_miss 22 rfl) rfl cl_MX12_layPains lk12_333 rfl rfl (Nat.le_of_ble_eq_true rfl) c1 (Cv.mono h (fun s4 h => ?_))
      refine K_aload_n 0 (kdA dt_MX12_miss 23 rfl) rfl rfl ?_
      refine K_iload 4 (kdA dt_MX12_miss 24 rfl) rfl ?_
      refine K_cVi (c := 12) (as := [(0, a4)]) (st := []) (kdA dt_MX12_miss 25 rfl) rfl cl_MX12_missOf lk12_423 rfl rfl (Nat.le_of_ble_eq_true rfl) c1 (Ci.mono h (fun x6 s5 h => ?_))
      exact K_ireturn (kdA dt_MX12_miss 26 rfl) rfl ⟨rfl, _, rfl, h⟩
    · have h := h.2 c
      refine K_iconst (kdA dt_MX12_miss 16 rfl) (by decide) ?_
      exact K_ireturn (kdA dt_MX12_miss 17 rfl) rfl ⟨rfl, _, rfl, h⟩
theorem EX12_miss {d n : Nat} {Q : Int → kS → Prop} {a0 a1 a2 a3 a4 : Int} {σ : kS} (h : (-2147483648 ≤ a1 ∧ a1 ≤ 2147483647) → (-2147483648 ≤ a2 ∧ a2 ≤ 2147483647) → (-2147483648 ≤ a3 ∧ a3 ≤ 2147483647) → (-2147483648 ≤ a4 ∧ a4 ≤ 2147483647) → kokw n σ → LX12_miss_0 d n Q a0 a1 a2 a3 a4 σ) : Ci (d + 1) MX12_miss [(2, a0), (0, a1), (0, a2), (0, a3), (0, a4)] n σ Q := Tri_of (by decide +kernel) (Nat.le_of_ble_eq_true rfl) (fun hk hw => h (hk (0, a1) (List.mem_of_getElem? (i := 1) rfl)) (hk (0, a2) (List.mem_of_getElem? (i := 2) rfl)) (hk (0, a3) (List.mem_of_getElem? (i := 3) rfl)) (hk (0, a4) (List.mem_of_getElem? (i := 4) rfl)) hw)

def LX12_missOf_0 (d n : Nat) (Q : Int → kS → Prop) (a0 : Int) (a1 : Int) (σ : kS) : Prop := K (d + 1) MX12_missOf (kPi n Q) (0, 0) 0 [(0, (2, a0)), (1, (0, a1))] [] n σ
def LX12_missOf_35 (d n : Nat) (Q : Int → kS → Prop) (a0 : Int) (a2 : Int) (a3 : Int) (a4 : Int) (σ : kS) : Prop := K (d + 1) MX12_missOf (kPi n Q) (0, 0) 35 [(0, (2, a0)), (2, (0, a2)), (3, (0, a3)), (4, (0, a4))] [] n σ
theorem SX12_missOf_0 {d n : Nat} {Q : Int → kS → Prop} {a0 a1 : Int} {σ : kS} (h : isO 12 n a0 ∧ (isA 20 n (σ a0 39) ∧ (((0 : Int) ≤ a1 ∧ a1 < klen (σ a0 39)) ∧ (Ci d MX12_cellOf [(2, a0), (0, (σ (σ a0 39) a1)), (0, 0)] n σ (fun x4 s1 => isA 20 n (s1 a0 32) ∧ (((0 : Int) ≤ (σ (σ a0 39) a1) ∧ (σ (σ a0 39) a1) < klen (s1 a0 32)) ∧ ((-2147483648 ≤ ((s1 (s1 a0 32) (σ (σ a0 39) a1)) - 1) ∧ ((s1 (s1 a0 32) (σ (σ a0 39) a1)) - 1) ≤ 2147483647) ∧ (Ci d MX12_cellOf [(2, a0), (0, (σ (σ a0 39) a1)), (0, ((s1 (s1 a0 32) (σ (σ a0 39) a1)) - 1))] n s1 (fun x8 s2 => Cv d MX12_goWay [(2, a0), (0, x4), (0, x8)] n s2 (fun s3 => LX12_missOf_35 d n Q a0 (σ (σ a0 39) a1) 0 0 s3)))))))))) : LX12_missOf_0 d n Q a0 a1 σ := by
  unfold LX12_missOf_0
  refine K_aload_n 0 (kdA dt_MX12_missOf 0 rfl) rfl rfl ?_
  obtain ⟨c1, h⟩ := h
  refine gf12_85 rfl (kdA dt_MX12_missOf 1 rfl) c1 ?_
  refine K_iload_n 1 (kdA dt_MX12_missOf 2 rfl) rfl rfl ?_
  obtain ⟨c2, h⟩ := h
  obtain ⟨c3, h⟩ := h
  refine K_iaload (kdA dt_MX12_missOf 3 rfl) c2 c3.1 c3.2 ?_
  refine K_istore_n (ls' := [(0, (2, a0)), (1, (0, a1)), (2, (0, (σ (σ a0 39) a1)))]) (kdA dt_MX12_missOf 4 rfl) rfl (by decide) rfl ?_
  refine K_aload_n 0 (kdA dt_MX12_missOf 5 rfl) rfl rfl ?_
  refine K_aload_n 0 (kdA dt_MX12_missOf 6 rfl) rfl rfl ?_
  refine K_iload_n 2 (kdA dt_MX12_missOf 7 rfl) rfl rfl ?_
  refine K_iconst (kdA dt_MX12_missOf 8 rfl) (by decide) ?_
  refine K_cVi (c := 12) (as := [(0, (σ (σ a0 39) a1)), (0, 0)]) (st := [(2, a0)]) (kdA dt_MX12_missOf 9 rfl) rfl cl_MX12_cellOf lk12_386 rfl rfl (Nat.le_of_ble_eq_true rfl) c1 (Ci.mono h (fun x4 s1 h => ?_))
  refine K_aload_n 0 (kdA dt_MX12_missOf 10 rfl) rfl rfl ?_
  refine K_iload_n 2 (kdA dt_MX12_missOf 11 rfl) rfl rfl ?_
  refine K_aload_n 0 (kdA dt_MX12_missOf 12 rfl) rfl rfl ?_
  refine gf12_70 rfl (kdA dt_MX12_missOf 13 rfl) c1 ?_
  refine K_iload_n 2 (kdA dt_MX12_missOf 14 rfl) rfl rfl ?_
  obtain ⟨c5, h⟩ := h
  obtain ⟨c6, h⟩ := h
  refine K_iaload (kdA dt_MX12_missOf 15 rfl) c5 c6.1 c6.2 ?_
  refine K_iconst (kdA dt_MX12_missOf 16 rfl) (by decide) ?_
  obtain ⟨c7, h⟩ := h
  refine K_isub (kdA dt_MX12_missOf 17 rfl) c7 ?_
  refine K_cVi (c := 12) (as := [(0, (σ (σ a0 39) a1)), (0, ((s1 (s1 a0 32) (σ (σ a0 39) a1)) - 1))]) (st := [(0, x4), (2, a0)]) (kdA dt_MX12_missOf 18 rfl) rfl cl_MX12_cellOf lk12_386 rfl rfl (Nat.le_of_ble_eq_true rfl) c1 (Ci.mono h (fun x8 s2 h => ?_))
  refine K_cVv (c := 12) (as := [(0, x4), (0, x8)]) (st := []) (kdA dt_MX12_missOf 19 rfl) rfl cl_MX12_goWay lk12_337 rfl rfl (Nat.le_of_ble_eq_true rfl) c1 (Cv.mono h (fun s3 h => ?_))
  refine K_iconst (kdA dt_MX12_missOf 20 rfl) (by decide) ?_
  refine K_istore_n (ls' := [(0, (2, a0)), (1, (0, a1)), (2, (0, (σ (σ a0 39) a1))), (3, (0, 0))]) (kdA dt_MX12_missOf 21 rfl) rfl (by decide) rfl ?_
  refine K_iconst (kdA dt_MX12_missOf 22 rfl) (by decide) ?_
  refine K_istore (ls' := [(0, (2, a0)), (1, (0, a1)), (2, (0, (σ (σ a0 39) a1))), (3, (0, 0)), (4, (0, 0))]) (kdA dt_MX12_missOf 23 rfl) (by decide) rfl ?_
  refine K_pick [0, 2, 3, 4] (ls' := [(0, (2, a0)), (2, (0, (σ (σ a0 39) a1))), (3, (0, 0)), (4, (0, 0))]) rfl ?_
  exact h
theorem SX12_missOf_35 {d n : Nat} {Q : Int → kS → Prop} {a0 a2 a3 a4 : Int} {σ : kS} (h : isO 12 n a0 ∧ (((σ a0 30) ≤ a4 → Q a3 σ) ∧ (¬ (σ a0 30) ≤ a4 → isA 20 n (σ a0 29) ∧ (((0 : Int) ≤ a4 ∧ a4 < klen (σ a0 29)) ∧ (Ci d MX12_farFrom [(2, a0), (0, a2), (0, 0), (0, 0), (0, (σ (σ a0 29) a4))] n σ (fun x4 s1 => (x4 ≤ 1 → (-2147483648 ≤ (a3 + 0) ∧ (a3 + 0) ≤ 2147483647) ∧ ((-2147483648 ≤ (a4 + 1) ∧ (a4 + 1) ≤ 2147483647) ∧ (LX12_missOf_35 d n Q a0 a2 (a3 + 0) (a4 + 1) s1))) ∧ (¬ x4 ≤ 1 → (-2147483648 ≤ (a3 + 1) ∧ (a3 + 1) ≤ 2147483647) ∧ ((-2147483648 ≤ (a4 + 1) ∧ (a4 + 1) ≤ 2147483647) ∧ (LX12_missOf_35 d n Q a0 a2 (a3 + 1) (a4 + 1) s1))))))))) : LX12_missOf_35 d n Q a0 a2 a3 a4 σ := by
  unfold LX12_missOf_35
  refine K_iload 3 (kdA dt_MX12_missOf 24 rfl) rfl ?_
  refine K_aload_n 0 (kdA dt_MX12_missOf 25 rfl) rfl rfl ?_
  obtain ⟨c1, h⟩ := h
  refine gf12_330 rfl (kdA dt_MX12_missOf 26 rfl) c1 ?_
  refine K_icmp_ge (tgt := 76) (kdA dt_MX12_missOf 27 rfl) rfl (fun c => ?_) (fun c => ?_)
  · have h := h.1 c
    refine K_iload_n 2 (kdA dt_MX12_missOf 47 rfl) rfl rfl ?_
    exact K_ireturn (kdA dt_MX12_missOf 48 rfl) rfl ⟨rfl, _, rfl, h⟩
  · have h := h.2 c
    refine K_iload_n 2 (kdA dt_MX12_missOf 28 rfl) rfl rfl ?_
    refine K_aload_n 0 (kdA dt_MX12_missOf 29 rfl) rfl rfl ?_
    refine K_iload_n 1 (kdA dt_MX12_missOf 30 rfl) rfl rfl ?_
    refine K_iconst (kdA dt_MX12_missOf 31 rfl) (by decide) ?_
    refine K_iconst (kdA dt_MX12_missOf 32 rfl) (by decide) ?_
    refine K_aload_n 0 (kdA dt_MX12_missOf 33 rfl) rfl rfl ?_
    refine gf12_64 rfl (kdA dt_MX12_missOf 34 rfl) c1 ?_
    refine K_iload 3 (kdA dt_MX12_missOf 35 rfl) rfl ?_
    obtain ⟨c2, h⟩ := h
    obtain ⟨c3, h⟩ := h
    refine K_iaload (kdA dt_MX12_missOf 36 rfl) c2 c3.1 c3.2 ?_
    refine K_cVi (c := 12) (as := [(0, a2), (0, 0), (0, 0), (0, (σ (σ a0 29) a4))]) (st := [(0, a3)]) (kdA dt_MX12_missOf 37 rfl) rfl cl_MX12_farFrom lk12_406 rfl rfl (Nat.le_of_ble_eq_true rfl) c1 (Ci.mono h (fun x4 s1 h => ?_))
    refine K_iconst (kdA dt_MX12_missOf 38 rfl) (by decide) ?_
    refine K_icmp_le (tgt := 67) (kdA dt_MX12_missOf 39 rfl) rfl (fun c => ?_) (fun c => ?_)
    · have h := h.1 c
      refine K_iconst (kdA dt_MX12_missOf 42 rfl) (by decide) ?_
      obtain ⟨c5, h⟩ := h
      refine K_iadd (kdA dt_MX12_missOf 43 rfl) c5 ?_
      refine K_istore_n (ls' := [(0, (2, a0)), (2, (0, a2)), (3, (0, (a3 + 0))), (4, (0, a4))]) (kdA dt_MX12_missOf 44 rfl) rfl (by decide) rfl ?_
      obtain ⟨c6, h⟩ := h
      refine K_iinc (ls' := [(0, (2, a0)), (2, (0, a2)), (3, (0, (a3 + 0))), (4, (0, (a4 + 1)))]) 3 (kdA dt_MX12_missOf 45 rfl) rfl c6 (by decide) rfl ?_
      refine K_goto (tgt := 35) (kdA dt_MX12_missOf 46 rfl) rfl ?_
      exact h
    · have h := h.2 c
      refine K_iconst (kdA dt_MX12_missOf 40 rfl) (by decide) ?_
      refine K_goto (tgt := 68) (kdA dt_MX12_missOf 41 rfl) rfl ?_
      obtain ⟨c5, h⟩ := h
      refine K_iadd (kdA dt_MX12_missOf 43 rfl) c5 ?_
      refine K_istore_n (ls' := [(0, (2, a0)), (2, (0, a2)), (3, (0, (a3 + 1))), (4, (0, a4))]) (kdA dt_MX12_missOf 44 rfl) rfl (by decide) rfl ?_
      obtain ⟨c6, h⟩ := h
      refine K_iinc (ls' := [(0, (2, a0)), (2, (0, a2)), (3, (0, (a3 + 1))), (4, (0, (a4 + 1)))]) 3 (kdA dt_MX12_missOf 45 rfl) rfl c6 (by decide) rfl ?_
      refine K_goto (tgt := 35) (kdA dt_MX12_missOf 46 rfl) rfl ?_
      exact h
theorem EX12_missOf {d n : Nat} {Q : Int → kS → Prop} {a0 a1 : Int} {σ : kS} (h : (-2147483648 ≤ a1 ∧ a1 ≤ 2147483647) → kokw n σ → LX12_missOf_0 d n Q a0 a1 σ) : Ci (d + 1) MX12_missOf [(2, a0), (0, a1)] n σ Q := Tri_of (by decide +kernel) (Nat.le_of_ble_eq_true rfl) (fun hk hw => h (hk (0, a1) (List.mem_of_getElem? (i := 1) rfl)) hw)

def LX12_near_0 (d n : Nat) (Q : Int → kS → Prop) (a0 : Int) (a1 : Int) (a2 : Int) (a3 : Int) (σ : kS) : Prop := K (d + 1) MX12_near (kPi n Q) (0, 0) 0 [(0, (2, a0)), (1, (0, a1)), (2, (0, a2)), (3, (0, a3))] [] n σ
theorem SX12_near_0 {d n : Nat} {Q : Int → kS → Prop} {a0 a1 a2 a3 : Int} {σ : kS} (h : isO 12 n a0 ∧ (∀ s1, s1 = kst σ a0 0 0 → Ci d MX12_isNear [(2, a0), (0, a1), (0, a2), (0, a3)] n s1 (fun x2 s2 => (x2 = 0 → Q (-1) s2) ∧ (¬ x2 = 0 → Ci d MX12_nearOf [(2, a0), (0, a1), (0, 0), (0, 0), (0, a2), (0, a3)] n s2 (fun x3 s3 => Q x3 s3))))) : LX12_near_0 d n Q a0 a1 a2 a3 σ := by
  unfold LX12_near_0
  refine K_aload_n 0 (kdA dt_MX12_near 0 rfl) rfl rfl ?_
  refine K_iconst (kdA dt_MX12_near 1 rfl) (by decide) ?_
  obtain ⟨c1, h⟩ := h
  refine pf12_149 rfl (kdA dt_MX12_near 2 rfl) c1 (fun s1 es1 => ?_)
  have h := h s1 es1
  refine K_aload_n 0 (kdA dt_MX12_near 3 rfl) rfl rfl ?_
  refine K_iload_n 1 (kdA dt_MX12_near 4 rfl) rfl rfl ?_
  refine K_iload_n 2 (kdA dt_MX12_near 5 rfl) rfl rfl ?_
  refine K_iload_n 3 (kdA dt_MX12_near 6 rfl) rfl rfl ?_
  refine K_cVi (c := 12) (as := [(0, a1), (0, a2), (0, a3)]) (st := []) (kdA dt_MX12_near 7 rfl) rfl cl_MX12_isNear lk12_410 rfl rfl (Nat.le_of_ble_eq_true rfl) c1 (Ci.mono h (fun x2 s2 h => ?_))
  refine K_if_eq (tgt := 27) (kdA dt_MX12_near 8 rfl) rfl (fun c => ?_) (fun c => ?_)
  · have h := h.1 c
    refine K_iconst (kdA dt_MX12_near 17 rfl) (by decide) ?_
    exact K_ireturn (kdA dt_MX12_near 18 rfl) rfl ⟨rfl, _, rfl, h⟩
  · have h := h.2 c
    refine K_aload_n 0 (kdA dt_MX12_near 9 rfl) rfl rfl ?_
    refine K_iload_n 1 (kdA dt_MX12_near 10 rfl) rfl rfl ?_
    refine K_iconst (kdA dt_MX12_near 11 rfl) (by decide) ?_
    refine K_iconst (kdA dt_MX12_near 12 rfl) (by decide) ?_
    refine K_iload_n 2 (kdA dt_MX12_near 13 rfl) rfl rfl ?_
    refine K_iload_n 3 (kdA dt_MX12_near 14 rfl) rfl rfl ?_
    refine K_cVi (c := 12) (as := [(0, a1), (0, 0), (0, 0), (0, a2), (0, a3)]) (st := []) (kdA dt_MX12_near 15 rfl) rfl cl_MX12_nearOf lk12_413 rfl rfl (Nat.le_of_ble_eq_true rfl) c1 (Ci.mono h (fun x3 s3 h => ?_))
    refine K_goto (tgt := 28) (kdA dt_MX12_near 16 rfl) rfl ?_
    exact K_ireturn (kdA dt_MX12_near 18 rfl) rfl ⟨rfl, _, rfl, h⟩
theorem EX12_near {d n : Nat} {Q : Int → kS → Prop} {a0 a1 a2 a3 : Int} {σ : kS} (h : (-2147483648 ≤ a1 ∧ a1 ≤ 2147483647) → (-2147483648 ≤ a2 ∧ a2 ≤ 2147483647) → (-2147483648 ≤ a3 ∧ a3 ≤ 2147483647) → kokw n σ → LX12_near_0 d n Q a0 a1 a2 a3 σ) : Ci (d + 1) MX12_near [(2, a0), (0, a1), (0, a2), (0, a3)] n σ Q := Tri_of (by decide +kernel) (Nat.le_of_ble_eq_true rfl) (fun hk hw => h (hk (0, a1) (List.mem_of_getElem? (i := 1) rfl)) (hk (0, a2) (List.mem_of_getElem? (i := 2) rfl)) (hk (0, a3) (List.mem_of_getElem? (i := 3) rfl)) hw)

def LX12_nearOf_0 (d n : Nat) (Q : Int → kS → Prop) (a0 : Int) (a1 : Int) (a2 : Int) (a3 : Int) (a4 : Int) (a5 : Int) (σ : kS) : Prop := K (d + 1) MX12_nearOf (kPi n Q) (0, 0) 0 [(0, (2, a0)), (1, (0, a1)), (2, (0, a2)), (3, (0, a3)), (4, (0, a4)), (5, (0, a5))] [] n σ
def LX12_nearOf_6 (d n : Nat) (Q : Int → kS → Prop) (a0 : Int) (a1 : Int) (a2 : Int) (a3 : Int) (a4 : Int) (a5 : Int) (a6 : Int) (a7 : Int) (σ : kS) : Prop := K (d + 1) MX12_nearOf (kPi n Q) (0, 0) 6 [(0, (2, a0)), (1, (0, a1)), (2, (0, a2)), (3, (0, a3)), (4, (0, a4)), (5, (0, a5)), (6, (0, a6)), (7, (0, a7))] [] n σ
theorem SX12_nearOf_0 {d n : Nat} {Q : Int → kS → Prop} {a0 a1 a2 a3 a4 a5 : Int} {σ : kS} (h : LX12_nearOf_6 d n Q a0 a1 a2 a3 a4 a5 0 0 σ) : LX12_nearOf_0 d n Q a0 a1 a2 a3 a4 a5 σ := by
  unfold LX12_nearOf_0
  refine K_iconst (kdA dt_MX12_nearOf 0 rfl) (by decide) ?_
  refine K_istore (ls' := [(0, (2, a0)), (1, (0, a1)), (2, (0, a2)), (3, (0, a3)), (4, (0, a4)), (5, (0, a5)), (6, (0, 0))]) (kdA dt_MX12_nearOf 1 rfl) (by decide) rfl ?_
  refine K_iconst (kdA dt_MX12_nearOf 2 rfl) (by decide) ?_
  refine K_istore (ls' := [(0, (2, a0)), (1, (0, a1)), (2, (0, a2)), (3, (0, a3)), (4, (0, a4)), (5, (0, a5)), (6, (0, 0)), (7, (0, 0))]) (kdA dt_MX12_nearOf 3 rfl) (by decide) rfl ?_
  exact h
theorem SX12_nearOf_6 {d n : Nat} {Q : Int → kS → Prop} {a0 a1 a2 a3 a4 a5 a6 a7 : Int} {σ : kS} (h : isO 12 n a0 ∧ (((σ a0 38) ≤ a7 → Q a6 σ) ∧ (¬ (σ a0 38) ≤ a7 → isA 20 n (σ a0 36) ∧ (((0 : Int) ≤ a7 ∧ a7 < klen (σ a0 36)) ∧ (Ci d MX12_has [(0, a5), (0, (σ (σ a0 36) a7))] n σ (fun x4 s1 => (x4 = 0 → (-2147483648 ≤ (a6 + 0) ∧ (a6 + 0) ≤ 2147483647) ∧ ((-2147483648 ≤ (a7 + 1) ∧ (a7 + 1) ≤ 2147483647) ∧ (LX12_nearOf_6 d n Q a0 a1 a2 a3 a4 a5 (a6 + 0) (a7 + 1) s1))) ∧ (¬ x4 = 0 → isA 20 n (s1 a0 35) ∧ (((0 : Int) ≤ a7 ∧ a7 < klen (s1 a0 35)) ∧ (Ci d MX12_farFrom [(2, a0), (0, a1), (0, a2), (0, a3), (0, (s1 (s1 a0 35) a7))] n s1 (fun x7 s2 => (a4 < x7 → (-2147483648 ≤ (a6 + 0) ∧ (a6 + 0) ≤ 2147483647) ∧ ((-2147483648 ≤ (a7 + 1) ∧ (a7 + 1) ≤ 2147483647) ∧ (LX12_nearOf_6 d n Q a0 a1 a2 a3 a4 a5 (a6 + 0) (a7 + 1) s2))) ∧ (¬ a4 < x7 → isA 20 n (s2 a0 37) ∧ (((0 : Int) ≤ a7 ∧ a7 < klen (s2 a0 37)) ∧ ((-2147483648 ≤ (a6 + (s2 (s2 a0 37) a7)) ∧ (a6 + (s2 (s2 a0 37) a7)) ≤ 2147483647) ∧ ((-2147483648 ≤ (a7 + 1) ∧ (a7 + 1) ≤ 2147483647) ∧ (LX12_nearOf_6 d n Q a0 a1 a2 a3 a4 a5 (a6 + (s2 (s2 a0 37) a7)) (a7 + 1) s2))))))))))))))) : LX12_nearOf_6 d n Q a0 a1 a2 a3 a4 a5 a6 a7 σ := by
  unfold LX12_nearOf_6
  refine K_iload 7 (kdA dt_MX12_nearOf 4 rfl) rfl ?_
  refine K_aload_n 0 (kdA dt_MX12_nearOf 5 rfl) rfl rfl ?_
  obtain ⟨c1, h⟩ := h
  refine gf12_400 rfl (kdA dt_MX12_nearOf 6 rfl) c1 ?_
  refine K_icmp_ge (tgt := 71) (kdA dt_MX12_nearOf 7 rfl) rfl (fun c => ?_) (fun c => ?_)
  · have h := h.1 c
    refine K_iload 6 (kdA dt_MX12_nearOf 37 rfl) rfl ?_
    exact K_ireturn (kdA dt_MX12_nearOf 38 rfl) rfl ⟨rfl, _, rfl, h⟩
  · have h := h.2 c
    refine K_iload 6 (kdA dt_MX12_nearOf 8 rfl) rfl ?_
    refine K_iload 5 (kdA dt_MX12_nearOf 9 rfl) rfl ?_
    refine K_aload_n 0 (kdA dt_MX12_nearOf 10 rfl) rfl rfl ?_
    refine gf12_79 rfl (kdA dt_MX12_nearOf 11 rfl) c1 ?_
    refine K_iload 7 (kdA dt_MX12_nearOf 12 rfl) rfl ?_
    obtain ⟨c2, h⟩ := h
    obtain ⟨c3, h⟩ := h
    refine K_iaload (kdA dt_MX12_nearOf 13 rfl) c2 c3.1 c3.2 ?_
    refine K_cSi (as := [(0, a5), (0, (σ (σ a0 36) a7))]) (st := [(0, a6)]) (kdA dt_MX12_nearOf 14 rfl) cl_MX12_has lk12_403 rfl rfl (Nat.le_of_ble_eq_true rfl) (Ci.mono h (fun x4 s1 h => ?_))
    refine K_if_eq (tgt := 61) (kdA dt_MX12_nearOf 15 rfl) rfl (fun c => ?_) (fun c => ?_)
    · have h := h.1 c
      refine K_iconst (kdA dt_MX12_nearOf 32 rfl) (by decide) ?_
      obtain ⟨c5, h⟩ := h
      refine K_iadd (kdA dt_MX12_nearOf 33 rfl) c5 ?_
      refine K_istore (ls' := [(0, (2, a0)), (1, (0, a1)), (2, (0, a2)), (3, (0, a3)), (4, (0, a4)), (5, (0, a5)), (6, (0, (a6 + 0))), (7, (0, a7))]) (kdA dt_MX12_nearOf 34 rfl) (by decide) rfl ?_
      obtain ⟨c6, h⟩ := h
      refine K_iinc (ls' := [(0, (2, a0)), (1, (0, a1)), (2, (0, a2)), (3, (0, a3)), (4, (0, a4)), (5, (0, a5)), (6, (0, (a6 + 0))), (7, (0, (a7 + 1)))]) 7 (kdA dt_MX12_nearOf 35 rfl) rfl c6 (by decide) rfl ?_
      refine K_goto (tgt := 6) (kdA dt_MX12_nearOf 36 rfl) rfl ?_
      exact h
    · have h := h.2 c
      refine K_aload_n 0 (kdA dt_MX12_nearOf 16 rfl) rfl rfl ?_
      refine K_iload_n 1 (kdA dt_MX12_nearOf 17 rfl) rfl rfl ?_
      refine K_iload_n 2 (kdA dt_MX12_nearOf 18 rfl) rfl rfl ?_
      refine K_iload_n 3 (kdA dt_MX12_nearOf 19 rfl) rfl rfl ?_
      refine K_aload_n 0 (kdA dt_MX12_nearOf 20 rfl) rfl rfl ?_
      refine gf12_76 rfl (kdA dt_MX12_nearOf 21 rfl) c1 ?_
      refine K_iload 7 (kdA dt_MX12_nearOf 22 rfl) rfl ?_
      obtain ⟨c5, h⟩ := h
      obtain ⟨c6, h⟩ := h
      refine K_iaload (kdA dt_MX12_nearOf 23 rfl) c5 c6.1 c6.2 ?_
      refine K_cVi (c := 12) (as := [(0, a1), (0, a2), (0, a3), (0, (s1 (s1 a0 35) a7))]) (st := [(0, a6)]) (kdA dt_MX12_nearOf 24 rfl) rfl cl_MX12_farFrom lk12_406 rfl rfl (Nat.le_of_ble_eq_true rfl) c1 (Ci.mono h (fun x7 s2 h => ?_))
      refine K_iload 4 (kdA dt_MX12_nearOf 25 rfl) rfl ?_
      refine K_icmp_gt (tgt := 61) (kdA dt_MX12_nearOf 26 rfl) rfl (fun c => ?_) (fun c => ?_)
      · have h := h.1 c
        refine K_iconst (kdA dt_MX12_nearOf 32 rfl) (by decide) ?_
        obtain ⟨c8, h⟩ := h
        refine K_iadd (kdA dt_MX12_nearOf 33 rfl) c8 ?_
        refine K_istore (ls' := [(0, (2, a0)), (1, (0, a1)), (2, (0, a2)), (3, (0, a3)), (4, (0, a4)), (5, (0, a5)), (6, (0, (a6 + 0))), (7, (0, a7))]) (kdA dt_MX12_nearOf 34 rfl) (by decide) rfl ?_
        obtain ⟨c9, h⟩ := h
        refine K_iinc (ls' := [(0, (2, a0)), (1, (0, a1)), (2, (0, a2)), (3, (0, a3)), (4, (0, a4)), (5, (0, a5)), (6, (0, (a6 + 0))), (7, (0, (a7 + 1)))]) 7 (kdA dt_MX12_nearOf 35 rfl) rfl c9 (by decide) rfl ?_
        refine K_goto (tgt := 6) (kdA dt_MX12_nearOf 36 rfl) rfl ?_
        exact h
      · have h := h.2 c
        refine K_aload_n 0 (kdA dt_MX12_nearOf 27 rfl) rfl rfl ?_
        refine gf12_82 rfl (kdA dt_MX12_nearOf 28 rfl) c1 ?_
        refine K_iload 7 (kdA dt_MX12_nearOf 29 rfl) rfl ?_
        obtain ⟨c8, h⟩ := h
        obtain ⟨c9, h⟩ := h
        refine K_iaload (kdA dt_MX12_nearOf 30 rfl) c8 c9.1 c9.2 ?_
        refine K_goto (tgt := 62) (kdA dt_MX12_nearOf 31 rfl) rfl ?_
        obtain ⟨c10, h⟩ := h
        refine K_iadd (kdA dt_MX12_nearOf 33 rfl) c10 ?_
        refine K_istore (ls' := [(0, (2, a0)), (1, (0, a1)), (2, (0, a2)), (3, (0, a3)), (4, (0, a4)), (5, (0, a5)), (6, (0, (a6 + (s2 (s2 a0 37) a7)))), (7, (0, a7))]) (kdA dt_MX12_nearOf 34 rfl) (by decide) rfl ?_
        obtain ⟨c11, h⟩ := h
        refine K_iinc (ls' := [(0, (2, a0)), (1, (0, a1)), (2, (0, a2)), (3, (0, a3)), (4, (0, a4)), (5, (0, a5)), (6, (0, (a6 + (s2 (s2 a0 37) a7)))), (7, (0, (a7 + 1)))]) 7 (kdA dt_MX12_nearOf 35 rfl) rfl c11 (by decide) rfl ?_
        refine K_goto (tgt := 6) (kdA dt_MX12_nearOf 36 rfl) rfl ?_
        exact h
theorem EX12_nearOf {d n : Nat} {Q : Int → kS → Prop} {a0 a1 a2 a3 a4 a5 : Int} {σ : kS} (h : (-2147483648 ≤ a1 ∧ a1 ≤ 2147483647) → (-2147483648 ≤ a2 ∧ a2 ≤ 2147483647) → (-2147483648 ≤ a3 ∧ a3 ≤ 2147483647) → (-2147483648 ≤ a4 ∧ a4 ≤ 2147483647) → (-2147483648 ≤ a5 ∧ a5 ≤ 2147483647) → kokw n σ → LX12_nearOf_0 d n Q a0 a1 a2 a3 a4 a5 σ) : Ci (d + 1) MX12_nearOf [(2, a0), (0, a1), (0, a2), (0, a3), (0, a4), (0, a5)] n σ Q := Tri_of (by decide +kernel) (Nat.le_of_ble_eq_true rfl) (fun hk hw => h (hk (0, a1) (List.mem_of_getElem? (i := 1) rfl)) (hk (0, a2) (List.mem_of_getElem? (i := 2) rfl)) (hk (0, a3) (List.mem_of_getElem? (i := 3) rfl)) (hk (0, a4) (List.mem_of_getElem? (i := 4) rfl)) (hk (0, a5) (List.mem_of_getElem? (i := 5) rfl)) hw)

def LX12_nearly_0 (d n : Nat) (Q : Int → kS → Prop) (a0 : Int) (a1 : Int) (a2 : Int) (a3 : Int) (a4 : Int) (a5 : Int) (a6 : Int) (a7 : Int) (σ : kS) : Prop := K (d + 1) MX12_nearly (kPi n Q) (0, 0) 0 [(0, (2, a0)), (1, (0, a1)), (2, (0, a2)), (3, (0, a3)), (4, (0, a4)), (5, (0, a5)), (6, (0, a6)), (7, (0, a7))] [] n σ
def LX12_nearly_94 (d n : Nat) (Q : Int → kS → Prop) (a0 : Int) (a7 : Int) (a9 : Int) (a10 : Int) (a11 : Int) (σ : kS) : Prop := K (d + 1) MX12_nearly (kPi n Q) (0, 0) 94 [(0, (2, a0)), (7, (0, a7)), (9, (0, a9)), (10, (0, a10)), (11, (0, a11))] [] n σ
theorem SX12_nearly_0 {d n : Nat} {Q : Int → kS → Prop} {a0 a1 a2 a3 a4 a5 a6 a7 : Int} {σ : kS} (h : isO 12 n a0 ∧ (∀ s1, s1 = kst σ a0 0 0 → Ci d MX12_isWay [(2, a0), (0, a1), (0, a2), (0, a4), (0, a5)] n s1 (fun x2 s2 => (x2 = 0 → Q (-1) s2) ∧ (¬ x2 = 0 → Ci d MX12_isIn [(0, a6), (0, 0), (0, 100)] n s2 (fun x3 s3 => (x3 = 0 → Q (-1) s3) ∧ (¬ x3 = 0 → (a7 = (-1) → Cv d MX12_layWay [(2, a0), (0, a1), (0, a2), (0, a3), (0, a4), (0, a5)] n s3 (fun s4 => Cv d MX12_layFrom [(2, a0), (0, a4)] n s4 (fun s5 => isA 20 n (s5 a0 27) ∧ (((0 : Int) ≤ a4 ∧ a4 < klen (s5 a0 27)) ∧ (((0 : Int) ≤ (s5 (s5 a0 27) a4)) ∧ ((-2147483648 ≤ (((s5 (s5 a0 27) a4) / 1000) * a6) ∧ (((s5 (s5 a0 27) a4) / 1000) * a6) ≤ 2147483647) ∧ (((0 : Int) ≤ (((s5 (s5 a0 27) a4) / 1000) * a6)) ∧ ((-2147483648 ≤ (((s5 (s5 a0 27) a4) / 1000) + ((((s5 (s5 a0 27) a4) / 1000) * a6) / 100)) ∧ (((s5 (s5 a0 27) a4) / 1000) + ((((s5 (s5 a0 27) a4) / 1000) * a6) / 100)) ≤ 2147483647) ∧ (LX12_nearly_94 d n Q a0 a7 (((s5 (s5 a0 27) a4) / 1000) + ((((s5 (s5 a0 27) a4) / 1000) * a6) / 100)) 0 0 s5))))))))) ∧ (¬ a7 = (-1) → Ci d MX12_isCell [(0, a7)] n s3 (fun x4 s4 => (¬ x4 = 0 → Cv d MX12_layWay [(2, a0), (0, a1), (0, a2), (0, a3), (0, a4), (0, a5)] n s4 (fun s5 => Cv d MX12_layFrom [(2, a0), (0, a4)] n s5 (fun s6 => isA 20 n (s6 a0 27) ∧ (((0 : Int) ≤ a4 ∧ a4 < klen (s6 a0 27)) ∧ (((0 : Int) ≤ (s6 (s6 a0 27) a4)) ∧ ((-2147483648 ≤ (((s6 (s6 a0 27) a4) / 1000) * a6) ∧ (((s6 (s6 a0 27) a4) / 1000) * a6) ≤ 2147483647) ∧ (((0 : Int) ≤ (((s6 (s6 a0 27) a4) / 1000) * a6)) ∧ ((-2147483648 ≤ (((s6 (s6 a0 27) a4) / 1000) + ((((s6 (s6 a0 27) a4) / 1000) * a6) / 100)) ∧ (((s6 (s6 a0 27) a4) / 1000) + ((((s6 (s6 a0 27) a4) / 1000) * a6) / 100)) ≤ 2147483647) ∧ (LX12_nearly_94 d n Q a0 a7 (((s6 (s6 a0 27) a4) / 1000) + ((((s6 (s6 a0 27) a4) / 1000) * a6) / 100)) 0 0 s6))))))))) ∧ (¬ (¬ x4 = 0) → Q (-1) s4))))))))) : LX12_nearly_0 d n Q a0 a1 a2 a3 a4 a5 a6 a7 σ := by
  unfold LX12_nearly_0
  refine K_aload_n 0 (kdA dt_MX12_nearly 0 rfl) rfl rfl ?_
  refine K_iconst (kdA dt_MX12_nearly 1 rfl) (by decide) ?_
  obtain ⟨c1, h⟩ := h
  refine pf12_149 rfl (kdA dt_MX12_nearly 2 rfl) c1 (fun s1 es1 => ?_)
  have h := h s1 es1
  refine K_aload_n 0 (kdA dt_MX12_nearly 3 rfl) rfl rfl ?_
  refine K_iload_n 1 (kdA dt_MX12_nearly 4 rfl) rfl rfl ?_
  refine K_iload_n 2 (kdA dt_MX12_nearly 5 rfl) rfl rfl ?_
  refine K_iload 4 (kdA dt_MX12_nearly 6 rfl) rfl ?_
  refine K_iload 5 (kdA dt_MX12_nearly 7 rfl) rfl ?_
  refine K_cVi (c := 12) (as := [(0, a1), (0, a2), (0, a4), (0, a5)]) (st := []) (kdA dt_MX12_nearly 8 rfl) rfl cl_MX12_isWay lk12_341 rfl rfl (Nat.le_of_ble_eq_true rfl) c1 (Ci.mono h (fun x2 s2 h => ?_))
  refine K_if_eq (tgt := 43) (kdA dt_MX12_nearly 9 rfl) rfl (fun c => ?_) (fun c => ?_)
  · have h := h.1 c
    refine K_iconst (kdA dt_MX12_nearly 21 rfl) (by decide) ?_
    exact K_ireturn (kdA dt_MX12_nearly 22 rfl) rfl ⟨rfl, _, rfl, h⟩
  · have h := h.2 c
    refine K_iload 6 (kdA dt_MX12_nearly 10 rfl) rfl ?_
    refine K_iconst (kdA dt_MX12_nearly 11 rfl) (by decide) ?_
    refine K_bipush (kdA dt_MX12_nearly 12 rfl) (by decide +kernel) ?_
    refine K_cSi (as := [(0, a6), (0, 0), (0, 100)]) (st := []) (kdA dt_MX12_nearly 13 rfl) cl_MX12_isIn lk12_153 rfl rfl (Nat.le_of_ble_eq_true rfl) (Ci.mono h (fun x3 s3 h => ?_))
    refine K_if_eq (tgt := 43) (kdA dt_MX12_nearly 14 rfl) rfl (fun c => ?_) (fun c => ?_)
    · have h := h.1 c
      refine K_iconst (kdA dt_MX12_nearly 21 rfl) (by decide) ?_
      exact K_ireturn (kdA dt_MX12_nearly 22 rfl) rfl ⟨rfl, _, rfl, h⟩
    · have h := h.2 c
      refine K_iload 7 (kdA dt_MX12_nearly 15 rfl) rfl ?_
      refine K_iconst (kdA dt_MX12_nearly 16 rfl) (by decide) ?_
      refine K_icmp_eq (tgt := 45) (kdA dt_MX12_nearly 17 rfl) rfl (fun c => ?_) (fun c => ?_)
      · have h := h.1 c
        refine K_aload_n 0 (kdA dt_MX12_nearly 23 rfl) rfl rfl ?_
        refine K_iload_n 1 (kdA dt_MX12_nearly 24 rfl) rfl rfl ?_
        refine K_iload_n 2 (kdA dt_MX12_nearly 25 rfl) rfl rfl ?_
        refine K_iload_n 3 (kdA dt_MX12_nearly 26 rfl) rfl rfl ?_
        refine K_iload 4 (kdA dt_MX12_nearly 27 rfl) rfl ?_
        refine K_iload 5 (kdA dt_MX12_nearly 28 rfl) rfl ?_
        refine K_cVv (c := 12) (as := [(0, a1), (0, a2), (0, a3), (0, a4), (0, a5)]) (st := []) (kdA dt_MX12_nearly 29 rfl) rfl cl_MX12_layWay lk12_345 rfl rfl (Nat.le_of_ble_eq_true rfl) c1 (Cv.mono h (fun s4 h => ?_))
        refine K_aload_n 0 (kdA dt_MX12_nearly 30 rfl) rfl rfl ?_
        refine K_iload 4 (kdA dt_MX12_nearly 31 rfl) rfl ?_
        refine K_cVv (c := 12) (as := [(0, a4)]) (st := []) (kdA dt_MX12_nearly 32 rfl) rfl cl_MX12_layFrom lk12_349 rfl rfl (Nat.le_of_ble_eq_true rfl) c1 (Cv.mono h (fun s5 h => ?_))
        refine K_aload_n 0 (kdA dt_MX12_nearly 33 rfl) rfl rfl ?_
        refine gf12_58 rfl (kdA dt_MX12_nearly 34 rfl) c1 ?_
        refine K_iload 4 (kdA dt_MX12_nearly 35 rfl) rfl ?_
        obtain ⟨c6, h⟩ := h
        obtain ⟨c7, h⟩ := h
        refine K_iaload (kdA dt_MX12_nearly 36 rfl) c6 c7.1 c7.2 ?_
        refine K_sipush (kdA dt_MX12_nearly 37 rfl) (by decide +kernel) ?_
        obtain ⟨c8, h⟩ := h
        refine K_idiv (kdA dt_MX12_nearly 38 rfl) c8 (by decide) ?_
        refine K_istore (ls' := [(0, (2, a0)), (1, (0, a1)), (2, (0, a2)), (3, (0, a3)), (4, (0, a4)), (5, (0, a5)), (6, (0, a6)), (7, (0, a7)), (8, (0, ((s5 (s5 a0 27) a4) / 1000)))]) (kdA dt_MX12_nearly 39 rfl) (by decide) rfl ?_
        refine K_iload 8 (kdA dt_MX12_nearly 40 rfl) rfl ?_
        refine K_iload 8 (kdA dt_MX12_nearly 41 rfl) rfl ?_
        refine K_iload 6 (kdA dt_MX12_nearly 42 rfl) rfl ?_
        obtain ⟨c9, h⟩ := h
        refine K_imul (kdA dt_MX12_nearly 43 rfl) c9 ?_
        refine K_bipush (kdA dt_MX12_nearly 44 rfl) (by decide +kernel) ?_
        obtain ⟨c10, h⟩ := h
        refine K_idiv (kdA dt_MX12_nearly 45 rfl) c10 (by decide) ?_
        obtain ⟨c11, h⟩ := h
        refine K_iadd (kdA dt_MX12_nearly 46 rfl) c11 ?_
        refine K_istore (ls' := [(0, (2, a0)), (1, (0, a1)), (2, (0, a2)), (3, (0, a3)), (4, (0, a4)), (5, (0, a5)), (6, (0, a6)), (7, (0, a7)), (8, (0, ((s5 (s5 a0 27) a4) / 1000))), (9, (0, (((s5 (s5 a0 27) a4) / 1000) + ((((s5 (s5 a0 27) a4) / 1000) * a6) / 100))))]) (kdA dt_MX12_nearly 47 rfl) (by decide) rfl ?_
        refine K_iconst (kdA dt_MX12_nearly 48 rfl) (by decide) ?_
        refine K_istore (ls' := [(0, (2, a0)), (1, (0, a1)), (2, (0, a2)), (3, (0, a3)), (4, (0, a4)), (5, (0, a5)), (6, (0, a6)), (7, (0, a7)), (8, (0, ((s5 (s5 a0 27) a4) / 1000))), (9, (0, (((s5 (s5 a0 27) a4) / 1000) + ((((s5 (s5 a0 27) a4) / 1000) * a6) / 100)))), (10, (0, 0))]) (kdA dt_MX12_nearly 49 rfl) (by decide) rfl ?_
        refine K_iconst (kdA dt_MX12_nearly 50 rfl) (by decide) ?_
        refine K_istore (ls' := [(0, (2, a0)), (1, (0, a1)), (2, (0, a2)), (3, (0, a3)), (4, (0, a4)), (5, (0, a5)), (6, (0, a6)), (7, (0, a7)), (8, (0, ((s5 (s5 a0 27) a4) / 1000))), (9, (0, (((s5 (s5 a0 27) a4) / 1000) + ((((s5 (s5 a0 27) a4) / 1000) * a6) / 100)))), (10, (0, 0)), (11, (0, 0))]) (kdA dt_MX12_nearly 51 rfl) (by decide) rfl ?_
        refine K_pick [0, 7, 9, 10, 11] (ls' := [(0, (2, a0)), (7, (0, a7)), (9, (0, (((s5 (s5 a0 27) a4) / 1000) + ((((s5 (s5 a0 27) a4) / 1000) * a6) / 100)))), (10, (0, 0)), (11, (0, 0))]) rfl ?_
        exact h
      · have h := h.2 c
        refine K_iload 7 (kdA dt_MX12_nearly 18 rfl) rfl ?_
        refine K_cSi (as := [(0, a7)]) (st := []) (kdA dt_MX12_nearly 19 rfl) cl_MX12_isCell lk12_161 rfl rfl (Nat.le_of_ble_eq_true rfl) (Ci.mono h (fun x4 s4 h => ?_))
        refine K_if_ne (tgt := 45) (kdA dt_MX12_nearly 20 rfl) rfl (fun c => ?_) (fun c => ?_)
        · have h := h.1 c
          refine K_aload_n 0 (kdA dt_MX12_nearly 23 rfl) rfl rfl ?_
          refine K_iload_n 1 (kdA dt_MX12_nearly 24 rfl) rfl rfl ?_
          refine K_iload_n 2 (kdA dt_MX12_nearly 25 rfl) rfl rfl ?_
          refine K_iload_n 3 (kdA dt_MX12_nearly 26 rfl) rfl rfl ?_
          refine K_iload 4 (kdA dt_MX12_nearly 27 rfl) rfl ?_
          refine K_iload 5 (kdA dt_MX12_nearly 28 rfl) rfl ?_
          refine K_cVv (c := 12) (as := [(0, a1), (0, a2), (0, a3), (0, a4), (0, a5)]) (st := []) (kdA dt_MX12_nearly 29 rfl) rfl cl_MX12_layWay lk12_345 rfl rfl (Nat.le_of_ble_eq_true rfl) c1 (Cv.mono h (fun s5 h => ?_))
          refine K_aload_n 0 (kdA dt_MX12_nearly 30 rfl) rfl rfl ?_
          refine K_iload 4 (kdA dt_MX12_nearly 31 rfl) rfl ?_
          refine K_cVv (c := 12) (as := [(0, a4)]) (st := []) (kdA dt_MX12_nearly 32 rfl) rfl cl_MX12_layFrom lk12_349 rfl rfl (Nat.le_of_ble_eq_true rfl) c1 (Cv.mono h (fun s6 h => ?_))
          refine K_aload_n 0 (kdA dt_MX12_nearly 33 rfl) rfl rfl ?_
          refine gf12_58 rfl (kdA dt_MX12_nearly 34 rfl) c1 ?_
          refine K_iload 4 (kdA dt_MX12_nearly 35 rfl) rfl ?_
          obtain ⟨c7, h⟩ := h
          obtain ⟨c8, h⟩ := h
          refine K_iaload (kdA dt_MX12_nearly 36 rfl) c7 c8.1 c8.2 ?_
          refine K_sipush (kdA dt_MX12_nearly 37 rfl) (by decide +kernel) ?_
          obtain ⟨c9, h⟩ := h
          refine K_idiv (kdA dt_MX12_nearly 38 rfl) c9 (by decide) ?_
          refine K_istore (ls' := [(0, (2, a0)), (1, (0, a1)), (2, (0, a2)), (3, (0, a3)), (4, (0, a4)), (5, (0, a5)), (6, (0, a6)), (7, (0, a7)), (8, (0, ((s6 (s6 a0 27) a4) / 1000)))]) (kdA dt_MX12_nearly 39 rfl) (by decide) rfl ?_
          refine K_iload 8 (kdA dt_MX12_nearly 40 rfl) rfl ?_
          refine K_iload 8 (kdA dt_MX12_nearly 41 rfl) rfl ?_
          refine K_iload 6 (kdA dt_MX12_nearly 42 rfl) rfl ?_
          obtain ⟨c10, h⟩ := h
          refine K_imul (kdA dt_MX12_nearly 43 rfl) c10 ?_
          refine K_bipush (kdA dt_MX12_nearly 44 rfl) (by decide +kernel) ?_
          obtain ⟨c11, h⟩ := h
          refine K_idiv (kdA dt_MX12_nearly 45 rfl) c11 (by decide) ?_
          obtain ⟨c12, h⟩ := h
          refine K_iadd (kdA dt_MX12_nearly 46 rfl) c12 ?_
          refine K_istore (ls' := [(0, (2, a0)), (1, (0, a1)), (2, (0, a2)), (3, (0, a3)), (4, (0, a4)), (5, (0, a5)), (6, (0, a6)), (7, (0, a7)), (8, (0, ((s6 (s6 a0 27) a4) / 1000))), (9, (0, (((s6 (s6 a0 27) a4) / 1000) + ((((s6 (s6 a0 27) a4) / 1000) * a6) / 100))))]) (kdA dt_MX12_nearly 47 rfl) (by decide) rfl ?_
          refine K_iconst (kdA dt_MX12_nearly 48 rfl) (by decide) ?_
          refine K_istore (ls' := [(0, (2, a0)), (1, (0, a1)), (2, (0, a2)), (3, (0, a3)), (4, (0, a4)), (5, (0, a5)), (6, (0, a6)), (7, (0, a7)), (8, (0, ((s6 (s6 a0 27) a4) / 1000))), (9, (0, (((s6 (s6 a0 27) a4) / 1000) + ((((s6 (s6 a0 27) a4) / 1000) * a6) / 100)))), (10, (0, 0))]) (kdA dt_MX12_nearly 49 rfl) (by decide) rfl ?_
          refine K_iconst (kdA dt_MX12_nearly 50 rfl) (by decide) ?_
          refine K_istore (ls' := [(0, (2, a0)), (1, (0, a1)), (2, (0, a2)), (3, (0, a3)), (4, (0, a4)), (5, (0, a5)), (6, (0, a6)), (7, (0, a7)), (8, (0, ((s6 (s6 a0 27) a4) / 1000))), (9, (0, (((s6 (s6 a0 27) a4) / 1000) + ((((s6 (s6 a0 27) a4) / 1000) * a6) / 100)))), (10, (0, 0)), (11, (0, 0))]) (kdA dt_MX12_nearly 51 rfl) (by decide) rfl ?_
          refine K_pick [0, 7, 9, 10, 11] (ls' := [(0, (2, a0)), (7, (0, a7)), (9, (0, (((s6 (s6 a0 27) a4) / 1000) + ((((s6 (s6 a0 27) a4) / 1000) * a6) / 100)))), (10, (0, 0)), (11, (0, 0))]) rfl ?_
          exact h
        · have h := h.2 c
          refine K_iconst (kdA dt_MX12_nearly 21 rfl) (by decide) ?_
          exact K_ireturn (kdA dt_MX12_nearly 22 rfl) rfl ⟨rfl, _, rfl, h⟩
theorem SX12_nearly_94 {d n : Nat} {Q : Int → kS → Prop} {a0 a7 a9 a10 a11 : Int} {σ : kS} (h : (120 ≤ a11 → Q a10 σ) ∧ (¬ 120 ≤ a11 → (a7 = (-1) → isO 12 n a0 ∧ (isA 20 n (σ a0 28) ∧ (((0 : Int) ≤ a11 ∧ a11 < klen (σ a0 28)) ∧ (isA 20 n (σ a0 27) ∧ (((0 : Int) ≤ a11 ∧ a11 < klen (σ a0 27)) ∧ (((0 : Int) ≤ (σ (σ a0 27) a11)) ∧ ((-2147483648 ≤ ((σ (σ a0 28) a11) + ((σ (σ a0 27) a11) / 1000)) ∧ ((σ (σ a0 28) a11) + ((σ (σ a0 27) a11) / 1000)) ≤ 2147483647) ∧ ((a9 < ((σ (σ a0 28) a11) + ((σ (σ a0 27) a11) / 1000)) → (-2147483648 ≤ (a10 + 0) ∧ (a10 + 0) ≤ 2147483647) ∧ ((-2147483648 ≤ (a11 + 1) ∧ (a11 + 1) ≤ 2147483647) ∧ (LX12_nearly_94 d n Q a0 a7 a9 (a10 + 0) (a11 + 1) σ))) ∧ (¬ a9 < ((σ (σ a0 28) a11) + ((σ (σ a0 27) a11) / 1000)) → (-2147483648 ≤ (a10 + 1) ∧ (a10 + 1) ≤ 2147483647) ∧ ((-2147483648 ≤ (a11 + 1) ∧ (a11 + 1) ≤ 2147483647) ∧ (LX12_nearly_94 d n Q a0 a7 a9 (a10 + 1) (a11 + 1) σ))))))))))) ∧ (¬ a7 = (-1) → (¬ a11 = a7 → (-2147483648 ≤ (a10 + 0) ∧ (a10 + 0) ≤ 2147483647) ∧ ((-2147483648 ≤ (a11 + 1) ∧ (a11 + 1) ≤ 2147483647) ∧ (LX12_nearly_94 d n Q a0 a7 a9 (a10 + 0) (a11 + 1) σ))) ∧ (¬ (¬ a11 = a7) → isO 12 n a0 ∧ (isA 20 n (σ a0 28) ∧ (((0 : Int) ≤ a11 ∧ a11 < klen (σ a0 28)) ∧ (isA 20 n (σ a0 27) ∧ (((0 : Int) ≤ a11 ∧ a11 < klen (σ a0 27)) ∧ (((0 : Int) ≤ (σ (σ a0 27) a11)) ∧ ((-2147483648 ≤ ((σ (σ a0 28) a11) + ((σ (σ a0 27) a11) / 1000)) ∧ ((σ (σ a0 28) a11) + ((σ (σ a0 27) a11) / 1000)) ≤ 2147483647) ∧ ((a9 < ((σ (σ a0 28) a11) + ((σ (σ a0 27) a11) / 1000)) → (-2147483648 ≤ (a10 + 0) ∧ (a10 + 0) ≤ 2147483647) ∧ ((-2147483648 ≤ (a11 + 1) ∧ (a11 + 1) ≤ 2147483647) ∧ (LX12_nearly_94 d n Q a0 a7 a9 (a10 + 0) (a11 + 1) σ))) ∧ (¬ a9 < ((σ (σ a0 28) a11) + ((σ (σ a0 27) a11) / 1000)) → (-2147483648 ≤ (a10 + 1) ∧ (a10 + 1) ≤ 2147483647) ∧ ((-2147483648 ≤ (a11 + 1) ∧ (a11 + 1) ≤ 2147483647) ∧ (LX12_nearly_94 d n Q a0 a7 a9 (a10 + 1) (a11 + 1) σ)))))))))))))) : LX12_nearly_94 d n Q a0 a7 a9 a10 a11 σ := by
  unfold LX12_nearly_94
  refine K_iload 4 (kdA dt_MX12_nearly 52 rfl) rfl ?_
  refine K_bipush (kdA dt_MX12_nearly 53 rfl) (by decide +kernel) ?_
  refine K_icmp_ge (tgt := 154) (kdA dt_MX12_nearly 54 rfl) rfl (fun c => ?_) (fun c => ?_)
  · have h := h.1 c
    refine K_iload 3 (kdA dt_MX12_nearly 82 rfl) rfl ?_
    exact K_ireturn (kdA dt_MX12_nearly 83 rfl) rfl ⟨rfl, _, rfl, h⟩
  · have h := h.2 c
    refine K_iload 3 (kdA dt_MX12_nearly 55 rfl) rfl ?_
    refine K_iload 1 (kdA dt_MX12_nearly 56 rfl) rfl ?_
    refine K_iconst (kdA dt_MX12_nearly 57 rfl) (by decide) ?_
    refine K_icmp_eq (tgt := 116) (kdA dt_MX12_nearly 58 rfl) rfl (fun c => ?_) (fun c => ?_)
    · have h := h.1 c
      refine K_aload_n 0 (kdA dt_MX12_nearly 62 rfl) rfl rfl ?_
      obtain ⟨c1, h⟩ := h
      refine gf12_61 rfl (kdA dt_MX12_nearly 63 rfl) c1 ?_
      refine K_iload 4 (kdA dt_MX12_nearly 64 rfl) rfl ?_
      obtain ⟨c2, h⟩ := h
      obtain ⟨c3, h⟩ := h
      refine K_iaload (kdA dt_MX12_nearly 65 rfl) c2 c3.1 c3.2 ?_
      refine K_aload_n 0 (kdA dt_MX12_nearly 66 rfl) rfl rfl ?_
      refine gf12_58 rfl (kdA dt_MX12_nearly 67 rfl) c1 ?_
      refine K_iload 4 (kdA dt_MX12_nearly 68 rfl) rfl ?_
      obtain ⟨c4, h⟩ := h
      obtain ⟨c5, h⟩ := h
      refine K_iaload (kdA dt_MX12_nearly 69 rfl) c4 c5.1 c5.2 ?_
      refine K_sipush (kdA dt_MX12_nearly 70 rfl) (by decide +kernel) ?_
      obtain ⟨c6, h⟩ := h
      refine K_idiv (kdA dt_MX12_nearly 71 rfl) c6 (by decide) ?_
      obtain ⟨c7, h⟩ := h
      refine K_iadd (kdA dt_MX12_nearly 72 rfl) c7 ?_
      refine K_iload 2 (kdA dt_MX12_nearly 73 rfl) rfl ?_
      refine K_icmp_gt (tgt := 144) (kdA dt_MX12_nearly 74 rfl) rfl (fun c => ?_) (fun c => ?_)
      · have h := h.1 c
        refine K_iconst (kdA dt_MX12_nearly 77 rfl) (by decide) ?_
        obtain ⟨c8, h⟩ := h
        refine K_iadd (kdA dt_MX12_nearly 78 rfl) c8 ?_
        refine K_istore (ls' := [(0, (2, a0)), (7, (0, a7)), (9, (0, a9)), (10, (0, (a10 + 0))), (11, (0, a11))]) (kdA dt_MX12_nearly 79 rfl) (by decide) rfl ?_
        obtain ⟨c9, h⟩ := h
        refine K_iinc (ls' := [(0, (2, a0)), (7, (0, a7)), (9, (0, a9)), (10, (0, (a10 + 0))), (11, (0, (a11 + 1)))]) 4 (kdA dt_MX12_nearly 80 rfl) rfl c9 (by decide) rfl ?_
        refine K_goto (tgt := 94) (kdA dt_MX12_nearly 81 rfl) rfl ?_
        exact h
      · have h := h.2 c
        refine K_iconst (kdA dt_MX12_nearly 75 rfl) (by decide) ?_
        refine K_goto (tgt := 145) (kdA dt_MX12_nearly 76 rfl) rfl ?_
        obtain ⟨c8, h⟩ := h
        refine K_iadd (kdA dt_MX12_nearly 78 rfl) c8 ?_
        refine K_istore (ls' := [(0, (2, a0)), (7, (0, a7)), (9, (0, a9)), (10, (0, (a10 + 1))), (11, (0, a11))]) (kdA dt_MX12_nearly 79 rfl) (by decide) rfl ?_
        obtain ⟨c9, h⟩ := h
        refine K_iinc (ls' := [(0, (2, a0)), (7, (0, a7)), (9, (0, a9)), (10, (0, (a10 + 1))), (11, (0, (a11 + 1)))]) 4 (kdA dt_MX12_nearly 80 rfl) rfl c9 (by decide) rfl ?_
        refine K_goto (tgt := 94) (kdA dt_MX12_nearly 81 rfl) rfl ?_
        exact h
    · have h := h.2 c
      refine K_iload 4 (kdA dt_MX12_nearly 59 rfl) rfl ?_
      refine K_iload 1 (kdA dt_MX12_nearly 60 rfl) rfl ?_
      refine K_icmp_ne (tgt := 144) (kdA dt_MX12_nearly 61 rfl) rfl (fun c => ?_) (fun c => ?_)
      · have h := h.1 c
        refine K_iconst (kdA dt_MX12_nearly 77 rfl) (by decide) ?_
        obtain ⟨c1, h⟩ := h
        refine K_iadd (kdA dt_MX12_nearly 78 rfl) c1 ?_
        refine K_istore (ls' := [(0, (2, a0)), (7, (0, a7)), (9, (0, a9)), (10, (0, (a10 + 0))), (11, (0, a11))]) (kdA dt_MX12_nearly 79 rfl) (by decide) rfl ?_
        obtain ⟨c2, h⟩ := h
        refine K_iinc (ls' := [(0, (2, a0)), (7, (0, a7)), (9, (0, a9)), (10, (0, (a10 + 0))), (11, (0, (a11 + 1)))]) 4 (kdA dt_MX12_nearly 80 rfl) rfl c2 (by decide) rfl ?_
        refine K_goto (tgt := 94) (kdA dt_MX12_nearly 81 rfl) rfl ?_
        exact h
      · have h := h.2 c
        refine K_aload_n 0 (kdA dt_MX12_nearly 62 rfl) rfl rfl ?_
        obtain ⟨c1, h⟩ := h
        refine gf12_61 rfl (kdA dt_MX12_nearly 63 rfl) c1 ?_
        refine K_iload 4 (kdA dt_MX12_nearly 64 rfl) rfl ?_
        obtain ⟨c2, h⟩ := h
        obtain ⟨c3, h⟩ := h
        refine K_iaload (kdA dt_MX12_nearly 65 rfl) c2 c3.1 c3.2 ?_
        refine K_aload_n 0 (kdA dt_MX12_nearly 66 rfl) rfl rfl ?_
        refine gf12_58 rfl (kdA dt_MX12_nearly 67 rfl) c1 ?_
        refine K_iload 4 (kdA dt_MX12_nearly 68 rfl) rfl ?_
        obtain ⟨c4, h⟩ := h
        obtain ⟨c5, h⟩ := h
        refine K_iaload (kdA dt_MX12_nearly 69 rfl) c4 c5.1 c5.2 ?_
        refine K_sipush (kdA dt_MX12_nearly 70 rfl) (by decide +kernel) ?_
        obtain ⟨c6, h⟩ := h
        refine K_idiv (kdA dt_MX12_nearly 71 rfl) c6 (by decide) ?_
        obtain ⟨c7, h⟩ := h
        refine K_iadd (kdA dt_MX12_nearly 72 rfl) c7 ?_
        refine K_iload 2 (kdA dt_MX12_nearly 73 rfl) rfl ?_
        refine K_icmp_gt (tgt := 144) (kdA dt_MX12_nearly 74 rfl) rfl (fun c => ?_) (fun c => ?_)
        · have h := h.1 c
          refine K_iconst (kdA dt_MX12_nearly 77 rfl) (by decide) ?_
          obtain ⟨c8, h⟩ := h
          refine K_iadd (kdA dt_MX12_nearly 78 rfl) c8 ?_
          refine K_istore (ls' := [(0, (2, a0)), (7, (0, a7)), (9, (0, a9)), (10, (0, (a10 + 0))), (11, (0, a11))]) (kdA dt_MX12_nearly 79 rfl) (by decide) rfl ?_
          obtain ⟨c9, h⟩ := h
          refine K_iinc (ls' := [(0, (2, a0)), (7, (0, a7)), (9, (0, a9)), (10, (0, (a10 + 0))), (11, (0, (a11 + 1)))]) 4 (kdA dt_MX12_nearly 80 rfl) rfl c9 (by decide) rfl ?_
          refine K_goto (tgt := 94) (kdA dt_MX12_nearly 81 rfl) rfl ?_
          exact h
        · have h := h.2 c
          refine K_iconst (kdA dt_MX12_nearly 75 rfl) (by decide) ?_
          refine K_goto (tgt := 145) (kdA dt_MX12_nearly 76 rfl) rfl ?_
          obtain ⟨c8, h⟩ := h
          refine K_iadd (kdA dt_MX12_nearly 78 rfl) c8 ?_
          refine K_istore (ls' := [(0, (2, a0)), (7, (0, a7)), (9, (0, a9)), (10, (0, (a10 + 1))), (11, (0, a11))]) (kdA dt_MX12_nearly 79 rfl) (by decide) rfl ?_
          obtain ⟨c9, h⟩ := h
          refine K_iinc (ls' := [(0, (2, a0)), (7, (0, a7)), (9, (0, a9)), (10, (0, (a10 + 1))), (11, (0, (a11 + 1)))]) 4 (kdA dt_MX12_nearly 80 rfl) rfl c9 (by decide) rfl ?_
          refine K_goto (tgt := 94) (kdA dt_MX12_nearly 81 rfl) rfl ?_
          exact h
theorem EX12_nearly {d n : Nat} {Q : Int → kS → Prop} {a0 a1 a2 a3 a4 a5 a6 a7 : Int} {σ : kS} (h : (-2147483648 ≤ a1 ∧ a1 ≤ 2147483647) → (-2147483648 ≤ a2 ∧ a2 ≤ 2147483647) → (-2147483648 ≤ a3 ∧ a3 ≤ 2147483647) → (-2147483648 ≤ a4 ∧ a4 ≤ 2147483647) → (-2147483648 ≤ a5 ∧ a5 ≤ 2147483647) → (-2147483648 ≤ a6 ∧ a6 ≤ 2147483647) → (-2147483648 ≤ a7 ∧ a7 ≤ 2147483647) → kokw n σ → LX12_nearly_0 d n Q a0 a1 a2 a3 a4 a5 a6 a7 σ) : Ci (d + 1) MX12_nearly [(2, a0), (0, a1), (0, a2), (0, a3), (0, a4), (0, a5), (0, a6), (0, a7)] n σ Q := Tri_of (by decide +kernel) (Nat.le_of_ble_eq_true rfl) (fun hk hw => h (hk (0, a1) (List.mem_of_getElem? (i := 1) rfl)) (hk (0, a2) (List.mem_of_getElem? (i := 2) rfl)) (hk (0, a3) (List.mem_of_getElem? (i := 3) rfl)) (hk (0, a4) (List.mem_of_getElem? (i := 4) rfl)) (hk (0, a5) (List.mem_of_getElem? (i := 5) rfl)) (hk (0, a6) (List.mem_of_getElem? (i := 6) rfl)) (hk (0, a7) (List.mem_of_getElem? (i := 7) rfl)) hw)

def LX12_net_0 (d n : Nat) (Q : Int → kS → Prop) (a0 : Int) (a1 : Int) (a2 : Int) (a3 : Int) (a4 : Int) (σ : kS) : Prop := K (d + 1) MX12_net (kPi n Q) (0, 0) 0 [(0, (2, a0)), (1, (0, a1)), (2, (0, a2)), (3, (0, a3)), (4, (0, a4))] [] n σ
def LX12_net_57 (d n : Nat) (Q : Int → kS → Prop) (a0 : Int) (a4 : Int) (a5 : Int) (a6 : Int) (σ : kS) : Prop := K (d + 1) MX12_net (kPi n Q) (0, 0) 57 [(0, (2, a0)), (4, (0, a4)), (5, (0, a5)), (6, (0, a6))] [] n σ
theorem SX12_net_0 {d n : Nat} {Q : Int → kS → Prop} {a0 a1 a2 a3 a4 : Int} {σ : kS} (h : isO 12 n a0 ∧ (∀ s1, s1 = kst σ a0 0 0 → ((s1 a0 3) < 2 → Q (-1) s1) ∧ (¬ (s1 a0 3) < 2 → Ci d MX12_isManner [(2, a0), (0, a1), (0, a2)] n s1 (fun x2 s2 => (x2 = 0 → Q (-1) s2) ∧ (¬ x2 = 0 → Ci d MX12_isIn [(0, a4), (0, 0), (0, 2)] n s2 (fun x3 s3 => (¬ x3 = 0 → Cv d MX12_layRoads [(2, a0), (0, a1), (0, a2), (0, a3)] n s3 (fun s4 => (¬ a4 = 0 → LX12_net_57 d n Q a0 a4 0 0 s4) ∧ (¬ (¬ a4 = 0) → Ci d MX12_costOfNet [(2, a0)] n s4 (fun x5 s5 => Q x5 s5)))) ∧ (¬ (¬ x3 = 0) → Q (-1) s3))))))) : LX12_net_0 d n Q a0 a1 a2 a3 a4 σ := by
  unfold LX12_net_0
  refine K_aload_n 0 (kdA dt_MX12_net 0 rfl) rfl rfl ?_
  refine K_iconst (kdA dt_MX12_net 1 rfl) (by decide) ?_
  obtain ⟨c1, h⟩ := h
  refine pf12_149 rfl (kdA dt_MX12_net 2 rfl) c1 (fun s1 es1 => ?_)
  have h := h s1 es1
  refine K_aload_n 0 (kdA dt_MX12_net 3 rfl) rfl rfl ?_
  refine gf12_165 rfl (kdA dt_MX12_net 4 rfl) c1 ?_
  refine K_iconst (kdA dt_MX12_net 5 rfl) (by decide) ?_
  refine K_icmp_lt (tgt := 32) (kdA dt_MX12_net 6 rfl) rfl (fun c => ?_) (fun c => ?_)
  · have h := h.1 c
    refine K_iconst (kdA dt_MX12_net 17 rfl) (by decide) ?_
    exact K_ireturn (kdA dt_MX12_net 18 rfl) rfl ⟨rfl, _, rfl, h⟩
  · have h := h.2 c
    refine K_aload_n 0 (kdA dt_MX12_net 7 rfl) rfl rfl ?_
    refine K_iload_n 1 (kdA dt_MX12_net 8 rfl) rfl rfl ?_
    refine K_iload_n 2 (kdA dt_MX12_net 9 rfl) rfl rfl ?_
    refine K_cVi (c := 12) (as := [(0, a1), (0, a2)]) (st := []) (kdA dt_MX12_net 10 rfl) rfl cl_MX12_isManner lk12_319 rfl rfl (Nat.le_of_ble_eq_true rfl) c1 (Ci.mono h (fun x2 s2 h => ?_))
    refine K_if_eq (tgt := 32) (kdA dt_MX12_net 11 rfl) rfl (fun c => ?_) (fun c => ?_)
    · have h := h.1 c
      refine K_iconst (kdA dt_MX12_net 17 rfl) (by decide) ?_
      exact K_ireturn (kdA dt_MX12_net 18 rfl) rfl ⟨rfl, _, rfl, h⟩
    · have h := h.2 c
      refine K_iload 4 (kdA dt_MX12_net 12 rfl) rfl ?_
      refine K_iconst (kdA dt_MX12_net 13 rfl) (by decide) ?_
      refine K_iconst (kdA dt_MX12_net 14 rfl) (by decide) ?_
      refine K_cSi (as := [(0, a4), (0, 0), (0, 2)]) (st := []) (kdA dt_MX12_net 15 rfl) cl_MX12_isIn lk12_153 rfl rfl (Nat.le_of_ble_eq_true rfl) (Ci.mono h (fun x3 s3 h => ?_))
      refine K_if_ne (tgt := 34) (kdA dt_MX12_net 16 rfl) rfl (fun c => ?_) (fun c => ?_)
      · have h := h.1 c
        refine K_aload_n 0 (kdA dt_MX12_net 19 rfl) rfl rfl ?_
        refine K_iload_n 1 (kdA dt_MX12_net 20 rfl) rfl rfl ?_
        refine K_iload_n 2 (kdA dt_MX12_net 21 rfl) rfl rfl ?_
        refine K_iload_n 3 (kdA dt_MX12_net 22 rfl) rfl rfl ?_
        refine K_cVv (c := 12) (as := [(0, a1), (0, a2), (0, a3)]) (st := []) (kdA dt_MX12_net 23 rfl) rfl cl_MX12_layRoads lk12_491 rfl rfl (Nat.le_of_ble_eq_true rfl) c1 (Cv.mono h (fun s4 h => ?_))
        refine K_iload 4 (kdA dt_MX12_net 24 rfl) rfl ?_
        refine K_if_ne (tgt := 51) (kdA dt_MX12_net 25 rfl) rfl (fun c => ?_) (fun c => ?_)
        · have h := h.1 c
          refine K_iconst (kdA dt_MX12_net 29 rfl) (by decide) ?_
          refine K_istore (ls' := [(0, (2, a0)), (1, (0, a1)), (2, (0, a2)), (3, (0, a3)), (4, (0, a4)), (5, (0, 0))]) (kdA dt_MX12_net 30 rfl) (by decide) rfl ?_
          refine K_iconst (kdA dt_MX12_net 31 rfl) (by decide) ?_
          refine K_istore (ls' := [(0, (2, a0)), (1, (0, a1)), (2, (0, a2)), (3, (0, a3)), (4, (0, a4)), (5, (0, 0)), (6, (0, 0))]) (kdA dt_MX12_net 32 rfl) (by decide) rfl ?_
          refine K_pick [0, 4, 5, 6] (ls' := [(0, (2, a0)), (4, (0, a4)), (5, (0, 0)), (6, (0, 0))]) rfl ?_
          exact h
        · have h := h.2 c
          refine K_aload_n 0 (kdA dt_MX12_net 26 rfl) rfl rfl ?_
          refine K_cVi (c := 12) (as := []) (st := []) (kdA dt_MX12_net 27 rfl) rfl cl_MX12_costOfNet lk12_494 rfl rfl (Nat.le_of_ble_eq_true rfl) c1 (Ci.mono h (fun x5 s5 h => ?_))
          exact K_ireturn (kdA dt_MX12_net 28 rfl) rfl ⟨rfl, _, rfl, h⟩
      · have h := h.2 c
        refine K_iconst (kdA dt_MX12_net 17 rfl) (by decide) ?_
        exact K_ireturn (kdA dt_MX12_net 18 rfl) rfl ⟨rfl, _, rfl, h⟩
theorem SX12_net_57 {d n : Nat} {Q : Int → kS → Prop} {a0 a4 a5 a6 : Int} {σ : kS} (h : isO 12 n a0 ∧ (((σ a0 58) ≤ a6 → Q a5 σ) ∧ (¬ (σ a0 58) ≤ a6 → isA 20 n (σ a0 56) ∧ (((0 : Int) ≤ a6 ∧ a6 < klen (σ a0 56)) ∧ ((¬ a4 = 1 → isA 20 n (σ a0 55) ∧ (((0 : Int) ≤ a6 ∧ a6 < klen (σ a0 55)) ∧ ((-2147483648 ≤ ((σ (σ a0 55) a6) - 1) ∧ ((σ (σ a0 55) a6) - 1) ≤ 2147483647) ∧ (Ci d MX12_reached [(2, a0), (0, (σ (σ a0 56) a6)), (0, ((σ (σ a0 55) a6) - 1)), (0, a6)] n σ (fun x7 s1 => isA 20 n (s1 a0 57) ∧ (((0 : Int) ≤ a6 ∧ a6 < klen (s1 a0 57)) ∧ (Ci d MX12_has [(0, x7), (0, (s1 (s1 a0 57) a6))] n s1 (fun x10 s2 => (¬ x10 = 0 → (-2147483648 ≤ (a6 + 1) ∧ (a6 + 1) ≤ 2147483647) ∧ (LX12_net_57 d n Q a0 a4 (kor a5 0) (a6 + 1) s2)) ∧ (¬ (¬ x10 = 0) → (-2147483648 ≤ (a6 + 1) ∧ (a6 + 1) ≤ 2147483647) ∧ (LX12_net_57 d n Q a0 a4 (kor a5 (kishl 1 a6)) (a6 + 1) s2)))))))))) ∧ (¬ (¬ a4 = 1) → isA 20 n (σ a0 55) ∧ (((0 : Int) ≤ a6 ∧ a6 < klen (σ a0 55)) ∧ (Ci d MX12_reached [(2, a0), (0, (σ (σ a0 56) a6)), (0, (σ (σ a0 55) a6)), (0, a6)] n σ (fun x6 s1 => isA 20 n (s1 a0 57) ∧ (((0 : Int) ≤ a6 ∧ a6 < klen (s1 a0 57)) ∧ (Ci d MX12_has [(0, x6), (0, (s1 (s1 a0 57) a6))] n s1 (fun x9 s2 => (¬ x9 = 0 → (-2147483648 ≤ (a6 + 1) ∧ (a6 + 1) ≤ 2147483647) ∧ (LX12_net_57 d n Q a0 a4 (kor a5 0) (a6 + 1) s2)) ∧ (¬ (¬ x9 = 0) → (-2147483648 ≤ (a6 + 1) ∧ (a6 + 1) ≤ 2147483647) ∧ (LX12_net_57 d n Q a0 a4 (kor a5 (kishl 1 a6)) (a6 + 1) s2)))))))))))))) : LX12_net_57 d n Q a0 a4 a5 a6 σ := by
  unfold LX12_net_57
  refine K_iload 3 (kdA dt_MX12_net 33 rfl) rfl ?_
  refine K_aload_n 0 (kdA dt_MX12_net 34 rfl) rfl rfl ?_
  obtain ⟨c1, h⟩ := h
  refine gf12_488 rfl (kdA dt_MX12_net 35 rfl) c1 ?_
  refine K_icmp_ge (tgt := 136) (kdA dt_MX12_net 36 rfl) rfl (fun c => ?_) (fun c => ?_)
  · have h := h.1 c
    refine K_iload 2 (kdA dt_MX12_net 74 rfl) rfl ?_
    exact K_ireturn (kdA dt_MX12_net 75 rfl) rfl ⟨rfl, _, rfl, h⟩
  · have h := h.2 c
    refine K_iload 2 (kdA dt_MX12_net 37 rfl) rfl ?_
    refine K_aload_n 0 (kdA dt_MX12_net 38 rfl) rfl rfl ?_
    refine K_aload_n 0 (kdA dt_MX12_net 39 rfl) rfl rfl ?_
    refine gf12_127 rfl (kdA dt_MX12_net 40 rfl) c1 ?_
    refine K_iload 3 (kdA dt_MX12_net 41 rfl) rfl ?_
    obtain ⟨c2, h⟩ := h
    obtain ⟨c3, h⟩ := h
    refine K_iaload (kdA dt_MX12_net 42 rfl) c2 c3.1 c3.2 ?_
    refine K_iload 1 (kdA dt_MX12_net 43 rfl) rfl ?_
    refine K_iconst (kdA dt_MX12_net 44 rfl) (by decide) ?_
    refine K_icmp_ne (tgt := 92) (kdA dt_MX12_net 45 rfl) rfl (fun c => ?_) (fun c => ?_)
    · have h := h.1 c
      refine K_aload_n 0 (kdA dt_MX12_net 51 rfl) rfl rfl ?_
      refine gf12_124 rfl (kdA dt_MX12_net 52 rfl) c1 ?_
      refine K_iload 3 (kdA dt_MX12_net 53 rfl) rfl ?_
      obtain ⟨c4, h⟩ := h
      obtain ⟨c5, h⟩ := h
      refine K_iaload (kdA dt_MX12_net 54 rfl) c4 c5.1 c5.2 ?_
      refine K_iconst (kdA dt_MX12_net 55 rfl) (by decide) ?_
      obtain ⟨c6, h⟩ := h
      refine K_isub (kdA dt_MX12_net 56 rfl) c6 ?_
      refine K_iload 3 (kdA dt_MX12_net 57 rfl) rfl ?_
      refine K_cVi (c := 12) (as := [(0, (σ (σ a0 56) a6)), (0, ((σ (σ a0 55) a6) - 1)), (0, a6)]) (st := [(0, a5)]) (kdA dt_MX12_net 58 rfl) rfl cl_MX12_reached lk12_497 rfl rfl (Nat.le_of_ble_eq_true rfl) c1 (Ci.mono h (fun x7 s1 h => ?_))
      refine K_aload_n 0 (kdA dt_MX12_net 59 rfl) rfl rfl ?_
      refine gf12_130 rfl (kdA dt_MX12_net 60 rfl) c1 ?_
      refine K_iload 3 (kdA dt_MX12_net 61 rfl) rfl ?_
      obtain ⟨c8, h⟩ := h
      obtain ⟨c9, h⟩ := h
      refine K_iaload (kdA dt_MX12_net 62 rfl) c8 c9.1 c9.2 ?_
      refine K_cSi (as := [(0, x7), (0, (s1 (s1 a0 57) a6))]) (st := [(0, a5)]) (kdA dt_MX12_net 63 rfl) cl_MX12_has lk12_403 rfl rfl (Nat.le_of_ble_eq_true rfl) (Ci.mono h (fun x10 s2 h => ?_))
      refine K_if_ne (tgt := 126) (kdA dt_MX12_net 64 rfl) rfl (fun c => ?_) (fun c => ?_)
      · have h := h.1 c
        refine K_iconst (kdA dt_MX12_net 69 rfl) (by decide) ?_
        refine K_ior (kdA dt_MX12_net 70 rfl) ?_
        refine K_istore (ls' := [(0, (2, a0)), (4, (0, a4)), (5, (0, (kor a5 0))), (6, (0, a6))]) (kdA dt_MX12_net 71 rfl) (by decide) rfl ?_
        obtain ⟨c11, h⟩ := h
        refine K_iinc (ls' := [(0, (2, a0)), (4, (0, a4)), (5, (0, (kor a5 0))), (6, (0, (a6 + 1)))]) 3 (kdA dt_MX12_net 72 rfl) rfl c11 (by decide) rfl ?_
        refine K_goto (tgt := 57) (kdA dt_MX12_net 73 rfl) rfl ?_
        exact h
      · have h := h.2 c
        refine K_iconst (kdA dt_MX12_net 65 rfl) (by decide) ?_
        refine K_iload 3 (kdA dt_MX12_net 66 rfl) rfl ?_
        refine K_ishl (kdA dt_MX12_net 67 rfl) ?_
        refine K_goto (tgt := 127) (kdA dt_MX12_net 68 rfl) rfl ?_
        refine K_ior (kdA dt_MX12_net 70 rfl) ?_
        refine K_istore (ls' := [(0, (2, a0)), (4, (0, a4)), (5, (0, (kor a5 (kishl 1 a6)))), (6, (0, a6))]) (kdA dt_MX12_net 71 rfl) (by decide) rfl ?_
        obtain ⟨c11, h⟩ := h
        refine K_iinc (ls' := [(0, (2, a0)), (4, (0, a4)), (5, (0, (kor a5 (kishl 1 a6)))), (6, (0, (a6 + 1)))]) 3 (kdA dt_MX12_net 72 rfl) rfl c11 (by decide) rfl ?_
        refine K_goto (tgt := 57) (kdA dt_MX12_net 73 rfl) rfl ?_
        exact h
    · have h := h.2 c
      refine K_aload_n 0 (kdA dt_MX12_net 46 rfl) rfl rfl ?_
      refine gf12_124 rfl (kdA dt_MX12_net 47 rfl) c1 ?_
      refine K_iload 3 (kdA dt_MX12_net 48 rfl) rfl ?_
      obtain ⟨c4, h⟩ := h
      obtain ⟨c5, h⟩ := h
      refine K_iaload (kdA dt_MX12_net 49 rfl) c4 c5.1 c5.2 ?_
      refine K_goto (tgt := 101) (kdA dt_MX12_net 50 rfl) rfl ?_
      refine K_iload 3 (kdA dt_MX12_net 57 rfl) rfl ?_
      refine K_cVi (c := 12) (as := [(0, (σ (σ a0 56) a6)), (0, (σ (σ a0 55) a6)), (0, a6)]) (st := [(0, a5)]) (kdA dt_MX12_net 58 rfl) rfl cl_MX12_reached lk12_497 rfl rfl (Nat.le_of_ble_eq_true rfl) c1 (Ci.mono h (fun x6 s1 h => ?_))
      refine K_aload_n 0 (kdA dt_MX12_net 59 rfl) rfl rfl ?_
      refine gf12_130 rfl (kdA dt_MX12_net 60 rfl) c1 ?_
      refine K_iload 3 (kdA dt_MX12_net 61 rfl) rfl ?_
      obtain ⟨c7, h⟩ := h
      obtain ⟨c8, h⟩ := h
      refine K_iaload (kdA dt_MX12_net 62 rfl) c7 c8.1 c8.2 ?_
      refine K_cSi (as := [(0, x6), (0, (s1 (s1 a0 57) a6))]) (st := [(0, a5)]) (kdA dt_MX12_net 63 rfl) cl_MX12_has lk12_403 rfl rfl (Nat.le_of_ble_eq_true rfl) (Ci.mono h (fun x9 s2 h => ?_))
      refine K_if_ne (tgt := 126) (kdA dt_MX12_net 64 rfl) rfl (fun c => ?_) (fun c => ?_)
      · have h := h.1 c
        refine K_iconst (kdA dt_MX12_net 69 rfl) (by decide) ?_
        refine K_ior (kdA dt_MX12_net 70 rfl) ?_
        refine K_istore (ls' := [(0, (2, a0)), (4, (0, a4)), (5, (0, (kor a5 0))), (6, (0, a6))]) (kdA dt_MX12_net 71 rfl) (by decide) rfl ?_
        obtain ⟨c10, h⟩ := h
        refine K_iinc (ls' := [(0, (2, a0)), (4, (0, a4)), (5, (0, (kor a5 0))), (6, (0, (a6 + 1)))]) 3 (kdA dt_MX12_net 72 rfl) rfl c10 (by decide) rfl ?_
        refine K_goto (tgt := 57) (kdA dt_MX12_net 73 rfl) rfl ?_
        exact h
      · have h := h.2 c
        refine K_iconst (kdA dt_MX12_net 65 rfl) (by decide) ?_
        refine K_iload 3 (kdA dt_MX12_net 66 rfl) rfl ?_
        refine K_ishl (kdA dt_MX12_net 67 rfl) ?_
        refine K_goto (tgt := 127) (kdA dt_MX12_net 68 rfl) rfl ?_
        refine K_ior (kdA dt_MX12_net 70 rfl) ?_
        refine K_istore (ls' := [(0, (2, a0)), (4, (0, a4)), (5, (0, (kor a5 (kishl 1 a6)))), (6, (0, a6))]) (kdA dt_MX12_net 71 rfl) (by decide) rfl ?_
        obtain ⟨c10, h⟩ := h
        refine K_iinc (ls' := [(0, (2, a0)), (4, (0, a4)), (5, (0, (kor a5 (kishl 1 a6)))), (6, (0, (a6 + 1)))]) 3 (kdA dt_MX12_net 72 rfl) rfl c10 (by decide) rfl ?_
        refine K_goto (tgt := 57) (kdA dt_MX12_net 73 rfl) rfl ?_
        exact h
theorem EX12_net {d n : Nat} {Q : Int → kS → Prop} {a0 a1 a2 a3 a4 : Int} {σ : kS} (h : (-2147483648 ≤ a1 ∧ a1 ≤ 2147483647) → (-2147483648 ≤ a2 ∧ a2 ≤ 2147483647) → (-2147483648 ≤ a3 ∧ a3 ≤ 2147483647) → (-2147483648 ≤ a4 ∧ a4 ≤ 2147483647) → kokw n σ → LX12_net_0 d n Q a0 a1 a2 a3 a4 σ) : Ci (d + 1) MX12_net [(2, a0), (0, a1), (0, a2), (0, a3), (0, a4)] n σ Q := Tri_of (by decide +kernel) (Nat.le_of_ble_eq_true rfl) (fun hk hw => h (hk (0, a1) (List.mem_of_getElem? (i := 1) rfl)) (hk (0, a2) (List.mem_of_getElem? (i := 2) rfl)) (hk (0, a3) (List.mem_of_getElem? (i := 3) rfl)) (hk (0, a4) (List.mem_of_getElem? (i := 4) rfl)) hw)

def LX12_nextHop_0 (d n : Nat) (Q : Int → kS → Prop) (a0 : Int) (a1 : Int) (a2 : Int) (σ : kS) : Prop := K (d + 1) MX12_nextHop (kPi n Q) (0, 0) 0 [(0, (2, a0)), (1, (0, a1)), (2, (0, a2))] [] n σ
def LX12_nextHop_2 (d n : Nat) (Q : Int → kS → Prop) (a0 : Int) (a1 : Int) (a2 : Int) (a3 : Int) (σ : kS) : Prop := K (d + 1) MX12_nextHop (kPi n Q) (0, 0) 2 [(0, (2, a0)), (1, (0, a1)), (2, (0, a2)), (3, (0, a3))] [] n σ
theorem SX12_nextHop_0 {d n : Nat} {Q : Int → kS → Prop} {a0 a1 a2 : Int} {σ : kS} (h : LX12_nextHop_2 d n Q a0 a1 a2 0 σ) : LX12_nextHop_0 d n Q a0 a1 a2 σ := by
  unfold LX12_nextHop_0
  refine K_iconst (kdA dt_MX12_nextHop 0 rfl) (by decide) ?_
  refine K_istore_n (ls' := [(0, (2, a0)), (1, (0, a1)), (2, (0, a2)), (3, (0, 0))]) (kdA dt_MX12_nextHop 1 rfl) rfl (by decide) rfl ?_
  exact h
theorem SX12_nextHop_2 {d n : Nat} {Q : Int → kS → Prop} {a0 a1 a2 a3 : Int} {σ : kS} (h : isO 12 n a0 ∧ (isA 20 n (σ a0 31) ∧ (((0 : Int) ≤ a3 ∧ a3 < klen (σ a0 31)) ∧ ((-2147483648 ≤ ((σ (σ a0 31) a3) + 1) ∧ ((σ (σ a0 31) a3) + 1) ≤ 2147483647) ∧ (((0 : Int) ≤ a1 ∧ a1 < klen (σ a0 31)) ∧ ((¬ ((σ (σ a0 31) a3) + 1) = (σ (σ a0 31) a1) → (-2147483648 ≤ (a3 + 1) ∧ (a3 + 1) ≤ 2147483647) ∧ (LX12_nextHop_2 d n Q a0 a1 a2 (a3 + 1) σ)) ∧ (¬ (¬ ((σ (σ a0 31) a3) + 1) = (σ (σ a0 31) a1)) → Ci d MX12_apart [(0, a1), (0, a3)] n σ (fun x6 s1 => (a2 < x6 → (-2147483648 ≤ (a3 + 1) ∧ (a3 + 1) ≤ 2147483647) ∧ (LX12_nextHop_2 d n Q a0 a1 a2 (a3 + 1) s1)) ∧ (¬ a2 < x6 → Ci d MX12_seesIt [(2, a0), (0, a1), (0, a3)] n s1 (fun x7 s2 => (¬ x7 = 0 → Q a3 s2) ∧ (¬ (¬ x7 = 0) → (-2147483648 ≤ (a3 + 1) ∧ (a3 + 1) ≤ 2147483647) ∧ (LX12_nextHop_2 d n Q a0 a1 a2 (a3 + 1) s2)))))))))))) : LX12_nextHop_2 d n Q a0 a1 a2 a3 σ := by
  unfold LX12_nextHop_2
  refine K_aload_n 0 (kdA dt_MX12_nextHop 2 rfl) rfl rfl ?_
  obtain ⟨c1, h⟩ := h
  refine gf12_67 rfl (kdA dt_MX12_nextHop 3 rfl) c1 ?_
  refine K_iload_n 3 (kdA dt_MX12_nextHop 4 rfl) rfl rfl ?_
  obtain ⟨c2, h⟩ := h
  obtain ⟨c3, h⟩ := h
  refine K_iaload (kdA dt_MX12_nextHop 5 rfl) c2 c3.1 c3.2 ?_
  refine K_iconst (kdA dt_MX12_nextHop 6 rfl) (by decide) ?_
  obtain ⟨c4, h⟩ := h
  refine K_iadd (kdA dt_MX12_nextHop 7 rfl) c4 ?_
  refine K_aload_n 0 (kdA dt_MX12_nextHop 8 rfl) rfl rfl ?_
  refine gf12_67 rfl (kdA dt_MX12_nextHop 9 rfl) c1 ?_
  refine K_iload_n 1 (kdA dt_MX12_nextHop 10 rfl) rfl rfl ?_
  obtain ⟨c5, h⟩ := h
  refine K_iaload (kdA dt_MX12_nextHop 11 rfl) c2 c5.1 c5.2 ?_
  refine K_icmp_ne (tgt := 37) (kdA dt_MX12_nextHop 12 rfl) rfl (fun c => ?_) (fun c => ?_)
  · have h := h.1 c
    obtain ⟨c6, h⟩ := h
    refine K_iinc (ls' := [(0, (2, a0)), (1, (0, a1)), (2, (0, a2)), (3, (0, (a3 + 1)))]) 3 (kdA dt_MX12_nextHop 23 rfl) rfl c6 (by decide) rfl ?_
    refine K_goto (tgt := 2) (kdA dt_MX12_nextHop 24 rfl) rfl ?_
    exact h
  · have h := h.2 c
    refine K_iload_n 1 (kdA dt_MX12_nextHop 13 rfl) rfl rfl ?_
    refine K_iload_n 3 (kdA dt_MX12_nextHop 14 rfl) rfl rfl ?_
    refine K_cSi (as := [(0, a1), (0, a3)]) (st := []) (kdA dt_MX12_nextHop 15 rfl) cl_MX12_apart lk12_352 rfl rfl (Nat.le_of_ble_eq_true rfl) (Ci.mono h (fun x6 s1 h => ?_))
    refine K_iload_n 2 (kdA dt_MX12_nextHop 16 rfl) rfl rfl ?_
    refine K_icmp_gt (tgt := 37) (kdA dt_MX12_nextHop 17 rfl) rfl (fun c => ?_) (fun c => ?_)
    · have h := h.1 c
      obtain ⟨c7, h⟩ := h
      refine K_iinc (ls' := [(0, (2, a0)), (1, (0, a1)), (2, (0, a2)), (3, (0, (a3 + 1)))]) 3 (kdA dt_MX12_nextHop 23 rfl) rfl c7 (by decide) rfl ?_
      refine K_goto (tgt := 2) (kdA dt_MX12_nextHop 24 rfl) rfl ?_
      exact h
    · have h := h.2 c
      refine K_aload_n 0 (kdA dt_MX12_nextHop 18 rfl) rfl rfl ?_
      refine K_iload_n 1 (kdA dt_MX12_nextHop 19 rfl) rfl rfl ?_
      refine K_iload_n 3 (kdA dt_MX12_nextHop 20 rfl) rfl rfl ?_
      refine K_cVi (c := 12) (as := [(0, a1), (0, a3)]) (st := []) (kdA dt_MX12_nextHop 21 rfl) rfl cl_MX12_seesIt lk12_362 rfl rfl (Nat.le_of_ble_eq_true rfl) c1 (Ci.mono h (fun x7 s2 h => ?_))
      refine K_if_ne (tgt := 43) (kdA dt_MX12_nextHop 22 rfl) rfl (fun c => ?_) (fun c => ?_)
      · have h := h.1 c
        refine K_iload_n 3 (kdA dt_MX12_nextHop 25 rfl) rfl rfl ?_
        exact K_ireturn (kdA dt_MX12_nextHop 26 rfl) rfl ⟨rfl, _, rfl, h⟩
      · have h := h.2 c
        obtain ⟨c8, h⟩ := h
        refine K_iinc (ls' := [(0, (2, a0)), (1, (0, a1)), (2, (0, a2)), (3, (0, (a3 + 1)))]) 3 (kdA dt_MX12_nextHop 23 rfl) rfl c8 (by decide) rfl ?_
        refine K_goto (tgt := 2) (kdA dt_MX12_nextHop 24 rfl) rfl ?_
        exact h
theorem EX12_nextHop {d n : Nat} {Q : Int → kS → Prop} {a0 a1 a2 : Int} {σ : kS} (h : (-2147483648 ≤ a1 ∧ a1 ≤ 2147483647) → (-2147483648 ≤ a2 ∧ a2 ≤ 2147483647) → kokw n σ → LX12_nextHop_0 d n Q a0 a1 a2 σ) : Ci (d + 1) MX12_nextHop [(2, a0), (0, a1), (0, a2)] n σ Q := Tri_of (by decide +kernel) (Nat.le_of_ble_eq_true rfl) (fun hk hw => h (hk (0, a1) (List.mem_of_getElem? (i := 1) rfl)) (hk (0, a2) (List.mem_of_getElem? (i := 2) rfl)) hw)

def LX12_odds_0 (d n : Nat) (Q : Int → kS → Prop) (a0 : Int) (a1 : Int) (a2 : Int) (a3 : Int) (σ : kS) : Prop := K (d + 1) MX12_odds (kPi n Q) (0, 0) 0 [(0, (2, a0)), (1, (0, a1)), (2, (0, a2)), (3, (0, a3))] [] n σ
def LX12_odds_40 (d n : Nat) (Q : Int → kS → Prop) (a0 : Int) (a3 : Int) (a4 : Int) (a5 : Int) (σ : kS) : Prop := K (d + 1) MX12_odds (kPi n Q) (0, 0) 40 [(0, (2, a0)), (3, (0, a3)), (4, (0, a4)), (5, (0, a5))] [] n σ
theorem SX12_odds_0 {d n : Nat} {Q : Int → kS → Prop} {a0 a1 a2 a3 : Int} {σ : kS} (h : isO 12 n a0 ∧ (∀ s1, s1 = kst σ a0 0 0 → Ci d MX12_areTowns [(2, a0), (0, a1), (0, a2)] n s1 (fun x2 s2 => (x2 = 0 → Q (-1) s2) ∧ (¬ x2 = 0 → (a3 = (-1) → Cv d MX12_layWorlds [(2, a0), (0, a1), (0, a2)] n s2 (fun s3 => LX12_odds_40 d n Q a0 a3 0 0 s3)) ∧ (¬ a3 = (-1) → Ci d MX12_isCell [(0, a3)] n s2 (fun x3 s3 => (¬ x3 = 0 → Cv d MX12_layWorlds [(2, a0), (0, a1), (0, a2)] n s3 (fun s4 => LX12_odds_40 d n Q a0 a3 0 0 s4)) ∧ (¬ (¬ x3 = 0) → Q (-1) s3))))))) : LX12_odds_0 d n Q a0 a1 a2 a3 σ := by
  unfold LX12_odds_0
  refine K_aload_n 0 (kdA dt_MX12_odds 0 rfl) rfl rfl ?_
  refine K_iconst (kdA dt_MX12_odds 1 rfl) (by decide) ?_
  obtain ⟨c1, h⟩ := h
  refine pf12_149 rfl (kdA dt_MX12_odds 2 rfl) c1 (fun s1 es1 => ?_)
  have h := h s1 es1
  refine K_aload_n 0 (kdA dt_MX12_odds 3 rfl) rfl rfl ?_
  refine K_iload_n 1 (kdA dt_MX12_odds 4 rfl) rfl rfl ?_
  refine K_iload_n 2 (kdA dt_MX12_odds 5 rfl) rfl rfl ?_
  refine K_cVi (c := 12) (as := [(0, a1), (0, a2)]) (st := []) (kdA dt_MX12_odds 6 rfl) rfl cl_MX12_areTowns lk12_456 rfl rfl (Nat.le_of_ble_eq_true rfl) c1 (Ci.mono h (fun x2 s2 h => ?_))
  refine K_if_eq (tgt := 26) (kdA dt_MX12_odds 7 rfl) rfl (fun c => ?_) (fun c => ?_)
  · have h := h.1 c
    refine K_iconst (kdA dt_MX12_odds 14 rfl) (by decide) ?_
    exact K_ireturn (kdA dt_MX12_odds 15 rfl) rfl ⟨rfl, _, rfl, h⟩
  · have h := h.2 c
    refine K_iload_n 3 (kdA dt_MX12_odds 8 rfl) rfl rfl ?_
    refine K_iconst (kdA dt_MX12_odds 9 rfl) (by decide) ?_
    refine K_icmp_eq (tgt := 28) (kdA dt_MX12_odds 10 rfl) rfl (fun c => ?_) (fun c => ?_)
    · have h := h.1 c
      refine K_aload_n 0 (kdA dt_MX12_odds 16 rfl) rfl rfl ?_
      refine K_iload_n 1 (kdA dt_MX12_odds 17 rfl) rfl rfl ?_
      refine K_iload_n 2 (kdA dt_MX12_odds 18 rfl) rfl rfl ?_
      refine K_cVv (c := 12) (as := [(0, a1), (0, a2)]) (st := []) (kdA dt_MX12_odds 19 rfl) rfl cl_MX12_layWorlds lk12_459 rfl rfl (Nat.le_of_ble_eq_true rfl) c1 (Cv.mono h (fun s3 h => ?_))
      refine K_iconst (kdA dt_MX12_odds 20 rfl) (by decide) ?_
      refine K_istore (ls' := [(0, (2, a0)), (1, (0, a1)), (2, (0, a2)), (3, (0, a3)), (4, (0, 0))]) (kdA dt_MX12_odds 21 rfl) (by decide) rfl ?_
      refine K_iconst (kdA dt_MX12_odds 22 rfl) (by decide) ?_
      refine K_istore (ls' := [(0, (2, a0)), (1, (0, a1)), (2, (0, a2)), (3, (0, a3)), (4, (0, 0)), (5, (0, 0))]) (kdA dt_MX12_odds 23 rfl) (by decide) rfl ?_
      refine K_pick [0, 3, 4, 5] (ls' := [(0, (2, a0)), (3, (0, a3)), (4, (0, 0)), (5, (0, 0))]) rfl ?_
      exact h
    · have h := h.2 c
      refine K_iload_n 3 (kdA dt_MX12_odds 11 rfl) rfl rfl ?_
      refine K_cSi (as := [(0, a3)]) (st := []) (kdA dt_MX12_odds 12 rfl) cl_MX12_isCell lk12_161 rfl rfl (Nat.le_of_ble_eq_true rfl) (Ci.mono h (fun x3 s3 h => ?_))
      refine K_if_ne (tgt := 28) (kdA dt_MX12_odds 13 rfl) rfl (fun c => ?_) (fun c => ?_)
      · have h := h.1 c
        refine K_aload_n 0 (kdA dt_MX12_odds 16 rfl) rfl rfl ?_
        refine K_iload_n 1 (kdA dt_MX12_odds 17 rfl) rfl rfl ?_
        refine K_iload_n 2 (kdA dt_MX12_odds 18 rfl) rfl rfl ?_
        refine K_cVv (c := 12) (as := [(0, a1), (0, a2)]) (st := []) (kdA dt_MX12_odds 19 rfl) rfl cl_MX12_layWorlds lk12_459 rfl rfl (Nat.le_of_ble_eq_true rfl) c1 (Cv.mono h (fun s4 h => ?_))
        refine K_iconst (kdA dt_MX12_odds 20 rfl) (by decide) ?_
        refine K_istore (ls' := [(0, (2, a0)), (1, (0, a1)), (2, (0, a2)), (3, (0, a3)), (4, (0, 0))]) (kdA dt_MX12_odds 21 rfl) (by decide) rfl ?_
        refine K_iconst (kdA dt_MX12_odds 22 rfl) (by decide) ?_
        refine K_istore (ls' := [(0, (2, a0)), (1, (0, a1)), (2, (0, a2)), (3, (0, a3)), (4, (0, 0)), (5, (0, 0))]) (kdA dt_MX12_odds 23 rfl) (by decide) rfl ?_
        refine K_pick [0, 3, 4, 5] (ls' := [(0, (2, a0)), (3, (0, a3)), (4, (0, 0)), (5, (0, 0))]) rfl ?_
        exact h
      · have h := h.2 c
        refine K_iconst (kdA dt_MX12_odds 14 rfl) (by decide) ?_
        exact K_ireturn (kdA dt_MX12_odds 15 rfl) rfl ⟨rfl, _, rfl, h⟩
theorem SX12_odds_40 {d n : Nat} {Q : Int → kS → Prop} {a0 a3 a4 a5 : Int} {σ : kS} (h : isO 12 n a0 ∧ (((σ a0 14) ≤ a5 → Q a4 σ) ∧ (¬ (σ a0 14) ≤ a5 → (a3 = (-1) → isA 20 n (σ a0 45) ∧ (((0 : Int) ≤ a5 ∧ a5 < klen (σ a0 45)) ∧ ((-2147483648 ≤ (a4 + (σ (σ a0 45) a5)) ∧ (a4 + (σ (σ a0 45) a5)) ≤ 2147483647) ∧ ((-2147483648 ≤ (a5 + 1) ∧ (a5 + 1) ≤ 2147483647) ∧ (LX12_odds_40 d n Q a0 a3 (a4 + (σ (σ a0 45) a5)) (a5 + 1) σ))))) ∧ (¬ a3 = (-1) → Ci d MX12_isOnWay [(2, a0), (0, a5), (0, a3)] n σ (fun x2 s1 => (x2 = 0 → (-2147483648 ≤ (a4 + 0) ∧ (a4 + 0) ≤ 2147483647) ∧ ((-2147483648 ≤ (a5 + 1) ∧ (a5 + 1) ≤ 2147483647) ∧ (LX12_odds_40 d n Q a0 a3 (a4 + 0) (a5 + 1) s1))) ∧ (¬ x2 = 0 → isA 20 n (s1 a0 45) ∧ (((0 : Int) ≤ a5 ∧ a5 < klen (s1 a0 45)) ∧ ((-2147483648 ≤ (a4 + (s1 (s1 a0 45) a5)) ∧ (a4 + (s1 (s1 a0 45) a5)) ≤ 2147483647) ∧ ((-2147483648 ≤ (a5 + 1) ∧ (a5 + 1) ≤ 2147483647) ∧ (LX12_odds_40 d n Q a0 a3 (a4 + (s1 (s1 a0 45) a5)) (a5 + 1) s1)))))))))) : LX12_odds_40 d n Q a0 a3 a4 a5 σ := by
  unfold LX12_odds_40
  refine K_iload 3 (kdA dt_MX12_odds 24 rfl) rfl ?_
  refine K_aload_n 0 (kdA dt_MX12_odds 25 rfl) rfl rfl ?_
  obtain ⟨c1, h⟩ := h
  refine gf12_306 rfl (kdA dt_MX12_odds 26 rfl) c1 ?_
  refine K_icmp_ge (tgt := 86) (kdA dt_MX12_odds 27 rfl) rfl (fun c => ?_) (fun c => ?_)
  · have h := h.1 c
    refine K_iload 2 (kdA dt_MX12_odds 47 rfl) rfl ?_
    exact K_ireturn (kdA dt_MX12_odds 48 rfl) rfl ⟨rfl, _, rfl, h⟩
  · have h := h.2 c
    refine K_iload 2 (kdA dt_MX12_odds 28 rfl) rfl ?_
    refine K_iload_n 1 (kdA dt_MX12_odds 29 rfl) rfl rfl ?_
    refine K_iconst (kdA dt_MX12_odds 30 rfl) (by decide) ?_
    refine K_icmp_eq (tgt := 66) (kdA dt_MX12_odds 31 rfl) rfl (fun c => ?_) (fun c => ?_)
    · have h := h.1 c
      refine K_aload_n 0 (kdA dt_MX12_odds 37 rfl) rfl rfl ?_
      refine gf12_100 rfl (kdA dt_MX12_odds 38 rfl) c1 ?_
      refine K_iload 3 (kdA dt_MX12_odds 39 rfl) rfl ?_
      obtain ⟨c2, h⟩ := h
      obtain ⟨c3, h⟩ := h
      refine K_iaload (kdA dt_MX12_odds 40 rfl) c2 c3.1 c3.2 ?_
      refine K_goto (tgt := 77) (kdA dt_MX12_odds 41 rfl) rfl ?_
      obtain ⟨c4, h⟩ := h
      refine K_iadd (kdA dt_MX12_odds 43 rfl) c4 ?_
      refine K_istore (ls' := [(0, (2, a0)), (3, (0, a3)), (4, (0, (a4 + (σ (σ a0 45) a5)))), (5, (0, a5))]) (kdA dt_MX12_odds 44 rfl) (by decide) rfl ?_
      obtain ⟨c5, h⟩ := h
      refine K_iinc (ls' := [(0, (2, a0)), (3, (0, a3)), (4, (0, (a4 + (σ (σ a0 45) a5)))), (5, (0, (a5 + 1)))]) 3 (kdA dt_MX12_odds 45 rfl) rfl c5 (by decide) rfl ?_
      refine K_goto (tgt := 40) (kdA dt_MX12_odds 46 rfl) rfl ?_
      exact h
    · have h := h.2 c
      refine K_aload_n 0 (kdA dt_MX12_odds 32 rfl) rfl rfl ?_
      refine K_iload 3 (kdA dt_MX12_odds 33 rfl) rfl ?_
      refine K_iload_n 1 (kdA dt_MX12_odds 34 rfl) rfl rfl ?_
      refine K_cVi (c := 12) (as := [(0, a5), (0, a3)]) (st := [(0, a4)]) (kdA dt_MX12_odds 35 rfl) rfl cl_MX12_isOnWay lk12_462 rfl rfl (Nat.le_of_ble_eq_true rfl) c1 (Ci.mono h (fun x2 s1 h => ?_))
      refine K_if_eq (tgt := 76) (kdA dt_MX12_odds 36 rfl) rfl (fun c => ?_) (fun c => ?_)
      · have h := h.1 c
        refine K_iconst (kdA dt_MX12_odds 42 rfl) (by decide) ?_
        obtain ⟨c3, h⟩ := h
        refine K_iadd (kdA dt_MX12_odds 43 rfl) c3 ?_
        refine K_istore (ls' := [(0, (2, a0)), (3, (0, a3)), (4, (0, (a4 + 0))), (5, (0, a5))]) (kdA dt_MX12_odds 44 rfl) (by decide) rfl ?_
        obtain ⟨c4, h⟩ := h
        refine K_iinc (ls' := [(0, (2, a0)), (3, (0, a3)), (4, (0, (a4 + 0))), (5, (0, (a5 + 1)))]) 3 (kdA dt_MX12_odds 45 rfl) rfl c4 (by decide) rfl ?_
        refine K_goto (tgt := 40) (kdA dt_MX12_odds 46 rfl) rfl ?_
        exact h
      · have h := h.2 c
        refine K_aload_n 0 (kdA dt_MX12_odds 37 rfl) rfl rfl ?_
        refine gf12_100 rfl (kdA dt_MX12_odds 38 rfl) c1 ?_
        refine K_iload 3 (kdA dt_MX12_odds 39 rfl) rfl ?_
        obtain ⟨c3, h⟩ := h
        obtain ⟨c4, h⟩ := h
        refine K_iaload (kdA dt_MX12_odds 40 rfl) c3 c4.1 c4.2 ?_
        refine K_goto (tgt := 77) (kdA dt_MX12_odds 41 rfl) rfl ?_
        obtain ⟨c5, h⟩ := h
        refine K_iadd (kdA dt_MX12_odds 43 rfl) c5 ?_
        refine K_istore (ls' := [(0, (2, a0)), (3, (0, a3)), (4, (0, (a4 + (s1 (s1 a0 45) a5)))), (5, (0, a5))]) (kdA dt_MX12_odds 44 rfl) (by decide) rfl ?_
        obtain ⟨c6, h⟩ := h
        refine K_iinc (ls' := [(0, (2, a0)), (3, (0, a3)), (4, (0, (a4 + (s1 (s1 a0 45) a5)))), (5, (0, (a5 + 1)))]) 3 (kdA dt_MX12_odds 45 rfl) rfl c6 (by decide) rfl ?_
        refine K_goto (tgt := 40) (kdA dt_MX12_odds 46 rfl) rfl ?_
        exact h
theorem EX12_odds {d n : Nat} {Q : Int → kS → Prop} {a0 a1 a2 a3 : Int} {σ : kS} (h : (-2147483648 ≤ a1 ∧ a1 ≤ 2147483647) → (-2147483648 ≤ a2 ∧ a2 ≤ 2147483647) → (-2147483648 ≤ a3 ∧ a3 ≤ 2147483647) → kokw n σ → LX12_odds_0 d n Q a0 a1 a2 a3 σ) : Ci (d + 1) MX12_odds [(2, a0), (0, a1), (0, a2), (0, a3)] n σ Q := Tri_of (by decide +kernel) (Nat.le_of_ble_eq_true rfl) (fun hk hw => h (hk (0, a1) (List.mem_of_getElem? (i := 1) rfl)) (hk (0, a2) (List.mem_of_getElem? (i := 2) rfl)) (hk (0, a3) (List.mem_of_getElem? (i := 3) rfl)) hw)

def LX12_off_0 (d n : Nat) (Q : Int → kS → Prop) (a0 : Int) (a1 : Int) (a2 : Int) (a3 : Int) (a4 : Int) (a5 : Int) (σ : kS) : Prop := K (d + 1) MX12_off (kPi n Q) (0, 0) 0 [(0, (2, a0)), (1, (0, a1)), (2, (0, a2)), (3, (0, a3)), (4, (0, a4)), (5, (0, a5))] [] n σ
theorem SX12_off_0 {d n : Nat} {Q : Int → kS → Prop} {a0 a1 a2 a3 a4 a5 : Int} {σ : kS} (h : isO 12 n a0 ∧ (∀ s1, s1 = kst σ a0 0 0 → Ci d MX12_isStage [(2, a0), (0, a1), (0, a2)] n s1 (fun x2 s2 => (x2 = 0 → Q (-100000) s2) ∧ (¬ x2 = 0 → Ci d MX12_isManner [(2, a0), (0, a3), (0, a4)] n s2 (fun x3 s3 => (¬ x3 = 0 → Cv d MX12_layPains [(2, a0), (0, a3), (0, a4), (0, a5)] n s3 (fun s4 => (-2147483648 ≤ (60 * a1) ∧ (60 * a1) ≤ 2147483647) ∧ ((-2147483648 ≤ ((60 * a1) + a2) ∧ ((60 * a1) + a2) ≤ 2147483647) ∧ (isA 20 n (s4 a0 11) ∧ (((0 : Int) ≤ ((60 * a1) + a2) ∧ ((60 * a1) + a2) < klen (s4 a0 11)) ∧ (Ci d MX12_trueMiles [(2, a0), (0, a1), (0, a2)] n s4 (fun x9 s5 => (-2147483648 ≤ ((s4 (s4 a0 11) ((60 * a1) + a2)) - x9) ∧ ((s4 (s4 a0 11) ((60 * a1) + a2)) - x9) ≤ 2147483647) ∧ (Q ((s4 (s4 a0 11) ((60 * a1) + a2)) - x9) s5)))))))) ∧ (¬ (¬ x3 = 0) → Q (-100000) s3)))))) : LX12_off_0 d n Q a0 a1 a2 a3 a4 a5 σ := by
  unfold LX12_off_0
  refine K_aload_n 0 (kdA dt_MX12_off 0 rfl) rfl rfl ?_
  refine K_iconst (kdA dt_MX12_off 1 rfl) (by decide) ?_
  obtain ⟨c1, h⟩ := h
  refine pf12_149 rfl (kdA dt_MX12_off 2 rfl) c1 (fun s1 es1 => ?_)
  have h := h s1 es1
  refine K_aload_n 0 (kdA dt_MX12_off 3 rfl) rfl rfl ?_
  refine K_iload_n 1 (kdA dt_MX12_off 4 rfl) rfl rfl ?_
  refine K_iload_n 2 (kdA dt_MX12_off 5 rfl) rfl rfl ?_
  refine K_cVi (c := 12) (as := [(0, a1), (0, a2)]) (st := []) (kdA dt_MX12_off 6 rfl) rfl cl_MX12_isStage lk12_436 rfl rfl (Nat.le_of_ble_eq_true rfl) c1 (Ci.mono h (fun x2 s2 h => ?_))
  refine K_if_eq (tgt := 24) (kdA dt_MX12_off 7 rfl) rfl (fun c => ?_) (fun c => ?_)
  · have h := h.1 c
    refine K_ldcw (x := (-100000)) (kdA dt_MX12_off 13 rfl) (tb8 116 rfl rfl) (by decide +kernel) ?_
    exact K_ireturn (kdA dt_MX12_off 14 rfl) rfl ⟨rfl, _, rfl, h⟩
  · have h := h.2 c
    refine K_aload_n 0 (kdA dt_MX12_off 8 rfl) rfl rfl ?_
    refine K_iload_n 3 (kdA dt_MX12_off 9 rfl) rfl rfl ?_
    refine K_iload 4 (kdA dt_MX12_off 10 rfl) rfl ?_
    refine K_cVi (c := 12) (as := [(0, a3), (0, a4)]) (st := []) (kdA dt_MX12_off 11 rfl) rfl cl_MX12_isManner lk12_319 rfl rfl (Nat.le_of_ble_eq_true rfl) c1 (Ci.mono h (fun x3 s3 h => ?_))
    refine K_if_ne (tgt := 28) (kdA dt_MX12_off 12 rfl) rfl (fun c => ?_) (fun c => ?_)
    · have h := h.1 c
      refine K_aload_n 0 (kdA dt_MX12_off 15 rfl) rfl rfl ?_
      refine K_iload_n 3 (kdA dt_MX12_off 16 rfl) rfl rfl ?_
      refine K_iload 4 (kdA dt_MX12_off 17 rfl) rfl ?_
      refine K_iload 5 (kdA dt_MX12_off 18 rfl) rfl ?_
      refine K_cVv (c := 12) (as := [(0, a3), (0, a4), (0, a5)]) (st := []) (kdA dt_MX12_off 19 rfl) rfl cl_MX12_layPains lk12_333 rfl rfl (Nat.le_of_ble_eq_true rfl) c1 (Cv.mono h (fun s4 h => ?_))
      refine K_aload_n 0 (kdA dt_MX12_off 20 rfl) rfl rfl ?_
      refine gf12_38 rfl (kdA dt_MX12_off 21 rfl) c1 ?_
      refine K_bipush (kdA dt_MX12_off 22 rfl) (by decide +kernel) ?_
      refine K_iload_n 1 (kdA dt_MX12_off 23 rfl) rfl rfl ?_
      obtain ⟨c5, h⟩ := h
      refine K_imul (kdA dt_MX12_off 24 rfl) c5 ?_
      refine K_iload_n 2 (kdA dt_MX12_off 25 rfl) rfl rfl ?_
      obtain ⟨c6, h⟩ := h
      refine K_iadd (kdA dt_MX12_off 26 rfl) c6 ?_
      obtain ⟨c7, h⟩ := h
      obtain ⟨c8, h⟩ := h
      refine K_iaload (kdA dt_MX12_off 27 rfl) c7 c8.1 c8.2 ?_
      refine K_aload_n 0 (kdA dt_MX12_off 28 rfl) rfl rfl ?_
      refine K_iload_n 1 (kdA dt_MX12_off 29 rfl) rfl rfl ?_
      refine K_iload_n 2 (kdA dt_MX12_off 30 rfl) rfl rfl ?_
      refine K_cVi (c := 12) (as := [(0, a1), (0, a2)]) (st := [(0, (s4 (s4 a0 11) ((60 * a1) + a2)))]) (kdA dt_MX12_off 31 rfl) rfl cl_MX12_trueMiles lk12_440 rfl rfl (Nat.le_of_ble_eq_true rfl) c1 (Ci.mono h (fun x9 s5 h => ?_))
      obtain ⟨c10, h⟩ := h
      refine K_isub (kdA dt_MX12_off 32 rfl) c10 ?_
      exact K_ireturn (kdA dt_MX12_off 33 rfl) rfl ⟨rfl, _, rfl, h⟩
    · have h := h.2 c
      refine K_ldcw (x := (-100000)) (kdA dt_MX12_off 13 rfl) (tb8 116 rfl rfl) (by decide +kernel) ?_
      exact K_ireturn (kdA dt_MX12_off 14 rfl) rfl ⟨rfl, _, rfl, h⟩
theorem EX12_off {d n : Nat} {Q : Int → kS → Prop} {a0 a1 a2 a3 a4 a5 : Int} {σ : kS} (h : (-2147483648 ≤ a1 ∧ a1 ≤ 2147483647) → (-2147483648 ≤ a2 ∧ a2 ≤ 2147483647) → (-2147483648 ≤ a3 ∧ a3 ≤ 2147483647) → (-2147483648 ≤ a4 ∧ a4 ≤ 2147483647) → (-2147483648 ≤ a5 ∧ a5 ≤ 2147483647) → kokw n σ → LX12_off_0 d n Q a0 a1 a2 a3 a4 a5 σ) : Ci (d + 1) MX12_off [(2, a0), (0, a1), (0, a2), (0, a3), (0, a4), (0, a5)] n σ Q := Tri_of (by decide +kernel) (Nat.le_of_ble_eq_true rfl) (fun hk hw => h (hk (0, a1) (List.mem_of_getElem? (i := 1) rfl)) (hk (0, a2) (List.mem_of_getElem? (i := 2) rfl)) (hk (0, a3) (List.mem_of_getElem? (i := 3) rfl)) (hk (0, a4) (List.mem_of_getElem? (i := 4) rfl)) (hk (0, a5) (List.mem_of_getElem? (i := 5) rfl)) hw)

def LX12_older_0 (d n : Nat) (Q : Int → kS → Prop) (a0 : Int) (a1 : Int) (σ : kS) : Prop := K (d + 1) MX12_older (kPi n Q) (0, 0) 0 [(0, (2, a0)), (1, (0, a1))] [] n σ
def LX12_older_21 (d n : Nat) (Q : Int → kS → Prop) (a0 : Int) (a1 : Int) (a2 : Int) (a3 : Int) (σ : kS) : Prop := K (d + 1) MX12_older (kPi n Q) (0, 0) 21 [(0, (2, a0)), (1, (0, a1)), (2, (0, a2)), (3, (0, a3))] [] n σ
theorem SX12_older_0 {d n : Nat} {Q : Int → kS → Prop} {a0 a1 : Int} {σ : kS} (h : isO 12 n a0 ∧ (∀ s1, s1 = kst σ a0 0 0 → Ci d MX12_isLine [(2, a0), (0, a1)] n s1 (fun x2 s2 => (¬ x2 = 0 → LX12_older_21 d n Q a0 a1 0 0 s2) ∧ (¬ (¬ x2 = 0) → Q (-100000) s2)))) : LX12_older_0 d n Q a0 a1 σ := by
  unfold LX12_older_0
  refine K_aload_n 0 (kdA dt_MX12_older 0 rfl) rfl rfl ?_
  refine K_iconst (kdA dt_MX12_older 1 rfl) (by decide) ?_
  obtain ⟨c1, h⟩ := h
  refine pf12_149 rfl (kdA dt_MX12_older 2 rfl) c1 (fun s1 es1 => ?_)
  have h := h s1 es1
  refine K_aload_n 0 (kdA dt_MX12_older 3 rfl) rfl rfl ?_
  refine K_iload_n 1 (kdA dt_MX12_older 4 rfl) rfl rfl ?_
  refine K_cVi (c := 12) (as := [(0, a1)]) (st := []) (kdA dt_MX12_older 5 rfl) rfl cl_MX12_isLine lk12_383 rfl rfl (Nat.le_of_ble_eq_true rfl) c1 (Ci.mono h (fun x2 s2 h => ?_))
  refine K_if_ne (tgt := 17) (kdA dt_MX12_older 6 rfl) rfl (fun c => ?_) (fun c => ?_)
  · have h := h.1 c
    refine K_iconst (kdA dt_MX12_older 9 rfl) (by decide) ?_
    refine K_istore_n (ls' := [(0, (2, a0)), (1, (0, a1)), (2, (0, 0))]) (kdA dt_MX12_older 10 rfl) rfl (by decide) rfl ?_
    refine K_iconst (kdA dt_MX12_older 11 rfl) (by decide) ?_
    refine K_istore_n (ls' := [(0, (2, a0)), (1, (0, a1)), (2, (0, 0)), (3, (0, 0))]) (kdA dt_MX12_older 12 rfl) rfl (by decide) rfl ?_
    exact h
  · have h := h.2 c
    refine K_ldcw (x := (-100000)) (kdA dt_MX12_older 7 rfl) (tb8 116 rfl rfl) (by decide +kernel) ?_
    exact K_ireturn (kdA dt_MX12_older 8 rfl) rfl ⟨rfl, _, rfl, h⟩
theorem SX12_older_21 {d n : Nat} {Q : Int → kS → Prop} {a0 a1 a2 a3 : Int} {σ : kS} (h : isO 12 n a0 ∧ (((σ a0 54) ≤ a3 → Q a2 σ) ∧ (¬ (σ a0 54) ≤ a3 → Ci d MX12_meetsOf [(2, a0), (0, a1), (0, a3)] n σ (fun x2 s1 => Ci d MX12_has [(0, x2), (0, 0)] n s1 (fun x3 s2 => (x3 = 0 → Ci d MX12_meetsOf [(2, a0), (0, a1), (0, a3)] n s2 (fun x4 s3 => (¬ x4 = 2 → (-2147483648 ≤ (a2 + 0) ∧ (a2 + 0) ≤ 2147483647) ∧ ((-2147483648 ≤ (a3 + 1) ∧ (a3 + 1) ≤ 2147483647) ∧ (LX12_older_21 d n Q a0 a1 (a2 + 0) (a3 + 1) s3))) ∧ (¬ (¬ x4 = 2) → (-2147483648 ≤ (a2 + (-1)) ∧ (a2 + (-1)) ≤ 2147483647) ∧ ((-2147483648 ≤ (a3 + 1) ∧ (a3 + 1) ≤ 2147483647) ∧ (LX12_older_21 d n Q a0 a1 (a2 + (-1)) (a3 + 1) s3))))) ∧ (¬ x3 = 0 → (-2147483648 ≤ (a2 + 1) ∧ (a2 + 1) ≤ 2147483647) ∧ ((-2147483648 ≤ (a3 + 1) ∧ (a3 + 1) ≤ 2147483647) ∧ (LX12_older_21 d n Q a0 a1 (a2 + 1) (a3 + 1) s2)))))))) : LX12_older_21 d n Q a0 a1 a2 a3 σ := by
  unfold LX12_older_21
  refine K_iload_n 3 (kdA dt_MX12_older 13 rfl) rfl rfl ?_
  refine K_aload_n 0 (kdA dt_MX12_older 14 rfl) rfl rfl ?_
  obtain ⟨c1, h⟩ := h
  refine gf12_479 rfl (kdA dt_MX12_older 15 rfl) c1 ?_
  refine K_icmp_ge (tgt := 70) (kdA dt_MX12_older 16 rfl) rfl (fun c => ?_) (fun c => ?_)
  · have h := h.1 c
    refine K_iload_n 2 (kdA dt_MX12_older 40 rfl) rfl rfl ?_
    exact K_ireturn (kdA dt_MX12_older 41 rfl) rfl ⟨rfl, _, rfl, h⟩
  · have h := h.2 c
    refine K_iload_n 2 (kdA dt_MX12_older 17 rfl) rfl rfl ?_
    refine K_aload_n 0 (kdA dt_MX12_older 18 rfl) rfl rfl ?_
    refine K_iload_n 1 (kdA dt_MX12_older 19 rfl) rfl rfl ?_
    refine K_iload_n 3 (kdA dt_MX12_older 20 rfl) rfl rfl ?_
    refine K_cVi (c := 12) (as := [(0, a1), (0, a3)]) (st := [(0, a2)]) (kdA dt_MX12_older 21 rfl) rfl cl_MX12_meetsOf lk12_485 rfl rfl (Nat.le_of_ble_eq_true rfl) c1 (Ci.mono h (fun x2 s1 h => ?_))
    refine K_iconst (kdA dt_MX12_older 22 rfl) (by decide) ?_
    refine K_cSi (as := [(0, x2), (0, 0)]) (st := [(0, a2)]) (kdA dt_MX12_older 23 rfl) cl_MX12_has lk12_403 rfl rfl (Nat.le_of_ble_eq_true rfl) (Ci.mono h (fun x3 s2 h => ?_))
    refine K_if_eq (tgt := 47) (kdA dt_MX12_older 24 rfl) rfl (fun c => ?_) (fun c => ?_)
    · have h := h.1 c
      refine K_aload_n 0 (kdA dt_MX12_older 27 rfl) rfl rfl ?_
      refine K_iload_n 1 (kdA dt_MX12_older 28 rfl) rfl rfl ?_
      refine K_iload_n 3 (kdA dt_MX12_older 29 rfl) rfl rfl ?_
      refine K_cVi (c := 12) (as := [(0, a1), (0, a3)]) (st := [(0, a2)]) (kdA dt_MX12_older 30 rfl) rfl cl_MX12_meetsOf lk12_485 rfl rfl (Nat.le_of_ble_eq_true rfl) c1 (Ci.mono h (fun x4 s3 h => ?_))
      refine K_iconst (kdA dt_MX12_older 31 rfl) (by decide) ?_
      refine K_icmp_ne (tgt := 61) (kdA dt_MX12_older 32 rfl) rfl (fun c => ?_) (fun c => ?_)
      · have h := h.1 c
        refine K_iconst (kdA dt_MX12_older 35 rfl) (by decide) ?_
        obtain ⟨c5, h⟩ := h
        refine K_iadd (kdA dt_MX12_older 36 rfl) c5 ?_
        refine K_istore_n (ls' := [(0, (2, a0)), (1, (0, a1)), (2, (0, (a2 + 0))), (3, (0, a3))]) (kdA dt_MX12_older 37 rfl) rfl (by decide) rfl ?_
        obtain ⟨c6, h⟩ := h
        refine K_iinc (ls' := [(0, (2, a0)), (1, (0, a1)), (2, (0, (a2 + 0))), (3, (0, (a3 + 1)))]) 3 (kdA dt_MX12_older 38 rfl) rfl c6 (by decide) rfl ?_
        refine K_goto (tgt := 21) (kdA dt_MX12_older 39 rfl) rfl ?_
        exact h
      · have h := h.2 c
        refine K_iconst (kdA dt_MX12_older 33 rfl) (by decide) ?_
        refine K_goto (tgt := 62) (kdA dt_MX12_older 34 rfl) rfl ?_
        obtain ⟨c5, h⟩ := h
        refine K_iadd (kdA dt_MX12_older 36 rfl) c5 ?_
        refine K_istore_n (ls' := [(0, (2, a0)), (1, (0, a1)), (2, (0, (a2 + (-1)))), (3, (0, a3))]) (kdA dt_MX12_older 37 rfl) rfl (by decide) rfl ?_
        obtain ⟨c6, h⟩ := h
        refine K_iinc (ls' := [(0, (2, a0)), (1, (0, a1)), (2, (0, (a2 + (-1)))), (3, (0, (a3 + 1)))]) 3 (kdA dt_MX12_older 38 rfl) rfl c6 (by decide) rfl ?_
        refine K_goto (tgt := 21) (kdA dt_MX12_older 39 rfl) rfl ?_
        exact h
    · have h := h.2 c
      refine K_iconst (kdA dt_MX12_older 25 rfl) (by decide) ?_
      refine K_goto (tgt := 62) (kdA dt_MX12_older 26 rfl) rfl ?_
      obtain ⟨c4, h⟩ := h
      refine K_iadd (kdA dt_MX12_older 36 rfl) c4 ?_
      refine K_istore_n (ls' := [(0, (2, a0)), (1, (0, a1)), (2, (0, (a2 + 1))), (3, (0, a3))]) (kdA dt_MX12_older 37 rfl) rfl (by decide) rfl ?_
      obtain ⟨c5, h⟩ := h
      refine K_iinc (ls' := [(0, (2, a0)), (1, (0, a1)), (2, (0, (a2 + 1))), (3, (0, (a3 + 1)))]) 3 (kdA dt_MX12_older 38 rfl) rfl c5 (by decide) rfl ?_
      refine K_goto (tgt := 21) (kdA dt_MX12_older 39 rfl) rfl ?_
      exact h
theorem EX12_older {d n : Nat} {Q : Int → kS → Prop} {a0 a1 : Int} {σ : kS} (h : (-2147483648 ≤ a1 ∧ a1 ≤ 2147483647) → kokw n σ → LX12_older_0 d n Q a0 a1 σ) : Ci (d + 1) MX12_older [(2, a0), (0, a1)] n σ Q := Tri_of (by decide +kernel) (Nat.le_of_ble_eq_true rfl) (fun hk hw => h (hk (0, a1) (List.mem_of_getElem? (i := 1) rfl)) hw)

def LX12_onLine_0 (d n : Nat) (Q : Int → kS → Prop) (a0 : Int) (a1 : Int) (a2 : Int) (σ : kS) : Prop := K (d + 1) MX12_onLine (kPi n Q) (0, 0) 0 [(0, (0, a0)), (1, (0, a1)), (2, (0, a2))] [] n σ
theorem SX12_onLine_0 {d n : Nat} {Q : Int → kS → Prop} {a0 a1 a2 : Int} {σ : kS} (h : Ci d MX12_apart [(0, a0), (0, a1)] n σ (fun x1 s1 => (¬ x1 = 0 → ((0 : Int) ≤ a0) ∧ ((-2147483648 ≤ (2 * a2) ∧ (2 * a2) ≤ 2147483647) ∧ (((0 : Int) ≤ a1) ∧ ((-2147483648 ≤ ((a1 % 12) - (a0 % 12)) ∧ ((a1 % 12) - (a0 % 12)) ≤ 2147483647) ∧ ((-2147483648 ≤ ((2 * a2) * ((a1 % 12) - (a0 % 12))) ∧ ((2 * a2) * ((a1 % 12) - (a0 % 12))) ≤ 2147483647) ∧ ((-2147483648 ≤ (((2 * a2) * ((a1 % 12) - (a0 % 12))) + x1) ∧ (((2 * a2) * ((a1 % 12) - (a0 % 12))) + x1) ≤ 2147483647) ∧ ((-2147483648 ≤ (2 * x1) ∧ (2 * x1) ≤ 2147483647) ∧ (Ci d MJm_floorDiv [(0, (((2 * a2) * ((a1 % 12) - (a0 % 12))) + x1)), (0, (2 * x1))] n s1 (fun x9 s2 => (-2147483648 ≤ ((a0 % 12) + x9) ∧ ((a0 % 12) + x9) ≤ 2147483647) ∧ ((-2147483648 ≤ ((a1 / 12) - (a0 / 12)) ∧ ((a1 / 12) - (a0 / 12)) ≤ 2147483647) ∧ ((-2147483648 ≤ ((2 * a2) * ((a1 / 12) - (a0 / 12))) ∧ ((2 * a2) * ((a1 / 12) - (a0 / 12))) ≤ 2147483647) ∧ ((-2147483648 ≤ (((2 * a2) * ((a1 / 12) - (a0 / 12))) + x1) ∧ (((2 * a2) * ((a1 / 12) - (a0 / 12))) + x1) ≤ 2147483647) ∧ (Ci d MJm_floorDiv [(0, (((2 * a2) * ((a1 / 12) - (a0 / 12))) + x1)), (0, (2 * x1))] n s2 (fun x14 s3 => (-2147483648 ≤ ((a0 / 12) + x14) ∧ ((a0 / 12) + x14) ≤ 2147483647) ∧ ((-2147483648 ≤ (12 * ((a0 / 12) + x14)) ∧ (12 * ((a0 / 12) + x14)) ≤ 2147483647) ∧ ((-2147483648 ≤ ((12 * ((a0 / 12) + x14)) + ((a0 % 12) + x9)) ∧ ((12 * ((a0 / 12) + x14)) + ((a0 % 12) + x9)) ≤ 2147483647) ∧ (Q ((12 * ((a0 / 12) + x14)) + ((a0 % 12) + x9)) s3))))))))))))))))) ∧ (¬ (¬ x1 = 0) → Q a0 s1))) : LX12_onLine_0 d n Q a0 a1 a2 σ := by
  unfold LX12_onLine_0
  refine K_iload_n 0 (kdA dt_MX12_onLine 0 rfl) rfl rfl ?_
  refine K_iload_n 1 (kdA dt_MX12_onLine 1 rfl) rfl rfl ?_
  refine K_cSi (as := [(0, a0), (0, a1)]) (st := []) (kdA dt_MX12_onLine 2 rfl) cl_MX12_apart lk12_352 rfl rfl (Nat.le_of_ble_eq_true rfl) (Ci.mono h (fun x1 s1 h => ?_))
  refine K_istore_n (ls' := [(0, (0, a0)), (1, (0, a1)), (2, (0, a2)), (3, (0, x1))]) (kdA dt_MX12_onLine 3 rfl) rfl (by decide) rfl ?_
  refine K_iload_n 3 (kdA dt_MX12_onLine 4 rfl) rfl rfl ?_
  refine K_if_ne (tgt := 12) (kdA dt_MX12_onLine 5 rfl) rfl (fun c => ?_) (fun c => ?_)
  · have h := h.1 c
    refine K_iload_n 0 (kdA dt_MX12_onLine 8 rfl) rfl rfl ?_
    refine K_bipush (kdA dt_MX12_onLine 9 rfl) (by decide +kernel) ?_
    obtain ⟨c2, h⟩ := h
    refine K_irem (kdA dt_MX12_onLine 10 rfl) c2 (by decide) ?_
    refine K_iconst (kdA dt_MX12_onLine 11 rfl) (by decide) ?_
    refine K_iload_n 2 (kdA dt_MX12_onLine 12 rfl) rfl rfl ?_
    obtain ⟨c3, h⟩ := h
    refine K_imul (kdA dt_MX12_onLine 13 rfl) c3 ?_
    refine K_iload_n 1 (kdA dt_MX12_onLine 14 rfl) rfl rfl ?_
    refine K_bipush (kdA dt_MX12_onLine 15 rfl) (by decide +kernel) ?_
    obtain ⟨c4, h⟩ := h
    refine K_irem (kdA dt_MX12_onLine 16 rfl) c4 (by decide) ?_
    refine K_iload_n 0 (kdA dt_MX12_onLine 17 rfl) rfl rfl ?_
    refine K_bipush (kdA dt_MX12_onLine 18 rfl) (by decide +kernel) ?_
    refine K_irem (kdA dt_MX12_onLine 19 rfl) c2 (by decide) ?_
    obtain ⟨c5, h⟩ := h
    refine K_isub (kdA dt_MX12_onLine 20 rfl) c5 ?_
    obtain ⟨c6, h⟩ := h
    refine K_imul (kdA dt_MX12_onLine 21 rfl) c6 ?_
    refine K_iload_n 3 (kdA dt_MX12_onLine 22 rfl) rfl rfl ?_
    obtain ⟨c7, h⟩ := h
    refine K_iadd (kdA dt_MX12_onLine 23 rfl) c7 ?_
    refine K_iconst (kdA dt_MX12_onLine 24 rfl) (by decide) ?_
    refine K_iload_n 3 (kdA dt_MX12_onLine 25 rfl) rfl rfl ?_
    obtain ⟨c8, h⟩ := h
    refine K_imul (kdA dt_MX12_onLine 26 rfl) c8 ?_
    refine K_cSi (as := [(0, (((2 * a2) * ((a1 % 12) - (a0 % 12))) + x1)), (0, (2 * x1))]) (st := [(0, (a0 % 12))]) (kdA dt_MX12_onLine 27 rfl) cl_MJm_floorDiv lk12_355 rfl rfl (Nat.le_of_ble_eq_true rfl) (Ci.mono h (fun x9 s2 h => ?_))
    obtain ⟨c10, h⟩ := h
    refine K_iadd (kdA dt_MX12_onLine 28 rfl) c10 ?_
    refine K_istore (ls' := [(0, (0, a0)), (1, (0, a1)), (2, (0, a2)), (3, (0, x1)), (4, (0, ((a0 % 12) + x9)))]) (kdA dt_MX12_onLine 29 rfl) (by decide) rfl ?_
    refine K_iload_n 0 (kdA dt_MX12_onLine 30 rfl) rfl rfl ?_
    refine K_bipush (kdA dt_MX12_onLine 31 rfl) (by decide +kernel) ?_
    refine K_idiv (kdA dt_MX12_onLine 32 rfl) c2 (by decide) ?_
    refine K_iconst (kdA dt_MX12_onLine 33 rfl) (by decide) ?_
    refine K_iload_n 2 (kdA dt_MX12_onLine 34 rfl) rfl rfl ?_
    refine K_imul (kdA dt_MX12_onLine 35 rfl) c3 ?_
    refine K_iload_n 1 (kdA dt_MX12_onLine 36 rfl) rfl rfl ?_
    refine K_bipush (kdA dt_MX12_onLine 37 rfl) (by decide +kernel) ?_
    refine K_idiv (kdA dt_MX12_onLine 38 rfl) c4 (by decide) ?_
    refine K_iload_n 0 (kdA dt_MX12_onLine 39 rfl) rfl rfl ?_
    refine K_bipush (kdA dt_MX12_onLine 40 rfl) (by decide +kernel) ?_
    refine K_idiv (kdA dt_MX12_onLine 41 rfl) c2 (by decide) ?_
    obtain ⟨c11, h⟩ := h
    refine K_isub (kdA dt_MX12_onLine 42 rfl) c11 ?_
    obtain ⟨c12, h⟩ := h
    refine K_imul (kdA dt_MX12_onLine 43 rfl) c12 ?_
    refine K_iload_n 3 (kdA dt_MX12_onLine 44 rfl) rfl rfl ?_
    obtain ⟨c13, h⟩ := h
    refine K_iadd (kdA dt_MX12_onLine 45 rfl) c13 ?_
    refine K_iconst (kdA dt_MX12_onLine 46 rfl) (by decide) ?_
    refine K_iload_n 3 (kdA dt_MX12_onLine 47 rfl) rfl rfl ?_
    refine K_imul (kdA dt_MX12_onLine 48 rfl) c8 ?_
    refine K_cSi (as := [(0, (((2 * a2) * ((a1 / 12) - (a0 / 12))) + x1)), (0, (2 * x1))]) (st := [(0, (a0 / 12))]) (kdA dt_MX12_onLine 49 rfl) cl_MJm_floorDiv lk12_355 rfl rfl (Nat.le_of_ble_eq_true rfl) (Ci.mono h (fun x14 s3 h => ?_))
    obtain ⟨c15, h⟩ := h
    refine K_iadd (kdA dt_MX12_onLine 50 rfl) c15 ?_
    refine K_istore (ls' := [(0, (0, a0)), (1, (0, a1)), (2, (0, a2)), (3, (0, x1)), (4, (0, ((a0 % 12) + x9))), (5, (0, ((a0 / 12) + x14)))]) (kdA dt_MX12_onLine 51 rfl) (by decide) rfl ?_
    refine K_bipush (kdA dt_MX12_onLine 52 rfl) (by decide +kernel) ?_
    refine K_iload 5 (kdA dt_MX12_onLine 53 rfl) rfl ?_
    obtain ⟨c16, h⟩ := h
    refine K_imul (kdA dt_MX12_onLine 54 rfl) c16 ?_
    refine K_iload 4 (kdA dt_MX12_onLine 55 rfl) rfl ?_
    obtain ⟨c17, h⟩ := h
    refine K_iadd (kdA dt_MX12_onLine 56 rfl) c17 ?_
    exact K_ireturn (kdA dt_MX12_onLine 57 rfl) rfl ⟨rfl, _, rfl, h⟩
  · have h := h.2 c
    refine K_iload_n 0 (kdA dt_MX12_onLine 6 rfl) rfl rfl ?_
    exact K_ireturn (kdA dt_MX12_onLine 7 rfl) rfl ⟨rfl, _, rfl, h⟩
theorem EX12_onLine {d n : Nat} {Q : Int → kS → Prop} {a0 a1 a2 : Int} {σ : kS} (h : (-2147483648 ≤ a0 ∧ a0 ≤ 2147483647) → (-2147483648 ≤ a1 ∧ a1 ≤ 2147483647) → (-2147483648 ≤ a2 ∧ a2 ≤ 2147483647) → kokw n σ → LX12_onLine_0 d n Q a0 a1 a2 σ) : Ci (d + 1) MX12_onLine [(0, a0), (0, a1), (0, a2)] n σ Q := Tri_of (by decide +kernel) (Nat.le_of_ble_eq_true rfl) (fun hk hw => h (hk (0, a0) (List.mem_of_getElem? (i := 0) rfl)) (hk (0, a1) (List.mem_of_getElem? (i := 1) rfl)) (hk (0, a2) (List.mem_of_getElem? (i := 2) rfl)) hw)

def LX12_pain_0 (d n : Nat) (Q : Int → kS → Prop) (a0 : Int) (a1 : Int) (a2 : Int) (a3 : Int) (a4 : Int) (a5 : Int) (σ : kS) : Prop := K (d + 1) MX12_pain (kPi n Q) (0, 0) 0 [(0, (2, a0)), (1, (0, a1)), (2, (0, a2)), (3, (0, a3)), (4, (0, a4)), (5, (0, a5))] [] n σ
theorem SX12_pain_0 {d n : Nat} {Q : Int → kS → Prop} {a0 a1 a2 a3 a4 a5 : Int} {σ : kS} (h : isO 12 n a0 ∧ (Ci d MX12_isManner [(2, a0), (0, a1), (0, a2)] n σ (fun x2 s1 => (x2 = 0 → ∀ s2, s2 = kst s1 a0 0 1 → ((s2 a0 0) ≤ 0 → Ci d MX12_painOf [(2, a0), (0, a1), (0, a2), (0, a3), (0, a4), (0, a5)] n s2 (fun x3 s3 => Q x3 s3)) ∧ (¬ (s2 a0 0) ≤ 0 → Q 0 s2)) ∧ (¬ x2 = 0 → Ci d MX12_isCell [(0, a4)] n s1 (fun x3 s2 => (x3 = 0 → ∀ s3, s3 = kst s2 a0 0 1 → ((s3 a0 0) ≤ 0 → Ci d MX12_painOf [(2, a0), (0, a1), (0, a2), (0, a3), (0, a4), (0, a5)] n s3 (fun x4 s4 => Q x4 s4)) ∧ (¬ (s3 a0 0) ≤ 0 → Q 0 s3)) ∧ (¬ x3 = 0 → Ci d MX12_isIn [(0, a5), (0, 0), (0, 7)] n s2 (fun x4 s3 => (x4 = 0 → ∀ s4, s4 = kst s3 a0 0 1 → ((s4 a0 0) ≤ 0 → Ci d MX12_painOf [(2, a0), (0, a1), (0, a2), (0, a3), (0, a4), (0, a5)] n s4 (fun x5 s5 => Q x5 s5)) ∧ (¬ (s4 a0 0) ≤ 0 → Q 0 s4)) ∧ (¬ x4 = 0 → Ci d MX12_step [(0, a4), (0, a5)] n s3 (fun x5 s4 => (x5 = (-1) → ∀ s5, s5 = kst s4 a0 0 1 → ((s5 a0 0) ≤ 0 → Ci d MX12_painOf [(2, a0), (0, a1), (0, a2), (0, a3), (0, a4), (0, a5)] n s5 (fun x6 s6 => Q x6 s6)) ∧ (¬ (s5 a0 0) ≤ 0 → Q 0 s5)) ∧ (¬ x5 = (-1) → ∀ s5, s5 = kst s4 a0 0 0 → ((s5 a0 0) ≤ 0 → Ci d MX12_painOf [(2, a0), (0, a1), (0, a2), (0, a3), (0, a4), (0, a5)] n s5 (fun x6 s6 => Q x6 s6)) ∧ (¬ (s5 a0 0) ≤ 0 → Q 0 s5))))))))))) : LX12_pain_0 d n Q a0 a1 a2 a3 a4 a5 σ := by
  unfold LX12_pain_0
  refine K_aload_n 0 (kdA dt_MX12_pain 0 rfl) rfl rfl ?_
  refine K_aload_n 0 (kdA dt_MX12_pain 1 rfl) rfl rfl ?_
  refine K_iload_n 1 (kdA dt_MX12_pain 2 rfl) rfl rfl ?_
  refine K_iload_n 2 (kdA dt_MX12_pain 3 rfl) rfl rfl ?_
  obtain ⟨c1, h⟩ := h
  refine K_cVi (c := 12) (as := [(0, a1), (0, a2)]) (st := [(2, a0)]) (kdA dt_MX12_pain 4 rfl) rfl cl_MX12_isManner lk12_319 rfl rfl (Nat.le_of_ble_eq_true rfl) c1 (Ci.mono h (fun x2 s1 h => ?_))
  refine K_if_eq (tgt := 44) (kdA dt_MX12_pain 5 rfl) rfl (fun c => ?_) (fun c => ?_)
  · have h := h.1 c
    refine K_iconst (kdA dt_MX12_pain 21 rfl) (by decide) ?_
    refine pf12_149 rfl (kdA dt_MX12_pain 22 rfl) c1 (fun s2 es2 => ?_)
    have h := h s2 es2
    refine K_aload_n 0 (kdA dt_MX12_pain 23 rfl) rfl rfl ?_
    refine gf12_149 rfl (kdA dt_MX12_pain 24 rfl) c1 ?_
    refine K_if_le (tgt := 59) (kdA dt_MX12_pain 25 rfl) rfl (fun c => ?_) (fun c => ?_)
    · have h := h.1 c
      refine K_aload_n 0 (kdA dt_MX12_pain 28 rfl) rfl rfl ?_
      refine K_iload_n 1 (kdA dt_MX12_pain 29 rfl) rfl rfl ?_
      refine K_iload_n 2 (kdA dt_MX12_pain 30 rfl) rfl rfl ?_
      refine K_iload_n 3 (kdA dt_MX12_pain 31 rfl) rfl rfl ?_
      refine K_iload 4 (kdA dt_MX12_pain 32 rfl) rfl ?_
      refine K_iload 5 (kdA dt_MX12_pain 33 rfl) rfl ?_
      refine K_cVi (c := 12) (as := [(0, a1), (0, a2), (0, a3), (0, a4), (0, a5)]) (st := []) (kdA dt_MX12_pain 34 rfl) rfl cl_MX12_painOf lk12_322 rfl rfl (Nat.le_of_ble_eq_true rfl) c1 (Ci.mono h (fun x3 s3 h => ?_))
      exact K_ireturn (kdA dt_MX12_pain 35 rfl) rfl ⟨rfl, _, rfl, h⟩
    · have h := h.2 c
      refine K_iconst (kdA dt_MX12_pain 26 rfl) (by decide) ?_
      refine K_goto (tgt := 70) (kdA dt_MX12_pain 27 rfl) rfl ?_
      exact K_ireturn (kdA dt_MX12_pain 35 rfl) rfl ⟨rfl, _, rfl, h⟩
  · have h := h.2 c
    refine K_iload 4 (kdA dt_MX12_pain 6 rfl) rfl ?_
    refine K_cSi (as := [(0, a4)]) (st := [(2, a0)]) (kdA dt_MX12_pain 7 rfl) cl_MX12_isCell lk12_161 rfl rfl (Nat.le_of_ble_eq_true rfl) (Ci.mono h (fun x3 s2 h => ?_))
    refine K_if_eq (tgt := 44) (kdA dt_MX12_pain 8 rfl) rfl (fun c => ?_) (fun c => ?_)
    · have h := h.1 c
      refine K_iconst (kdA dt_MX12_pain 21 rfl) (by decide) ?_
      refine pf12_149 rfl (kdA dt_MX12_pain 22 rfl) c1 (fun s3 es3 => ?_)
      have h := h s3 es3
      refine K_aload_n 0 (kdA dt_MX12_pain 23 rfl) rfl rfl ?_
      refine gf12_149 rfl (kdA dt_MX12_pain 24 rfl) c1 ?_
      refine K_if_le (tgt := 59) (kdA dt_MX12_pain 25 rfl) rfl (fun c => ?_) (fun c => ?_)
      · have h := h.1 c
        refine K_aload_n 0 (kdA dt_MX12_pain 28 rfl) rfl rfl ?_
        refine K_iload_n 1 (kdA dt_MX12_pain 29 rfl) rfl rfl ?_
        refine K_iload_n 2 (kdA dt_MX12_pain 30 rfl) rfl rfl ?_
        refine K_iload_n 3 (kdA dt_MX12_pain 31 rfl) rfl rfl ?_
        refine K_iload 4 (kdA dt_MX12_pain 32 rfl) rfl ?_
        refine K_iload 5 (kdA dt_MX12_pain 33 rfl) rfl ?_
        refine K_cVi (c := 12) (as := [(0, a1), (0, a2), (0, a3), (0, a4), (0, a5)]) (st := []) (kdA dt_MX12_pain 34 rfl) rfl cl_MX12_painOf lk12_322 rfl rfl (Nat.le_of_ble_eq_true rfl) c1 (Ci.mono h (fun x4 s4 h => ?_))
        exact K_ireturn (kdA dt_MX12_pain 35 rfl) rfl ⟨rfl, _, rfl, h⟩
      · have h := h.2 c
        refine K_iconst (kdA dt_MX12_pain 26 rfl) (by decide) ?_
        refine K_goto (tgt := 70) (kdA dt_MX12_pain 27 rfl) rfl ?_
        exact K_ireturn (kdA dt_MX12_pain 35 rfl) rfl ⟨rfl, _, rfl, h⟩
    · have h := h.2 c
      refine K_iload 5 (kdA dt_MX12_pain 9 rfl) rfl ?_
      refine K_iconst (kdA dt_MX12_pain 10 rfl) (by decide) ?_
      refine K_bipush (kdA dt_MX12_pain 11 rfl) (by decide +kernel) ?_
      refine K_cSi (as := [(0, a5), (0, 0), (0, 7)]) (st := [(2, a0)]) (kdA dt_MX12_pain 12 rfl) cl_MX12_isIn lk12_153 rfl rfl (Nat.le_of_ble_eq_true rfl) (Ci.mono h (fun x4 s3 h => ?_))
      refine K_if_eq (tgt := 44) (kdA dt_MX12_pain 13 rfl) rfl (fun c => ?_) (fun c => ?_)
      · have h := h.1 c
        refine K_iconst (kdA dt_MX12_pain 21 rfl) (by decide) ?_
        refine pf12_149 rfl (kdA dt_MX12_pain 22 rfl) c1 (fun s4 es4 => ?_)
        have h := h s4 es4
        refine K_aload_n 0 (kdA dt_MX12_pain 23 rfl) rfl rfl ?_
        refine gf12_149 rfl (kdA dt_MX12_pain 24 rfl) c1 ?_
        refine K_if_le (tgt := 59) (kdA dt_MX12_pain 25 rfl) rfl (fun c => ?_) (fun c => ?_)
        · have h := h.1 c
          refine K_aload_n 0 (kdA dt_MX12_pain 28 rfl) rfl rfl ?_
          refine K_iload_n 1 (kdA dt_MX12_pain 29 rfl) rfl rfl ?_
          refine K_iload_n 2 (kdA dt_MX12_pain 30 rfl) rfl rfl ?_
          refine K_iload_n 3 (kdA dt_MX12_pain 31 rfl) rfl rfl ?_
          refine K_iload 4 (kdA dt_MX12_pain 32 rfl) rfl ?_
          refine K_iload 5 (kdA dt_MX12_pain 33 rfl) rfl ?_
          refine K_cVi (c := 12) (as := [(0, a1), (0, a2), (0, a3), (0, a4), (0, a5)]) (st := []) (kdA dt_MX12_pain 34 rfl) rfl cl_MX12_painOf lk12_322 rfl rfl (Nat.le_of_ble_eq_true rfl) c1 (Ci.mono h (fun x5 s5 h => ?_))
          exact K_ireturn (kdA dt_MX12_pain 35 rfl) rfl ⟨rfl, _, rfl, h⟩
        · have h := h.2 c
          refine K_iconst (kdA dt_MX12_pain 26 rfl) (by decide) ?_
          refine K_goto (tgt := 70) (kdA dt_MX12_pain 27 rfl) rfl ?_
          exact K_ireturn (kdA dt_MX12_pain 35 rfl) rfl ⟨rfl, _, rfl, h⟩
      · have h := h.2 c
        refine K_iload 4 (kdA dt_MX12_pain 14 rfl) rfl ?_
        refine K_iload 5 (kdA dt_MX12_pain 15 rfl) rfl ?_
        refine K_cSi (as := [(0, a4), (0, a5)]) (st := [(2, a0)]) (kdA dt_MX12_pain 16 rfl) cl_MX12_step lk12_314 rfl rfl (Nat.le_of_ble_eq_true rfl) (Ci.mono h (fun x5 s4 h => ?_))
        refine K_iconst (kdA dt_MX12_pain 17 rfl) (by decide) ?_
        refine K_icmp_eq (tgt := 44) (kdA dt_MX12_pain 18 rfl) rfl (fun c => ?_) (fun c => ?_)
        · have h := h.1 c
          refine K_iconst (kdA dt_MX12_pain 21 rfl) (by decide) ?_
          refine pf12_149 rfl (kdA dt_MX12_pain 22 rfl) c1 (fun s5 es5 => ?_)
          have h := h s5 es5
          refine K_aload_n 0 (kdA dt_MX12_pain 23 rfl) rfl rfl ?_
          refine gf12_149 rfl (kdA dt_MX12_pain 24 rfl) c1 ?_
          refine K_if_le (tgt := 59) (kdA dt_MX12_pain 25 rfl) rfl (fun c => ?_) (fun c => ?_)
          · have h := h.1 c
            refine K_aload_n 0 (kdA dt_MX12_pain 28 rfl) rfl rfl ?_
            refine K_iload_n 1 (kdA dt_MX12_pain 29 rfl) rfl rfl ?_
            refine K_iload_n 2 (kdA dt_MX12_pain 30 rfl) rfl rfl ?_
            refine K_iload_n 3 (kdA dt_MX12_pain 31 rfl) rfl rfl ?_
            refine K_iload 4 (kdA dt_MX12_pain 32 rfl) rfl ?_
            refine K_iload 5 (kdA dt_MX12_pain 33 rfl) rfl ?_
            refine K_cVi (c := 12) (as := [(0, a1), (0, a2), (0, a3), (0, a4), (0, a5)]) (st := []) (kdA dt_MX12_pain 34 rfl) rfl cl_MX12_painOf lk12_322 rfl rfl (Nat.le_of_ble_eq_true rfl) c1 (Ci.mono h (fun x6 s6 h => ?_))
            exact K_ireturn (kdA dt_MX12_pain 35 rfl) rfl ⟨rfl, _, rfl, h⟩
          · have h := h.2 c
            refine K_iconst (kdA dt_MX12_pain 26 rfl) (by decide) ?_
            refine K_goto (tgt := 70) (kdA dt_MX12_pain 27 rfl) rfl ?_
            exact K_ireturn (kdA dt_MX12_pain 35 rfl) rfl ⟨rfl, _, rfl, h⟩
        · have h := h.2 c
          refine K_iconst (kdA dt_MX12_pain 19 rfl) (by decide) ?_
          refine K_goto (tgt := 45) (kdA dt_MX12_pain 20 rfl) rfl ?_
          refine pf12_149 rfl (kdA dt_MX12_pain 22 rfl) c1 (fun s5 es5 => ?_)
          have h := h s5 es5
          refine K_aload_n 0 (kdA dt_MX12_pain 23 rfl) rfl rfl ?_
          refine gf12_149 rfl (kdA dt_MX12_pain 24 rfl) c1 ?_
          refine K_if_le (tgt := 59) (kdA dt_MX12_pain 25 rfl) rfl (fun c => ?_) (fun c => ?_)
          · have h := h.1 c
            refine K_aload_n 0 (kdA dt_MX12_pain 28 rfl) rfl rfl ?_
            refine K_iload_n 1 (kdA dt_MX12_pain 29 rfl) rfl rfl ?_
            refine K_iload_n 2 (kdA dt_MX12_pain 30 rfl) rfl rfl ?_
            refine K_iload_n 3 (kdA dt_MX12_pain 31 rfl) rfl rfl ?_
            refine K_iload 4 (kdA dt_MX12_pain 32 rfl) rfl ?_
            refine K_iload 5 (kdA dt_MX12_pain 33 rfl) rfl ?_
            refine K_cVi (c := 12) (as := [(0, a1), (0, a2), (0, a3), (0, a4), (0, a5)]) (st := []) (kdA dt_MX12_pain 34 rfl) rfl cl_MX12_painOf lk12_322 rfl rfl (Nat.le_of_ble_eq_true rfl) c1 (Ci.mono h (fun x6 s6 h => ?_))
            exact K_ireturn (kdA dt_MX12_pain 35 rfl) rfl ⟨rfl, _, rfl, h⟩
          · have h := h.2 c
            refine K_iconst (kdA dt_MX12_pain 26 rfl) (by decide) ?_
            refine K_goto (tgt := 70) (kdA dt_MX12_pain 27 rfl) rfl ?_
            exact K_ireturn (kdA dt_MX12_pain 35 rfl) rfl ⟨rfl, _, rfl, h⟩
theorem EX12_pain {d n : Nat} {Q : Int → kS → Prop} {a0 a1 a2 a3 a4 a5 : Int} {σ : kS} (h : (-2147483648 ≤ a1 ∧ a1 ≤ 2147483647) → (-2147483648 ≤ a2 ∧ a2 ≤ 2147483647) → (-2147483648 ≤ a3 ∧ a3 ≤ 2147483647) → (-2147483648 ≤ a4 ∧ a4 ≤ 2147483647) → (-2147483648 ≤ a5 ∧ a5 ≤ 2147483647) → kokw n σ → LX12_pain_0 d n Q a0 a1 a2 a3 a4 a5 σ) : Ci (d + 1) MX12_pain [(2, a0), (0, a1), (0, a2), (0, a3), (0, a4), (0, a5)] n σ Q := Tri_of (by decide +kernel) (Nat.le_of_ble_eq_true rfl) (fun hk hw => h (hk (0, a1) (List.mem_of_getElem? (i := 1) rfl)) (hk (0, a2) (List.mem_of_getElem? (i := 2) rfl)) (hk (0, a3) (List.mem_of_getElem? (i := 3) rfl)) (hk (0, a4) (List.mem_of_getElem? (i := 4) rfl)) (hk (0, a5) (List.mem_of_getElem? (i := 5) rfl)) hw)

def LX12_painOf_0 (d n : Nat) (Q : Int → kS → Prop) (a0 : Int) (a1 : Int) (a2 : Int) (a3 : Int) (a4 : Int) (a5 : Int) (σ : kS) : Prop := K (d + 1) MX12_painOf (kPi n Q) (0, 0) 0 [(0, (2, a0)), (1, (0, a1)), (2, (0, a2)), (3, (0, a3)), (4, (0, a4)), (5, (0, a5))] [] n σ
theorem SX12_painOf_0 {d n : Nat} {Q : Int → kS → Prop} {a0 a1 a2 a3 a4 a5 : Int} {σ : kS} (h : Ci d MX12_step [(0, a4), (0, a5)] n σ (fun x1 s1 => isO 12 n a0 ∧ (isA 20 n (s1 a0 1) ∧ (((0 : Int) ≤ x1 ∧ x1 < klen (s1 a0 1)) ∧ (((0 : Int) ≤ a4 ∧ a4 < klen (s1 a0 1)) ∧ ((-2147483648 ≤ ((s1 (s1 a0 1) x1) - (s1 (s1 a0 1) a4)) ∧ ((s1 (s1 a0 1) x1) - (s1 (s1 a0 1) a4)) ≤ 2147483647) ∧ (Ci d MJm_max [(0, 0), (0, ((s1 (s1 a0 1) x1) - (s1 (s1 a0 1) a4)))] n s1 (fun x7 s2 => isA 20 n (s1 a0 7) ∧ (((0 : Int) ≤ 117 ∧ 117 < klen (s1 a0 7)) ∧ (∀ s3, s3 = kst s2 (s1 a0 7) 117 x7 → (-2147483648 ≤ (-((s1 (s1 a0 1) x1) - (s1 (s1 a0 1) a4))) ∧ (-((s1 (s1 a0 1) x1) - (s1 (s1 a0 1) a4))) ≤ 2147483647) ∧ (Ci d MJm_max [(0, 0), (0, (-((s1 (s1 a0 1) x1) - (s1 (s1 a0 1) a4))))] n s3 (fun x11 s4 => isA 20 n (s3 a0 7) ∧ (((0 : Int) ≤ 100 ∧ 100 < klen (s3 a0 7)) ∧ (∀ s5, s5 = kst s4 (s3 a0 7) 100 x11 → (-2147483648 ≤ (120 + x1) ∧ (120 + x1) ≤ 2147483647) ∧ (isA 20 n (s5 a0 1) ∧ (((0 : Int) ≤ (120 + x1) ∧ (120 + x1) < klen (s5 a0 1)) ∧ (isA 20 n (s5 a0 7) ∧ (((0 : Int) ≤ 119 ∧ 119 < klen (s5 a0 7)) ∧ (∀ s6, s6 = kst s5 (s5 a0 7) 119 (s5 (s5 a0 1) (120 + x1)) → (-2147483648 ≤ (240 + x1) ∧ (240 + x1) ≤ 2147483647) ∧ (isA 20 n (s6 a0 1) ∧ (((0 : Int) ≤ (240 + x1) ∧ (240 + x1) < klen (s6 a0 1)) ∧ (isA 20 n (s6 a0 7) ∧ (((0 : Int) ≤ 102 ∧ 102 < klen (s6 a0 7)) ∧ (∀ s7, s7 = kst s6 (s6 a0 7) 102 (s6 (s6 a0 1) (240 + x1)) → (-2147483648 ≤ (360 + x1) ∧ (360 + x1) ≤ 2147483647) ∧ (isA 20 n (s7 a0 1) ∧ (((0 : Int) ≤ (360 + x1) ∧ (360 + x1) < klen (s7 a0 1)) ∧ (isA 20 n (s7 a0 7) ∧ (((0 : Int) ≤ 109 ∧ 109 < klen (s7 a0 7)) ∧ (∀ s8, s8 = kst s7 (s7 a0 7) 109 (s7 (s7 a0 1) (360 + x1)) → (a3 = 0 → isA 20 n (s8 a0 7) ∧ (((0 : Int) ≤ 115 ∧ 115 < klen (s8 a0 7)) ∧ (∀ s9, s9 = kst s8 (s8 a0 7) 115 0 → isA 20 n (s9 a0 7) ∧ (((0 : Int) ≤ 103 ∧ 103 < klen (s9 a0 7)) ∧ (∀ s10, s10 = kst s9 (s9 a0 7) 103 a2 → ((0 : Int) ≤ a5) ∧ (isA 20 n (s10 a0 7) ∧ (((0 : Int) ≤ 116 ∧ 116 < klen (s10 a0 7)) ∧ (∀ s11, s11 = kst s10 (s10 a0 7) 116 (a5 % 2) → (-2147483648 ≤ (120 * a1) ∧ (120 * a1) ≤ 2147483647) ∧ (isA 20 n (s11 a0 6) ∧ (((0 : Int) ≤ a1 ∧ a1 < klen (s11 a0 6)) ∧ (Cv d MX12_goThrough [(2, a0), (2, (s11 a0 5)), (0, (120 * a1)), (0, (s11 (s11 a0 6) a1))] n s11 (fun s12 => Ci d MJm_min [(0, 10000), (0, (s12 a0 22))] n s12 (fun x40 s13 => Ci d MJm_max [(0, 1), (0, x40)] n s13 (fun x41 s14 => Q x41 s14)))))))))))))) ∧ (¬ a3 = 0 → isA 20 n (s8 a0 7) ∧ (((0 : Int) ≤ 115 ∧ 115 < klen (s8 a0 7)) ∧ (∀ s9, s9 = kst s8 (s8 a0 7) 115 1 → isA 20 n (s9 a0 7) ∧ (((0 : Int) ≤ 103 ∧ 103 < klen (s9 a0 7)) ∧ (∀ s10, s10 = kst s9 (s9 a0 7) 103 a2 → ((0 : Int) ≤ a5) ∧ (isA 20 n (s10 a0 7) ∧ (((0 : Int) ≤ 116 ∧ 116 < klen (s10 a0 7)) ∧ (∀ s11, s11 = kst s10 (s10 a0 7) 116 (a5 % 2) → (-2147483648 ≤ (120 * a1) ∧ (120 * a1) ≤ 2147483647) ∧ (isA 20 n (s11 a0 6) ∧ (((0 : Int) ≤ a1 ∧ a1 < klen (s11 a0 6)) ∧ (Cv d MX12_goThrough [(2, a0), (2, (s11 a0 5)), (0, (120 * a1)), (0, (s11 (s11 a0 6) a1))] n s11 (fun s12 => Ci d MJm_min [(0, 10000), (0, (s12 a0 22))] n s12 (fun x40 s13 => Ci d MJm_max [(0, 1), (0, x40)] n s13 (fun x41 s14 => Q x41 s14))))))))))))))))))))))))))))))))))))))))))) : LX12_painOf_0 d n Q a0 a1 a2 a3 a4 a5 σ := by
  unfold LX12_painOf_0
  refine K_iload 4 (kdA dt_MX12_painOf 0 rfl) rfl ?_
  refine K_iload 5 (kdA dt_MX12_painOf 1 rfl) rfl ?_
  refine K_cSi (as := [(0, a4), (0, a5)]) (st := []) (kdA dt_MX12_painOf 2 rfl) cl_MX12_step lk12_314 rfl rfl (Nat.le_of_ble_eq_true rfl) (Ci.mono h (fun x1 s1 h => ?_))
  refine K_istore (ls' := [(0, (2, a0)), (1, (0, a1)), (2, (0, a2)), (3, (0, a3)), (4, (0, a4)), (5, (0, a5)), (6, (0, x1))]) (kdA dt_MX12_painOf 3 rfl) (by decide) rfl ?_
  refine K_aload_n 0 (kdA dt_MX12_painOf 4 rfl) rfl rfl ?_
  obtain ⟨c2, h⟩ := h
  refine gf12_9 rfl (kdA dt_MX12_painOf 5 rfl) c2 ?_
  refine K_iload 6 (kdA dt_MX12_painOf 6 rfl) rfl ?_
  obtain ⟨c3, h⟩ := h
  obtain ⟨c4, h⟩ := h
  refine K_iaload (kdA dt_MX12_painOf 7 rfl) c3 c4.1 c4.2 ?_
  refine K_aload_n 0 (kdA dt_MX12_painOf 8 rfl) rfl rfl ?_
  refine gf12_9 rfl (kdA dt_MX12_painOf 9 rfl) c2 ?_
  refine K_iload 4 (kdA dt_MX12_painOf 10 rfl) rfl ?_
  obtain ⟨c5, h⟩ := h
  refine K_iaload (kdA dt_MX12_painOf 11 rfl) c3 c5.1 c5.2 ?_
  obtain ⟨c6, h⟩ := h
  refine K_isub (kdA dt_MX12_painOf 12 rfl) c6 ?_
  refine K_istore (ls' := [(0, (2, a0)), (1, (0, a1)), (2, (0, a2)), (3, (0, a3)), (4, (0, a4)), (5, (0, a5)), (6, (0, x1)), (7, (0, ((s1 (s1 a0 1) x1) - (s1 (s1 a0 1) a4))))]) (kdA dt_MX12_painOf 13 rfl) (by decide) rfl ?_
  refine K_aload_n 0 (kdA dt_MX12_painOf 14 rfl) rfl rfl ?_
  refine gf12_26 rfl (kdA dt_MX12_painOf 15 rfl) c2 ?_
  refine K_bipush (kdA dt_MX12_painOf 16 rfl) (by decide +kernel) ?_
  refine K_iconst (kdA dt_MX12_painOf 17 rfl) (by decide) ?_
  refine K_iload 7 (kdA dt_MX12_painOf 18 rfl) rfl ?_
  refine K_cSi (as := [(0, 0), (0, ((s1 (s1 a0 1) x1) - (s1 (s1 a0 1) a4)))]) (st := [(0, 117), (2, (s1 a0 7))]) (kdA dt_MX12_painOf 19 rfl) cl_MJm_max lk12_180 rfl rfl (Nat.le_of_ble_eq_true rfl) (Ci.mono h (fun x7 s2 h => ?_))
  obtain ⟨c8, h⟩ := h
  obtain ⟨c9, h⟩ := h
  refine K_iastore' (kdA dt_MX12_painOf 20 rfl) c8 c9.1 c9.2 (fun s3 es3 => ?_)
  have h := h s3 es3
  refine K_aload_n 0 (kdA dt_MX12_painOf 21 rfl) rfl rfl ?_
  refine gf12_26 rfl (kdA dt_MX12_painOf 22 rfl) c2 ?_
  refine K_bipush (kdA dt_MX12_painOf 23 rfl) (by decide +kernel) ?_
  refine K_iconst (kdA dt_MX12_painOf 24 rfl) (by decide) ?_
  refine K_iload 7 (kdA dt_MX12_painOf 25 rfl) rfl ?_
  obtain ⟨c10, h⟩ := h
  refine K_ineg (kdA dt_MX12_painOf 26 rfl) c10 ?_
  refine K_cSi (as := [(0, 0), (0, (-((s1 (s1 a0 1) x1) - (s1 (s1 a0 1) a4))))]) (st := [(0, 100), (2, (s3 a0 7))]) (kdA dt_MX12_painOf 27 rfl) cl_MJm_max lk12_180 rfl rfl (Nat.le_of_ble_eq_true rfl) (Ci.mono h (fun x11 s4 h => ?_))
  obtain ⟨c12, h⟩ := h
  obtain ⟨c13, h⟩ := h
  refine K_iastore' (kdA dt_MX12_painOf 28 rfl) c12 c13.1 c13.2 (fun s5 es5 => ?_)
  have h := h s5 es5
  refine K_aload_n 0 (kdA dt_MX12_painOf 29 rfl) rfl rfl ?_
  refine gf12_26 rfl (kdA dt_MX12_painOf 30 rfl) c2 ?_
  refine K_bipush (kdA dt_MX12_painOf 31 rfl) (by decide +kernel) ?_
  refine K_aload_n 0 (kdA dt_MX12_painOf 32 rfl) rfl rfl ?_
  refine gf12_9 rfl (kdA dt_MX12_painOf 33 rfl) c2 ?_
  refine K_bipush (kdA dt_MX12_painOf 34 rfl) (by decide +kernel) ?_
  refine K_iload 6 (kdA dt_MX12_painOf 35 rfl) rfl ?_
  obtain ⟨c14, h⟩ := h
  refine K_iadd (kdA dt_MX12_painOf 36 rfl) c14 ?_
  obtain ⟨c15, h⟩ := h
  obtain ⟨c16, h⟩ := h
  refine K_iaload (kdA dt_MX12_painOf 37 rfl) c15 c16.1 c16.2 ?_
  obtain ⟨c17, h⟩ := h
  obtain ⟨c18, h⟩ := h
  refine K_iastore' (kdA dt_MX12_painOf 38 rfl) c17 c18.1 c18.2 (fun s6 es6 => ?_)
  have h := h s6 es6
  refine K_aload_n 0 (kdA dt_MX12_painOf 39 rfl) rfl rfl ?_
  refine gf12_26 rfl (kdA dt_MX12_painOf 40 rfl) c2 ?_
  refine K_bipush (kdA dt_MX12_painOf 41 rfl) (by decide +kernel) ?_
  refine K_aload_n 0 (kdA dt_MX12_painOf 42 rfl) rfl rfl ?_
  refine gf12_9 rfl (kdA dt_MX12_painOf 43 rfl) c2 ?_
  refine K_sipush (kdA dt_MX12_painOf 44 rfl) (by decide +kernel) ?_
  refine K_iload 6 (kdA dt_MX12_painOf 45 rfl) rfl ?_
  obtain ⟨c19, h⟩ := h
  refine K_iadd (kdA dt_MX12_painOf 46 rfl) c19 ?_
  obtain ⟨c20, h⟩ := h
  obtain ⟨c21, h⟩ := h
  refine K_iaload (kdA dt_MX12_painOf 47 rfl) c20 c21.1 c21.2 ?_
  obtain ⟨c22, h⟩ := h
  obtain ⟨c23, h⟩ := h
  refine K_iastore' (kdA dt_MX12_painOf 48 rfl) c22 c23.1 c23.2 (fun s7 es7 => ?_)
  have h := h s7 es7
  refine K_aload_n 0 (kdA dt_MX12_painOf 49 rfl) rfl rfl ?_
  refine gf12_26 rfl (kdA dt_MX12_painOf 50 rfl) c2 ?_
  refine K_bipush (kdA dt_MX12_painOf 51 rfl) (by decide +kernel) ?_
  refine K_aload_n 0 (kdA dt_MX12_painOf 52 rfl) rfl rfl ?_
  refine gf12_9 rfl (kdA dt_MX12_painOf 53 rfl) c2 ?_
  refine K_sipush (kdA dt_MX12_painOf 54 rfl) (by decide +kernel) ?_
  refine K_iload 6 (kdA dt_MX12_painOf 55 rfl) rfl ?_
  obtain ⟨c24, h⟩ := h
  refine K_iadd (kdA dt_MX12_painOf 56 rfl) c24 ?_
  obtain ⟨c25, h⟩ := h
  obtain ⟨c26, h⟩ := h
  refine K_iaload (kdA dt_MX12_painOf 57 rfl) c25 c26.1 c26.2 ?_
  obtain ⟨c27, h⟩ := h
  obtain ⟨c28, h⟩ := h
  refine K_iastore' (kdA dt_MX12_painOf 58 rfl) c27 c28.1 c28.2 (fun s8 es8 => ?_)
  have h := h s8 es8
  refine K_aload_n 0 (kdA dt_MX12_painOf 59 rfl) rfl rfl ?_
  refine gf12_26 rfl (kdA dt_MX12_painOf 60 rfl) c2 ?_
  refine K_bipush (kdA dt_MX12_painOf 61 rfl) (by decide +kernel) ?_
  refine K_iload_n 3 (kdA dt_MX12_painOf 62 rfl) rfl rfl ?_
  refine K_if_eq (tgt := 120) (kdA dt_MX12_painOf 63 rfl) rfl (fun c => ?_) (fun c => ?_)
  · have h := h.1 c
    refine K_iconst (kdA dt_MX12_painOf 66 rfl) (by decide) ?_
    obtain ⟨c29, h⟩ := h
    obtain ⟨c30, h⟩ := h
    refine K_iastore' (kdA dt_MX12_painOf 67 rfl) c29 c30.1 c30.2 (fun s9 es9 => ?_)
    have h := h s9 es9
    refine K_aload_n 0 (kdA dt_MX12_painOf 68 rfl) rfl rfl ?_
    refine gf12_26 rfl (kdA dt_MX12_painOf 69 rfl) c2 ?_
    refine K_bipush (kdA dt_MX12_painOf 70 rfl) (by decide +kernel) ?_
    refine K_iload_n 2 (kdA dt_MX12_painOf 71 rfl) rfl rfl ?_
    obtain ⟨c31, h⟩ := h
    obtain ⟨c32, h⟩ := h
    refine K_iastore' (kdA dt_MX12_painOf 72 rfl) c31 c32.1 c32.2 (fun s10 es10 => ?_)
    have h := h s10 es10
    refine K_aload_n 0 (kdA dt_MX12_painOf 73 rfl) rfl rfl ?_
    refine gf12_26 rfl (kdA dt_MX12_painOf 74 rfl) c2 ?_
    refine K_bipush (kdA dt_MX12_painOf 75 rfl) (by decide +kernel) ?_
    refine K_iload 5 (kdA dt_MX12_painOf 76 rfl) rfl ?_
    refine K_iconst (kdA dt_MX12_painOf 77 rfl) (by decide) ?_
    obtain ⟨c33, h⟩ := h
    refine K_irem (kdA dt_MX12_painOf 78 rfl) c33 (by decide) ?_
    obtain ⟨c34, h⟩ := h
    obtain ⟨c35, h⟩ := h
    refine K_iastore' (kdA dt_MX12_painOf 79 rfl) c34 c35.1 c35.2 (fun s11 es11 => ?_)
    have h := h s11 es11
    refine K_aload_n 0 (kdA dt_MX12_painOf 80 rfl) rfl rfl ?_
    refine K_aload_n 0 (kdA dt_MX12_painOf 81 rfl) rfl rfl ?_
    refine gf12_20 rfl (kdA dt_MX12_painOf 82 rfl) c2 ?_
    refine K_bipush (kdA dt_MX12_painOf 83 rfl) (by decide +kernel) ?_
    refine K_iload_n 1 (kdA dt_MX12_painOf 84 rfl) rfl rfl ?_
    obtain ⟨c36, h⟩ := h
    refine K_imul (kdA dt_MX12_painOf 85 rfl) c36 ?_
    refine K_aload_n 0 (kdA dt_MX12_painOf 86 rfl) rfl rfl ?_
    refine gf12_23 rfl (kdA dt_MX12_painOf 87 rfl) c2 ?_
    refine K_iload_n 1 (kdA dt_MX12_painOf 88 rfl) rfl rfl ?_
    obtain ⟨c37, h⟩ := h
    obtain ⟨c38, h⟩ := h
    refine K_iaload (kdA dt_MX12_painOf 89 rfl) c37 c38.1 c38.2 ?_
    refine K_cVv (c := 12) (as := [(2, (s11 a0 5)), (0, (120 * a1)), (0, (s11 (s11 a0 6) a1))]) (st := []) (kdA dt_MX12_painOf 90 rfl) rfl cl_MX12_goThrough lk12_300 rfl rfl (Nat.le_of_ble_eq_true rfl) c2 (Cv.mono h (fun s12 h => ?_))
    refine K_iconst (kdA dt_MX12_painOf 91 rfl) (by decide) ?_
    refine K_sipush (kdA dt_MX12_painOf 92 rfl) (by decide +kernel) ?_
    refine K_aload_n 0 (kdA dt_MX12_painOf 93 rfl) rfl rfl ?_
    refine gf12_284 rfl (kdA dt_MX12_painOf 94 rfl) c2 ?_
    refine K_cSi (as := [(0, 10000), (0, (s12 a0 22))]) (st := [(0, 1)]) (kdA dt_MX12_painOf 95 rfl) cl_MJm_min lk12_317 rfl rfl (Nat.le_of_ble_eq_true rfl) (Ci.mono h (fun x40 s13 h => ?_))
    refine K_cSi (as := [(0, 1), (0, x40)]) (st := []) (kdA dt_MX12_painOf 96 rfl) cl_MJm_max lk12_180 rfl rfl (Nat.le_of_ble_eq_true rfl) (Ci.mono h (fun x41 s14 h => ?_))
    exact K_ireturn (kdA dt_MX12_painOf 97 rfl) rfl ⟨rfl, _, rfl, h⟩
  · have h := h.2 c
    refine K_iconst (kdA dt_MX12_painOf 64 rfl) (by decide) ?_
    refine K_goto (tgt := 121) (kdA dt_MX12_painOf 65 rfl) rfl ?_
    obtain ⟨c29, h⟩ := h
    obtain ⟨c30, h⟩ := h
    refine K_iastore' (kdA dt_MX12_painOf 67 rfl) c29 c30.1 c30.2 (fun s9 es9 => ?_)
    have h := h s9 es9
    refine K_aload_n 0 (kdA dt_MX12_painOf 68 rfl) rfl rfl ?_
    refine gf12_26 rfl (kdA dt_MX12_painOf 69 rfl) c2 ?_
    refine K_bipush (kdA dt_MX12_painOf 70 rfl) (by decide +kernel) ?_
    refine K_iload_n 2 (kdA dt_MX12_painOf 71 rfl) rfl rfl ?_
    obtain ⟨c31, h⟩ := h
    obtain ⟨c32, h⟩ := h
    refine K_iastore' (kdA dt_MX12_painOf 72 rfl) c31 c32.1 c32.2 (fun s10 es10 => ?_)
    have h := h s10 es10
    refine K_aload_n 0 (kdA dt_MX12_painOf 73 rfl) rfl rfl ?_
    refine gf12_26 rfl (kdA dt_MX12_painOf 74 rfl) c2 ?_
    refine K_bipush (kdA dt_MX12_painOf 75 rfl) (by decide +kernel) ?_
    refine K_iload 5 (kdA dt_MX12_painOf 76 rfl) rfl ?_
    refine K_iconst (kdA dt_MX12_painOf 77 rfl) (by decide) ?_
    obtain ⟨c33, h⟩ := h
    refine K_irem (kdA dt_MX12_painOf 78 rfl) c33 (by decide) ?_
    obtain ⟨c34, h⟩ := h
    obtain ⟨c35, h⟩ := h
    refine K_iastore' (kdA dt_MX12_painOf 79 rfl) c34 c35.1 c35.2 (fun s11 es11 => ?_)
    have h := h s11 es11
    refine K_aload_n 0 (kdA dt_MX12_painOf 80 rfl) rfl rfl ?_
    refine K_aload_n 0 (kdA dt_MX12_painOf 81 rfl) rfl rfl ?_
    refine gf12_20 rfl (kdA dt_MX12_painOf 82 rfl) c2 ?_
    refine K_bipush (kdA dt_MX12_painOf 83 rfl) (by decide +kernel) ?_
    refine K_iload_n 1 (kdA dt_MX12_painOf 84 rfl) rfl rfl ?_
    obtain ⟨c36, h⟩ := h
    refine K_imul (kdA dt_MX12_painOf 85 rfl) c36 ?_
    refine K_aload_n 0 (kdA dt_MX12_painOf 86 rfl) rfl rfl ?_
    refine gf12_23 rfl (kdA dt_MX12_painOf 87 rfl) c2 ?_
    refine K_iload_n 1 (kdA dt_MX12_painOf 88 rfl) rfl rfl ?_
    obtain ⟨c37, h⟩ := h
    obtain ⟨c38, h⟩ := h
    refine K_iaload (kdA dt_MX12_painOf 89 rfl) c37 c38.1 c38.2 ?_
    refine K_cVv (c := 12) (as := [(2, (s11 a0 5)), (0, (120 * a1)), (0, (s11 (s11 a0 6) a1))]) (st := []) (kdA dt_MX12_painOf 90 rfl) rfl cl_MX12_goThrough lk12_300 rfl rfl (Nat.le_of_ble_eq_true rfl) c2 (Cv.mono h (fun s12 h => ?_))
    refine K_iconst (kdA dt_MX12_painOf 91 rfl) (by decide) ?_
    refine K_sipush (kdA dt_MX12_painOf 92 rfl) (by decide +kernel) ?_
    refine K_aload_n 0 (kdA dt_MX12_painOf 93 rfl) rfl rfl ?_
    refine gf12_284 rfl (kdA dt_MX12_painOf 94 rfl) c2 ?_
    refine K_cSi (as := [(0, 10000), (0, (s12 a0 22))]) (st := [(0, 1)]) (kdA dt_MX12_painOf 95 rfl) cl_MJm_min lk12_317 rfl rfl (Nat.le_of_ble_eq_true rfl) (Ci.mono h (fun x40 s13 h => ?_))
    refine K_cSi (as := [(0, 1), (0, x40)]) (st := []) (kdA dt_MX12_painOf 96 rfl) cl_MJm_max lk12_180 rfl rfl (Nat.le_of_ble_eq_true rfl) (Ci.mono h (fun x41 s14 h => ?_))
    exact K_ireturn (kdA dt_MX12_painOf 97 rfl) rfl ⟨rfl, _, rfl, h⟩
theorem EX12_painOf {d n : Nat} {Q : Int → kS → Prop} {a0 a1 a2 a3 a4 a5 : Int} {σ : kS} (h : (-2147483648 ≤ a1 ∧ a1 ≤ 2147483647) → (-2147483648 ≤ a2 ∧ a2 ≤ 2147483647) → (-2147483648 ≤ a3 ∧ a3 ≤ 2147483647) → (-2147483648 ≤ a4 ∧ a4 ≤ 2147483647) → (-2147483648 ≤ a5 ∧ a5 ≤ 2147483647) → kokw n σ → LX12_painOf_0 d n Q a0 a1 a2 a3 a4 a5 σ) : Ci (d + 1) MX12_painOf [(2, a0), (0, a1), (0, a2), (0, a3), (0, a4), (0, a5)] n σ Q := Tri_of (by decide +kernel) (Nat.le_of_ble_eq_true rfl) (fun hk hw => h (hk (0, a1) (List.mem_of_getElem? (i := 1) rfl)) (hk (0, a2) (List.mem_of_getElem? (i := 2) rfl)) (hk (0, a3) (List.mem_of_getElem? (i := 3) rfl)) (hk (0, a4) (List.mem_of_getElem? (i := 4) rfl)) (hk (0, a5) (List.mem_of_getElem? (i := 5) rfl)) hw)

def LX12_pains_0 (d n : Nat) (Q : Int → kS → Prop) (a0 : Int) (a1 : Int) (a2 : Int) (a3 : Int) (a4 : Int) (a5 : Int) (σ : kS) : Prop := K (d + 1) MX12_pains (kPi n Q) (0, 0) 0 [(0, (2, a0)), (1, (0, a1)), (2, (0, a2)), (3, (0, a3)), (4, (0, a4)), (5, (0, a5))] [] n σ
theorem SX12_pains_0 {d n : Nat} {Q : Int → kS → Prop} {a0 a1 a2 a3 a4 a5 : Int} {σ : kS} (h : isO 12 n a0 ∧ (∀ s1, s1 = kst σ a0 0 0 → Ci d MX12_isWay [(2, a0), (0, a1), (0, a2), (0, a4), (0, a5)] n s1 (fun x2 s2 => (¬ x2 = 0 → Cv d MX12_layWay [(2, a0), (0, a1), (0, a2), (0, a3), (0, a4), (0, a5)] n s2 (fun s3 => isA 20 n (s3 a0 27) ∧ (((0 : Int) ≤ a4 ∧ a4 < klen (s3 a0 27)) ∧ (((0 : Int) ≤ (s3 (s3 a0 27) a4)) ∧ (Q ((s3 (s3 a0 27) a4) / 1000) s3))))) ∧ (¬ (¬ x2 = 0) → Q (-1) s2)))) : LX12_pains_0 d n Q a0 a1 a2 a3 a4 a5 σ := by
  unfold LX12_pains_0
  refine K_aload_n 0 (kdA dt_MX12_pains 0 rfl) rfl rfl ?_
  refine K_iconst (kdA dt_MX12_pains 1 rfl) (by decide) ?_
  obtain ⟨c1, h⟩ := h
  refine pf12_149 rfl (kdA dt_MX12_pains 2 rfl) c1 (fun s1 es1 => ?_)
  have h := h s1 es1
  refine K_aload_n 0 (kdA dt_MX12_pains 3 rfl) rfl rfl ?_
  refine K_iload_n 1 (kdA dt_MX12_pains 4 rfl) rfl rfl ?_
  refine K_iload_n 2 (kdA dt_MX12_pains 5 rfl) rfl rfl ?_
  refine K_iload 4 (kdA dt_MX12_pains 6 rfl) rfl ?_
  refine K_iload 5 (kdA dt_MX12_pains 7 rfl) rfl ?_
  refine K_cVi (c := 12) (as := [(0, a1), (0, a2), (0, a4), (0, a5)]) (st := []) (kdA dt_MX12_pains 8 rfl) rfl cl_MX12_isWay lk12_341 rfl rfl (Nat.le_of_ble_eq_true rfl) c1 (Ci.mono h (fun x2 s2 h => ?_))
  refine K_if_ne (tgt := 20) (kdA dt_MX12_pains 9 rfl) rfl (fun c => ?_) (fun c => ?_)
  · have h := h.1 c
    refine K_aload_n 0 (kdA dt_MX12_pains 12 rfl) rfl rfl ?_
    refine K_iload_n 1 (kdA dt_MX12_pains 13 rfl) rfl rfl ?_
    refine K_iload_n 2 (kdA dt_MX12_pains 14 rfl) rfl rfl ?_
    refine K_iload_n 3 (kdA dt_MX12_pains 15 rfl) rfl rfl ?_
    refine K_iload 4 (kdA dt_MX12_pains 16 rfl) rfl ?_
    refine K_iload 5 (kdA dt_MX12_pains 17 rfl) rfl ?_
    refine K_cVv (c := 12) (as := [(0, a1), (0, a2), (0, a3), (0, a4), (0, a5)]) (st := []) (kdA dt_MX12_pains 18 rfl) rfl cl_MX12_layWay lk12_345 rfl rfl (Nat.le_of_ble_eq_true rfl) c1 (Cv.mono h (fun s3 h => ?_))
    refine K_aload_n 0 (kdA dt_MX12_pains 19 rfl) rfl rfl ?_
    refine gf12_58 rfl (kdA dt_MX12_pains 20 rfl) c1 ?_
    refine K_iload 4 (kdA dt_MX12_pains 21 rfl) rfl ?_
    obtain ⟨c4, h⟩ := h
    obtain ⟨c5, h⟩ := h
    refine K_iaload (kdA dt_MX12_pains 22 rfl) c4 c5.1 c5.2 ?_
    refine K_sipush (kdA dt_MX12_pains 23 rfl) (by decide +kernel) ?_
    obtain ⟨c6, h⟩ := h
    refine K_idiv (kdA dt_MX12_pains 24 rfl) c6 (by decide) ?_
    exact K_ireturn (kdA dt_MX12_pains 25 rfl) rfl ⟨rfl, _, rfl, h⟩
  · have h := h.2 c
    refine K_iconst (kdA dt_MX12_pains 10 rfl) (by decide) ?_
    exact K_ireturn (kdA dt_MX12_pains 11 rfl) rfl ⟨rfl, _, rfl, h⟩
theorem EX12_pains {d n : Nat} {Q : Int → kS → Prop} {a0 a1 a2 a3 a4 a5 : Int} {σ : kS} (h : (-2147483648 ≤ a1 ∧ a1 ≤ 2147483647) → (-2147483648 ≤ a2 ∧ a2 ≤ 2147483647) → (-2147483648 ≤ a3 ∧ a3 ≤ 2147483647) → (-2147483648 ≤ a4 ∧ a4 ≤ 2147483647) → (-2147483648 ≤ a5 ∧ a5 ≤ 2147483647) → kokw n σ → LX12_pains_0 d n Q a0 a1 a2 a3 a4 a5 σ) : Ci (d + 1) MX12_pains [(2, a0), (0, a1), (0, a2), (0, a3), (0, a4), (0, a5)] n σ Q := Tri_of (by decide +kernel) (Nat.le_of_ble_eq_true rfl) (fun hk hw => h (hk (0, a1) (List.mem_of_getElem? (i := 1) rfl)) (hk (0, a2) (List.mem_of_getElem? (i := 2) rfl)) (hk (0, a3) (List.mem_of_getElem? (i := 3) rfl)) (hk (0, a4) (List.mem_of_getElem? (i := 4) rfl)) (hk (0, a5) (List.mem_of_getElem? (i := 5) rfl)) hw)

def LX12_part_0 (d n : Nat) (Q : Int → kS → Prop) (a0 : Int) (a1 : Int) (a2 : Int) (σ : kS) : Prop := K (d + 1) MX12_part (kPi n Q) (0, 0) 0 [(0, (2, a0)), (1, (0, a1)), (2, (0, a2))] [] n σ
def LX12_part_18 (d n : Nat) (Q : Int → kS → Prop) (a0 : Int) (a3 : Int) (σ : kS) : Prop := K (d + 1) MX12_part (kPi n Q) (0, 0) 18 [(0, (2, a0)), (3, (0, a3))] [] n σ
theorem SX12_part_0 {d n : Nat} {Q : Int → kS → Prop} {a0 a1 a2 : Int} {σ : kS} (h : (a1 = 0 → isO 12 n a0 ∧ (Ci d MX12_unit [(2, a0)] n σ (fun x2 s1 => LX12_part_18 d n Q a0 x2 s1))) ∧ (¬ a1 = 0 → isO 12 n a0 ∧ (Ci d MX12_compares [(2, a0), (0, 1), (0, a2)] n σ (fun x2 s1 => LX12_part_18 d n Q a0 x2 s1)))) : LX12_part_0 d n Q a0 a1 a2 σ := by
  unfold LX12_part_0
  refine K_iload_n 1 (kdA dt_MX12_part 0 rfl) rfl rfl ?_
  refine K_if_eq (tgt := 13) (kdA dt_MX12_part 1 rfl) rfl (fun c => ?_) (fun c => ?_)
  · have h := h.1 c
    refine K_aload_n 0 (kdA dt_MX12_part 7 rfl) rfl rfl ?_
    obtain ⟨c1, h⟩ := h
    refine K_cVi (c := 12) (as := []) (st := []) (kdA dt_MX12_part 8 rfl) rfl cl_MX12_unit lk12_264 rfl rfl (Nat.le_of_ble_eq_true rfl) c1 (Ci.mono h (fun x2 s1 h => ?_))
    refine K_istore_n (ls' := [(0, (2, a0)), (1, (0, a1)), (2, (0, a2)), (3, (0, x2))]) (kdA dt_MX12_part 9 rfl) rfl (by decide) rfl ?_
    refine K_pick [0, 3] (ls' := [(0, (2, a0)), (3, (0, x2))]) rfl ?_
    exact h
  · have h := h.2 c
    refine K_aload_n 0 (kdA dt_MX12_part 2 rfl) rfl rfl ?_
    refine K_iconst (kdA dt_MX12_part 3 rfl) (by decide) ?_
    refine K_iload_n 2 (kdA dt_MX12_part 4 rfl) rfl rfl ?_
    obtain ⟨c1, h⟩ := h
    refine K_cVi (c := 12) (as := [(0, 1), (0, a2)]) (st := []) (kdA dt_MX12_part 5 rfl) rfl cl_MX12_compares lk12_271 rfl rfl (Nat.le_of_ble_eq_true rfl) c1 (Ci.mono h (fun x2 s1 h => ?_))
    refine K_goto (tgt := 17) (kdA dt_MX12_part 6 rfl) rfl ?_
    refine K_istore_n (ls' := [(0, (2, a0)), (1, (0, a1)), (2, (0, a2)), (3, (0, x2))]) (kdA dt_MX12_part 9 rfl) rfl (by decide) rfl ?_
    refine K_pick [0, 3] (ls' := [(0, (2, a0)), (3, (0, x2))]) rfl ?_
    exact h
theorem SX12_part_18 {d n : Nat} {Q : Int → kS → Prop} {a0 a3 : Int} {σ : kS} (h : isO 12 n a0 ∧ ((¬ (σ a0 19) = (-1) → (a3 = 0 ∨ a3 = 1) ∧ (Q a3 σ)) ∧ (¬ (¬ (σ a0 19) = (-1)) → Ci d MX12_look [(2, a0)] n σ (fun x2 s1 => (¬ x2 = 38 → (a3 = 0 ∨ a3 = 1) ∧ (Q a3 s1)) ∧ (¬ (¬ x2 = 38) → (-2147483648 ≤ ((s1 a0 18) + 1) ∧ ((s1 a0 18) + 1) ≤ 2147483647) ∧ (∀ s2, s2 = kst s1 a0 18 ((s1 a0 18) + 1) → Ci d MX12_unit [(2, a0)] n s2 (fun x4 s3 => (a3 = 0 → LX12_part_18 d n Q a0 0 s3) ∧ (¬ a3 = 0 → (x4 = 0 → LX12_part_18 d n Q a0 0 s3) ∧ (¬ x4 = 0 → LX12_part_18 d n Q a0 1 s3))))))))) : LX12_part_18 d n Q a0 a3 σ := by
  unfold LX12_part_18
  refine K_aload_n 0 (kdA dt_MX12_part 10 rfl) rfl rfl ?_
  obtain ⟨c1, h⟩ := h
  refine gf12_212 rfl (kdA dt_MX12_part 11 rfl) c1 ?_
  refine K_iconst (kdA dt_MX12_part 12 rfl) (by decide) ?_
  refine K_icmp_ne (tgt := 69) (kdA dt_MX12_part 13 rfl) rfl (fun c => ?_) (fun c => ?_)
  · have h := h.1 c
    refine K_iload_n 1 (kdA dt_MX12_part 36 rfl) rfl rfl ?_
    obtain ⟨c2, h⟩ := h
    exact K_zreturn (kdA dt_MX12_part 37 rfl) rfl c2 ⟨rfl, _, rfl, h⟩
  · have h := h.2 c
    refine K_aload_n 0 (kdA dt_MX12_part 14 rfl) rfl rfl ?_
    refine K_cVi (c := 12) (as := []) (st := []) (kdA dt_MX12_part 15 rfl) rfl cl_MX12_look lk12_222 rfl rfl (Nat.le_of_ble_eq_true rfl) c1 (Ci.mono h (fun x2 s1 h => ?_))
    refine K_bipush (kdA dt_MX12_part 16 rfl) (by decide +kernel) ?_
    refine K_icmp_ne (tgt := 69) (kdA dt_MX12_part 17 rfl) rfl (fun c => ?_) (fun c => ?_)
    · have h := h.1 c
      refine K_iload_n 1 (kdA dt_MX12_part 36 rfl) rfl rfl ?_
      obtain ⟨c3, h⟩ := h
      exact K_zreturn (kdA dt_MX12_part 37 rfl) rfl c3 ⟨rfl, _, rfl, h⟩
    · have h := h.2 c
      refine K_aload_n 0 (kdA dt_MX12_part 18 rfl) rfl rfl ?_
      refine K_dup (kdA dt_MX12_part 19 rfl) rfl ?_
      refine gf12_203 rfl (kdA dt_MX12_part 20 rfl) c1 ?_
      refine K_iconst (kdA dt_MX12_part 21 rfl) (by decide) ?_
      obtain ⟨c3, h⟩ := h
      refine K_iadd (kdA dt_MX12_part 22 rfl) c3 ?_
      refine pf12_203 rfl (kdA dt_MX12_part 23 rfl) c1 (fun s2 es2 => ?_)
      have h := h s2 es2
      refine K_aload_n 0 (kdA dt_MX12_part 24 rfl) rfl rfl ?_
      refine K_cVi (c := 12) (as := []) (st := []) (kdA dt_MX12_part 25 rfl) rfl cl_MX12_unit lk12_264 rfl rfl (Nat.le_of_ble_eq_true rfl) c1 (Ci.mono h (fun x4 s3 h => ?_))
      refine K_istore (ls' := [(0, (2, a0)), (3, (0, a3)), (4, (0, x4))]) (kdA dt_MX12_part 26 rfl) (by decide) rfl ?_
      refine K_iload_n 1 (kdA dt_MX12_part 27 rfl) rfl rfl ?_
      refine K_if_eq (tgt := 64) (kdA dt_MX12_part 28 rfl) rfl (fun c => ?_) (fun c => ?_)
      · have h := h.1 c
        refine K_iconst (kdA dt_MX12_part 33 rfl) (by decide) ?_
        refine K_istore_n (ls' := [(0, (2, a0)), (3, (0, 0)), (4, (0, x4))]) (kdA dt_MX12_part 34 rfl) rfl (by decide) rfl ?_
        refine K_goto (tgt := 18) (kdA dt_MX12_part 35 rfl) rfl ?_
        refine K_pick [0, 1] (ls' := [(0, (2, a0)), (3, (0, 0))]) rfl ?_
        exact h
      · have h := h.2 c
        refine K_iload 2 (kdA dt_MX12_part 29 rfl) rfl ?_
        refine K_if_eq (tgt := 64) (kdA dt_MX12_part 30 rfl) rfl (fun c => ?_) (fun c => ?_)
        · have h := h.1 c
          refine K_iconst (kdA dt_MX12_part 33 rfl) (by decide) ?_
          refine K_istore_n (ls' := [(0, (2, a0)), (3, (0, 0)), (4, (0, x4))]) (kdA dt_MX12_part 34 rfl) rfl (by decide) rfl ?_
          refine K_goto (tgt := 18) (kdA dt_MX12_part 35 rfl) rfl ?_
          refine K_pick [0, 1] (ls' := [(0, (2, a0)), (3, (0, 0))]) rfl ?_
          exact h
        · have h := h.2 c
          refine K_iconst (kdA dt_MX12_part 31 rfl) (by decide) ?_
          refine K_goto (tgt := 65) (kdA dt_MX12_part 32 rfl) rfl ?_
          refine K_istore_n (ls' := [(0, (2, a0)), (3, (0, 1)), (4, (0, x4))]) (kdA dt_MX12_part 34 rfl) rfl (by decide) rfl ?_
          refine K_goto (tgt := 18) (kdA dt_MX12_part 35 rfl) rfl ?_
          refine K_pick [0, 1] (ls' := [(0, (2, a0)), (3, (0, 1))]) rfl ?_
          exact h
theorem EX12_part {d n : Nat} {Q : Int → kS → Prop} {a0 a1 a2 : Int} {σ : kS} (h : (-2147483648 ≤ a1 ∧ a1 ≤ 2147483647) → (-2147483648 ≤ a2 ∧ a2 ≤ 2147483647) → kokw n σ → LX12_part_0 d n Q a0 a1 a2 σ) : Ci (d + 1) MX12_part [(2, a0), (0, a1), (0, a2)] n σ Q := Tri_of (by decide +kernel) (Nat.le_of_ble_eq_true rfl) (fun hk hw => h (hk (0, a1) (List.mem_of_getElem? (i := 1) rfl)) (hk (0, a2) (List.mem_of_getElem? (i := 2) rfl)) hw)

def LX12_partedBy_0 (d n : Nat) (Q : Int → kS → Prop) (a0 : Int) (a1 : Int) (σ : kS) : Prop := K (d + 1) MX12_partedBy (kPi n Q) (0, 0) 0 [(0, (2, a0)), (1, (0, a1))] [] n σ
def LX12_partedBy_2 (d n : Nat) (Q : Int → kS → Prop) (a0 : Int) (a1 : Int) (a2 : Int) (σ : kS) : Prop := K (d + 1) MX12_partedBy (kPi n Q) (0, 0) 2 [(0, (2, a0)), (1, (0, a1)), (2, (0, a2))] [] n σ
def LX12_partedBy_23 (d n : Nat) (Q : Int → kS → Prop) (a0 : Int) (a1 : Int) (a2 : Int) (σ : kS) : Prop := K (d + 1) MX12_partedBy (kPi n Q) (0, 0) 23 [(0, (2, a0)), (1, (0, a1)), (2, (0, a2))] [] n σ
def LX12_partedBy_63 (d n : Nat) (Q : Int → kS → Prop) (a0 : Int) (a2 : Int) (a3 : Int) (σ : kS) : Prop := K (d + 1) MX12_partedBy (kPi n Q) (0, 0) 63 [(0, (2, a0)), (2, (0, a2)), (3, (0, a3))] [] n σ
theorem SX12_partedBy_0 {d n : Nat} {Q : Int → kS → Prop} {a0 a1 : Int} {σ : kS} (h : LX12_partedBy_2 d n Q a0 a1 0 σ) : LX12_partedBy_0 d n Q a0 a1 σ := by
  unfold LX12_partedBy_0
  refine K_iconst (kdA dt_MX12_partedBy 0 rfl) (by decide) ?_
  refine K_istore_n (ls' := [(0, (2, a0)), (1, (0, a1)), (2, (0, 0))]) (kdA dt_MX12_partedBy 1 rfl) rfl (by decide) rfl ?_
  exact h
theorem SX12_partedBy_2 {d n : Nat} {Q : Int → kS → Prop} {a0 a1 a2 : Int} {σ : kS} (h : (64 ≤ a2 → LX12_partedBy_23 d n Q a0 a1 0 σ) ∧ (¬ 64 ≤ a2 → isO 12 n a0 ∧ (isA 20 n (σ a0 46) ∧ (((0 : Int) ≤ a2 ∧ a2 < klen (σ a0 46)) ∧ (∀ s1, s1 = kst σ (σ a0 46) a2 0 → (-2147483648 ≤ (a2 + 1) ∧ (a2 + 1) ≤ 2147483647) ∧ (LX12_partedBy_2 d n Q a0 a1 (a2 + 1) s1)))))) : LX12_partedBy_2 d n Q a0 a1 a2 σ := by
  unfold LX12_partedBy_2
  refine K_iload_n 2 (kdA dt_MX12_partedBy 2 rfl) rfl rfl ?_
  refine K_bipush (kdA dt_MX12_partedBy 3 rfl) (by decide +kernel) ?_
  refine K_icmp_ge (tgt := 21) (kdA dt_MX12_partedBy 4 rfl) rfl (fun c => ?_) (fun c => ?_)
  · have h := h.1 c
    refine K_iconst (kdA dt_MX12_partedBy 12 rfl) (by decide) ?_
    refine K_istore_n (ls' := [(0, (2, a0)), (1, (0, a1)), (2, (0, 0))]) (kdA dt_MX12_partedBy 13 rfl) rfl (by decide) rfl ?_
    exact h
  · have h := h.2 c
    refine K_aload_n 0 (kdA dt_MX12_partedBy 5 rfl) rfl rfl ?_
    obtain ⟨c1, h⟩ := h
    refine gf12_103 rfl (kdA dt_MX12_partedBy 6 rfl) c1 ?_
    refine K_iload_n 2 (kdA dt_MX12_partedBy 7 rfl) rfl rfl ?_
    refine K_iconst (kdA dt_MX12_partedBy 8 rfl) (by decide) ?_
    obtain ⟨c2, h⟩ := h
    obtain ⟨c3, h⟩ := h
    refine K_iastore' (kdA dt_MX12_partedBy 9 rfl) c2 c3.1 c3.2 (fun s1 es1 => ?_)
    have h := h s1 es1
    obtain ⟨c4, h⟩ := h
    refine K_iinc (ls' := [(0, (2, a0)), (1, (0, a1)), (2, (0, (a2 + 1)))]) 2 (kdA dt_MX12_partedBy 10 rfl) rfl c4 (by decide) rfl ?_
    refine K_goto (tgt := 2) (kdA dt_MX12_partedBy 11 rfl) rfl ?_
    exact h
theorem SX12_partedBy_23 {d n : Nat} {Q : Int → kS → Prop} {a0 a1 a2 : Int} {σ : kS} (h : isO 12 n a0 ∧ (((σ a0 14) ≤ a2 → LX12_partedBy_63 d n Q a0 0 0 σ) ∧ (¬ (σ a0 14) ≤ a2 → isA 20 n (σ a0 48) ∧ (((0 : Int) ≤ a2 ∧ a2 < klen (σ a0 48)) ∧ (isA 20 n (σ a0 46) ∧ (((0 : Int) ≤ (kand (σ (σ a0 48) a2) a1) ∧ (kand (σ (σ a0 48) a2) a1) < klen (σ a0 46)) ∧ (isA 20 n (σ a0 45) ∧ (((0 : Int) ≤ a2 ∧ a2 < klen (σ a0 45)) ∧ ((-2147483648 ≤ ((σ (σ a0 46) (kand (σ (σ a0 48) a2) a1)) + (σ (σ a0 45) a2)) ∧ ((σ (σ a0 46) (kand (σ (σ a0 48) a2) a1)) + (σ (σ a0 45) a2)) ≤ 2147483647) ∧ (∀ s1, s1 = kst σ (σ a0 46) (kand (σ (σ a0 48) a2) a1) ((σ (σ a0 46) (kand (σ (σ a0 48) a2) a1)) + (σ (σ a0 45) a2)) → (-2147483648 ≤ (a2 + 1) ∧ (a2 + 1) ≤ 2147483647) ∧ (LX12_partedBy_23 d n Q a0 a1 (a2 + 1) s1))))))))))) : LX12_partedBy_23 d n Q a0 a1 a2 σ := by
  unfold LX12_partedBy_23
  refine K_iload_n 2 (kdA dt_MX12_partedBy 14 rfl) rfl rfl ?_
  refine K_aload_n 0 (kdA dt_MX12_partedBy 15 rfl) rfl rfl ?_
  obtain ⟨c1, h⟩ := h
  refine gf12_306 rfl (kdA dt_MX12_partedBy 16 rfl) c1 ?_
  refine K_icmp_ge (tgt := 59) (kdA dt_MX12_partedBy 17 rfl) rfl (fun c => ?_) (fun c => ?_)
  · have h := h.1 c
    refine K_iconst (kdA dt_MX12_partedBy 36 rfl) (by decide) ?_
    refine K_istore_n (ls' := [(0, (2, a0)), (1, (0, a1)), (2, (0, 0))]) (kdA dt_MX12_partedBy 37 rfl) rfl (by decide) rfl ?_
    refine K_iconst (kdA dt_MX12_partedBy 38 rfl) (by decide) ?_
    refine K_istore_n (ls' := [(0, (2, a0)), (1, (0, a1)), (2, (0, 0)), (3, (0, 0))]) (kdA dt_MX12_partedBy 39 rfl) rfl (by decide) rfl ?_
    refine K_pick [0, 2, 3] (ls' := [(0, (2, a0)), (2, (0, 0)), (3, (0, 0))]) rfl ?_
    exact h
  · have h := h.2 c
    refine K_aload_n 0 (kdA dt_MX12_partedBy 18 rfl) rfl rfl ?_
    refine gf12_103 rfl (kdA dt_MX12_partedBy 19 rfl) c1 ?_
    refine K_aload_n 0 (kdA dt_MX12_partedBy 20 rfl) rfl rfl ?_
    refine gf12_109 rfl (kdA dt_MX12_partedBy 21 rfl) c1 ?_
    refine K_iload_n 2 (kdA dt_MX12_partedBy 22 rfl) rfl rfl ?_
    obtain ⟨c2, h⟩ := h
    obtain ⟨c3, h⟩ := h
    refine K_iaload (kdA dt_MX12_partedBy 23 rfl) c2 c3.1 c3.2 ?_
    refine K_iload_n 1 (kdA dt_MX12_partedBy 24 rfl) rfl rfl ?_
    refine K_iand (kdA dt_MX12_partedBy 25 rfl) ?_
    refine K_dup2 (kdA dt_MX12_partedBy 26 rfl) rfl rfl ?_
    obtain ⟨c4, h⟩ := h
    obtain ⟨c5, h⟩ := h
    refine K_iaload (kdA dt_MX12_partedBy 27 rfl) c4 c5.1 c5.2 ?_
    refine K_aload_n 0 (kdA dt_MX12_partedBy 28 rfl) rfl rfl ?_
    refine gf12_100 rfl (kdA dt_MX12_partedBy 29 rfl) c1 ?_
    refine K_iload_n 2 (kdA dt_MX12_partedBy 30 rfl) rfl rfl ?_
    obtain ⟨c6, h⟩ := h
    obtain ⟨c7, h⟩ := h
    refine K_iaload (kdA dt_MX12_partedBy 31 rfl) c6 c7.1 c7.2 ?_
    obtain ⟨c8, h⟩ := h
    refine K_iadd (kdA dt_MX12_partedBy 32 rfl) c8 ?_
    refine K_iastore' (kdA dt_MX12_partedBy 33 rfl) c4 c5.1 c5.2 (fun s1 es1 => ?_)
    have h := h s1 es1
    obtain ⟨c9, h⟩ := h
    refine K_iinc (ls' := [(0, (2, a0)), (1, (0, a1)), (2, (0, (a2 + 1)))]) 2 (kdA dt_MX12_partedBy 34 rfl) rfl c9 (by decide) rfl ?_
    refine K_goto (tgt := 23) (kdA dt_MX12_partedBy 35 rfl) rfl ?_
    exact h
theorem SX12_partedBy_63 {d n : Nat} {Q : Int → kS → Prop} {a0 a2 a3 : Int} {σ : kS} (h : (64 ≤ a3 → Q a2 σ) ∧ (¬ 64 ≤ a3 → isO 12 n a0 ∧ (isA 20 n (σ a0 46) ∧ (((0 : Int) ≤ a3 ∧ a3 < klen (σ a0 46)) ∧ ((-2147483648 ≤ ((σ (σ a0 46) a3) * (σ (σ a0 46) a3)) ∧ ((σ (σ a0 46) a3) * (σ (σ a0 46) a3)) ≤ 2147483647) ∧ ((-2147483648 ≤ (a2 + ((σ (σ a0 46) a3) * (σ (σ a0 46) a3))) ∧ (a2 + ((σ (σ a0 46) a3) * (σ (σ a0 46) a3))) ≤ 2147483647) ∧ ((-2147483648 ≤ (a3 + 1) ∧ (a3 + 1) ≤ 2147483647) ∧ (LX12_partedBy_63 d n Q a0 (a2 + ((σ (σ a0 46) a3) * (σ (σ a0 46) a3))) (a3 + 1) σ)))))))) : LX12_partedBy_63 d n Q a0 a2 a3 σ := by
  unfold LX12_partedBy_63
  refine K_iload_n 2 (kdA dt_MX12_partedBy 40 rfl) rfl rfl ?_
  refine K_bipush (kdA dt_MX12_partedBy 41 rfl) (by decide +kernel) ?_
  refine K_icmp_ge (tgt := 91) (kdA dt_MX12_partedBy 42 rfl) rfl (fun c => ?_) (fun c => ?_)
  · have h := h.1 c
    refine K_iload_n 1 (kdA dt_MX12_partedBy 57 rfl) rfl rfl ?_
    exact K_ireturn (kdA dt_MX12_partedBy 58 rfl) rfl ⟨rfl, _, rfl, h⟩
  · have h := h.2 c
    refine K_iload_n 1 (kdA dt_MX12_partedBy 43 rfl) rfl rfl ?_
    refine K_aload_n 0 (kdA dt_MX12_partedBy 44 rfl) rfl rfl ?_
    obtain ⟨c1, h⟩ := h
    refine gf12_103 rfl (kdA dt_MX12_partedBy 45 rfl) c1 ?_
    refine K_iload_n 2 (kdA dt_MX12_partedBy 46 rfl) rfl rfl ?_
    obtain ⟨c2, h⟩ := h
    obtain ⟨c3, h⟩ := h
    refine K_iaload (kdA dt_MX12_partedBy 47 rfl) c2 c3.1 c3.2 ?_
    refine K_aload_n 0 (kdA dt_MX12_partedBy 48 rfl) rfl rfl ?_
    refine gf12_103 rfl (kdA dt_MX12_partedBy 49 rfl) c1 ?_
    refine K_iload_n 2 (kdA dt_MX12_partedBy 50 rfl) rfl rfl ?_
    refine K_iaload (kdA dt_MX12_partedBy 51 rfl) c2 c3.1 c3.2 ?_
    obtain ⟨c4, h⟩ := h
    refine K_imul (kdA dt_MX12_partedBy 52 rfl) c4 ?_
    obtain ⟨c5, h⟩ := h
    refine K_iadd (kdA dt_MX12_partedBy 53 rfl) c5 ?_
    refine K_istore_n (ls' := [(0, (2, a0)), (2, (0, (a2 + ((σ (σ a0 46) a3) * (σ (σ a0 46) a3))))), (3, (0, a3))]) (kdA dt_MX12_partedBy 54 rfl) rfl (by decide) rfl ?_
    obtain ⟨c6, h⟩ := h
    refine K_iinc (ls' := [(0, (2, a0)), (2, (0, (a2 + ((σ (σ a0 46) a3) * (σ (σ a0 46) a3))))), (3, (0, (a3 + 1)))]) 2 (kdA dt_MX12_partedBy 55 rfl) rfl c6 (by decide) rfl ?_
    refine K_goto (tgt := 63) (kdA dt_MX12_partedBy 56 rfl) rfl ?_
    exact h
theorem EX12_partedBy {d n : Nat} {Q : Int → kS → Prop} {a0 a1 : Int} {σ : kS} (h : (-2147483648 ≤ a1 ∧ a1 ≤ 2147483647) → kokw n σ → LX12_partedBy_0 d n Q a0 a1 σ) : Ci (d + 1) MX12_partedBy [(2, a0), (0, a1)] n σ Q := Tri_of (by decide +kernel) (Nat.le_of_ble_eq_true rfl) (fun hk hw => h (hk (0, a1) (List.mem_of_getElem? (i := 1) rfl)) hw)

def LX12_pit_0 (d n : Nat) (Q : Int → kS → Prop) (a0 : Int) (a1 : Int) (σ : kS) : Prop := K (d + 1) MX12_pit (kPi n Q) (0, 0) 0 [(0, (2, a0)), (1, (0, a1))] [] n σ
theorem SX12_pit_0 {d n : Nat} {Q : Int → kS → Prop} {a0 a1 : Int} {σ : kS} (h : isO 12 n a0 ∧ (∀ s1, s1 = kst σ a0 0 0 → ((s1 a0 49) = 6 → Q (-1) s1) ∧ (¬ (s1 a0 49) = 6 → Ci d MX12_isCell [(0, a1)] n s1 (fun x2 s2 => (¬ x2 = 0 → isA 20 n (s2 a0 47) ∧ (((0 : Int) ≤ (s2 a0 49) ∧ (s2 a0 49) < klen (s2 a0 47)) ∧ (∀ s3, s3 = kst s2 (s2 a0 47) (s2 a0 49) a1 → (-2147483648 ≤ ((s3 a0 49) + 1) ∧ ((s3 a0 49) + 1) ≤ 2147483647) ∧ (∀ s4, s4 = kst s3 a0 49 ((s3 a0 49) + 1) → (-2147483648 ≤ ((s4 a0 49) - 1) ∧ ((s4 a0 49) - 1) ≤ 2147483647) ∧ (Q ((s4 a0 49) - 1) s4))))) ∧ (¬ (¬ x2 = 0) → Q (-1) s2))))) : LX12_pit_0 d n Q a0 a1 σ := by
  unfold LX12_pit_0
  refine K_aload_n 0 (kdA dt_MX12_pit 0 rfl) rfl rfl ?_
  refine K_iconst (kdA dt_MX12_pit 1 rfl) (by decide) ?_
  obtain ⟨c1, h⟩ := h
  refine pf12_149 rfl (kdA dt_MX12_pit 2 rfl) c1 (fun s1 es1 => ?_)
  have h := h s1 es1
  refine K_aload_n 0 (kdA dt_MX12_pit 3 rfl) rfl rfl ?_
  refine gf12_465 rfl (kdA dt_MX12_pit 4 rfl) c1 ?_
  refine K_bipush (kdA dt_MX12_pit 5 rfl) (by decide +kernel) ?_
  refine K_icmp_eq (tgt := 21) (kdA dt_MX12_pit 6 rfl) rfl (fun c => ?_) (fun c => ?_)
  · have h := h.1 c
    refine K_iconst (kdA dt_MX12_pit 10 rfl) (by decide) ?_
    exact K_ireturn (kdA dt_MX12_pit 11 rfl) rfl ⟨rfl, _, rfl, h⟩
  · have h := h.2 c
    refine K_iload_n 1 (kdA dt_MX12_pit 7 rfl) rfl rfl ?_
    refine K_cSi (as := [(0, a1)]) (st := []) (kdA dt_MX12_pit 8 rfl) cl_MX12_isCell lk12_161 rfl rfl (Nat.le_of_ble_eq_true rfl) (Ci.mono h (fun x2 s2 h => ?_))
    refine K_if_ne (tgt := 23) (kdA dt_MX12_pit 9 rfl) rfl (fun c => ?_) (fun c => ?_)
    · have h := h.1 c
      refine K_aload_n 0 (kdA dt_MX12_pit 12 rfl) rfl rfl ?_
      refine gf12_106 rfl (kdA dt_MX12_pit 13 rfl) c1 ?_
      refine K_aload_n 0 (kdA dt_MX12_pit 14 rfl) rfl rfl ?_
      refine gf12_465 rfl (kdA dt_MX12_pit 15 rfl) c1 ?_
      refine K_iload_n 1 (kdA dt_MX12_pit 16 rfl) rfl rfl ?_
      obtain ⟨c3, h⟩ := h
      obtain ⟨c4, h⟩ := h
      refine K_iastore' (kdA dt_MX12_pit 17 rfl) c3 c4.1 c4.2 (fun s3 es3 => ?_)
      have h := h s3 es3
      refine K_aload_n 0 (kdA dt_MX12_pit 18 rfl) rfl rfl ?_
      refine K_dup (kdA dt_MX12_pit 19 rfl) rfl ?_
      refine gf12_465 rfl (kdA dt_MX12_pit 20 rfl) c1 ?_
      refine K_iconst (kdA dt_MX12_pit 21 rfl) (by decide) ?_
      obtain ⟨c5, h⟩ := h
      refine K_iadd (kdA dt_MX12_pit 22 rfl) c5 ?_
      refine pf12_465 rfl (kdA dt_MX12_pit 23 rfl) c1 (fun s4 es4 => ?_)
      have h := h s4 es4
      refine K_aload_n 0 (kdA dt_MX12_pit 24 rfl) rfl rfl ?_
      refine gf12_465 rfl (kdA dt_MX12_pit 25 rfl) c1 ?_
      refine K_iconst (kdA dt_MX12_pit 26 rfl) (by decide) ?_
      obtain ⟨c6, h⟩ := h
      refine K_isub (kdA dt_MX12_pit 27 rfl) c6 ?_
      exact K_ireturn (kdA dt_MX12_pit 28 rfl) rfl ⟨rfl, _, rfl, h⟩
    · have h := h.2 c
      refine K_iconst (kdA dt_MX12_pit 10 rfl) (by decide) ?_
      exact K_ireturn (kdA dt_MX12_pit 11 rfl) rfl ⟨rfl, _, rfl, h⟩
theorem EX12_pit {d n : Nat} {Q : Int → kS → Prop} {a0 a1 : Int} {σ : kS} (h : (-2147483648 ≤ a1 ∧ a1 ≤ 2147483647) → kokw n σ → LX12_pit_0 d n Q a0 a1 σ) : Ci (d + 1) MX12_pit [(2, a0), (0, a1)] n σ Q := Tri_of (by decide +kernel) (Nat.le_of_ble_eq_true rfl) (fun hk hw => h (hk (0, a1) (List.mem_of_getElem? (i := 1) rfl)) hw)

def LX12_put_0 (d n : Nat) (Q : kS → Prop) (a0 : Int) (a1 : Int) (σ : kS) : Prop := K (d + 1) MX12_put (kPv n Q) (0, 0) 0 [(0, (2, a0)), (1, (0, a1))] [] n σ
def LX12_put_3 (d n : Nat) (Q : kS → Prop) (a0 : Int) (a1 : Int) (a2 : Int) (σ : kS) : Prop := K (d + 1) MX12_put (kPv n Q) (0, 0) 3 [(0, (2, a0)), (1, (0, a1)), (2, (0, a2))] [] n σ
theorem SX12_put_0 {d n : Nat} {Q : kS → Prop} {a0 a1 : Int} {σ : kS} (h : LX12_put_3 d n Q a0 a1 24 σ) : LX12_put_0 d n Q a0 a1 σ := by
  unfold LX12_put_0
  refine K_bipush (kdA dt_MX12_put 0 rfl) (by decide +kernel) ?_
  refine K_istore_n (ls' := [(0, (2, a0)), (1, (0, a1)), (2, (0, 24))]) (kdA dt_MX12_put 1 rfl) rfl (by decide) rfl ?_
  exact h
theorem SX12_put_3 {d n : Nat} {Q : kS → Prop} {a0 a1 a2 : Int} {σ : kS} (h : (a2 < 0 → Q σ) ∧ (¬ a2 < 0 → (¬ (kand (kishr a1 a2) 255) = 0 → isO 12 n a0 ∧ (isA 21 n (σ a0 4) ∧ (((0 : Int) ≤ (σ a0 13) ∧ (σ a0 13) < klen (σ a0 4)) ∧ ((-128 ≤ (kbyte (kishr a1 a2)) ∧ (kbyte (kishr a1 a2)) ≤ 127) ∧ (∀ s1, s1 = kst σ (σ a0 4) (σ a0 13) (kbyte (kishr a1 a2)) → (-2147483648 ≤ ((s1 a0 13) + 1) ∧ ((s1 a0 13) + 1) ≤ 2147483647) ∧ (∀ s2, s2 = kst s1 a0 13 ((s1 a0 13) + 1) → (-2147483648 ≤ (a2 + (-8)) ∧ (a2 + (-8)) ≤ 2147483647) ∧ (LX12_put_3 d n Q a0 a1 (a2 + (-8)) s2))))))) ∧ (¬ (¬ (kand (kishr a1 a2) 255) = 0) → (-2147483648 ≤ (a2 + (-8)) ∧ (a2 + (-8)) ≤ 2147483647) ∧ (LX12_put_3 d n Q a0 a1 (a2 + (-8)) σ)))) : LX12_put_3 d n Q a0 a1 a2 σ := by
  unfold LX12_put_3
  refine K_iload_n 2 (kdA dt_MX12_put 2 rfl) rfl rfl ?_
  refine K_if_lt (tgt := 49) (kdA dt_MX12_put 3 rfl) rfl (fun c => ?_) (fun c => ?_)
  · have h := h.1 c
    exact K_return (kdA dt_MX12_put 28 rfl) rfl ⟨rfl, rfl, h⟩
  · have h := h.2 c
    refine K_iload_n 1 (kdA dt_MX12_put 4 rfl) rfl rfl ?_
    refine K_iload_n 2 (kdA dt_MX12_put 5 rfl) rfl rfl ?_
    refine K_ishr (kdA dt_MX12_put 6 rfl) ?_
    refine K_sipush (kdA dt_MX12_put 7 rfl) (by decide +kernel) ?_
    refine K_iand (kdA dt_MX12_put 8 rfl) ?_
    refine K_if_ne (tgt := 20) (kdA dt_MX12_put 9 rfl) rfl (fun c => ?_) (fun c => ?_)
    · have h := h.1 c
      refine K_aload_n 0 (kdA dt_MX12_put 11 rfl) rfl rfl ?_
      obtain ⟨c1, h⟩ := h
      refine gf12_16 rfl (kdA dt_MX12_put 12 rfl) c1 ?_
      refine K_aload_n 0 (kdA dt_MX12_put 13 rfl) rfl rfl ?_
      refine gf12_194 rfl (kdA dt_MX12_put 14 rfl) c1 ?_
      refine K_iload_n 1 (kdA dt_MX12_put 15 rfl) rfl rfl ?_
      refine K_iload_n 2 (kdA dt_MX12_put 16 rfl) rfl rfl ?_
      refine K_ishr (kdA dt_MX12_put 17 rfl) ?_
      refine K_i2b (kdA dt_MX12_put 18 rfl) ?_
      obtain ⟨c2, h⟩ := h
      obtain ⟨c3, h⟩ := h
      obtain ⟨c4, h⟩ := h
      refine K_bastore' (kdA dt_MX12_put 19 rfl) (Or.inl ⟨c2, c4⟩) c3.1 c3.2 (fun s1 es1 => ?_)
      have h := h s1 es1
      refine K_aload_n 0 (kdA dt_MX12_put 20 rfl) rfl rfl ?_
      refine K_dup (kdA dt_MX12_put 21 rfl) rfl ?_
      refine gf12_194 rfl (kdA dt_MX12_put 22 rfl) c1 ?_
      refine K_iconst (kdA dt_MX12_put 23 rfl) (by decide) ?_
      obtain ⟨c5, h⟩ := h
      refine K_iadd (kdA dt_MX12_put 24 rfl) c5 ?_
      refine pf12_194 rfl (kdA dt_MX12_put 25 rfl) c1 (fun s2 es2 => ?_)
      have h := h s2 es2
      obtain ⟨c6, h⟩ := h
      refine K_iinc (ls' := [(0, (2, a0)), (1, (0, a1)), (2, (0, (a2 + (-8))))]) 2 (kdA dt_MX12_put 26 rfl) rfl c6 (by decide) rfl ?_
      refine K_goto (tgt := 3) (kdA dt_MX12_put 27 rfl) rfl ?_
      exact h
    · have h := h.2 c
      refine K_goto (tgt := 43) (kdA dt_MX12_put 10 rfl) rfl ?_
      obtain ⟨c1, h⟩ := h
      refine K_iinc (ls' := [(0, (2, a0)), (1, (0, a1)), (2, (0, (a2 + (-8))))]) 2 (kdA dt_MX12_put 26 rfl) rfl c1 (by decide) rfl ?_
      refine K_goto (tgt := 3) (kdA dt_MX12_put 27 rfl) rfl ?_
      exact h
theorem EX12_put {d n : Nat} {Q : kS → Prop} {a0 a1 : Int} {σ : kS} (h : (-2147483648 ≤ a1 ∧ a1 ≤ 2147483647) → kokw n σ → LX12_put_0 d n Q a0 a1 σ) : Cv (d + 1) MX12_put [(2, a0), (0, a1)] n σ Q := Tri_of (by decide +kernel) (Nat.le_of_ble_eq_true rfl) (fun hk hw => h (hk (0, a1) (List.mem_of_getElem? (i := 1) rfl)) hw)

def LX12_reached_0 (d n : Nat) (Q : Int → kS → Prop) (a0 : Int) (a1 : Int) (a2 : Int) (a3 : Int) (σ : kS) : Prop := K (d + 1) MX12_reached (kPi n Q) (0, 0) 0 [(0, (2, a0)), (1, (0, a1)), (2, (0, a2)), (3, (0, a3))] [] n σ
def LX12_reached_8 (d n : Nat) (Q : Int → kS → Prop) (a0 : Int) (a2 : Int) (a3 : Int) (a4 : Int) (a5 : Int) (σ : kS) : Prop := K (d + 1) MX12_reached (kPi n Q) (0, 0) 8 [(0, (2, a0)), (2, (0, a2)), (3, (0, a3)), (4, (0, a4)), (5, (0, a5))] [] n σ
def LX12_reached_20 (d n : Nat) (Q : Int → kS → Prop) (a0 : Int) (a2 : Int) (a3 : Int) (a4 : Int) (a5 : Int) (a6 : Int) (σ : kS) : Prop := K (d + 1) MX12_reached (kPi n Q) (0, 0) 20 [(0, (2, a0)), (2, (0, a2)), (3, (0, a3)), (4, (0, a4)), (5, (0, a5)), (6, (0, a6))] [] n σ
theorem SX12_reached_0 {d n : Nat} {Q : Int → kS → Prop} {a0 a1 a2 a3 : Int} {σ : kS} (h : LX12_reached_8 d n Q a0 a2 a3 (kishl 1 a1) 0 σ) : LX12_reached_0 d n Q a0 a1 a2 a3 σ := by
  unfold LX12_reached_0
  refine K_iconst (kdA dt_MX12_reached 0 rfl) (by decide) ?_
  refine K_iload_n 1 (kdA dt_MX12_reached 1 rfl) rfl rfl ?_
  refine K_ishl (kdA dt_MX12_reached 2 rfl) ?_
  refine K_istore (ls' := [(0, (2, a0)), (1, (0, a1)), (2, (0, a2)), (3, (0, a3)), (4, (0, (kishl 1 a1)))]) (kdA dt_MX12_reached 3 rfl) (by decide) rfl ?_
  refine K_iconst (kdA dt_MX12_reached 4 rfl) (by decide) ?_
  refine K_istore (ls' := [(0, (2, a0)), (1, (0, a1)), (2, (0, a2)), (3, (0, a3)), (4, (0, (kishl 1 a1))), (5, (0, 0))]) (kdA dt_MX12_reached 5 rfl) (by decide) rfl ?_
  refine K_pick [0, 2, 3, 4, 5] (ls' := [(0, (2, a0)), (2, (0, a2)), (3, (0, a3)), (4, (0, (kishl 1 a1))), (5, (0, 0))]) rfl ?_
  exact h
theorem SX12_reached_8 {d n : Nat} {Q : Int → kS → Prop} {a0 a2 a3 a4 a5 : Int} {σ : kS} (h : isO 12 n a0 ∧ (((σ a0 3) ≤ a5 → Q a4 σ) ∧ (¬ (σ a0 3) ≤ a5 → LX12_reached_20 d n Q a0 a2 a3 a4 a5 0 σ))) : LX12_reached_8 d n Q a0 a2 a3 a4 a5 σ := by
  unfold LX12_reached_8
  refine K_iload 4 (kdA dt_MX12_reached 6 rfl) rfl ?_
  refine K_aload_n 0 (kdA dt_MX12_reached 7 rfl) rfl rfl ?_
  obtain ⟨c1, h⟩ := h
  refine gf12_165 rfl (kdA dt_MX12_reached 8 rfl) c1 ?_
  refine K_icmp_ge (tgt := 115) (kdA dt_MX12_reached 9 rfl) rfl (fun c => ?_) (fun c => ?_)
  · have h := h.1 c
    refine K_iload 3 (kdA dt_MX12_reached 60 rfl) rfl ?_
    exact K_ireturn (kdA dt_MX12_reached 61 rfl) rfl ⟨rfl, _, rfl, h⟩
  · have h := h.2 c
    refine K_iconst (kdA dt_MX12_reached 10 rfl) (by decide) ?_
    refine K_istore (ls' := [(0, (2, a0)), (2, (0, a2)), (3, (0, a3)), (4, (0, a4)), (5, (0, a5)), (6, (0, 0))]) (kdA dt_MX12_reached 11 rfl) (by decide) rfl ?_
    exact h
theorem SX12_reached_20 {d n : Nat} {Q : Int → kS → Prop} {a0 a2 a3 a4 a5 a6 : Int} {σ : kS} (h : isO 12 n a0 ∧ (((σ a0 58) ≤ a6 → (-2147483648 ≤ (a5 + 1) ∧ (a5 + 1) ≤ 2147483647) ∧ (LX12_reached_8 d n Q a0 a2 a3 a4 (a5 + 1) σ)) ∧ (¬ (σ a0 58) ≤ a6 → (a6 = a3 → (-2147483648 ≤ (a6 + 1) ∧ (a6 + 1) ≤ 2147483647) ∧ (LX12_reached_20 d n Q a0 a2 a3 a4 a5 (a6 + 1) σ)) ∧ (¬ a6 = a3 → isA 20 n (σ a0 55) ∧ (((0 : Int) ≤ a6 ∧ a6 < klen (σ a0 55)) ∧ (((σ (σ a0 55) a6) ≤ a2 → isA 20 n (σ a0 56) ∧ (((0 : Int) ≤ a6 ∧ a6 < klen (σ a0 56)) ∧ (Ci d MX12_has [(0, a4), (0, (σ (σ a0 56) a6))] n σ (fun x6 s1 => (¬ x6 = 0 → isA 20 n (s1 a0 56) ∧ (((0 : Int) ≤ a6 ∧ a6 < klen (s1 a0 56)) ∧ (isA 20 n (s1 a0 57) ∧ (((0 : Int) ≤ a6 ∧ a6 < klen (s1 a0 57)) ∧ ((-2147483648 ≤ (a6 + 1) ∧ (a6 + 1) ≤ 2147483647) ∧ (LX12_reached_20 d n Q a0 a2 a3 (kor a4 (kor (kishl 1 (s1 (s1 a0 56) a6)) (kishl 1 (s1 (s1 a0 57) a6)))) a5 (a6 + 1) s1)))))) ∧ (¬ (¬ x6 = 0) → isA 20 n (s1 a0 57) ∧ (((0 : Int) ≤ a6 ∧ a6 < klen (s1 a0 57)) ∧ (Ci d MX12_has [(0, a4), (0, (s1 (s1 a0 57) a6))] n s1 (fun x9 s2 => (x9 = 0 → (-2147483648 ≤ (a6 + 1) ∧ (a6 + 1) ≤ 2147483647) ∧ (LX12_reached_20 d n Q a0 a2 a3 a4 a5 (a6 + 1) s2)) ∧ (¬ x9 = 0 → isA 20 n (s2 a0 56) ∧ (((0 : Int) ≤ a6 ∧ a6 < klen (s2 a0 56)) ∧ (isA 20 n (s2 a0 57) ∧ (((0 : Int) ≤ a6 ∧ a6 < klen (s2 a0 57)) ∧ ((-2147483648 ≤ (a6 + 1) ∧ (a6 + 1) ≤ 2147483647) ∧ (LX12_reached_20 d n Q a0 a2 a3 (kor a4 (kor (kishl 1 (s2 (s2 a0 56) a6)) (kishl 1 (s2 (s2 a0 57) a6)))) a5 (a6 + 1) s2)))))))))))))) ∧ (¬ (σ (σ a0 55) a6) ≤ a2 → (-2147483648 ≤ (a6 + 1) ∧ (a6 + 1) ≤ 2147483647) ∧ (LX12_reached_20 d n Q a0 a2 a3 a4 a5 (a6 + 1) σ)))))))) : LX12_reached_20 d n Q a0 a2 a3 a4 a5 a6 σ := by
  unfold LX12_reached_20
  refine K_iload 5 (kdA dt_MX12_reached 12 rfl) rfl ?_
  refine K_aload_n 0 (kdA dt_MX12_reached 13 rfl) rfl rfl ?_
  obtain ⟨c1, h⟩ := h
  refine gf12_488 rfl (kdA dt_MX12_reached 14 rfl) c1 ?_
  refine K_icmp_ge (tgt := 109) (kdA dt_MX12_reached 15 rfl) rfl (fun c => ?_) (fun c => ?_)
  · have h := h.1 c
    obtain ⟨c2, h⟩ := h
    refine K_iinc (ls' := [(0, (2, a0)), (2, (0, a2)), (3, (0, a3)), (4, (0, a4)), (5, (0, (a5 + 1))), (6, (0, a6))]) 4 (kdA dt_MX12_reached 58 rfl) rfl c2 (by decide) rfl ?_
    refine K_goto (tgt := 8) (kdA dt_MX12_reached 59 rfl) rfl ?_
    refine K_pick [0, 1, 2, 3, 4] (ls' := [(0, (2, a0)), (2, (0, a2)), (3, (0, a3)), (4, (0, a4)), (5, (0, (a5 + 1)))]) rfl ?_
    exact h
  · have h := h.2 c
    refine K_iload 5 (kdA dt_MX12_reached 16 rfl) rfl ?_
    refine K_iload_n 2 (kdA dt_MX12_reached 17 rfl) rfl rfl ?_
    refine K_icmp_eq (tgt := 103) (kdA dt_MX12_reached 18 rfl) rfl (fun c => ?_) (fun c => ?_)
    · have h := h.1 c
      obtain ⟨c2, h⟩ := h
      refine K_iinc (ls' := [(0, (2, a0)), (2, (0, a2)), (3, (0, a3)), (4, (0, a4)), (5, (0, a5)), (6, (0, (a6 + 1)))]) 5 (kdA dt_MX12_reached 56 rfl) rfl c2 (by decide) rfl ?_
      refine K_goto (tgt := 20) (kdA dt_MX12_reached 57 rfl) rfl ?_
      exact h
    · have h := h.2 c
      refine K_aload_n 0 (kdA dt_MX12_reached 19 rfl) rfl rfl ?_
      refine gf12_124 rfl (kdA dt_MX12_reached 20 rfl) c1 ?_
      refine K_iload 5 (kdA dt_MX12_reached 21 rfl) rfl ?_
      obtain ⟨c2, h⟩ := h
      obtain ⟨c3, h⟩ := h
      refine K_iaload (kdA dt_MX12_reached 22 rfl) c2 c3.1 c3.2 ?_
      refine K_iload_n 1 (kdA dt_MX12_reached 23 rfl) rfl rfl ?_
      refine K_icmp_le (tgt := 49) (kdA dt_MX12_reached 24 rfl) rfl (fun c => ?_) (fun c => ?_)
      · have h := h.1 c
        refine K_iload 3 (kdA dt_MX12_reached 26 rfl) rfl ?_
        refine K_aload_n 0 (kdA dt_MX12_reached 27 rfl) rfl rfl ?_
        refine gf12_127 rfl (kdA dt_MX12_reached 28 rfl) c1 ?_
        refine K_iload 5 (kdA dt_MX12_reached 29 rfl) rfl ?_
        obtain ⟨c4, h⟩ := h
        obtain ⟨c5, h⟩ := h
        refine K_iaload (kdA dt_MX12_reached 30 rfl) c4 c5.1 c5.2 ?_
        refine K_cSi (as := [(0, a4), (0, (σ (σ a0 56) a6))]) (st := []) (kdA dt_MX12_reached 31 rfl) cl_MX12_has lk12_403 rfl rfl (Nat.le_of_ble_eq_true rfl) (Ci.mono h (fun x6 s1 h => ?_))
        refine K_if_ne (tgt := 79) (kdA dt_MX12_reached 32 rfl) rfl (fun c => ?_) (fun c => ?_)
        · have h := h.1 c
          refine K_iload 3 (kdA dt_MX12_reached 40 rfl) rfl ?_
          refine K_iconst (kdA dt_MX12_reached 41 rfl) (by decide) ?_
          refine K_aload_n 0 (kdA dt_MX12_reached 42 rfl) rfl rfl ?_
          refine gf12_127 rfl (kdA dt_MX12_reached 43 rfl) c1 ?_
          refine K_iload 5 (kdA dt_MX12_reached 44 rfl) rfl ?_
          obtain ⟨c7, h⟩ := h
          obtain ⟨c8, h⟩ := h
          refine K_iaload (kdA dt_MX12_reached 45 rfl) c7 c8.1 c8.2 ?_
          refine K_ishl (kdA dt_MX12_reached 46 rfl) ?_
          refine K_iconst (kdA dt_MX12_reached 47 rfl) (by decide) ?_
          refine K_aload_n 0 (kdA dt_MX12_reached 48 rfl) rfl rfl ?_
          refine gf12_130 rfl (kdA dt_MX12_reached 49 rfl) c1 ?_
          refine K_iload 5 (kdA dt_MX12_reached 50 rfl) rfl ?_
          obtain ⟨c9, h⟩ := h
          obtain ⟨c10, h⟩ := h
          refine K_iaload (kdA dt_MX12_reached 51 rfl) c9 c10.1 c10.2 ?_
          refine K_ishl (kdA dt_MX12_reached 52 rfl) ?_
          refine K_ior (kdA dt_MX12_reached 53 rfl) ?_
          refine K_ior (kdA dt_MX12_reached 54 rfl) ?_
          refine K_istore (ls' := [(0, (2, a0)), (2, (0, a2)), (3, (0, a3)), (4, (0, (kor a4 (kor (kishl 1 (s1 (s1 a0 56) a6)) (kishl 1 (s1 (s1 a0 57) a6)))))), (5, (0, a5)), (6, (0, a6))]) (kdA dt_MX12_reached 55 rfl) (by decide) rfl ?_
          obtain ⟨c11, h⟩ := h
          refine K_iinc (ls' := [(0, (2, a0)), (2, (0, a2)), (3, (0, a3)), (4, (0, (kor a4 (kor (kishl 1 (s1 (s1 a0 56) a6)) (kishl 1 (s1 (s1 a0 57) a6)))))), (5, (0, a5)), (6, (0, (a6 + 1)))]) 5 (kdA dt_MX12_reached 56 rfl) rfl c11 (by decide) rfl ?_
          refine K_goto (tgt := 20) (kdA dt_MX12_reached 57 rfl) rfl ?_
          exact h
        · have h := h.2 c
          refine K_iload 3 (kdA dt_MX12_reached 33 rfl) rfl ?_
          refine K_aload_n 0 (kdA dt_MX12_reached 34 rfl) rfl rfl ?_
          refine gf12_130 rfl (kdA dt_MX12_reached 35 rfl) c1 ?_
          refine K_iload 5 (kdA dt_MX12_reached 36 rfl) rfl ?_
          obtain ⟨c7, h⟩ := h
          obtain ⟨c8, h⟩ := h
          refine K_iaload (kdA dt_MX12_reached 37 rfl) c7 c8.1 c8.2 ?_
          refine K_cSi (as := [(0, a4), (0, (s1 (s1 a0 57) a6))]) (st := []) (kdA dt_MX12_reached 38 rfl) cl_MX12_has lk12_403 rfl rfl (Nat.le_of_ble_eq_true rfl) (Ci.mono h (fun x9 s2 h => ?_))
          refine K_if_eq (tgt := 103) (kdA dt_MX12_reached 39 rfl) rfl (fun c => ?_) (fun c => ?_)
          · have h := h.1 c
            obtain ⟨c10, h⟩ := h
            refine K_iinc (ls' := [(0, (2, a0)), (2, (0, a2)), (3, (0, a3)), (4, (0, a4)), (5, (0, a5)), (6, (0, (a6 + 1)))]) 5 (kdA dt_MX12_reached 56 rfl) rfl c10 (by decide) rfl ?_
            refine K_goto (tgt := 20) (kdA dt_MX12_reached 57 rfl) rfl ?_
            exact h
          · have h := h.2 c
            refine K_iload 3 (kdA dt_MX12_reached 40 rfl) rfl ?_
            refine K_iconst (kdA dt_MX12_reached 41 rfl) (by decide) ?_
            refine K_aload_n 0 (kdA dt_MX12_reached 42 rfl) rfl rfl ?_
            refine gf12_127 rfl (kdA dt_MX12_reached 43 rfl) c1 ?_
            refine K_iload 5 (kdA dt_MX12_reached 44 rfl) rfl ?_
            obtain ⟨c10, h⟩ := h
            obtain ⟨c11, h⟩ := h
            refine K_iaload (kdA dt_MX12_reached 45 rfl) c10 c11.1 c11.2 ?_
            refine K_ishl (kdA dt_MX12_reached 46 rfl) ?_
            refine K_iconst (kdA dt_MX12_reached 47 rfl) (by decide) ?_
            refine K_aload_n 0 (kdA dt_MX12_reached 48 rfl) rfl rfl ?_
            refine gf12_130 rfl (kdA dt_MX12_reached 49 rfl) c1 ?_
            refine K_iload 5 (kdA dt_MX12_reached 50 rfl) rfl ?_
            obtain ⟨c12, h⟩ := h
            obtain ⟨c13, h⟩ := h
            refine K_iaload (kdA dt_MX12_reached 51 rfl) c12 c13.1 c13.2 ?_
            refine K_ishl (kdA dt_MX12_reached 52 rfl) ?_
            refine K_ior (kdA dt_MX12_reached 53 rfl) ?_
            refine K_ior (kdA dt_MX12_reached 54 rfl) ?_
            refine K_istore (ls' := [(0, (2, a0)), (2, (0, a2)), (3, (0, a3)), (4, (0, (kor a4 (kor (kishl 1 (s2 (s2 a0 56) a6)) (kishl 1 (s2 (s2 a0 57) a6)))))), (5, (0, a5)), (6, (0, a6))]) (kdA dt_MX12_reached 55 rfl) (by decide) rfl ?_
            obtain ⟨c14, h⟩ := h
            refine K_iinc (ls' := [(0, (2, a0)), (2, (0, a2)), (3, (0, a3)), (4, (0, (kor a4 (kor (kishl 1 (s2 (s2 a0 56) a6)) (kishl 1 (s2 (s2 a0 57) a6)))))), (5, (0, a5)), (6, (0, (a6 + 1)))]) 5 (kdA dt_MX12_reached 56 rfl) rfl c14 (by decide) rfl ?_
            refine K_goto (tgt := 20) (kdA dt_MX12_reached 57 rfl) rfl ?_
            exact h
      · have h := h.2 c
        refine K_goto (tgt := 103) (kdA dt_MX12_reached 25 rfl) rfl ?_
        obtain ⟨c4, h⟩ := h
        refine K_iinc (ls' := [(0, (2, a0)), (2, (0, a2)), (3, (0, a3)), (4, (0, a4)), (5, (0, a5)), (6, (0, (a6 + 1)))]) 5 (kdA dt_MX12_reached 56 rfl) rfl c4 (by decide) rfl ?_
        refine K_goto (tgt := 20) (kdA dt_MX12_reached 57 rfl) rfl ?_
        exact h
theorem EX12_reached {d n : Nat} {Q : Int → kS → Prop} {a0 a1 a2 a3 : Int} {σ : kS} (h : (-2147483648 ≤ a1 ∧ a1 ≤ 2147483647) → (-2147483648 ≤ a2 ∧ a2 ≤ 2147483647) → (-2147483648 ≤ a3 ∧ a3 ≤ 2147483647) → kokw n σ → LX12_reached_0 d n Q a0 a1 a2 a3 σ) : Ci (d + 1) MX12_reached [(2, a0), (0, a1), (0, a2), (0, a3)] n σ Q := Tri_of (by decide +kernel) (Nat.le_of_ble_eq_true rfl) (fun hk hw => h (hk (0, a1) (List.mem_of_getElem? (i := 1) rfl)) (hk (0, a2) (List.mem_of_getElem? (i := 2) rfl)) (hk (0, a3) (List.mem_of_getElem? (i := 3) rfl)) hw)

def LX12_readBook_0 (d n : Nat) (Q : kS → Prop) (a0 : Int) (σ : kS) : Prop := K (d + 1) MX12_readBook (kPv n Q) (0, 0) 0 [(0, (2, a0))] [] n σ
def LX12_readBook_28 (d n : Nat) (Q : kS → Prop) (a0 : Int) (a1 : Int) (σ : kS) : Prop := K (d + 1) MX12_readBook (kPv n Q) (0, 0) 28 [(0, (2, a0)), (1, (0, a1))] [] n σ
theorem SX12_readBook_0 {d n : Nat} {Q : kS → Prop} {a0 : Int} {σ : kS} (h : isO 12 n a0 ∧ (Cv d MX12_begin [(2, a0), (2, (σ a0 4)), (0, 0), (0, (σ a0 13))] n σ (fun s1 => isA 20 n (s1 a0 8) ∧ (((0 : Int) ≤ (s1 a0 15) ∧ (s1 a0 15) < klen (s1 a0 8)) ∧ (∀ s2, s2 = kst s1 (s1 a0 8) (s1 a0 15) 0 → Ci d MX12_readTown [(2, a0)] n s2 (fun x5 s3 => LX12_readBook_28 d n Q a0 x5 s3)))))) : LX12_readBook_0 d n Q a0 σ := by
  unfold LX12_readBook_0
  refine K_aload_n 0 (kdA dt_MX12_readBook 0 rfl) rfl rfl ?_
  refine K_aload_n 0 (kdA dt_MX12_readBook 1 rfl) rfl rfl ?_
  obtain ⟨c1, h⟩ := h
  refine gf12_16 rfl (kdA dt_MX12_readBook 2 rfl) c1 ?_
  refine K_iconst (kdA dt_MX12_readBook 3 rfl) (by decide) ?_
  refine K_aload_n 0 (kdA dt_MX12_readBook 4 rfl) rfl rfl ?_
  refine gf12_194 rfl (kdA dt_MX12_readBook 5 rfl) c1 ?_
  refine K_cVv (c := 12) (as := [(2, (σ a0 4)), (0, 0), (0, (σ a0 13))]) (st := []) (kdA dt_MX12_readBook 6 rfl) rfl cl_MX12_begin lk12_287 rfl rfl (Nat.le_of_ble_eq_true rfl) c1 (Cv.mono h (fun s1 h => ?_))
  refine K_aload_n 0 (kdA dt_MX12_readBook 7 rfl) rfl rfl ?_
  refine gf12_29 rfl (kdA dt_MX12_readBook 8 rfl) c1 ?_
  refine K_aload_n 0 (kdA dt_MX12_readBook 9 rfl) rfl rfl ?_
  refine gf12_294 rfl (kdA dt_MX12_readBook 10 rfl) c1 ?_
  refine K_iconst (kdA dt_MX12_readBook 11 rfl) (by decide) ?_
  obtain ⟨c3, h⟩ := h
  obtain ⟨c4, h⟩ := h
  refine K_iastore' (kdA dt_MX12_readBook 12 rfl) c3 c4.1 c4.2 (fun s2 es2 => ?_)
  have h := h s2 es2
  refine K_aload_n 0 (kdA dt_MX12_readBook 13 rfl) rfl rfl ?_
  refine K_cVi (c := 12) (as := []) (st := []) (kdA dt_MX12_readBook 14 rfl) rfl cl_MX12_readTown lk12_297 rfl rfl (Nat.le_of_ble_eq_true rfl) c1 (Ci.mono h (fun x5 s3 h => ?_))
  refine K_istore_n (ls' := [(0, (2, a0)), (1, (0, x5))]) (kdA dt_MX12_readBook 15 rfl) rfl (by decide) rfl ?_
  exact h
theorem SX12_readBook_28 {d n : Nat} {Q : kS → Prop} {a0 a1 : Int} {σ : kS} (h : isO 12 n a0 ∧ ((¬ (σ a0 19) = (-1) → Q σ) ∧ (¬ (¬ (σ a0 19) = (-1)) → Ci d MX12_look [(2, a0)] n σ (fun x2 s1 => (¬ x2 = (-1) → Ci d MX12_isDigit [(2, a0)] n s1 (fun x3 s2 => (¬ x3 = 0 → (-2147483648 ≤ ((s2 a0 16) + (s2 a0 18)) ∧ ((s2 a0 16) + (s2 a0 18)) ≤ 2147483647) ∧ (isA 21 n (s2 a0 12) ∧ (((0 : Int) ≤ ((s2 a0 16) + (s2 a0 18)) ∧ ((s2 a0 16) + (s2 a0 18)) < klen (s2 a0 12)) ∧ ((-2147483648 ≤ ((s2 (s2 a0 12) ((s2 a0 16) + (s2 a0 18))) - 48) ∧ ((s2 (s2 a0 12) ((s2 a0 16) + (s2 a0 18))) - 48) ≤ 2147483647) ∧ ((-2147483648 ≤ ((s2 a0 18) + 1) ∧ ((s2 a0 18) + 1) ≤ 2147483647) ∧ (∀ s3, s3 = kst s2 a0 18 ((s2 a0 18) + 1) → Ci d MX12_isDigit [(2, a0)] n s3 (fun x9 s4 => (x9 = 0 → Ci d MX12_readTown [(2, a0)] n s4 (fun x10 s5 => ((s5 a0 19) = (-1) → (-2147483648 ≤ (60 * (s5 a0 15)) ∧ (60 * (s5 a0 15)) ≤ 2147483647) ∧ (isA 20 n (s5 a0 8) ∧ (((0 : Int) ≤ (s5 a0 15) ∧ (s5 a0 15) < klen (s5 a0 8)) ∧ ((-2147483648 ≤ ((60 * (s5 a0 15)) + (s5 (s5 a0 8) (s5 a0 15))) ∧ ((60 * (s5 a0 15)) + (s5 (s5 a0 8) (s5 a0 15))) ≤ 2147483647) ∧ (isA 20 n (s5 a0 9) ∧ (((0 : Int) ≤ ((60 * (s5 a0 15)) + (s5 (s5 a0 8) (s5 a0 15))) ∧ ((60 * (s5 a0 15)) + (s5 (s5 a0 8) (s5 a0 15))) < klen (s5 a0 9)) ∧ (∀ s6, s6 = kst s5 (s5 a0 9) ((60 * (s5 a0 15)) + (s5 (s5 a0 8) (s5 a0 15))) a1 → isA 20 n (s6 a0 10) ∧ (((0 : Int) ≤ ((60 * (s5 a0 15)) + (s5 (s5 a0 8) (s5 a0 15))) ∧ ((60 * (s5 a0 15)) + (s5 (s5 a0 8) (s5 a0 15))) < klen (s6 a0 10)) ∧ (∀ s7, s7 = kst s6 (s6 a0 10) ((60 * (s5 a0 15)) + (s5 (s5 a0 8) (s5 a0 15))) x10 → isA 20 n (s7 a0 11) ∧ (((0 : Int) ≤ ((60 * (s5 a0 15)) + (s5 (s5 a0 8) (s5 a0 15))) ∧ ((60 * (s5 a0 15)) + (s5 (s5 a0 8) (s5 a0 15))) < klen (s7 a0 11)) ∧ (∀ s8, s8 = kst s7 (s7 a0 11) ((60 * (s5 a0 15)) + (s5 (s5 a0 8) (s5 a0 15))) ((s2 (s2 a0 12) ((s2 a0 16) + (s2 a0 18))) - 48) → isA 20 n (s8 a0 8) ∧ (((0 : Int) ≤ (s8 a0 15) ∧ (s8 a0 15) < klen (s8 a0 8)) ∧ ((-2147483648 ≤ ((s8 (s8 a0 8) (s8 a0 15)) + 1) ∧ ((s8 (s8 a0 8) (s8 a0 15)) + 1) ≤ 2147483647) ∧ (∀ s9, s9 = kst s8 (s8 a0 8) (s8 a0 15) ((s8 (s8 a0 8) (s8 a0 15)) + 1) → LX12_readBook_28 d n Q a0 x10 s9)))))))))))))) ∧ (¬ (s5 a0 19) = (-1) → Q s5))) ∧ (¬ x9 = 0 → (-2147483648 ≤ (10 * ((s2 (s2 a0 12) ((s2 a0 16) + (s2 a0 18))) - 48)) ∧ (10 * ((s2 (s2 a0 12) ((s2 a0 16) + (s2 a0 18))) - 48)) ≤ 2147483647) ∧ ((-2147483648 ≤ ((s4 a0 16) + (s4 a0 18)) ∧ ((s4 a0 16) + (s4 a0 18)) ≤ 2147483647) ∧ (isA 21 n (s4 a0 12) ∧ (((0 : Int) ≤ ((s4 a0 16) + (s4 a0 18)) ∧ ((s4 a0 16) + (s4 a0 18)) < klen (s4 a0 12)) ∧ ((-2147483648 ≤ ((10 * ((s2 (s2 a0 12) ((s2 a0 16) + (s2 a0 18))) - 48)) + (s4 (s4 a0 12) ((s4 a0 16) + (s4 a0 18)))) ∧ ((10 * ((s2 (s2 a0 12) ((s2 a0 16) + (s2 a0 18))) - 48)) + (s4 (s4 a0 12) ((s4 a0 16) + (s4 a0 18)))) ≤ 2147483647) ∧ ((-2147483648 ≤ (((10 * ((s2 (s2 a0 12) ((s2 a0 16) + (s2 a0 18))) - 48)) + (s4 (s4 a0 12) ((s4 a0 16) + (s4 a0 18)))) - 48) ∧ (((10 * ((s2 (s2 a0 12) ((s2 a0 16) + (s2 a0 18))) - 48)) + (s4 (s4 a0 12) ((s4 a0 16) + (s4 a0 18)))) - 48) ≤ 2147483647) ∧ ((-2147483648 ≤ ((s4 a0 18) + 1) ∧ ((s4 a0 18) + 1) ≤ 2147483647) ∧ (∀ s5, s5 = kst s4 a0 18 ((s4 a0 18) + 1) → Ci d MX12_readTown [(2, a0)] n s5 (fun x17 s6 => ((s6 a0 19) = (-1) → (-2147483648 ≤ (60 * (s6 a0 15)) ∧ (60 * (s6 a0 15)) ≤ 2147483647) ∧ (isA 20 n (s6 a0 8) ∧ (((0 : Int) ≤ (s6 a0 15) ∧ (s6 a0 15) < klen (s6 a0 8)) ∧ ((-2147483648 ≤ ((60 * (s6 a0 15)) + (s6 (s6 a0 8) (s6 a0 15))) ∧ ((60 * (s6 a0 15)) + (s6 (s6 a0 8) (s6 a0 15))) ≤ 2147483647) ∧ (isA 20 n (s6 a0 9) ∧ (((0 : Int) ≤ ((60 * (s6 a0 15)) + (s6 (s6 a0 8) (s6 a0 15))) ∧ ((60 * (s6 a0 15)) + (s6 (s6 a0 8) (s6 a0 15))) < klen (s6 a0 9)) ∧ (∀ s7, s7 = kst s6 (s6 a0 9) ((60 * (s6 a0 15)) + (s6 (s6 a0 8) (s6 a0 15))) a1 → isA 20 n (s7 a0 10) ∧ (((0 : Int) ≤ ((60 * (s6 a0 15)) + (s6 (s6 a0 8) (s6 a0 15))) ∧ ((60 * (s6 a0 15)) + (s6 (s6 a0 8) (s6 a0 15))) < klen (s7 a0 10)) ∧ (∀ s8, s8 = kst s7 (s7 a0 10) ((60 * (s6 a0 15)) + (s6 (s6 a0 8) (s6 a0 15))) x17 → isA 20 n (s8 a0 11) ∧ (((0 : Int) ≤ ((60 * (s6 a0 15)) + (s6 (s6 a0 8) (s6 a0 15))) ∧ ((60 * (s6 a0 15)) + (s6 (s6 a0 8) (s6 a0 15))) < klen (s8 a0 11)) ∧ (∀ s9, s9 = kst s8 (s8 a0 11) ((60 * (s6 a0 15)) + (s6 (s6 a0 8) (s6 a0 15))) (((10 * ((s2 (s2 a0 12) ((s2 a0 16) + (s2 a0 18))) - 48)) + (s4 (s4 a0 12) ((s4 a0 16) + (s4 a0 18)))) - 48) → isA 20 n (s9 a0 8) ∧ (((0 : Int) ≤ (s9 a0 15) ∧ (s9 a0 15) < klen (s9 a0 8)) ∧ ((-2147483648 ≤ ((s9 (s9 a0 8) (s9 a0 15)) + 1) ∧ ((s9 (s9 a0 8) (s9 a0 15)) + 1) ≤ 2147483647) ∧ (∀ s10, s10 = kst s9 (s9 a0 8) (s9 a0 15) ((s9 (s9 a0 8) (s9 a0 15)) + 1) → LX12_readBook_28 d n Q a0 x17 s10)))))))))))))) ∧ (¬ (s6 a0 19) = (-1) → Q s6))))))))))))))))) ∧ (¬ (¬ x3 = 0) → Ci d MX12_fails [(2, a0)] n s2 (fun x4 s3 => Q s3)))) ∧ (¬ (¬ x2 = (-1)) → isA 20 n (s1 a0 8) ∧ (((0 : Int) ≤ (s1 a0 15) ∧ (s1 a0 15) < klen (s1 a0 8)) ∧ ((¬ (s1 (s1 a0 8) (s1 a0 15)) = 0 → Q s1) ∧ (¬ (¬ (s1 (s1 a0 8) (s1 a0 15)) = 0) → Ci d MX12_isDigit [(2, a0)] n s1 (fun x5 s2 => (¬ x5 = 0 → (-2147483648 ≤ ((s2 a0 16) + (s2 a0 18)) ∧ ((s2 a0 16) + (s2 a0 18)) ≤ 2147483647) ∧ (isA 21 n (s2 a0 12) ∧ (((0 : Int) ≤ ((s2 a0 16) + (s2 a0 18)) ∧ ((s2 a0 16) + (s2 a0 18)) < klen (s2 a0 12)) ∧ ((-2147483648 ≤ ((s2 (s2 a0 12) ((s2 a0 16) + (s2 a0 18))) - 48) ∧ ((s2 (s2 a0 12) ((s2 a0 16) + (s2 a0 18))) - 48) ≤ 2147483647) ∧ ((-2147483648 ≤ ((s2 a0 18) + 1) ∧ ((s2 a0 18) + 1) ≤ 2147483647) ∧ (∀ s3, s3 = kst s2 a0 18 ((s2 a0 18) + 1) → Ci d MX12_isDigit [(2, a0)] n s3 (fun x11 s4 => (x11 = 0 → Ci d MX12_readTown [(2, a0)] n s4 (fun x12 s5 => ((s5 a0 19) = (-1) → (-2147483648 ≤ (60 * (s5 a0 15)) ∧ (60 * (s5 a0 15)) ≤ 2147483647) ∧ (isA 20 n (s5 a0 8) ∧ (((0 : Int) ≤ (s5 a0 15) ∧ (s5 a0 15) < klen (s5 a0 8)) ∧ ((-2147483648 ≤ ((60 * (s5 a0 15)) + (s5 (s5 a0 8) (s5 a0 15))) ∧ ((60 * (s5 a0 15)) + (s5 (s5 a0 8) (s5 a0 15))) ≤ 2147483647) ∧ (isA 20 n (s5 a0 9) ∧ (((0 : Int) ≤ ((60 * (s5 a0 15)) + (s5 (s5 a0 8) (s5 a0 15))) ∧ ((60 * (s5 a0 15)) + (s5 (s5 a0 8) (s5 a0 15))) < klen (s5 a0 9)) ∧ (∀ s6, s6 = kst s5 (s5 a0 9) ((60 * (s5 a0 15)) + (s5 (s5 a0 8) (s5 a0 15))) a1 → isA 20 n (s6 a0 10) ∧ (((0 : Int) ≤ ((60 * (s5 a0 15)) + (s5 (s5 a0 8) (s5 a0 15))) ∧ ((60 * (s5 a0 15)) + (s5 (s5 a0 8) (s5 a0 15))) < klen (s6 a0 10)) ∧ (∀ s7, s7 = kst s6 (s6 a0 10) ((60 * (s5 a0 15)) + (s5 (s5 a0 8) (s5 a0 15))) x12 → isA 20 n (s7 a0 11) ∧ (((0 : Int) ≤ ((60 * (s5 a0 15)) + (s5 (s5 a0 8) (s5 a0 15))) ∧ ((60 * (s5 a0 15)) + (s5 (s5 a0 8) (s5 a0 15))) < klen (s7 a0 11)) ∧ (∀ s8, s8 = kst s7 (s7 a0 11) ((60 * (s5 a0 15)) + (s5 (s5 a0 8) (s5 a0 15))) ((s2 (s2 a0 12) ((s2 a0 16) + (s2 a0 18))) - 48) → isA 20 n (s8 a0 8) ∧ (((0 : Int) ≤ (s8 a0 15) ∧ (s8 a0 15) < klen (s8 a0 8)) ∧ ((-2147483648 ≤ ((s8 (s8 a0 8) (s8 a0 15)) + 1) ∧ ((s8 (s8 a0 8) (s8 a0 15)) + 1) ≤ 2147483647) ∧ (∀ s9, s9 = kst s8 (s8 a0 8) (s8 a0 15) ((s8 (s8 a0 8) (s8 a0 15)) + 1) → LX12_readBook_28 d n Q a0 x12 s9)))))))))))))) ∧ (¬ (s5 a0 19) = (-1) → Q s5))) ∧ (¬ x11 = 0 → (-2147483648 ≤ (10 * ((s2 (s2 a0 12) ((s2 a0 16) + (s2 a0 18))) - 48)) ∧ (10 * ((s2 (s2 a0 12) ((s2 a0 16) + (s2 a0 18))) - 48)) ≤ 2147483647) ∧ ((-2147483648 ≤ ((s4 a0 16) + (s4 a0 18)) ∧ ((s4 a0 16) + (s4 a0 18)) ≤ 2147483647) ∧ (isA 21 n (s4 a0 12) ∧ (((0 : Int) ≤ ((s4 a0 16) + (s4 a0 18)) ∧ ((s4 a0 16) + (s4 a0 18)) < klen (s4 a0 12)) ∧ ((-2147483648 ≤ ((10 * ((s2 (s2 a0 12) ((s2 a0 16) + (s2 a0 18))) - 48)) + (s4 (s4 a0 12) ((s4 a0 16) + (s4 a0 18)))) ∧ ((10 * ((s2 (s2 a0 12) ((s2 a0 16) + (s2 a0 18))) - 48)) + (s4 (s4 a0 12) ((s4 a0 16) + (s4 a0 18)))) ≤ 2147483647) ∧ ((-2147483648 ≤ (((10 * ((s2 (s2 a0 12) ((s2 a0 16) + (s2 a0 18))) - 48)) + (s4 (s4 a0 12) ((s4 a0 16) + (s4 a0 18)))) - 48) ∧ (((10 * ((s2 (s2 a0 12) ((s2 a0 16) + (s2 a0 18))) - 48)) + (s4 (s4 a0 12) ((s4 a0 16) + (s4 a0 18)))) - 48) ≤ 2147483647) ∧ ((-2147483648 ≤ ((s4 a0 18) + 1) ∧ ((s4 a0 18) + 1) ≤ 2147483647) ∧ (∀ s5, s5 = kst s4 a0 18 ((s4 a0 18) + 1) → Ci d MX12_readTown [(2, a0)] n s5 (fun x19 s6 => ((s6 a0 19) = (-1) → (-2147483648 ≤ (60 * (s6 a0 15)) ∧ (60 * (s6 a0 15)) ≤ 2147483647) ∧ (isA 20 n (s6 a0 8) ∧ (((0 : Int) ≤ (s6 a0 15) ∧ (s6 a0 15) < klen (s6 a0 8)) ∧ ((-2147483648 ≤ ((60 * (s6 a0 15)) + (s6 (s6 a0 8) (s6 a0 15))) ∧ ((60 * (s6 a0 15)) + (s6 (s6 a0 8) (s6 a0 15))) ≤ 2147483647) ∧ (isA 20 n (s6 a0 9) ∧ (((0 : Int) ≤ ((60 * (s6 a0 15)) + (s6 (s6 a0 8) (s6 a0 15))) ∧ ((60 * (s6 a0 15)) + (s6 (s6 a0 8) (s6 a0 15))) < klen (s6 a0 9)) ∧ (∀ s7, s7 = kst s6 (s6 a0 9) ((60 * (s6 a0 15)) + (s6 (s6 a0 8) (s6 a0 15))) a1 → isA 20 n (s7 a0 10) ∧ (((0 : Int) ≤ ((60 * (s6 a0 15)) + (s6 (s6 a0 8) (s6 a0 15))) ∧ ((60 * (s6 a0 15)) + (s6 (s6 a0 8) (s6 a0 15))) < klen (s7 a0 10)) ∧ (∀ s8, s8 = kst s7 (s7 a0 10) ((60 * (s6 a0 15)) + (s6 (s6 a0 8) (s6 a0 15))) x19 → isA 20 n (s8 a0 11) ∧ (((0 : Int) ≤ ((60 * (s6 a0 15)) + (s6 (s6 a0 8) (s6 a0 15))) ∧ ((60 * (s6 a0 15)) + (s6 (s6 a0 8) (s6 a0 15))) < klen (s8 a0 11)) ∧ (∀ s9, s9 = kst s8 (s8 a0 11) ((60 * (s6 a0 15)) + (s6 (s6 a0 8) (s6 a0 15))) (((10 * ((s2 (s2 a0 12) ((s2 a0 16) + (s2 a0 18))) - 48)) + (s4 (s4 a0 12) ((s4 a0 16) + (s4 a0 18)))) - 48) → isA 20 n (s9 a0 8) ∧ (((0 : Int) ≤ (s9 a0 15) ∧ (s9 a0 15) < klen (s9 a0 8)) ∧ ((-2147483648 ≤ ((s9 (s9 a0 8) (s9 a0 15)) + 1) ∧ ((s9 (s9 a0 8) (s9 a0 15)) + 1) ≤ 2147483647) ∧ (∀ s10, s10 = kst s9 (s9 a0 8) (s9 a0 15) ((s9 (s9 a0 8) (s9 a0 15)) + 1) → LX12_readBook_28 d n Q a0 x19 s10)))))))))))))) ∧ (¬ (s6 a0 19) = (-1) → Q s6))))))))))))))))) ∧ (¬ (¬ x5 = 0) → Ci d MX12_fails [(2, a0)] n s2 (fun x6 s3 => Q s3))))))))))) : LX12_readBook_28 d n Q a0 a1 σ := by
  unfold LX12_readBook_28
  refine K_aload_n 0 (kdA dt_MX12_readBook 16 rfl) rfl rfl ?_
  obtain ⟨c1, h⟩ := h
  refine gf12_212 rfl (kdA dt_MX12_readBook 17 rfl) c1 ?_
  refine K_iconst (kdA dt_MX12_readBook 18 rfl) (by decide) ?_
  refine K_icmp_ne (tgt := 212) (kdA dt_MX12_readBook 19 rfl) rfl (fun c => ?_) (fun c => ?_)
  · have h := h.1 c
    exact K_return (kdA dt_MX12_readBook 124 rfl) rfl ⟨rfl, rfl, h⟩
  · have h := h.2 c
    refine K_aload_n 0 (kdA dt_MX12_readBook 20 rfl) rfl rfl ?_
    refine K_cVi (c := 12) (as := []) (st := []) (kdA dt_MX12_readBook 21 rfl) rfl cl_MX12_look lk12_222 rfl rfl (Nat.le_of_ble_eq_true rfl) c1 (Ci.mono h (fun x2 s1 h => ?_))
    refine K_iconst (kdA dt_MX12_readBook 22 rfl) (by decide) ?_
    refine K_icmp_ne (tgt := 56) (kdA dt_MX12_readBook 23 rfl) rfl (fun c => ?_) (fun c => ?_)
    · have h := h.1 c
      refine K_aload_n 0 (kdA dt_MX12_readBook 30 rfl) rfl rfl ?_
      refine K_cVi (c := 12) (as := []) (st := []) (kdA dt_MX12_readBook 31 rfl) rfl cl_MX12_isDigit lk12_248 rfl rfl (Nat.le_of_ble_eq_true rfl) c1 (Ci.mono h (fun x3 s2 h => ?_))
      refine K_if_ne (tgt := 69) (kdA dt_MX12_readBook 32 rfl) rfl (fun c => ?_) (fun c => ?_)
      · have h := h.1 c
        refine K_aload_n 0 (kdA dt_MX12_readBook 37 rfl) rfl rfl ?_
        refine gf12_41 rfl (kdA dt_MX12_readBook 38 rfl) c1 ?_
        refine K_aload_n 0 (kdA dt_MX12_readBook 39 rfl) rfl rfl ?_
        refine gf12_209 rfl (kdA dt_MX12_readBook 40 rfl) c1 ?_
        refine K_aload_n 0 (kdA dt_MX12_readBook 41 rfl) rfl rfl ?_
        refine gf12_203 rfl (kdA dt_MX12_readBook 42 rfl) c1 ?_
        obtain ⟨c4, h⟩ := h
        refine K_iadd (kdA dt_MX12_readBook 43 rfl) c4 ?_
        obtain ⟨c5, h⟩ := h
        obtain ⟨c6, h⟩ := h
        refine K_baload (kdA dt_MX12_readBook 44 rfl) (Or.inl c5) c6.1 c6.2 ?_
        refine K_bipush (kdA dt_MX12_readBook 45 rfl) (by decide +kernel) ?_
        obtain ⟨c7, h⟩ := h
        refine K_isub (kdA dt_MX12_readBook 46 rfl) c7 ?_
        refine K_istore_n (ls' := [(0, (2, a0)), (1, (0, a1)), (2, (0, ((s2 (s2 a0 12) ((s2 a0 16) + (s2 a0 18))) - 48)))]) (kdA dt_MX12_readBook 47 rfl) rfl (by decide) rfl ?_
        refine K_aload_n 0 (kdA dt_MX12_readBook 48 rfl) rfl rfl ?_
        refine K_dup (kdA dt_MX12_readBook 49 rfl) rfl ?_
        refine gf12_203 rfl (kdA dt_MX12_readBook 50 rfl) c1 ?_
        refine K_iconst (kdA dt_MX12_readBook 51 rfl) (by decide) ?_
        obtain ⟨c8, h⟩ := h
        refine K_iadd (kdA dt_MX12_readBook 52 rfl) c8 ?_
        refine pf12_203 rfl (kdA dt_MX12_readBook 53 rfl) c1 (fun s3 es3 => ?_)
        have h := h s3 es3
        refine K_aload_n 0 (kdA dt_MX12_readBook 54 rfl) rfl rfl ?_
        refine K_cVi (c := 12) (as := []) (st := []) (kdA dt_MX12_readBook 55 rfl) rfl cl_MX12_isDigit lk12_248 rfl rfl (Nat.le_of_ble_eq_true rfl) c1 (Ci.mono h (fun x9 s4 h => ?_))
        refine K_if_eq (tgt := 137) (kdA dt_MX12_readBook 56 rfl) rfl (fun c => ?_) (fun c => ?_)
        · have h := h.1 c
          refine K_aload_n 0 (kdA dt_MX12_readBook 78 rfl) rfl rfl ?_
          refine K_cVi (c := 12) (as := []) (st := []) (kdA dt_MX12_readBook 79 rfl) rfl cl_MX12_readTown lk12_297 rfl rfl (Nat.le_of_ble_eq_true rfl) c1 (Ci.mono h (fun x10 s5 h => ?_))
          refine K_istore_n (ls' := [(0, (2, a0)), (1, (0, a1)), (2, (0, ((s2 (s2 a0 12) ((s2 a0 16) + (s2 a0 18))) - 48))), (3, (0, x10))]) (kdA dt_MX12_readBook 80 rfl) rfl (by decide) rfl ?_
          refine K_aload_n 0 (kdA dt_MX12_readBook 81 rfl) rfl rfl ?_
          refine gf12_212 rfl (kdA dt_MX12_readBook 82 rfl) c1 ?_
          refine K_iconst (kdA dt_MX12_readBook 83 rfl) (by decide) ?_
          refine K_icmp_eq (tgt := 151) (kdA dt_MX12_readBook 84 rfl) rfl (fun c => ?_) (fun c => ?_)
          · have h := h.1 c
            refine K_bipush (kdA dt_MX12_readBook 86 rfl) (by decide +kernel) ?_
            refine K_aload_n 0 (kdA dt_MX12_readBook 87 rfl) rfl rfl ?_
            refine gf12_294 rfl (kdA dt_MX12_readBook 88 rfl) c1 ?_
            obtain ⟨c11, h⟩ := h
            refine K_imul (kdA dt_MX12_readBook 89 rfl) c11 ?_
            refine K_aload_n 0 (kdA dt_MX12_readBook 90 rfl) rfl rfl ?_
            refine gf12_29 rfl (kdA dt_MX12_readBook 91 rfl) c1 ?_
            refine K_aload_n 0 (kdA dt_MX12_readBook 92 rfl) rfl rfl ?_
            refine gf12_294 rfl (kdA dt_MX12_readBook 93 rfl) c1 ?_
            obtain ⟨c12, h⟩ := h
            obtain ⟨c13, h⟩ := h
            refine K_iaload (kdA dt_MX12_readBook 94 rfl) c12 c13.1 c13.2 ?_
            obtain ⟨c14, h⟩ := h
            refine K_iadd (kdA dt_MX12_readBook 95 rfl) c14 ?_
            refine K_istore (ls' := [(0, (2, a0)), (1, (0, a1)), (2, (0, ((s2 (s2 a0 12) ((s2 a0 16) + (s2 a0 18))) - 48))), (3, (0, x10)), (4, (0, ((60 * (s5 a0 15)) + (s5 (s5 a0 8) (s5 a0 15)))))]) (kdA dt_MX12_readBook 96 rfl) (by decide) rfl ?_
            refine K_aload_n 0 (kdA dt_MX12_readBook 97 rfl) rfl rfl ?_
            refine gf12_32 rfl (kdA dt_MX12_readBook 98 rfl) c1 ?_
            refine K_iload 4 (kdA dt_MX12_readBook 99 rfl) rfl ?_
            refine K_iload_n 1 (kdA dt_MX12_readBook 100 rfl) rfl rfl ?_
            obtain ⟨c15, h⟩ := h
            obtain ⟨c16, h⟩ := h
            refine K_iastore' (kdA dt_MX12_readBook 101 rfl) c15 c16.1 c16.2 (fun s6 es6 => ?_)
            have h := h s6 es6
            refine K_aload_n 0 (kdA dt_MX12_readBook 102 rfl) rfl rfl ?_
            refine gf12_35 rfl (kdA dt_MX12_readBook 103 rfl) c1 ?_
            refine K_iload 4 (kdA dt_MX12_readBook 104 rfl) rfl ?_
            refine K_iload_n 3 (kdA dt_MX12_readBook 105 rfl) rfl rfl ?_
            obtain ⟨c17, h⟩ := h
            obtain ⟨c18, h⟩ := h
            refine K_iastore' (kdA dt_MX12_readBook 106 rfl) c17 c18.1 c18.2 (fun s7 es7 => ?_)
            have h := h s7 es7
            refine K_aload_n 0 (kdA dt_MX12_readBook 107 rfl) rfl rfl ?_
            refine gf12_38 rfl (kdA dt_MX12_readBook 108 rfl) c1 ?_
            refine K_iload 4 (kdA dt_MX12_readBook 109 rfl) rfl ?_
            refine K_iload_n 2 (kdA dt_MX12_readBook 110 rfl) rfl rfl ?_
            obtain ⟨c19, h⟩ := h
            obtain ⟨c20, h⟩ := h
            refine K_iastore' (kdA dt_MX12_readBook 111 rfl) c19 c20.1 c20.2 (fun s8 es8 => ?_)
            have h := h s8 es8
            refine K_aload_n 0 (kdA dt_MX12_readBook 112 rfl) rfl rfl ?_
            refine gf12_29 rfl (kdA dt_MX12_readBook 113 rfl) c1 ?_
            refine K_aload_n 0 (kdA dt_MX12_readBook 114 rfl) rfl rfl ?_
            refine gf12_294 rfl (kdA dt_MX12_readBook 115 rfl) c1 ?_
            refine K_dup2 (kdA dt_MX12_readBook 116 rfl) rfl rfl ?_
            obtain ⟨c21, h⟩ := h
            obtain ⟨c22, h⟩ := h
            refine K_iaload (kdA dt_MX12_readBook 117 rfl) c21 c22.1 c22.2 ?_
            refine K_iconst (kdA dt_MX12_readBook 118 rfl) (by decide) ?_
            obtain ⟨c23, h⟩ := h
            refine K_iadd (kdA dt_MX12_readBook 119 rfl) c23 ?_
            refine K_iastore' (kdA dt_MX12_readBook 120 rfl) c21 c22.1 c22.2 (fun s9 es9 => ?_)
            have h := h s9 es9
            refine K_iload_n 3 (kdA dt_MX12_readBook 121 rfl) rfl rfl ?_
            refine K_istore_n (ls' := [(0, (2, a0)), (1, (0, x10)), (2, (0, ((s2 (s2 a0 12) ((s2 a0 16) + (s2 a0 18))) - 48))), (3, (0, x10)), (4, (0, ((60 * (s5 a0 15)) + (s5 (s5 a0 8) (s5 a0 15)))))]) (kdA dt_MX12_readBook 122 rfl) rfl (by decide) rfl ?_
            refine K_goto (tgt := 28) (kdA dt_MX12_readBook 123 rfl) rfl ?_
            refine K_pick [0, 1] (ls' := [(0, (2, a0)), (1, (0, x10))]) rfl ?_
            exact h
          · have h := h.2 c
            exact K_return (kdA dt_MX12_readBook 85 rfl) rfl ⟨rfl, rfl, h⟩
        · have h := h.2 c
          refine K_bipush (kdA dt_MX12_readBook 57 rfl) (by decide +kernel) ?_
          refine K_iload_n 2 (kdA dt_MX12_readBook 58 rfl) rfl rfl ?_
          obtain ⟨c10, h⟩ := h
          refine K_imul (kdA dt_MX12_readBook 59 rfl) c10 ?_
          refine K_aload_n 0 (kdA dt_MX12_readBook 60 rfl) rfl rfl ?_
          refine gf12_41 rfl (kdA dt_MX12_readBook 61 rfl) c1 ?_
          refine K_aload_n 0 (kdA dt_MX12_readBook 62 rfl) rfl rfl ?_
          refine gf12_209 rfl (kdA dt_MX12_readBook 63 rfl) c1 ?_
          refine K_aload_n 0 (kdA dt_MX12_readBook 64 rfl) rfl rfl ?_
          refine gf12_203 rfl (kdA dt_MX12_readBook 65 rfl) c1 ?_
          obtain ⟨c11, h⟩ := h
          refine K_iadd (kdA dt_MX12_readBook 66 rfl) c11 ?_
          obtain ⟨c12, h⟩ := h
          obtain ⟨c13, h⟩ := h
          refine K_baload (kdA dt_MX12_readBook 67 rfl) (Or.inl c12) c13.1 c13.2 ?_
          obtain ⟨c14, h⟩ := h
          refine K_iadd (kdA dt_MX12_readBook 68 rfl) c14 ?_
          refine K_bipush (kdA dt_MX12_readBook 69 rfl) (by decide +kernel) ?_
          obtain ⟨c15, h⟩ := h
          refine K_isub (kdA dt_MX12_readBook 70 rfl) c15 ?_
          refine K_istore_n (ls' := [(0, (2, a0)), (1, (0, a1)), (2, (0, (((10 * ((s2 (s2 a0 12) ((s2 a0 16) + (s2 a0 18))) - 48)) + (s4 (s4 a0 12) ((s4 a0 16) + (s4 a0 18)))) - 48)))]) (kdA dt_MX12_readBook 71 rfl) rfl (by decide) rfl ?_
          refine K_aload_n 0 (kdA dt_MX12_readBook 72 rfl) rfl rfl ?_
          refine K_dup (kdA dt_MX12_readBook 73 rfl) rfl ?_
          refine gf12_203 rfl (kdA dt_MX12_readBook 74 rfl) c1 ?_
          refine K_iconst (kdA dt_MX12_readBook 75 rfl) (by decide) ?_
          obtain ⟨c16, h⟩ := h
          refine K_iadd (kdA dt_MX12_readBook 76 rfl) c16 ?_
          refine pf12_203 rfl (kdA dt_MX12_readBook 77 rfl) c1 (fun s5 es5 => ?_)
          have h := h s5 es5
          refine K_aload_n 0 (kdA dt_MX12_readBook 78 rfl) rfl rfl ?_
          refine K_cVi (c := 12) (as := []) (st := []) (kdA dt_MX12_readBook 79 rfl) rfl cl_MX12_readTown lk12_297 rfl rfl (Nat.le_of_ble_eq_true rfl) c1 (Ci.mono h (fun x17 s6 h => ?_))
          refine K_istore_n (ls' := [(0, (2, a0)), (1, (0, a1)), (2, (0, (((10 * ((s2 (s2 a0 12) ((s2 a0 16) + (s2 a0 18))) - 48)) + (s4 (s4 a0 12) ((s4 a0 16) + (s4 a0 18)))) - 48))), (3, (0, x17))]) (kdA dt_MX12_readBook 80 rfl) rfl (by decide) rfl ?_
          refine K_aload_n 0 (kdA dt_MX12_readBook 81 rfl) rfl rfl ?_
          refine gf12_212 rfl (kdA dt_MX12_readBook 82 rfl) c1 ?_
          refine K_iconst (kdA dt_MX12_readBook 83 rfl) (by decide) ?_
          refine K_icmp_eq (tgt := 151) (kdA dt_MX12_readBook 84 rfl) rfl (fun c => ?_) (fun c => ?_)
          · have h := h.1 c
            refine K_bipush (kdA dt_MX12_readBook 86 rfl) (by decide +kernel) ?_
            refine K_aload_n 0 (kdA dt_MX12_readBook 87 rfl) rfl rfl ?_
            refine gf12_294 rfl (kdA dt_MX12_readBook 88 rfl) c1 ?_
            obtain ⟨c18, h⟩ := h
            refine K_imul (kdA dt_MX12_readBook 89 rfl) c18 ?_
            refine K_aload_n 0 (kdA dt_MX12_readBook 90 rfl) rfl rfl ?_
            refine gf12_29 rfl (kdA dt_MX12_readBook 91 rfl) c1 ?_
            refine K_aload_n 0 (kdA dt_MX12_readBook 92 rfl) rfl rfl ?_
            refine gf12_294 rfl (kdA dt_MX12_readBook 93 rfl) c1 ?_
            obtain ⟨c19, h⟩ := h
            obtain ⟨c20, h⟩ := h
            refine K_iaload (kdA dt_MX12_readBook 94 rfl) c19 c20.1 c20.2 ?_
            obtain ⟨c21, h⟩ := h
            refine K_iadd (kdA dt_MX12_readBook 95 rfl) c21 ?_
            refine K_istore (ls' := [(0, (2, a0)), (1, (0, a1)), (2, (0, (((10 * ((s2 (s2 a0 12) ((s2 a0 16) + (s2 a0 18))) - 48)) + (s4 (s4 a0 12) ((s4 a0 16) + (s4 a0 18)))) - 48))), (3, (0, x17)), (4, (0, ((60 * (s6 a0 15)) + (s6 (s6 a0 8) (s6 a0 15)))))]) (kdA dt_MX12_readBook 96 rfl) (by decide) rfl ?_
            refine K_aload_n 0 (kdA dt_MX12_readBook 97 rfl) rfl rfl ?_
            refine gf12_32 rfl (kdA dt_MX12_readBook 98 rfl) c1 ?_
            refine K_iload 4 (kdA dt_MX12_readBook 99 rfl) rfl ?_
            refine K_iload_n 1 (kdA dt_MX12_readBook 100 rfl) rfl rfl ?_
            obtain ⟨c22, h⟩ := h
            obtain ⟨c23, h⟩ := h
            refine K_iastore' (kdA dt_MX12_readBook 101 rfl) c22 c23.1 c23.2 (fun s7 es7 => ?_)
            have h := h s7 es7
            refine K_aload_n 0 (kdA dt_MX12_readBook 102 rfl) rfl rfl ?_
            refine gf12_35 rfl (kdA dt_MX12_readBook 103 rfl) c1 ?_
            refine K_iload 4 (kdA dt_MX12_readBook 104 rfl) rfl ?_
            refine K_iload_n 3 (kdA dt_MX12_readBook 105 rfl) rfl rfl ?_
            obtain ⟨c24, h⟩ := h
            obtain ⟨c25, h⟩ := h
            refine K_iastore' (kdA dt_MX12_readBook 106 rfl) c24 c25.1 c25.2 (fun s8 es8 => ?_)
            have h := h s8 es8
            refine K_aload_n 0 (kdA dt_MX12_readBook 107 rfl) rfl rfl ?_
            refine gf12_38 rfl (kdA dt_MX12_readBook 108 rfl) c1 ?_
            refine K_iload 4 (kdA dt_MX12_readBook 109 rfl) rfl ?_
            refine K_iload_n 2 (kdA dt_MX12_readBook 110 rfl) rfl rfl ?_
            obtain ⟨c26, h⟩ := h
            obtain ⟨c27, h⟩ := h
            refine K_iastore' (kdA dt_MX12_readBook 111 rfl) c26 c27.1 c27.2 (fun s9 es9 => ?_)
            have h := h s9 es9
            refine K_aload_n 0 (kdA dt_MX12_readBook 112 rfl) rfl rfl ?_
            refine gf12_29 rfl (kdA dt_MX12_readBook 113 rfl) c1 ?_
            refine K_aload_n 0 (kdA dt_MX12_readBook 114 rfl) rfl rfl ?_
            refine gf12_294 rfl (kdA dt_MX12_readBook 115 rfl) c1 ?_
            refine K_dup2 (kdA dt_MX12_readBook 116 rfl) rfl rfl ?_
            obtain ⟨c28, h⟩ := h
            obtain ⟨c29, h⟩ := h
            refine K_iaload (kdA dt_MX12_readBook 117 rfl) c28 c29.1 c29.2 ?_
            refine K_iconst (kdA dt_MX12_readBook 118 rfl) (by decide) ?_
            obtain ⟨c30, h⟩ := h
            refine K_iadd (kdA dt_MX12_readBook 119 rfl) c30 ?_
            refine K_iastore' (kdA dt_MX12_readBook 120 rfl) c28 c29.1 c29.2 (fun s10 es10 => ?_)
            have h := h s10 es10
            refine K_iload_n 3 (kdA dt_MX12_readBook 121 rfl) rfl rfl ?_
            refine K_istore_n (ls' := [(0, (2, a0)), (1, (0, x17)), (2, (0, (((10 * ((s2 (s2 a0 12) ((s2 a0 16) + (s2 a0 18))) - 48)) + (s4 (s4 a0 12) ((s4 a0 16) + (s4 a0 18)))) - 48))), (3, (0, x17)), (4, (0, ((60 * (s6 a0 15)) + (s6 (s6 a0 8) (s6 a0 15)))))]) (kdA dt_MX12_readBook 122 rfl) rfl (by decide) rfl ?_
            refine K_goto (tgt := 28) (kdA dt_MX12_readBook 123 rfl) rfl ?_
            refine K_pick [0, 1] (ls' := [(0, (2, a0)), (1, (0, x17))]) rfl ?_
            exact h
          · have h := h.2 c
            exact K_return (kdA dt_MX12_readBook 85 rfl) rfl ⟨rfl, rfl, h⟩
      · have h := h.2 c
        refine K_aload_n 0 (kdA dt_MX12_readBook 33 rfl) rfl rfl ?_
        refine K_cVi (c := 12) (as := []) (st := []) (kdA dt_MX12_readBook 34 rfl) rfl cl_MX12_fails lk12_218 rfl rfl (Nat.le_of_ble_eq_true rfl) c1 (Ci.mono h (fun x4 s3 h => ?_))
        refine K_pop (kdA dt_MX12_readBook 35 rfl) rfl ?_
        exact K_return (kdA dt_MX12_readBook 36 rfl) rfl ⟨rfl, rfl, h⟩
    · have h := h.2 c
      refine K_aload_n 0 (kdA dt_MX12_readBook 24 rfl) rfl rfl ?_
      refine gf12_29 rfl (kdA dt_MX12_readBook 25 rfl) c1 ?_
      refine K_aload_n 0 (kdA dt_MX12_readBook 26 rfl) rfl rfl ?_
      refine gf12_294 rfl (kdA dt_MX12_readBook 27 rfl) c1 ?_
      obtain ⟨c3, h⟩ := h
      obtain ⟨c4, h⟩ := h
      refine K_iaload (kdA dt_MX12_readBook 28 rfl) c3 c4.1 c4.2 ?_
      refine K_if_ne (tgt := 212) (kdA dt_MX12_readBook 29 rfl) rfl (fun c => ?_) (fun c => ?_)
      · have h := h.1 c
        exact K_return (kdA dt_MX12_readBook 124 rfl) rfl ⟨rfl, rfl, h⟩
      · have h := h.2 c
        refine K_aload_n 0 (kdA dt_MX12_readBook 30 rfl) rfl rfl ?_
        refine K_cVi (c := 12) (as := []) (st := []) (kdA dt_MX12_readBook 31 rfl) rfl cl_MX12_isDigit lk12_248 rfl rfl (Nat.le_of_ble_eq_true rfl) c1 (Ci.mono h (fun x5 s2 h => ?_))
        refine K_if_ne (tgt := 69) (kdA dt_MX12_readBook 32 rfl) rfl (fun c => ?_) (fun c => ?_)
        · have h := h.1 c
          refine K_aload_n 0 (kdA dt_MX12_readBook 37 rfl) rfl rfl ?_
          refine gf12_41 rfl (kdA dt_MX12_readBook 38 rfl) c1 ?_
          refine K_aload_n 0 (kdA dt_MX12_readBook 39 rfl) rfl rfl ?_
          refine gf12_209 rfl (kdA dt_MX12_readBook 40 rfl) c1 ?_
          refine K_aload_n 0 (kdA dt_MX12_readBook 41 rfl) rfl rfl ?_
          refine gf12_203 rfl (kdA dt_MX12_readBook 42 rfl) c1 ?_
          obtain ⟨c6, h⟩ := h
          refine K_iadd (kdA dt_MX12_readBook 43 rfl) c6 ?_
          obtain ⟨c7, h⟩ := h
          obtain ⟨c8, h⟩ := h
          refine K_baload (kdA dt_MX12_readBook 44 rfl) (Or.inl c7) c8.1 c8.2 ?_
          refine K_bipush (kdA dt_MX12_readBook 45 rfl) (by decide +kernel) ?_
          obtain ⟨c9, h⟩ := h
          refine K_isub (kdA dt_MX12_readBook 46 rfl) c9 ?_
          refine K_istore_n (ls' := [(0, (2, a0)), (1, (0, a1)), (2, (0, ((s2 (s2 a0 12) ((s2 a0 16) + (s2 a0 18))) - 48)))]) (kdA dt_MX12_readBook 47 rfl) rfl (by decide) rfl ?_
          refine K_aload_n 0 (kdA dt_MX12_readBook 48 rfl) rfl rfl ?_
          refine K_dup (kdA dt_MX12_readBook 49 rfl) rfl ?_
          refine gf12_203 rfl (kdA dt_MX12_readBook 50 rfl) c1 ?_
          refine K_iconst (kdA dt_MX12_readBook 51 rfl) (by decide) ?_
          obtain ⟨c10, h⟩ := h
          refine K_iadd (kdA dt_MX12_readBook 52 rfl) c10 ?_
          refine pf12_203 rfl (kdA dt_MX12_readBook 53 rfl) c1 (fun s3 es3 => ?_)
          have h := h s3 es3
          refine K_aload_n 0 (kdA dt_MX12_readBook 54 rfl) rfl rfl ?_
          refine K_cVi (c := 12) (as := []) (st := []) (kdA dt_MX12_readBook 55 rfl) rfl cl_MX12_isDigit lk12_248 rfl rfl (Nat.le_of_ble_eq_true rfl) c1 (Ci.mono h (fun x11 s4 h => ?_))
          refine K_if_eq (tgt := 137) (kdA dt_MX12_readBook 56 rfl) rfl (fun c => ?_) (fun c => ?_)
          · have h := h.1 c
            refine K_aload_n 0 (kdA dt_MX12_readBook 78 rfl) rfl rfl ?_
            refine K_cVi (c := 12) (as := []) (st := []) (kdA dt_MX12_readBook 79 rfl) rfl cl_MX12_readTown lk12_297 rfl rfl (Nat.le_of_ble_eq_true rfl) c1 (Ci.mono h (fun x12 s5 h => ?_))
            refine K_istore_n (ls' := [(0, (2, a0)), (1, (0, a1)), (2, (0, ((s2 (s2 a0 12) ((s2 a0 16) + (s2 a0 18))) - 48))), (3, (0, x12))]) (kdA dt_MX12_readBook 80 rfl) rfl (by decide) rfl ?_
            refine K_aload_n 0 (kdA dt_MX12_readBook 81 rfl) rfl rfl ?_
            refine gf12_212 rfl (kdA dt_MX12_readBook 82 rfl) c1 ?_
            refine K_iconst (kdA dt_MX12_readBook 83 rfl) (by decide) ?_
            refine K_icmp_eq (tgt := 151) (kdA dt_MX12_readBook 84 rfl) rfl (fun c => ?_) (fun c => ?_)
            · have h := h.1 c
              refine K_bipush (kdA dt_MX12_readBook 86 rfl) (by decide +kernel) ?_
              refine K_aload_n 0 (kdA dt_MX12_readBook 87 rfl) rfl rfl ?_
              refine gf12_294 rfl (kdA dt_MX12_readBook 88 rfl) c1 ?_
              obtain ⟨c13, h⟩ := h
              refine K_imul (kdA dt_MX12_readBook 89 rfl) c13 ?_
              refine K_aload_n 0 (kdA dt_MX12_readBook 90 rfl) rfl rfl ?_
              refine gf12_29 rfl (kdA dt_MX12_readBook 91 rfl) c1 ?_
              refine K_aload_n 0 (kdA dt_MX12_readBook 92 rfl) rfl rfl ?_
              refine gf12_294 rfl (kdA dt_MX12_readBook 93 rfl) c1 ?_
              obtain ⟨c14, h⟩ := h
              obtain ⟨c15, h⟩ := h
              refine K_iaload (kdA dt_MX12_readBook 94 rfl) c14 c15.1 c15.2 ?_
              obtain ⟨c16, h⟩ := h
              refine K_iadd (kdA dt_MX12_readBook 95 rfl) c16 ?_
              refine K_istore (ls' := [(0, (2, a0)), (1, (0, a1)), (2, (0, ((s2 (s2 a0 12) ((s2 a0 16) + (s2 a0 18))) - 48))), (3, (0, x12)), (4, (0, ((60 * (s5 a0 15)) + (s5 (s5 a0 8) (s5 a0 15)))))]) (kdA dt_MX12_readBook 96 rfl) (by decide) rfl ?_
              refine K_aload_n 0 (kdA dt_MX12_readBook 97 rfl) rfl rfl ?_
              refine gf12_32 rfl (kdA dt_MX12_readBook 98 rfl) c1 ?_
              refine K_iload 4 (kdA dt_MX12_readBook 99 rfl) rfl ?_
              refine K_iload_n 1 (kdA dt_MX12_readBook 100 rfl) rfl rfl ?_
              obtain ⟨c17, h⟩ := h
              obtain ⟨c18, h⟩ := h
              refine K_iastore' (kdA dt_MX12_readBook 101 rfl) c17 c18.1 c18.2 (fun s6 es6 => ?_)
              have h := h s6 es6
              refine K_aload_n 0 (kdA dt_MX12_readBook 102 rfl) rfl rfl ?_
              refine gf12_35 rfl (kdA dt_MX12_readBook 103 rfl) c1 ?_
              refine K_iload 4 (kdA dt_MX12_readBook 104 rfl) rfl ?_
              refine K_iload_n 3 (kdA dt_MX12_readBook 105 rfl) rfl rfl ?_
              obtain ⟨c19, h⟩ := h
              obtain ⟨c20, h⟩ := h
              refine K_iastore' (kdA dt_MX12_readBook 106 rfl) c19 c20.1 c20.2 (fun s7 es7 => ?_)
              have h := h s7 es7
              refine K_aload_n 0 (kdA dt_MX12_readBook 107 rfl) rfl rfl ?_
              refine gf12_38 rfl (kdA dt_MX12_readBook 108 rfl) c1 ?_
              refine K_iload 4 (kdA dt_MX12_readBook 109 rfl) rfl ?_
              refine K_iload_n 2 (kdA dt_MX12_readBook 110 rfl) rfl rfl ?_
              obtain ⟨c21, h⟩ := h
              obtain ⟨c22, h⟩ := h
              refine K_iastore' (kdA dt_MX12_readBook 111 rfl) c21 c22.1 c22.2 (fun s8 es8 => ?_)
              have h := h s8 es8
              refine K_aload_n 0 (kdA dt_MX12_readBook 112 rfl) rfl rfl ?_
              refine gf12_29 rfl (kdA dt_MX12_readBook 113 rfl) c1 ?_
              refine K_aload_n 0 (kdA dt_MX12_readBook 114 rfl) rfl rfl ?_
              refine gf12_294 rfl (kdA dt_MX12_readBook 115 rfl) c1 ?_
              refine K_dup2 (kdA dt_MX12_readBook 116 rfl) rfl rfl ?_
              obtain ⟨c23, h⟩ := h
              obtain ⟨c24, h⟩ := h
              refine K_iaload (kdA dt_MX12_readBook 117 rfl) c23 c24.1 c24.2 ?_
              refine K_iconst (kdA dt_MX12_readBook 118 rfl) (by decide) ?_
              obtain ⟨c25, h⟩ := h
              refine K_iadd (kdA dt_MX12_readBook 119 rfl) c25 ?_
              refine K_iastore' (kdA dt_MX12_readBook 120 rfl) c23 c24.1 c24.2 (fun s9 es9 => ?_)
              have h := h s9 es9
              refine K_iload_n 3 (kdA dt_MX12_readBook 121 rfl) rfl rfl ?_
              refine K_istore_n (ls' := [(0, (2, a0)), (1, (0, x12)), (2, (0, ((s2 (s2 a0 12) ((s2 a0 16) + (s2 a0 18))) - 48))), (3, (0, x12)), (4, (0, ((60 * (s5 a0 15)) + (s5 (s5 a0 8) (s5 a0 15)))))]) (kdA dt_MX12_readBook 122 rfl) rfl (by decide) rfl ?_
              refine K_goto (tgt := 28) (kdA dt_MX12_readBook 123 rfl) rfl ?_
              refine K_pick [0, 1] (ls' := [(0, (2, a0)), (1, (0, x12))]) rfl ?_
              exact h
            · have h := h.2 c
              exact K_return (kdA dt_MX12_readBook 85 rfl) rfl ⟨rfl, rfl, h⟩
          · have h := h.2 c
            refine K_bipush (kdA dt_MX12_readBook 57 rfl) (by decide +kernel) ?_
            refine K_iload_n 2 (kdA dt_MX12_readBook 58 rfl) rfl rfl ?_
            obtain ⟨c12, h⟩ := h
            refine K_imul (kdA dt_MX12_readBook 59 rfl) c12 ?_
            refine K_aload_n 0 (kdA dt_MX12_readBook 60 rfl) rfl rfl ?_
            refine gf12_41 rfl (kdA dt_MX12_readBook 61 rfl) c1 ?_
            refine K_aload_n 0 (kdA dt_MX12_readBook 62 rfl) rfl rfl ?_
            refine gf12_209 rfl (kdA dt_MX12_readBook 63 rfl) c1 ?_
            refine K_aload_n 0 (kdA dt_MX12_readBook 64 rfl) rfl rfl ?_
            refine gf12_203 rfl (kdA dt_MX12_readBook 65 rfl) c1 ?_
            obtain ⟨c13, h⟩ := h
            refine K_iadd (kdA dt_MX12_readBook 66 rfl) c13 ?_
            obtain ⟨c14, h⟩ := h
            obtain ⟨c15, h⟩ := h
            refine K_baload (kdA dt_MX12_readBook 67 rfl) (Or.inl c14) c15.1 c15.2 ?_
            obtain ⟨c16, h⟩ := h
            refine K_iadd (kdA dt_MX12_readBook 68 rfl) c16 ?_
            refine K_bipush (kdA dt_MX12_readBook 69 rfl) (by decide +kernel) ?_
            obtain ⟨c17, h⟩ := h
            refine K_isub (kdA dt_MX12_readBook 70 rfl) c17 ?_
            refine K_istore_n (ls' := [(0, (2, a0)), (1, (0, a1)), (2, (0, (((10 * ((s2 (s2 a0 12) ((s2 a0 16) + (s2 a0 18))) - 48)) + (s4 (s4 a0 12) ((s4 a0 16) + (s4 a0 18)))) - 48)))]) (kdA dt_MX12_readBook 71 rfl) rfl (by decide) rfl ?_
            refine K_aload_n 0 (kdA dt_MX12_readBook 72 rfl) rfl rfl ?_
            refine K_dup (kdA dt_MX12_readBook 73 rfl) rfl ?_
            refine gf12_203 rfl (kdA dt_MX12_readBook 74 rfl) c1 ?_
            refine K_iconst (kdA dt_MX12_readBook 75 rfl) (by decide) ?_
            obtain ⟨c18, h⟩ := h
            refine K_iadd (kdA dt_MX12_readBook 76 rfl) c18 ?_
            refine pf12_203 rfl (kdA dt_MX12_readBook 77 rfl) c1 (fun s5 es5 => ?_)
            have h := h s5 es5
            refine K_aload_n 0 (kdA dt_MX12_readBook 78 rfl) rfl rfl ?_
            refine K_cVi (c := 12) (as := []) (st := []) (kdA dt_MX12_readBook 79 rfl) rfl cl_MX12_readTown lk12_297 rfl rfl (Nat.le_of_ble_eq_true rfl) c1 (Ci.mono h (fun x19 s6 h => ?_))
            refine K_istore_n (ls' := [(0, (2, a0)), (1, (0, a1)), (2, (0, (((10 * ((s2 (s2 a0 12) ((s2 a0 16) + (s2 a0 18))) - 48)) + (s4 (s4 a0 12) ((s4 a0 16) + (s4 a0 18)))) - 48))), (3, (0, x19))]) (kdA dt_MX12_readBook 80 rfl) rfl (by decide) rfl ?_
            refine K_aload_n 0 (kdA dt_MX12_readBook 81 rfl) rfl rfl ?_
            refine gf12_212 rfl (kdA dt_MX12_readBook 82 rfl) c1 ?_
            refine K_iconst (kdA dt_MX12_readBook 83 rfl) (by decide) ?_
            refine K_icmp_eq (tgt := 151) (kdA dt_MX12_readBook 84 rfl) rfl (fun c => ?_) (fun c => ?_)
            · have h := h.1 c
              refine K_bipush (kdA dt_MX12_readBook 86 rfl) (by decide +kernel) ?_
              refine K_aload_n 0 (kdA dt_MX12_readBook 87 rfl) rfl rfl ?_
              refine gf12_294 rfl (kdA dt_MX12_readBook 88 rfl) c1 ?_
              obtain ⟨c20, h⟩ := h
              refine K_imul (kdA dt_MX12_readBook 89 rfl) c20 ?_
              refine K_aload_n 0 (kdA dt_MX12_readBook 90 rfl) rfl rfl ?_
              refine gf12_29 rfl (kdA dt_MX12_readBook 91 rfl) c1 ?_
              refine K_aload_n 0 (kdA dt_MX12_readBook 92 rfl) rfl rfl ?_
              refine gf12_294 rfl (kdA dt_MX12_readBook 93 rfl) c1 ?_
              obtain ⟨c21, h⟩ := h
              obtain ⟨c22, h⟩ := h
              refine K_iaload (kdA dt_MX12_readBook 94 rfl) c21 c22.1 c22.2 ?_
              obtain ⟨c23, h⟩ := h
              refine K_iadd (kdA dt_MX12_readBook 95 rfl) c23 ?_
              refine K_istore (ls' := [(0, (2, a0)), (1, (0, a1)), (2, (0, (((10 * ((s2 (s2 a0 12) ((s2 a0 16) + (s2 a0 18))) - 48)) + (s4 (s4 a0 12) ((s4 a0 16) + (s4 a0 18)))) - 48))), (3, (0, x19)), (4, (0, ((60 * (s6 a0 15)) + (s6 (s6 a0 8) (s6 a0 15)))))]) (kdA dt_MX12_readBook 96 rfl) (by decide) rfl ?_
              refine K_aload_n 0 (kdA dt_MX12_readBook 97 rfl) rfl rfl ?_
              refine gf12_32 rfl (kdA dt_MX12_readBook 98 rfl) c1 ?_
              refine K_iload 4 (kdA dt_MX12_readBook 99 rfl) rfl ?_
              refine K_iload_n 1 (kdA dt_MX12_readBook 100 rfl) rfl rfl ?_
              obtain ⟨c24, h⟩ := h
              obtain ⟨c25, h⟩ := h
              refine K_iastore' (kdA dt_MX12_readBook 101 rfl) c24 c25.1 c25.2 (fun s7 es7 => ?_)
              have h := h s7 es7
              refine K_aload_n 0 (kdA dt_MX12_readBook 102 rfl) rfl rfl ?_
              refine gf12_35 rfl (kdA dt_MX12_readBook 103 rfl) c1 ?_
              refine K_iload 4 (kdA dt_MX12_readBook 104 rfl) rfl ?_
              refine K_iload_n 3 (kdA dt_MX12_readBook 105 rfl) rfl rfl ?_
              obtain ⟨c26, h⟩ := h
              obtain ⟨c27, h⟩ := h
              refine K_iastore' (kdA dt_MX12_readBook 106 rfl) c26 c27.1 c27.2 (fun s8 es8 => ?_)
              have h := h s8 es8
              refine K_aload_n 0 (kdA dt_MX12_readBook 107 rfl) rfl rfl ?_
              refine gf12_38 rfl (kdA dt_MX12_readBook 108 rfl) c1 ?_
              refine K_iload 4 (kdA dt_MX12_readBook 109 rfl) rfl ?_
              refine K_iload_n 2 (kdA dt_MX12_readBook 110 rfl) rfl rfl ?_
              obtain ⟨c28, h⟩ := h
              obtain ⟨c29, h⟩ := h
              refine K_iastore' (kdA dt_MX12_readBook 111 rfl) c28 c29.1 c29.2 (fun s9 es9 => ?_)
              have h := h s9 es9
              refine K_aload_n 0 (kdA dt_MX12_readBook 112 rfl) rfl rfl ?_
              refine gf12_29 rfl (kdA dt_MX12_readBook 113 rfl) c1 ?_
              refine K_aload_n 0 (kdA dt_MX12_readBook 114 rfl) rfl rfl ?_
              refine gf12_294 rfl (kdA dt_MX12_readBook 115 rfl) c1 ?_
              refine K_dup2 (kdA dt_MX12_readBook 116 rfl) rfl rfl ?_
              obtain ⟨c30, h⟩ := h
              obtain ⟨c31, h⟩ := h
              refine K_iaload (kdA dt_MX12_readBook 117 rfl) c30 c31.1 c31.2 ?_
              refine K_iconst (kdA dt_MX12_readBook 118 rfl) (by decide) ?_
              obtain ⟨c32, h⟩ := h
              refine K_iadd (kdA dt_MX12_readBook 119 rfl) c32 ?_
              refine K_iastore' (kdA dt_MX12_readBook 120 rfl) c30 c31.1 c31.2 (fun s10 es10 => ?_)
              have h := h s10 es10
              refine K_iload_n 3 (kdA dt_MX12_readBook 121 rfl) rfl rfl ?_
              refine K_istore_n (ls' := [(0, (2, a0)), (1, (0, x19)), (2, (0, (((10 * ((s2 (s2 a0 12) ((s2 a0 16) + (s2 a0 18))) - 48)) + (s4 (s4 a0 12) ((s4 a0 16) + (s4 a0 18)))) - 48))), (3, (0, x19)), (4, (0, ((60 * (s6 a0 15)) + (s6 (s6 a0 8) (s6 a0 15)))))]) (kdA dt_MX12_readBook 122 rfl) rfl (by decide) rfl ?_
              refine K_goto (tgt := 28) (kdA dt_MX12_readBook 123 rfl) rfl ?_
              refine K_pick [0, 1] (ls' := [(0, (2, a0)), (1, (0, x19))]) rfl ?_
              exact h
            · have h := h.2 c
              exact K_return (kdA dt_MX12_readBook 85 rfl) rfl ⟨rfl, rfl, h⟩
        · have h := h.2 c
          refine K_aload_n 0 (kdA dt_MX12_readBook 33 rfl) rfl rfl ?_
          refine K_cVi (c := 12) (as := []) (st := []) (kdA dt_MX12_readBook 34 rfl) rfl cl_MX12_fails lk12_218 rfl rfl (Nat.le_of_ble_eq_true rfl) c1 (Ci.mono h (fun x6 s3 h => ?_))
          refine K_pop (kdA dt_MX12_readBook 35 rfl) rfl ?_
          exact K_return (kdA dt_MX12_readBook 36 rfl) rfl ⟨rfl, rfl, h⟩
theorem EX12_readBook {d n : Nat} {Q : kS → Prop} {a0 : Int} {σ : kS} (h : kokw n σ → LX12_readBook_0 d n Q a0 σ) : Cv (d + 1) MX12_readBook [(2, a0)] n σ Q := Tri_of (by decide +kernel) (Nat.le_of_ble_eq_true rfl) (fun hk hw => h hw)

def LX12_readTown_0 (d n : Nat) (Q : Int → kS → Prop) (a0 : Int) (σ : kS) : Prop := K (d + 1) MX12_readTown (kPi n Q) (0, 0) 0 [(0, (2, a0))] [] n σ
theorem SX12_readTown_0 {d n : Nat} {Q : Int → kS → Prop} {a0 : Int} {σ : kS} (h : isO 12 n a0 ∧ (Ci d MX12_look [(2, a0)] n σ (fun x2 s1 => (x2 < 97 → Ci d MX12_fails [(2, a0)] n s1 (fun x3 s2 => Q (-1) s2)) ∧ (¬ x2 < 97 → (-2147483648 ≤ (97 + (s1 a0 3)) ∧ (97 + (s1 a0 3)) ≤ 2147483647) ∧ ((x2 < (97 + (s1 a0 3)) → (-2147483648 ≤ ((s1 a0 18) + 1) ∧ ((s1 a0 18) + 1) ≤ 2147483647) ∧ (∀ s2, s2 = kst s1 a0 18 ((s1 a0 18) + 1) → (-2147483648 ≤ (x2 - 97) ∧ (x2 - 97) ≤ 2147483647) ∧ (Q (x2 - 97) s2))) ∧ (¬ x2 < (97 + (s1 a0 3)) → Ci d MX12_fails [(2, a0)] n s1 (fun x4 s2 => Q (-1) s2))))))) : LX12_readTown_0 d n Q a0 σ := by
  unfold LX12_readTown_0
  refine K_aload_n 0 (kdA dt_MX12_readTown 0 rfl) rfl rfl ?_
  obtain ⟨c1, h⟩ := h
  refine K_cVi (c := 12) (as := []) (st := []) (kdA dt_MX12_readTown 1 rfl) rfl cl_MX12_look lk12_222 rfl rfl (Nat.le_of_ble_eq_true rfl) c1 (Ci.mono h (fun x2 s1 h => ?_))
  refine K_istore_n (ls' := [(0, (2, a0)), (1, (0, x2))]) (kdA dt_MX12_readTown 2 rfl) rfl (by decide) rfl ?_
  refine K_iload_n 1 (kdA dt_MX12_readTown 3 rfl) rfl rfl ?_
  refine K_bipush (kdA dt_MX12_readTown 4 rfl) (by decide +kernel) ?_
  refine K_icmp_lt (tgt := 22) (kdA dt_MX12_readTown 5 rfl) rfl (fun c => ?_) (fun c => ?_)
  · have h := h.1 c
    refine K_aload_n 0 (kdA dt_MX12_readTown 12 rfl) rfl rfl ?_
    refine K_cVi (c := 12) (as := []) (st := []) (kdA dt_MX12_readTown 13 rfl) rfl cl_MX12_fails lk12_218 rfl rfl (Nat.le_of_ble_eq_true rfl) c1 (Ci.mono h (fun x3 s2 h => ?_))
    refine K_pop (kdA dt_MX12_readTown 14 rfl) rfl ?_
    refine K_iconst (kdA dt_MX12_readTown 15 rfl) (by decide) ?_
    exact K_ireturn (kdA dt_MX12_readTown 16 rfl) rfl ⟨rfl, _, rfl, h⟩
  · have h := h.2 c
    refine K_iload_n 1 (kdA dt_MX12_readTown 6 rfl) rfl rfl ?_
    refine K_bipush (kdA dt_MX12_readTown 7 rfl) (by decide +kernel) ?_
    refine K_aload_n 0 (kdA dt_MX12_readTown 8 rfl) rfl rfl ?_
    refine gf12_165 rfl (kdA dt_MX12_readTown 9 rfl) c1 ?_
    obtain ⟨c3, h⟩ := h
    refine K_iadd (kdA dt_MX12_readTown 10 rfl) c3 ?_
    refine K_icmp_lt (tgt := 29) (kdA dt_MX12_readTown 11 rfl) rfl (fun c => ?_) (fun c => ?_)
    · have h := h.1 c
      refine K_aload_n 0 (kdA dt_MX12_readTown 17 rfl) rfl rfl ?_
      refine K_dup (kdA dt_MX12_readTown 18 rfl) rfl ?_
      refine gf12_203 rfl (kdA dt_MX12_readTown 19 rfl) c1 ?_
      refine K_iconst (kdA dt_MX12_readTown 20 rfl) (by decide) ?_
      obtain ⟨c4, h⟩ := h
      refine K_iadd (kdA dt_MX12_readTown 21 rfl) c4 ?_
      refine pf12_203 rfl (kdA dt_MX12_readTown 22 rfl) c1 (fun s2 es2 => ?_)
      have h := h s2 es2
      refine K_iload_n 1 (kdA dt_MX12_readTown 23 rfl) rfl rfl ?_
      refine K_bipush (kdA dt_MX12_readTown 24 rfl) (by decide +kernel) ?_
      obtain ⟨c5, h⟩ := h
      refine K_isub (kdA dt_MX12_readTown 25 rfl) c5 ?_
      exact K_ireturn (kdA dt_MX12_readTown 26 rfl) rfl ⟨rfl, _, rfl, h⟩
    · have h := h.2 c
      refine K_aload_n 0 (kdA dt_MX12_readTown 12 rfl) rfl rfl ?_
      refine K_cVi (c := 12) (as := []) (st := []) (kdA dt_MX12_readTown 13 rfl) rfl cl_MX12_fails lk12_218 rfl rfl (Nat.le_of_ble_eq_true rfl) c1 (Ci.mono h (fun x4 s2 h => ?_))
      refine K_pop (kdA dt_MX12_readTown 14 rfl) rfl ?_
      refine K_iconst (kdA dt_MX12_readTown 15 rfl) (by decide) ?_
      exact K_ireturn (kdA dt_MX12_readTown 16 rfl) rfl ⟨rfl, _, rfl, h⟩
theorem EX12_readTown {d n : Nat} {Q : Int → kS → Prop} {a0 : Int} {σ : kS} (h : kokw n σ → LX12_readTown_0 d n Q a0 σ) : Ci (d + 1) MX12_readTown [(2, a0)] n σ Q := Tri_of (by decide +kernel) (Nat.le_of_ble_eq_true rfl) (fun hk hw => h hw)

def LX12_sees_0 (d n : Nat) (Q : Int → kS → Prop) (a0 : Int) (a1 : Int) (a2 : Int) (σ : kS) : Prop := K (d + 1) MX12_sees (kPi n Q) (0, 0) 0 [(0, (2, a0)), (1, (0, a1)), (2, (0, a2))] [] n σ
theorem SX12_sees_0 {d n : Nat} {Q : Int → kS → Prop} {a0 a1 a2 : Int} {σ : kS} (h : isO 12 n a0 ∧ (∀ s1, s1 = kst σ a0 0 0 → Ci d MX12_isCell [(0, a1)] n s1 (fun x2 s2 => (x2 = 0 → Q (-1) s2) ∧ (¬ x2 = 0 → Ci d MX12_isCell [(0, a2)] n s2 (fun x3 s3 => (x3 = 0 → Q (-1) s3) ∧ (¬ x3 = 0 → (¬ a1 = a2 → Ci d MX12_seesIt [(2, a0), (0, a1), (0, a2)] n s3 (fun x4 s4 => (x4 = 0 → Q 0 s4) ∧ (¬ x4 = 0 → Q 1 s4))) ∧ (¬ (¬ a1 = a2) → Q (-1) s3))))))) : LX12_sees_0 d n Q a0 a1 a2 σ := by
  unfold LX12_sees_0
  refine K_aload_n 0 (kdA dt_MX12_sees 0 rfl) rfl rfl ?_
  refine K_iconst (kdA dt_MX12_sees 1 rfl) (by decide) ?_
  obtain ⟨c1, h⟩ := h
  refine pf12_149 rfl (kdA dt_MX12_sees 2 rfl) c1 (fun s1 es1 => ?_)
  have h := h s1 es1
  refine K_iload_n 1 (kdA dt_MX12_sees 3 rfl) rfl rfl ?_
  refine K_cSi (as := [(0, a1)]) (st := []) (kdA dt_MX12_sees 4 rfl) cl_MX12_isCell lk12_161 rfl rfl (Nat.le_of_ble_eq_true rfl) (Ci.mono h (fun x2 s2 h => ?_))
  refine K_if_eq (tgt := 24) (kdA dt_MX12_sees 5 rfl) rfl (fun c => ?_) (fun c => ?_)
  · have h := h.1 c
    refine K_iconst (kdA dt_MX12_sees 12 rfl) (by decide) ?_
    refine K_goto (tgt := 42) (kdA dt_MX12_sees 13 rfl) rfl ?_
    exact K_ireturn (kdA dt_MX12_sees 22 rfl) rfl ⟨rfl, _, rfl, h⟩
  · have h := h.2 c
    refine K_iload_n 2 (kdA dt_MX12_sees 6 rfl) rfl rfl ?_
    refine K_cSi (as := [(0, a2)]) (st := []) (kdA dt_MX12_sees 7 rfl) cl_MX12_isCell lk12_161 rfl rfl (Nat.le_of_ble_eq_true rfl) (Ci.mono h (fun x3 s3 h => ?_))
    refine K_if_eq (tgt := 24) (kdA dt_MX12_sees 8 rfl) rfl (fun c => ?_) (fun c => ?_)
    · have h := h.1 c
      refine K_iconst (kdA dt_MX12_sees 12 rfl) (by decide) ?_
      refine K_goto (tgt := 42) (kdA dt_MX12_sees 13 rfl) rfl ?_
      exact K_ireturn (kdA dt_MX12_sees 22 rfl) rfl ⟨rfl, _, rfl, h⟩
    · have h := h.2 c
      refine K_iload_n 1 (kdA dt_MX12_sees 9 rfl) rfl rfl ?_
      refine K_iload_n 2 (kdA dt_MX12_sees 10 rfl) rfl rfl ?_
      refine K_icmp_ne (tgt := 28) (kdA dt_MX12_sees 11 rfl) rfl (fun c => ?_) (fun c => ?_)
      · have h := h.1 c
        refine K_aload_n 0 (kdA dt_MX12_sees 14 rfl) rfl rfl ?_
        refine K_iload_n 1 (kdA dt_MX12_sees 15 rfl) rfl rfl ?_
        refine K_iload_n 2 (kdA dt_MX12_sees 16 rfl) rfl rfl ?_
        refine K_cVi (c := 12) (as := [(0, a1), (0, a2)]) (st := []) (kdA dt_MX12_sees 17 rfl) rfl cl_MX12_seesIt lk12_362 rfl rfl (Nat.le_of_ble_eq_true rfl) c1 (Ci.mono h (fun x4 s4 h => ?_))
        refine K_if_eq (tgt := 41) (kdA dt_MX12_sees 18 rfl) rfl (fun c => ?_) (fun c => ?_)
        · have h := h.1 c
          refine K_iconst (kdA dt_MX12_sees 21 rfl) (by decide) ?_
          exact K_ireturn (kdA dt_MX12_sees 22 rfl) rfl ⟨rfl, _, rfl, h⟩
        · have h := h.2 c
          refine K_iconst (kdA dt_MX12_sees 19 rfl) (by decide) ?_
          refine K_goto (tgt := 42) (kdA dt_MX12_sees 20 rfl) rfl ?_
          exact K_ireturn (kdA dt_MX12_sees 22 rfl) rfl ⟨rfl, _, rfl, h⟩
      · have h := h.2 c
        refine K_iconst (kdA dt_MX12_sees 12 rfl) (by decide) ?_
        refine K_goto (tgt := 42) (kdA dt_MX12_sees 13 rfl) rfl ?_
        exact K_ireturn (kdA dt_MX12_sees 22 rfl) rfl ⟨rfl, _, rfl, h⟩
theorem EX12_sees {d n : Nat} {Q : Int → kS → Prop} {a0 a1 a2 : Int} {σ : kS} (h : (-2147483648 ≤ a1 ∧ a1 ≤ 2147483647) → (-2147483648 ≤ a2 ∧ a2 ≤ 2147483647) → kokw n σ → LX12_sees_0 d n Q a0 a1 a2 σ) : Ci (d + 1) MX12_sees [(2, a0), (0, a1), (0, a2)] n σ Q := Tri_of (by decide +kernel) (Nat.le_of_ble_eq_true rfl) (fun hk hw => h (hk (0, a1) (List.mem_of_getElem? (i := 1) rfl)) (hk (0, a2) (List.mem_of_getElem? (i := 2) rfl)) hw)

def LX12_seesIt_0 (d n : Nat) (Q : Int → kS → Prop) (a0 : Int) (a1 : Int) (a2 : Int) (σ : kS) : Prop := K (d + 1) MX12_seesIt (kPi n Q) (0, 0) 0 [(0, (2, a0)), (1, (0, a1)), (2, (0, a2))] [] n σ
def LX12_seesIt_9 (d n : Nat) (Q : Int → kS → Prop) (a0 : Int) (a1 : Int) (a2 : Int) (a3 : Int) (a4 : Int) (σ : kS) : Prop := K (d + 1) MX12_seesIt (kPi n Q) (0, 0) 9 [(0, (2, a0)), (1, (0, a1)), (2, (0, a2)), (3, (0, a3)), (4, (0, a4))] [] n σ
theorem SX12_seesIt_0 {d n : Nat} {Q : Int → kS → Prop} {a0 a1 a2 : Int} {σ : kS} (h : Ci d MX12_apart [(0, a1), (0, a2)] n σ (fun x1 s1 => LX12_seesIt_9 d n Q a0 a1 a2 x1 1 s1)) : LX12_seesIt_0 d n Q a0 a1 a2 σ := by
  unfold LX12_seesIt_0
  refine K_iload_n 1 (kdA dt_MX12_seesIt 0 rfl) rfl rfl ?_
  refine K_iload_n 2 (kdA dt_MX12_seesIt 1 rfl) rfl rfl ?_
  refine K_cSi (as := [(0, a1), (0, a2)]) (st := []) (kdA dt_MX12_seesIt 2 rfl) cl_MX12_apart lk12_352 rfl rfl (Nat.le_of_ble_eq_true rfl) (Ci.mono h (fun x1 s1 h => ?_))
  refine K_istore_n (ls' := [(0, (2, a0)), (1, (0, a1)), (2, (0, a2)), (3, (0, x1))]) (kdA dt_MX12_seesIt 3 rfl) rfl (by decide) rfl ?_
  refine K_iconst (kdA dt_MX12_seesIt 4 rfl) (by decide) ?_
  refine K_istore (ls' := [(0, (2, a0)), (1, (0, a1)), (2, (0, a2)), (3, (0, x1)), (4, (0, 1))]) (kdA dt_MX12_seesIt 5 rfl) (by decide) rfl ?_
  exact h
theorem SX12_seesIt_9 {d n : Nat} {Q : Int → kS → Prop} {a0 a1 a2 a3 a4 : Int} {σ : kS} (h : (a3 ≤ a4 → Q 1 σ) ∧ (¬ a3 ≤ a4 → isO 12 n a0 ∧ (Ci d MX12_onLine [(0, a1), (0, a2), (0, a4)] n σ (fun x2 s1 => isA 20 n (σ a0 1) ∧ (((0 : Int) ≤ x2 ∧ x2 < klen (σ a0 1)) ∧ ((-2147483648 ≤ ((s1 (σ a0 1) x2) * a3) ∧ ((s1 (σ a0 1) x2) * a3) ≤ 2147483647) ∧ (isA 20 n (s1 a0 1) ∧ (((0 : Int) ≤ a1 ∧ a1 < klen (s1 a0 1)) ∧ ((-2147483648 ≤ (a3 - a4) ∧ (a3 - a4) ≤ 2147483647) ∧ ((-2147483648 ≤ ((s1 (s1 a0 1) a1) * (a3 - a4)) ∧ ((s1 (s1 a0 1) a1) * (a3 - a4)) ≤ 2147483647) ∧ (((0 : Int) ≤ a2 ∧ a2 < klen (s1 a0 1)) ∧ ((-2147483648 ≤ ((s1 (s1 a0 1) a2) * a4) ∧ ((s1 (s1 a0 1) a2) * a4) ≤ 2147483647) ∧ ((-2147483648 ≤ (((s1 (s1 a0 1) a1) * (a3 - a4)) + ((s1 (s1 a0 1) a2) * a4)) ∧ (((s1 (s1 a0 1) a1) * (a3 - a4)) + ((s1 (s1 a0 1) a2) * a4)) ≤ 2147483647) ∧ ((((s1 (σ a0 1) x2) * a3) ≤ (((s1 (s1 a0 1) a1) * (a3 - a4)) + ((s1 (s1 a0 1) a2) * a4)) → (-2147483648 ≤ (a4 + 1) ∧ (a4 + 1) ≤ 2147483647) ∧ (LX12_seesIt_9 d n Q a0 a1 a2 a3 (a4 + 1) s1)) ∧ (¬ ((s1 (σ a0 1) x2) * a3) ≤ (((s1 (s1 a0 1) a1) * (a3 - a4)) + ((s1 (s1 a0 1) a2) * a4)) → Q 0 s1))))))))))))))) : LX12_seesIt_9 d n Q a0 a1 a2 a3 a4 σ := by
  unfold LX12_seesIt_9
  refine K_iload 4 (kdA dt_MX12_seesIt 6 rfl) rfl ?_
  refine K_iload_n 3 (kdA dt_MX12_seesIt 7 rfl) rfl rfl ?_
  refine K_icmp_ge (tgt := 61) (kdA dt_MX12_seesIt 8 rfl) rfl (fun c => ?_) (fun c => ?_)
  · have h := h.1 c
    refine K_iconst (kdA dt_MX12_seesIt 38 rfl) (by decide) ?_
    exact K_zreturn (kdA dt_MX12_seesIt 39 rfl) rfl (Or.inr rfl) ⟨rfl, _, rfl, h⟩
  · have h := h.2 c
    refine K_aload_n 0 (kdA dt_MX12_seesIt 9 rfl) rfl rfl ?_
    obtain ⟨c1, h⟩ := h
    refine gf12_9 rfl (kdA dt_MX12_seesIt 10 rfl) c1 ?_
    refine K_iload_n 1 (kdA dt_MX12_seesIt 11 rfl) rfl rfl ?_
    refine K_iload_n 2 (kdA dt_MX12_seesIt 12 rfl) rfl rfl ?_
    refine K_iload 4 (kdA dt_MX12_seesIt 13 rfl) rfl ?_
    refine K_cSi (as := [(0, a1), (0, a2), (0, a4)]) (st := [(2, (σ a0 1))]) (kdA dt_MX12_seesIt 14 rfl) cl_MX12_onLine lk12_358 rfl rfl (Nat.le_of_ble_eq_true rfl) (Ci.mono h (fun x2 s1 h => ?_))
    obtain ⟨c3, h⟩ := h
    obtain ⟨c4, h⟩ := h
    refine K_iaload (kdA dt_MX12_seesIt 15 rfl) c3 c4.1 c4.2 ?_
    refine K_iload_n 3 (kdA dt_MX12_seesIt 16 rfl) rfl rfl ?_
    obtain ⟨c5, h⟩ := h
    refine K_imul (kdA dt_MX12_seesIt 17 rfl) c5 ?_
    refine K_aload_n 0 (kdA dt_MX12_seesIt 18 rfl) rfl rfl ?_
    refine gf12_9 rfl (kdA dt_MX12_seesIt 19 rfl) c1 ?_
    refine K_iload_n 1 (kdA dt_MX12_seesIt 20 rfl) rfl rfl ?_
    obtain ⟨c6, h⟩ := h
    obtain ⟨c7, h⟩ := h
    refine K_iaload (kdA dt_MX12_seesIt 21 rfl) c6 c7.1 c7.2 ?_
    refine K_iload_n 3 (kdA dt_MX12_seesIt 22 rfl) rfl rfl ?_
    refine K_iload 4 (kdA dt_MX12_seesIt 23 rfl) rfl ?_
    obtain ⟨c8, h⟩ := h
    refine K_isub (kdA dt_MX12_seesIt 24 rfl) c8 ?_
    obtain ⟨c9, h⟩ := h
    refine K_imul (kdA dt_MX12_seesIt 25 rfl) c9 ?_
    refine K_aload_n 0 (kdA dt_MX12_seesIt 26 rfl) rfl rfl ?_
    refine gf12_9 rfl (kdA dt_MX12_seesIt 27 rfl) c1 ?_
    refine K_iload_n 2 (kdA dt_MX12_seesIt 28 rfl) rfl rfl ?_
    obtain ⟨c10, h⟩ := h
    refine K_iaload (kdA dt_MX12_seesIt 29 rfl) c6 c10.1 c10.2 ?_
    refine K_iload 4 (kdA dt_MX12_seesIt 30 rfl) rfl ?_
    obtain ⟨c11, h⟩ := h
    refine K_imul (kdA dt_MX12_seesIt 31 rfl) c11 ?_
    obtain ⟨c12, h⟩ := h
    refine K_iadd (kdA dt_MX12_seesIt 32 rfl) c12 ?_
    refine K_icmp_le (tgt := 55) (kdA dt_MX12_seesIt 33 rfl) rfl (fun c => ?_) (fun c => ?_)
    · have h := h.1 c
      obtain ⟨c13, h⟩ := h
      refine K_iinc (ls' := [(0, (2, a0)), (1, (0, a1)), (2, (0, a2)), (3, (0, a3)), (4, (0, (a4 + 1)))]) 4 (kdA dt_MX12_seesIt 36 rfl) rfl c13 (by decide) rfl ?_
      refine K_goto (tgt := 9) (kdA dt_MX12_seesIt 37 rfl) rfl ?_
      exact h
    · have h := h.2 c
      refine K_iconst (kdA dt_MX12_seesIt 34 rfl) (by decide) ?_
      exact K_zreturn (kdA dt_MX12_seesIt 35 rfl) rfl (Or.inl rfl) ⟨rfl, _, rfl, h⟩
theorem EX12_seesIt {d n : Nat} {Q : Int → kS → Prop} {a0 a1 a2 : Int} {σ : kS} (h : (-2147483648 ≤ a1 ∧ a1 ≤ 2147483647) → (-2147483648 ≤ a2 ∧ a2 ≤ 2147483647) → kokw n σ → LX12_seesIt_0 d n Q a0 a1 a2 σ) : Ci (d + 1) MX12_seesIt [(2, a0), (0, a1), (0, a2)] n σ Q := Tri_of (by decide +kernel) (Nat.le_of_ble_eq_true rfl) (fun hk hw => h (hk (0, a1) (List.mem_of_getElem? (i := 1) rfl)) (hk (0, a2) (List.mem_of_getElem? (i := 2) rfl)) hw)

def LX12_sights_0 (d n : Nat) (Q : Int → kS → Prop) (a0 : Int) (a1 : Int) (a2 : Int) (a3 : Int) (a4 : Int) (σ : kS) : Prop := K (d + 1) MX12_sights (kPi n Q) (0, 0) 0 [(0, (2, a0)), (1, (0, a1)), (2, (0, a2)), (3, (0, a3)), (4, (0, a4))] [] n σ
def LX12_sights_73 (d n : Nat) (Q : Int → kS → Prop) (a0 : Int) (a3 : Int) (a4 : Int) (a5 : Int) (a6 : Int) (σ : kS) : Prop := K (d + 1) MX12_sights (kPi n Q) (0, 0) 73 [(0, (2, a0)), (3, (0, a3)), (4, (0, a4)), (5, (0, a5)), (6, (0, a6))] [] n σ
theorem SX12_sights_0 {d n : Nat} {Q : Int → kS → Prop} {a0 a1 a2 a3 a4 : Int} {σ : kS} (h : isO 12 n a0 ∧ (∀ s1, s1 = kst σ a0 0 0 → Ci d MX12_isCell [(0, a1)] n s1 (fun x2 s2 => (x2 = 0 → Q (-1) s2) ∧ (¬ x2 = 0 → Ci d MX12_isCell [(0, a2)] n s2 (fun x3 s3 => (x3 = 0 → Q (-1) s3) ∧ (¬ x3 = 0 → Ci d MX12_isIn [(0, a3), (0, 1), (0, 11)] n s3 (fun x4 s4 => (¬ x4 = 0 → Cv d MX12_layHops [(2, a0), (0, a2), (0, a3)] n s4 (fun s5 => (¬ a4 = (-1) → isA 20 n (s5 a0 31) ∧ (((0 : Int) ≤ a1 ∧ a1 < klen (s5 a0 31)) ∧ (Ci d MX12_isIn [(0, a4), (0, 0), (0, (s5 (s5 a0 31) a1))] n s5 (fun x8 s6 => (¬ x8 = 0 → LX12_sights_73 d n Q a0 a3 a4 a1 0 s6) ∧ (¬ (¬ x8 = 0) → Q (-1) s6))))) ∧ (¬ (¬ a4 = (-1)) → isA 20 n (s5 a0 31) ∧ (((0 : Int) ≤ a1 ∧ a1 < klen (s5 a0 31)) ∧ (Q (s5 (s5 a0 31) a1) s5))))) ∧ (¬ (¬ x4 = 0) → Q (-1) s4)))))))) : LX12_sights_0 d n Q a0 a1 a2 a3 a4 σ := by
  unfold LX12_sights_0
  refine K_aload_n 0 (kdA dt_MX12_sights 0 rfl) rfl rfl ?_
  refine K_iconst (kdA dt_MX12_sights 1 rfl) (by decide) ?_
  obtain ⟨c1, h⟩ := h
  refine pf12_149 rfl (kdA dt_MX12_sights 2 rfl) c1 (fun s1 es1 => ?_)
  have h := h s1 es1
  refine K_iload_n 1 (kdA dt_MX12_sights 3 rfl) rfl rfl ?_
  refine K_cSi (as := [(0, a1)]) (st := []) (kdA dt_MX12_sights 4 rfl) cl_MX12_isCell lk12_161 rfl rfl (Nat.le_of_ble_eq_true rfl) (Ci.mono h (fun x2 s2 h => ?_))
  refine K_if_eq (tgt := 29) (kdA dt_MX12_sights 5 rfl) rfl (fun c => ?_) (fun c => ?_)
  · have h := h.1 c
    refine K_iconst (kdA dt_MX12_sights 14 rfl) (by decide) ?_
    exact K_ireturn (kdA dt_MX12_sights 15 rfl) rfl ⟨rfl, _, rfl, h⟩
  · have h := h.2 c
    refine K_iload_n 2 (kdA dt_MX12_sights 6 rfl) rfl rfl ?_
    refine K_cSi (as := [(0, a2)]) (st := []) (kdA dt_MX12_sights 7 rfl) cl_MX12_isCell lk12_161 rfl rfl (Nat.le_of_ble_eq_true rfl) (Ci.mono h (fun x3 s3 h => ?_))
    refine K_if_eq (tgt := 29) (kdA dt_MX12_sights 8 rfl) rfl (fun c => ?_) (fun c => ?_)
    · have h := h.1 c
      refine K_iconst (kdA dt_MX12_sights 14 rfl) (by decide) ?_
      exact K_ireturn (kdA dt_MX12_sights 15 rfl) rfl ⟨rfl, _, rfl, h⟩
    · have h := h.2 c
      refine K_iload_n 3 (kdA dt_MX12_sights 9 rfl) rfl rfl ?_
      refine K_iconst (kdA dt_MX12_sights 10 rfl) (by decide) ?_
      refine K_bipush (kdA dt_MX12_sights 11 rfl) (by decide +kernel) ?_
      refine K_cSi (as := [(0, a3), (0, 1), (0, 11)]) (st := []) (kdA dt_MX12_sights 12 rfl) cl_MX12_isIn lk12_153 rfl rfl (Nat.le_of_ble_eq_true rfl) (Ci.mono h (fun x4 s4 h => ?_))
      refine K_if_ne (tgt := 31) (kdA dt_MX12_sights 13 rfl) rfl (fun c => ?_) (fun c => ?_)
      · have h := h.1 c
        refine K_aload_n 0 (kdA dt_MX12_sights 16 rfl) rfl rfl ?_
        refine K_iload_n 2 (kdA dt_MX12_sights 17 rfl) rfl rfl ?_
        refine K_iload_n 3 (kdA dt_MX12_sights 18 rfl) rfl rfl ?_
        refine K_cVv (c := 12) (as := [(0, a2), (0, a3)]) (st := []) (kdA dt_MX12_sights 19 rfl) rfl cl_MX12_layHops lk12_365 rfl rfl (Nat.le_of_ble_eq_true rfl) c1 (Cv.mono h (fun s5 h => ?_))
        refine K_iload 4 (kdA dt_MX12_sights 20 rfl) rfl ?_
        refine K_iconst (kdA dt_MX12_sights 21 rfl) (by decide) ?_
        refine K_icmp_ne (tgt := 50) (kdA dt_MX12_sights 22 rfl) rfl (fun c => ?_) (fun c => ?_)
        · have h := h.1 c
          refine K_iload 4 (kdA dt_MX12_sights 28 rfl) rfl ?_
          refine K_iconst (kdA dt_MX12_sights 29 rfl) (by decide) ?_
          refine K_aload_n 0 (kdA dt_MX12_sights 30 rfl) rfl rfl ?_
          refine gf12_67 rfl (kdA dt_MX12_sights 31 rfl) c1 ?_
          refine K_iload_n 1 (kdA dt_MX12_sights 32 rfl) rfl rfl ?_
          obtain ⟨c6, h⟩ := h
          obtain ⟨c7, h⟩ := h
          refine K_iaload (kdA dt_MX12_sights 33 rfl) c6 c7.1 c7.2 ?_
          refine K_cSi (as := [(0, a4), (0, 0), (0, (s5 (s5 a0 31) a1))]) (st := []) (kdA dt_MX12_sights 34 rfl) cl_MX12_isIn lk12_153 rfl rfl (Nat.le_of_ble_eq_true rfl) (Ci.mono h (fun x8 s6 h => ?_))
          refine K_if_ne (tgt := 67) (kdA dt_MX12_sights 35 rfl) rfl (fun c => ?_) (fun c => ?_)
          · have h := h.1 c
            refine K_iload_n 1 (kdA dt_MX12_sights 38 rfl) rfl rfl ?_
            refine K_istore (ls' := [(0, (2, a0)), (1, (0, a1)), (2, (0, a2)), (3, (0, a3)), (4, (0, a4)), (5, (0, a1))]) (kdA dt_MX12_sights 39 rfl) (by decide) rfl ?_
            refine K_iconst (kdA dt_MX12_sights 40 rfl) (by decide) ?_
            refine K_istore (ls' := [(0, (2, a0)), (1, (0, a1)), (2, (0, a2)), (3, (0, a3)), (4, (0, a4)), (5, (0, a1)), (6, (0, 0))]) (kdA dt_MX12_sights 41 rfl) (by decide) rfl ?_
            refine K_pick [0, 3, 4, 5, 6] (ls' := [(0, (2, a0)), (3, (0, a3)), (4, (0, a4)), (5, (0, a1)), (6, (0, 0))]) rfl ?_
            exact h
          · have h := h.2 c
            refine K_iconst (kdA dt_MX12_sights 36 rfl) (by decide) ?_
            exact K_ireturn (kdA dt_MX12_sights 37 rfl) rfl ⟨rfl, _, rfl, h⟩
        · have h := h.2 c
          refine K_aload_n 0 (kdA dt_MX12_sights 23 rfl) rfl rfl ?_
          refine gf12_67 rfl (kdA dt_MX12_sights 24 rfl) c1 ?_
          refine K_iload_n 1 (kdA dt_MX12_sights 25 rfl) rfl rfl ?_
          obtain ⟨c6, h⟩ := h
          obtain ⟨c7, h⟩ := h
          refine K_iaload (kdA dt_MX12_sights 26 rfl) c6 c7.1 c7.2 ?_
          exact K_ireturn (kdA dt_MX12_sights 27 rfl) rfl ⟨rfl, _, rfl, h⟩
      · have h := h.2 c
        refine K_iconst (kdA dt_MX12_sights 14 rfl) (by decide) ?_
        exact K_ireturn (kdA dt_MX12_sights 15 rfl) rfl ⟨rfl, _, rfl, h⟩
theorem SX12_sights_73 {d n : Nat} {Q : Int → kS → Prop} {a0 a3 a4 a5 a6 : Int} {σ : kS} (h : (a4 ≤ a6 → Q a5 σ) ∧ (¬ a4 ≤ a6 → isO 12 n a0 ∧ (Ci d MX12_nextHop [(2, a0), (0, a5), (0, a3)] n σ (fun x2 s1 => (-2147483648 ≤ (a6 + 1) ∧ (a6 + 1) ≤ 2147483647) ∧ (LX12_sights_73 d n Q a0 a3 a4 x2 (a6 + 1) s1))))) : LX12_sights_73 d n Q a0 a3 a4 a5 a6 σ := by
  unfold LX12_sights_73
  refine K_iload 4 (kdA dt_MX12_sights 42 rfl) rfl ?_
  refine K_iload 2 (kdA dt_MX12_sights 43 rfl) rfl ?_
  refine K_icmp_ge (tgt := 95) (kdA dt_MX12_sights 44 rfl) rfl (fun c => ?_) (fun c => ?_)
  · have h := h.1 c
    refine K_iload 3 (kdA dt_MX12_sights 52 rfl) rfl ?_
    exact K_ireturn (kdA dt_MX12_sights 53 rfl) rfl ⟨rfl, _, rfl, h⟩
  · have h := h.2 c
    refine K_aload_n 0 (kdA dt_MX12_sights 45 rfl) rfl rfl ?_
    refine K_iload 3 (kdA dt_MX12_sights 46 rfl) rfl ?_
    refine K_iload_n 1 (kdA dt_MX12_sights 47 rfl) rfl rfl ?_
    obtain ⟨c1, h⟩ := h
    refine K_cVi (c := 12) (as := [(0, a5), (0, a3)]) (st := []) (kdA dt_MX12_sights 48 rfl) rfl cl_MX12_nextHop lk12_368 rfl rfl (Nat.le_of_ble_eq_true rfl) c1 (Ci.mono h (fun x2 s1 h => ?_))
    refine K_istore (ls' := [(0, (2, a0)), (3, (0, a3)), (4, (0, a4)), (5, (0, x2)), (6, (0, a6))]) (kdA dt_MX12_sights 49 rfl) (by decide) rfl ?_
    obtain ⟨c3, h⟩ := h
    refine K_iinc (ls' := [(0, (2, a0)), (3, (0, a3)), (4, (0, a4)), (5, (0, x2)), (6, (0, (a6 + 1)))]) 4 (kdA dt_MX12_sights 50 rfl) rfl c3 (by decide) rfl ?_
    refine K_goto (tgt := 73) (kdA dt_MX12_sights 51 rfl) rfl ?_
    exact h
theorem EX12_sights {d n : Nat} {Q : Int → kS → Prop} {a0 a1 a2 a3 a4 : Int} {σ : kS} (h : (-2147483648 ≤ a1 ∧ a1 ≤ 2147483647) → (-2147483648 ≤ a2 ∧ a2 ≤ 2147483647) → (-2147483648 ≤ a3 ∧ a3 ≤ 2147483647) → (-2147483648 ≤ a4 ∧ a4 ≤ 2147483647) → kokw n σ → LX12_sights_0 d n Q a0 a1 a2 a3 a4 σ) : Ci (d + 1) MX12_sights [(2, a0), (0, a1), (0, a2), (0, a3), (0, a4)] n σ Q := Tri_of (by decide +kernel) (Nat.le_of_ble_eq_true rfl) (fun hk hw => h (hk (0, a1) (List.mem_of_getElem? (i := 1) rfl)) (hk (0, a2) (List.mem_of_getElem? (i := 2) rfl)) (hk (0, a3) (List.mem_of_getElem? (i := 3) rfl)) (hk (0, a4) (List.mem_of_getElem? (i := 4) rfl)) hw)

def LX12_slip_0 (d n : Nat) (Q : Int → kS → Prop) (a0 : Int) (a1 : Int) (a2 : Int) (a3 : Int) (a4 : Int) (a5 : Int) (a6 : Int) (σ : kS) : Prop := K (d + 1) MX12_slip (kPi n Q) (0, 0) 0 [(0, (2, a0)), (1, (0, a1)), (2, (0, a2)), (3, (0, a3)), (4, (0, a4)), (5, (0, a5)), (6, (0, a6))] [] n σ
theorem SX12_slip_0 {d n : Nat} {Q : Int → kS → Prop} {a0 a1 a2 a3 a4 a5 a6 : Int} {σ : kS} (h : isO 12 n a0 ∧ (∀ s1, s1 = kst σ a0 0 0 → Ci d MX12_isStage [(2, a0), (0, a1), (0, a2)] n s1 (fun x2 s2 => (x2 = 0 → Q (-1) s2) ∧ (¬ x2 = 0 → Ci d MX12_isManner [(2, a0), (0, a3), (0, a4)] n s2 (fun x3 s3 => (x3 = 0 → Q (-1) s3) ∧ (¬ x3 = 0 → Ci d MX12_isIn [(0, a6), (0, 0), (0, 20)] n s3 (fun x4 s4 => (¬ x4 = 0 → Cv d MX12_layPains [(2, a0), (0, a3), (0, a4), (0, a5)] n s4 (fun s5 => Ci d MX12_slipOf [(2, a0), (0, a1), (0, a2), (0, a6)] n s5 (fun x6 s6 => Q x6 s6))) ∧ (¬ (¬ x4 = 0) → Q (-1) s4)))))))) : LX12_slip_0 d n Q a0 a1 a2 a3 a4 a5 a6 σ := by
  unfold LX12_slip_0
  refine K_aload_n 0 (kdA dt_MX12_slip 0 rfl) rfl rfl ?_
  refine K_iconst (kdA dt_MX12_slip 1 rfl) (by decide) ?_
  obtain ⟨c1, h⟩ := h
  refine pf12_149 rfl (kdA dt_MX12_slip 2 rfl) c1 (fun s1 es1 => ?_)
  have h := h s1 es1
  refine K_aload_n 0 (kdA dt_MX12_slip 3 rfl) rfl rfl ?_
  refine K_iload_n 1 (kdA dt_MX12_slip 4 rfl) rfl rfl ?_
  refine K_iload_n 2 (kdA dt_MX12_slip 5 rfl) rfl rfl ?_
  refine K_cVi (c := 12) (as := [(0, a1), (0, a2)]) (st := []) (kdA dt_MX12_slip 6 rfl) rfl cl_MX12_isStage lk12_436 rfl rfl (Nat.le_of_ble_eq_true rfl) c1 (Ci.mono h (fun x2 s2 h => ?_))
  refine K_if_eq (tgt := 35) (kdA dt_MX12_slip 7 rfl) rfl (fun c => ?_) (fun c => ?_)
  · have h := h.1 c
    refine K_iconst (kdA dt_MX12_slip 18 rfl) (by decide) ?_
    exact K_ireturn (kdA dt_MX12_slip 19 rfl) rfl ⟨rfl, _, rfl, h⟩
  · have h := h.2 c
    refine K_aload_n 0 (kdA dt_MX12_slip 8 rfl) rfl rfl ?_
    refine K_iload_n 3 (kdA dt_MX12_slip 9 rfl) rfl rfl ?_
    refine K_iload 4 (kdA dt_MX12_slip 10 rfl) rfl ?_
    refine K_cVi (c := 12) (as := [(0, a3), (0, a4)]) (st := []) (kdA dt_MX12_slip 11 rfl) rfl cl_MX12_isManner lk12_319 rfl rfl (Nat.le_of_ble_eq_true rfl) c1 (Ci.mono h (fun x3 s3 h => ?_))
    refine K_if_eq (tgt := 35) (kdA dt_MX12_slip 12 rfl) rfl (fun c => ?_) (fun c => ?_)
    · have h := h.1 c
      refine K_iconst (kdA dt_MX12_slip 18 rfl) (by decide) ?_
      exact K_ireturn (kdA dt_MX12_slip 19 rfl) rfl ⟨rfl, _, rfl, h⟩
    · have h := h.2 c
      refine K_iload 6 (kdA dt_MX12_slip 13 rfl) rfl ?_
      refine K_iconst (kdA dt_MX12_slip 14 rfl) (by decide) ?_
      refine K_bipush (kdA dt_MX12_slip 15 rfl) (by decide +kernel) ?_
      refine K_cSi (as := [(0, a6), (0, 0), (0, 20)]) (st := []) (kdA dt_MX12_slip 16 rfl) cl_MX12_isIn lk12_153 rfl rfl (Nat.le_of_ble_eq_true rfl) (Ci.mono h (fun x4 s4 h => ?_))
      refine K_if_ne (tgt := 37) (kdA dt_MX12_slip 17 rfl) rfl (fun c => ?_) (fun c => ?_)
      · have h := h.1 c
        refine K_aload_n 0 (kdA dt_MX12_slip 20 rfl) rfl rfl ?_
        refine K_iload_n 3 (kdA dt_MX12_slip 21 rfl) rfl rfl ?_
        refine K_iload 4 (kdA dt_MX12_slip 22 rfl) rfl ?_
        refine K_iload 5 (kdA dt_MX12_slip 23 rfl) rfl ?_
        refine K_cVv (c := 12) (as := [(0, a3), (0, a4), (0, a5)]) (st := []) (kdA dt_MX12_slip 24 rfl) rfl cl_MX12_layPains lk12_333 rfl rfl (Nat.le_of_ble_eq_true rfl) c1 (Cv.mono h (fun s5 h => ?_))
        refine K_aload_n 0 (kdA dt_MX12_slip 25 rfl) rfl rfl ?_
        refine K_iload_n 1 (kdA dt_MX12_slip 26 rfl) rfl rfl ?_
        refine K_iload_n 2 (kdA dt_MX12_slip 27 rfl) rfl rfl ?_
        refine K_iload 6 (kdA dt_MX12_slip 28 rfl) rfl ?_
        refine K_cVi (c := 12) (as := [(0, a1), (0, a2), (0, a6)]) (st := []) (kdA dt_MX12_slip 29 rfl) rfl cl_MX12_slipOf lk12_443 rfl rfl (Nat.le_of_ble_eq_true rfl) c1 (Ci.mono h (fun x6 s6 h => ?_))
        exact K_ireturn (kdA dt_MX12_slip 30 rfl) rfl ⟨rfl, _, rfl, h⟩
      · have h := h.2 c
        refine K_iconst (kdA dt_MX12_slip 18 rfl) (by decide) ?_
        exact K_ireturn (kdA dt_MX12_slip 19 rfl) rfl ⟨rfl, _, rfl, h⟩
theorem EX12_slip {d n : Nat} {Q : Int → kS → Prop} {a0 a1 a2 a3 a4 a5 a6 : Int} {σ : kS} (h : (-2147483648 ≤ a1 ∧ a1 ≤ 2147483647) → (-2147483648 ≤ a2 ∧ a2 ≤ 2147483647) → (-2147483648 ≤ a3 ∧ a3 ≤ 2147483647) → (-2147483648 ≤ a4 ∧ a4 ≤ 2147483647) → (-2147483648 ≤ a5 ∧ a5 ≤ 2147483647) → (-2147483648 ≤ a6 ∧ a6 ≤ 2147483647) → kokw n σ → LX12_slip_0 d n Q a0 a1 a2 a3 a4 a5 a6 σ) : Ci (d + 1) MX12_slip [(2, a0), (0, a1), (0, a2), (0, a3), (0, a4), (0, a5), (0, a6)] n σ Q := Tri_of (by decide +kernel) (Nat.le_of_ble_eq_true rfl) (fun hk hw => h (hk (0, a1) (List.mem_of_getElem? (i := 1) rfl)) (hk (0, a2) (List.mem_of_getElem? (i := 2) rfl)) (hk (0, a3) (List.mem_of_getElem? (i := 3) rfl)) (hk (0, a4) (List.mem_of_getElem? (i := 4) rfl)) (hk (0, a5) (List.mem_of_getElem? (i := 5) rfl)) (hk (0, a6) (List.mem_of_getElem? (i := 6) rfl)) hw)

def LX12_slipOf_0 (d n : Nat) (Q : Int → kS → Prop) (a0 : Int) (a1 : Int) (a2 : Int) (a3 : Int) (σ : kS) : Prop := K (d + 1) MX12_slipOf (kPi n Q) (0, 0) 0 [(0, (2, a0)), (1, (0, a1)), (2, (0, a2)), (3, (0, a3))] [] n σ
theorem SX12_slipOf_0 {d n : Nat} {Q : Int → kS → Prop} {a0 a1 a2 a3 : Int} {σ : kS} (h : isO 12 n a0 ∧ (Ci d MX12_trueMiles [(2, a0), (0, a1), (0, a2)] n σ (fun x2 s1 => (-2147483648 ≤ (60 * a1) ∧ (60 * a1) ≤ 2147483647) ∧ ((-2147483648 ≤ ((60 * a1) + a2) ∧ ((60 * a1) + a2) ≤ 2147483647) ∧ (isA 20 n (s1 a0 11) ∧ (((0 : Int) ≤ ((60 * a1) + a2) ∧ ((60 * a1) + a2) < klen (s1 a0 11)) ∧ ((-2147483648 ≤ ((s1 (s1 a0 11) ((60 * a1) + a2)) - x2) ∧ ((s1 (s1 a0 11) ((60 * a1) + a2)) - x2) ≤ 2147483647) ∧ (Ci d MJm_abs [(0, ((s1 (s1 a0 11) ((60 * a1) + a2)) - x2))] n s1 (fun x8 s2 => (a3 < x8 → (x2 ≤ 99 → ((0 : Int) ≤ x2) ∧ ((-2147483648 ≤ ((x2 % 10) * 10) ∧ ((x2 % 10) * 10) ≤ 2147483647) ∧ ((-2147483648 ≤ (((x2 % 10) * 10) + (x2 / 10)) ∧ (((x2 % 10) * 10) + (x2 / 10)) ≤ 2147483647) ∧ ((¬ (s1 (s1 a0 11) ((60 * a1) + a2)) = (((x2 % 10) * 10) + (x2 / 10)) → ((0 : Int) ≤ (s1 (s1 a0 11) ((60 * a1) + a2))) ∧ ((¬ (x2 / 10) = ((s1 (s1 a0 11) ((60 * a1) + a2)) / 10) → (¬ (x2 % 10) = ((s1 (s1 a0 11) ((60 * a1) + a2)) % 10) → Q 3 s2) ∧ (¬ (¬ (x2 % 10) = ((s1 (s1 a0 11) ((60 * a1) + a2)) % 10)) → Q 2 s2)) ∧ (¬ (¬ (x2 / 10) = ((s1 (s1 a0 11) ((60 * a1) + a2)) / 10)) → (¬ (x2 % 10) = ((s1 (s1 a0 11) ((60 * a1) + a2)) % 10) → Q 2 s2) ∧ (¬ (¬ (x2 % 10) = ((s1 (s1 a0 11) ((60 * a1) + a2)) % 10)) → Q 3 s2)))) ∧ (¬ (¬ (s1 (s1 a0 11) ((60 * a1) + a2)) = (((x2 % 10) * 10) + (x2 / 10))) → Q 1 s2))))) ∧ (¬ x2 ≤ 99 → Q 3 s2)) ∧ (¬ a3 < x8 → Q 0 s2)))))))))) : LX12_slipOf_0 d n Q a0 a1 a2 a3 σ := by
  unfold LX12_slipOf_0
  refine K_aload_n 0 (kdA dt_MX12_slipOf 0 rfl) rfl rfl ?_
  refine K_iload_n 1 (kdA dt_MX12_slipOf 1 rfl) rfl rfl ?_
  refine K_iload_n 2 (kdA dt_MX12_slipOf 2 rfl) rfl rfl ?_
  obtain ⟨c1, h⟩ := h
  refine K_cVi (c := 12) (as := [(0, a1), (0, a2)]) (st := []) (kdA dt_MX12_slipOf 3 rfl) rfl cl_MX12_trueMiles lk12_440 rfl rfl (Nat.le_of_ble_eq_true rfl) c1 (Ci.mono h (fun x2 s1 h => ?_))
  refine K_istore (ls' := [(0, (2, a0)), (1, (0, a1)), (2, (0, a2)), (3, (0, a3)), (4, (0, x2))]) (kdA dt_MX12_slipOf 4 rfl) (by decide) rfl ?_
  refine K_aload_n 0 (kdA dt_MX12_slipOf 5 rfl) rfl rfl ?_
  refine gf12_38 rfl (kdA dt_MX12_slipOf 6 rfl) c1 ?_
  refine K_bipush (kdA dt_MX12_slipOf 7 rfl) (by decide +kernel) ?_
  refine K_iload_n 1 (kdA dt_MX12_slipOf 8 rfl) rfl rfl ?_
  obtain ⟨c3, h⟩ := h
  refine K_imul (kdA dt_MX12_slipOf 9 rfl) c3 ?_
  refine K_iload_n 2 (kdA dt_MX12_slipOf 10 rfl) rfl rfl ?_
  obtain ⟨c4, h⟩ := h
  refine K_iadd (kdA dt_MX12_slipOf 11 rfl) c4 ?_
  obtain ⟨c5, h⟩ := h
  obtain ⟨c6, h⟩ := h
  refine K_iaload (kdA dt_MX12_slipOf 12 rfl) c5 c6.1 c6.2 ?_
  refine K_istore (ls' := [(0, (2, a0)), (1, (0, a1)), (2, (0, a2)), (3, (0, a3)), (4, (0, x2)), (5, (0, (s1 (s1 a0 11) ((60 * a1) + a2))))]) (kdA dt_MX12_slipOf 13 rfl) (by decide) rfl ?_
  refine K_iload 5 (kdA dt_MX12_slipOf 14 rfl) rfl ?_
  refine K_iload 4 (kdA dt_MX12_slipOf 15 rfl) rfl ?_
  obtain ⟨c7, h⟩ := h
  refine K_isub (kdA dt_MX12_slipOf 16 rfl) c7 ?_
  refine K_cSi (as := [(0, ((s1 (s1 a0 11) ((60 * a1) + a2)) - x2))]) (st := []) (kdA dt_MX12_slipOf 17 rfl) cl_MJm_abs lk12_175 rfl rfl (Nat.le_of_ble_eq_true rfl) (Ci.mono h (fun x8 s2 h => ?_))
  refine K_iload_n 3 (kdA dt_MX12_slipOf 18 rfl) rfl rfl ?_
  refine K_icmp_gt (tgt := 35) (kdA dt_MX12_slipOf 19 rfl) rfl (fun c => ?_) (fun c => ?_)
  · have h := h.1 c
    refine K_iload 4 (kdA dt_MX12_slipOf 22 rfl) rfl ?_
    refine K_bipush (kdA dt_MX12_slipOf 23 rfl) (by decide +kernel) ?_
    refine K_icmp_le (tgt := 44) (kdA dt_MX12_slipOf 24 rfl) rfl (fun c => ?_) (fun c => ?_)
    · have h := h.1 c
      refine K_iload 5 (kdA dt_MX12_slipOf 27 rfl) rfl ?_
      refine K_iload 4 (kdA dt_MX12_slipOf 28 rfl) rfl ?_
      refine K_bipush (kdA dt_MX12_slipOf 29 rfl) (by decide +kernel) ?_
      obtain ⟨c9, h⟩ := h
      refine K_irem (kdA dt_MX12_slipOf 30 rfl) c9 (by decide) ?_
      refine K_bipush (kdA dt_MX12_slipOf 31 rfl) (by decide +kernel) ?_
      obtain ⟨c10, h⟩ := h
      refine K_imul (kdA dt_MX12_slipOf 32 rfl) c10 ?_
      refine K_iload 4 (kdA dt_MX12_slipOf 33 rfl) rfl ?_
      refine K_bipush (kdA dt_MX12_slipOf 34 rfl) (by decide +kernel) ?_
      refine K_idiv (kdA dt_MX12_slipOf 35 rfl) c9 (by decide) ?_
      obtain ⟨c11, h⟩ := h
      refine K_iadd (kdA dt_MX12_slipOf 36 rfl) c11 ?_
      refine K_icmp_ne (tgt := 65) (kdA dt_MX12_slipOf 37 rfl) rfl (fun c => ?_) (fun c => ?_)
      · have h := h.1 c
        refine K_iload 4 (kdA dt_MX12_slipOf 40 rfl) rfl ?_
        refine K_bipush (kdA dt_MX12_slipOf 41 rfl) (by decide +kernel) ?_
        refine K_idiv (kdA dt_MX12_slipOf 42 rfl) c9 (by decide) ?_
        refine K_iload 5 (kdA dt_MX12_slipOf 43 rfl) rfl ?_
        refine K_bipush (kdA dt_MX12_slipOf 44 rfl) (by decide +kernel) ?_
        obtain ⟨c12, h⟩ := h
        refine K_idiv (kdA dt_MX12_slipOf 45 rfl) c12 (by decide) ?_
        refine K_icmp_ne (tgt := 82) (kdA dt_MX12_slipOf 46 rfl) rfl (fun c => ?_) (fun c => ?_)
        · have h := h.1 c
          refine K_iconst (kdA dt_MX12_slipOf 49 rfl) (by decide) ?_
          refine K_iload 4 (kdA dt_MX12_slipOf 50 rfl) rfl ?_
          refine K_bipush (kdA dt_MX12_slipOf 51 rfl) (by decide +kernel) ?_
          refine K_irem (kdA dt_MX12_slipOf 52 rfl) c9 (by decide) ?_
          refine K_iload 5 (kdA dt_MX12_slipOf 53 rfl) rfl ?_
          refine K_bipush (kdA dt_MX12_slipOf 54 rfl) (by decide +kernel) ?_
          refine K_irem (kdA dt_MX12_slipOf 55 rfl) c12 (by decide) ?_
          refine K_icmp_ne (tgt := 100) (kdA dt_MX12_slipOf 56 rfl) rfl (fun c => ?_) (fun c => ?_)
          · have h := h.1 c
            refine K_iconst (kdA dt_MX12_slipOf 59 rfl) (by decide) ?_
            refine K_icmp_eq (tgt := 108) (kdA dt_MX12_slipOf 60 rfl) rfl (fun _ => ?_) (fun c => absurd (by decide) c)
            refine K_iconst (kdA dt_MX12_slipOf 63 rfl) (by decide) ?_
            exact K_ireturn (kdA dt_MX12_slipOf 64 rfl) rfl ⟨rfl, _, rfl, h⟩
          · have h := h.2 c
            refine K_iconst (kdA dt_MX12_slipOf 57 rfl) (by decide) ?_
            refine K_goto (tgt := 101) (kdA dt_MX12_slipOf 58 rfl) rfl ?_
            refine K_icmp_eq (tgt := 108) (kdA dt_MX12_slipOf 60 rfl) rfl (fun c => absurd c (by decide)) (fun _ => ?_)
            refine K_iconst (kdA dt_MX12_slipOf 61 rfl) (by decide) ?_
            refine K_goto (tgt := 109) (kdA dt_MX12_slipOf 62 rfl) rfl ?_
            exact K_ireturn (kdA dt_MX12_slipOf 64 rfl) rfl ⟨rfl, _, rfl, h⟩
        · have h := h.2 c
          refine K_iconst (kdA dt_MX12_slipOf 47 rfl) (by decide) ?_
          refine K_goto (tgt := 83) (kdA dt_MX12_slipOf 48 rfl) rfl ?_
          refine K_iload 4 (kdA dt_MX12_slipOf 50 rfl) rfl ?_
          refine K_bipush (kdA dt_MX12_slipOf 51 rfl) (by decide +kernel) ?_
          refine K_irem (kdA dt_MX12_slipOf 52 rfl) c9 (by decide) ?_
          refine K_iload 5 (kdA dt_MX12_slipOf 53 rfl) rfl ?_
          refine K_bipush (kdA dt_MX12_slipOf 54 rfl) (by decide +kernel) ?_
          refine K_irem (kdA dt_MX12_slipOf 55 rfl) c12 (by decide) ?_
          refine K_icmp_ne (tgt := 100) (kdA dt_MX12_slipOf 56 rfl) rfl (fun c => ?_) (fun c => ?_)
          · have h := h.1 c
            refine K_iconst (kdA dt_MX12_slipOf 59 rfl) (by decide) ?_
            refine K_icmp_eq (tgt := 108) (kdA dt_MX12_slipOf 60 rfl) rfl (fun c => absurd c (by decide)) (fun _ => ?_)
            refine K_iconst (kdA dt_MX12_slipOf 61 rfl) (by decide) ?_
            refine K_goto (tgt := 109) (kdA dt_MX12_slipOf 62 rfl) rfl ?_
            exact K_ireturn (kdA dt_MX12_slipOf 64 rfl) rfl ⟨rfl, _, rfl, h⟩
          · have h := h.2 c
            refine K_iconst (kdA dt_MX12_slipOf 57 rfl) (by decide) ?_
            refine K_goto (tgt := 101) (kdA dt_MX12_slipOf 58 rfl) rfl ?_
            refine K_icmp_eq (tgt := 108) (kdA dt_MX12_slipOf 60 rfl) rfl (fun _ => ?_) (fun c => absurd (by decide) c)
            refine K_iconst (kdA dt_MX12_slipOf 63 rfl) (by decide) ?_
            exact K_ireturn (kdA dt_MX12_slipOf 64 rfl) rfl ⟨rfl, _, rfl, h⟩
      · have h := h.2 c
        refine K_iconst (kdA dt_MX12_slipOf 38 rfl) (by decide) ?_
        exact K_ireturn (kdA dt_MX12_slipOf 39 rfl) rfl ⟨rfl, _, rfl, h⟩
    · have h := h.2 c
      refine K_iconst (kdA dt_MX12_slipOf 25 rfl) (by decide) ?_
      exact K_ireturn (kdA dt_MX12_slipOf 26 rfl) rfl ⟨rfl, _, rfl, h⟩
  · have h := h.2 c
    refine K_iconst (kdA dt_MX12_slipOf 20 rfl) (by decide) ?_
    exact K_ireturn (kdA dt_MX12_slipOf 21 rfl) rfl ⟨rfl, _, rfl, h⟩
theorem EX12_slipOf {d n : Nat} {Q : Int → kS → Prop} {a0 a1 a2 a3 : Int} {σ : kS} (h : (-2147483648 ≤ a1 ∧ a1 ≤ 2147483647) → (-2147483648 ≤ a2 ∧ a2 ≤ 2147483647) → (-2147483648 ≤ a3 ∧ a3 ≤ 2147483647) → kokw n σ → LX12_slipOf_0 d n Q a0 a1 a2 a3 σ) : Ci (d + 1) MX12_slipOf [(2, a0), (0, a1), (0, a2), (0, a3)] n σ Q := Tri_of (by decide +kernel) (Nat.le_of_ble_eq_true rfl) (fun hk hw => h (hk (0, a1) (List.mem_of_getElem? (i := 1) rfl)) (hk (0, a2) (List.mem_of_getElem? (i := 2) rfl)) (hk (0, a3) (List.mem_of_getElem? (i := 3) rfl)) hw)

def LX12_south_0 (d n : Nat) (Q : Int → kS → Prop) (a0 : Int) (σ : kS) : Prop := K (d + 1) MX12_south (kPi n Q) (0, 0) 0 [(0, (0, a0))] [] n σ
theorem SX12_south_0 {d n : Nat} {Q : Int → kS → Prop} {a0 : Int} {σ : kS} (h : (a0 ≤ 2 → (a0 < 2 → Q (-1) σ) ∧ (¬ a0 < 2 → (¬ a0 = 7 → Q 0 σ) ∧ (¬ (¬ a0 = 7) → Q (-1) σ))) ∧ (¬ a0 ≤ 2 → (6 ≤ a0 → (a0 < 2 → Q (-1) σ) ∧ (¬ a0 < 2 → (¬ a0 = 7 → Q 0 σ) ∧ (¬ (¬ a0 = 7) → Q (-1) σ))) ∧ (¬ 6 ≤ a0 → Q 1 σ))) : LX12_south_0 d n Q a0 σ := by
  unfold LX12_south_0
  refine K_iload_n 0 (kdA dt_MX12_south 0 rfl) rfl rfl ?_
  refine K_iconst (kdA dt_MX12_south 1 rfl) (by decide) ?_
  refine K_icmp_le (tgt := 15) (kdA dt_MX12_south 2 rfl) rfl (fun c => ?_) (fun c => ?_)
  · have h := h.1 c
    refine K_iload_n 0 (kdA dt_MX12_south 8 rfl) rfl rfl ?_
    refine K_iconst (kdA dt_MX12_south 9 rfl) (by decide) ?_
    refine K_icmp_lt (tgt := 26) (kdA dt_MX12_south 10 rfl) rfl (fun c => ?_) (fun c => ?_)
    · have h := h.1 c
      refine K_iconst (kdA dt_MX12_south 14 rfl) (by decide) ?_
      refine K_goto (tgt := 31) (kdA dt_MX12_south 15 rfl) rfl ?_
      exact K_ireturn (kdA dt_MX12_south 17 rfl) rfl ⟨rfl, _, rfl, h⟩
    · have h := h.2 c
      refine K_iload_n 0 (kdA dt_MX12_south 11 rfl) rfl rfl ?_
      refine K_bipush (kdA dt_MX12_south 12 rfl) (by decide +kernel) ?_
      refine K_icmp_ne (tgt := 30) (kdA dt_MX12_south 13 rfl) rfl (fun c => ?_) (fun c => ?_)
      · have h := h.1 c
        refine K_iconst (kdA dt_MX12_south 16 rfl) (by decide) ?_
        exact K_ireturn (kdA dt_MX12_south 17 rfl) rfl ⟨rfl, _, rfl, h⟩
      · have h := h.2 c
        refine K_iconst (kdA dt_MX12_south 14 rfl) (by decide) ?_
        refine K_goto (tgt := 31) (kdA dt_MX12_south 15 rfl) rfl ?_
        exact K_ireturn (kdA dt_MX12_south 17 rfl) rfl ⟨rfl, _, rfl, h⟩
  · have h := h.2 c
    refine K_iload_n 0 (kdA dt_MX12_south 3 rfl) rfl rfl ?_
    refine K_bipush (kdA dt_MX12_south 4 rfl) (by decide +kernel) ?_
    refine K_icmp_ge (tgt := 15) (kdA dt_MX12_south 5 rfl) rfl (fun c => ?_) (fun c => ?_)
    · have h := h.1 c
      refine K_iload_n 0 (kdA dt_MX12_south 8 rfl) rfl rfl ?_
      refine K_iconst (kdA dt_MX12_south 9 rfl) (by decide) ?_
      refine K_icmp_lt (tgt := 26) (kdA dt_MX12_south 10 rfl) rfl (fun c => ?_) (fun c => ?_)
      · have h := h.1 c
        refine K_iconst (kdA dt_MX12_south 14 rfl) (by decide) ?_
        refine K_goto (tgt := 31) (kdA dt_MX12_south 15 rfl) rfl ?_
        exact K_ireturn (kdA dt_MX12_south 17 rfl) rfl ⟨rfl, _, rfl, h⟩
      · have h := h.2 c
        refine K_iload_n 0 (kdA dt_MX12_south 11 rfl) rfl rfl ?_
        refine K_bipush (kdA dt_MX12_south 12 rfl) (by decide +kernel) ?_
        refine K_icmp_ne (tgt := 30) (kdA dt_MX12_south 13 rfl) rfl (fun c => ?_) (fun c => ?_)
        · have h := h.1 c
          refine K_iconst (kdA dt_MX12_south 16 rfl) (by decide) ?_
          exact K_ireturn (kdA dt_MX12_south 17 rfl) rfl ⟨rfl, _, rfl, h⟩
        · have h := h.2 c
          refine K_iconst (kdA dt_MX12_south 14 rfl) (by decide) ?_
          refine K_goto (tgt := 31) (kdA dt_MX12_south 15 rfl) rfl ?_
          exact K_ireturn (kdA dt_MX12_south 17 rfl) rfl ⟨rfl, _, rfl, h⟩
    · have h := h.2 c
      refine K_iconst (kdA dt_MX12_south 6 rfl) (by decide) ?_
      refine K_goto (tgt := 31) (kdA dt_MX12_south 7 rfl) rfl ?_
      exact K_ireturn (kdA dt_MX12_south 17 rfl) rfl ⟨rfl, _, rfl, h⟩
theorem EX12_south {d n : Nat} {Q : Int → kS → Prop} {a0 : Int} {σ : kS} (h : (-2147483648 ≤ a0 ∧ a0 ≤ 2147483647) → kokw n σ → LX12_south_0 d n Q a0 σ) : Ci (d + 1) MX12_south [(0, a0)] n σ Q := Tri_of (by decide +kernel) (Nat.le_of_ble_eq_true rfl) (fun hk hw => h (hk (0, a0) (List.mem_of_getElem? (i := 0) rfl)) hw)

def LX12_stage_0 (d n : Nat) (Q : Int → kS → Prop) (a0 : Int) (a1 : Int) (a2 : Int) (a3 : Int) (σ : kS) : Prop := K (d + 1) MX12_stage (kPi n Q) (0, 0) 0 [(0, (2, a0)), (1, (0, a1)), (2, (0, a2)), (3, (0, a3))] [] n σ
theorem SX12_stage_0 {d n : Nat} {Q : Int → kS → Prop} {a0 a1 a2 a3 : Int} {σ : kS} (h : isO 12 n a0 ∧ (Ci d MX12_isStage [(2, a0), (0, a1), (0, a2)] n σ (fun x2 s1 => (x2 = 0 → ∀ s2, s2 = kst s1 a0 0 1 → ((s2 a0 0) ≤ 0 → (-2147483648 ≤ (60 * a1) ∧ (60 * a1) ≤ 2147483647) ∧ ((-2147483648 ≤ ((60 * a1) + a2) ∧ ((60 * a1) + a2) ≤ 2147483647) ∧ ((¬ a3 = 0 → (¬ a3 = 1 → isA 20 n (s2 a0 11) ∧ (((0 : Int) ≤ ((60 * a1) + a2) ∧ ((60 * a1) + a2) < klen (s2 a0 11)) ∧ (Q (s2 (s2 a0 11) ((60 * a1) + a2)) s2))) ∧ (¬ (¬ a3 = 1) → isA 20 n (s2 a0 10) ∧ (((0 : Int) ≤ ((60 * a1) + a2) ∧ ((60 * a1) + a2) < klen (s2 a0 10)) ∧ (Q (s2 (s2 a0 10) ((60 * a1) + a2)) s2)))) ∧ (¬ (¬ a3 = 0) → isA 20 n (s2 a0 9) ∧ (((0 : Int) ≤ ((60 * a1) + a2) ∧ ((60 * a1) + a2) < klen (s2 a0 9)) ∧ (Q (s2 (s2 a0 9) ((60 * a1) + a2)) s2)))))) ∧ (¬ (s2 a0 0) ≤ 0 → Q 0 s2)) ∧ (¬ x2 = 0 → Ci d MX12_isIn [(0, a3), (0, 0), (0, 2)] n s1 (fun x3 s2 => (x3 = 0 → ∀ s3, s3 = kst s2 a0 0 1 → ((s3 a0 0) ≤ 0 → (-2147483648 ≤ (60 * a1) ∧ (60 * a1) ≤ 2147483647) ∧ ((-2147483648 ≤ ((60 * a1) + a2) ∧ ((60 * a1) + a2) ≤ 2147483647) ∧ ((¬ a3 = 0 → (¬ a3 = 1 → isA 20 n (s3 a0 11) ∧ (((0 : Int) ≤ ((60 * a1) + a2) ∧ ((60 * a1) + a2) < klen (s3 a0 11)) ∧ (Q (s3 (s3 a0 11) ((60 * a1) + a2)) s3))) ∧ (¬ (¬ a3 = 1) → isA 20 n (s3 a0 10) ∧ (((0 : Int) ≤ ((60 * a1) + a2) ∧ ((60 * a1) + a2) < klen (s3 a0 10)) ∧ (Q (s3 (s3 a0 10) ((60 * a1) + a2)) s3)))) ∧ (¬ (¬ a3 = 0) → isA 20 n (s3 a0 9) ∧ (((0 : Int) ≤ ((60 * a1) + a2) ∧ ((60 * a1) + a2) < klen (s3 a0 9)) ∧ (Q (s3 (s3 a0 9) ((60 * a1) + a2)) s3)))))) ∧ (¬ (s3 a0 0) ≤ 0 → Q 0 s3)) ∧ (¬ x3 = 0 → ∀ s3, s3 = kst s2 a0 0 0 → ((s3 a0 0) ≤ 0 → (-2147483648 ≤ (60 * a1) ∧ (60 * a1) ≤ 2147483647) ∧ ((-2147483648 ≤ ((60 * a1) + a2) ∧ ((60 * a1) + a2) ≤ 2147483647) ∧ ((¬ a3 = 0 → (¬ a3 = 1 → isA 20 n (s3 a0 11) ∧ (((0 : Int) ≤ ((60 * a1) + a2) ∧ ((60 * a1) + a2) < klen (s3 a0 11)) ∧ (Q (s3 (s3 a0 11) ((60 * a1) + a2)) s3))) ∧ (¬ (¬ a3 = 1) → isA 20 n (s3 a0 10) ∧ (((0 : Int) ≤ ((60 * a1) + a2) ∧ ((60 * a1) + a2) < klen (s3 a0 10)) ∧ (Q (s3 (s3 a0 10) ((60 * a1) + a2)) s3)))) ∧ (¬ (¬ a3 = 0) → isA 20 n (s3 a0 9) ∧ (((0 : Int) ≤ ((60 * a1) + a2) ∧ ((60 * a1) + a2) < klen (s3 a0 9)) ∧ (Q (s3 (s3 a0 9) ((60 * a1) + a2)) s3)))))) ∧ (¬ (s3 a0 0) ≤ 0 → Q 0 s3))))))) : LX12_stage_0 d n Q a0 a1 a2 a3 σ := by
  unfold LX12_stage_0
  refine K_aload_n 0 (kdA dt_MX12_stage 0 rfl) rfl rfl ?_
  refine K_aload_n 0 (kdA dt_MX12_stage 1 rfl) rfl rfl ?_
  refine K_iload_n 1 (kdA dt_MX12_stage 2 rfl) rfl rfl ?_
  refine K_iload_n 2 (kdA dt_MX12_stage 3 rfl) rfl rfl ?_
  obtain ⟨c1, h⟩ := h
  refine K_cVi (c := 12) (as := [(0, a1), (0, a2)]) (st := [(2, a0)]) (kdA dt_MX12_stage 4 rfl) rfl cl_MX12_isStage lk12_436 rfl rfl (Nat.le_of_ble_eq_true rfl) c1 (Ci.mono h (fun x2 s1 h => ?_))
  refine K_if_eq (tgt := 23) (kdA dt_MX12_stage 5 rfl) rfl (fun c => ?_) (fun c => ?_)
  · have h := h.1 c
    refine K_iconst (kdA dt_MX12_stage 13 rfl) (by decide) ?_
    refine pf12_149 rfl (kdA dt_MX12_stage 14 rfl) c1 (fun s2 es2 => ?_)
    have h := h s2 es2
    refine K_aload_n 0 (kdA dt_MX12_stage 15 rfl) rfl rfl ?_
    refine gf12_149 rfl (kdA dt_MX12_stage 16 rfl) c1 ?_
    refine K_if_le (tgt := 36) (kdA dt_MX12_stage 17 rfl) rfl (fun c => ?_) (fun c => ?_)
    · have h := h.1 c
      refine K_bipush (kdA dt_MX12_stage 20 rfl) (by decide +kernel) ?_
      refine K_iload_n 1 (kdA dt_MX12_stage 21 rfl) rfl rfl ?_
      obtain ⟨c3, h⟩ := h
      refine K_imul (kdA dt_MX12_stage 22 rfl) c3 ?_
      refine K_iload_n 2 (kdA dt_MX12_stage 23 rfl) rfl rfl ?_
      obtain ⟨c4, h⟩ := h
      refine K_iadd (kdA dt_MX12_stage 24 rfl) c4 ?_
      refine K_istore (ls' := [(0, (2, a0)), (1, (0, a1)), (2, (0, a2)), (3, (0, a3)), (4, (0, ((60 * a1) + a2)))]) (kdA dt_MX12_stage 25 rfl) (by decide) rfl ?_
      refine K_iload_n 3 (kdA dt_MX12_stage 26 rfl) rfl rfl ?_
      refine K_if_ne (tgt := 58) (kdA dt_MX12_stage 27 rfl) rfl (fun c => ?_) (fun c => ?_)
      · have h := h.1 c
        refine K_iload_n 3 (kdA dt_MX12_stage 33 rfl) rfl rfl ?_
        refine K_iconst (kdA dt_MX12_stage 34 rfl) (by decide) ?_
        refine K_icmp_ne (tgt := 73) (kdA dt_MX12_stage 35 rfl) rfl (fun c => ?_) (fun c => ?_)
        · have h := h.1 c
          refine K_aload_n 0 (kdA dt_MX12_stage 41 rfl) rfl rfl ?_
          refine gf12_38 rfl (kdA dt_MX12_stage 42 rfl) c1 ?_
          refine K_iload 4 (kdA dt_MX12_stage 43 rfl) rfl ?_
          obtain ⟨c5, h⟩ := h
          obtain ⟨c6, h⟩ := h
          refine K_iaload (kdA dt_MX12_stage 44 rfl) c5 c6.1 c6.2 ?_
          exact K_ireturn (kdA dt_MX12_stage 45 rfl) rfl ⟨rfl, _, rfl, h⟩
        · have h := h.2 c
          refine K_aload_n 0 (kdA dt_MX12_stage 36 rfl) rfl rfl ?_
          refine gf12_35 rfl (kdA dt_MX12_stage 37 rfl) c1 ?_
          refine K_iload 4 (kdA dt_MX12_stage 38 rfl) rfl ?_
          obtain ⟨c5, h⟩ := h
          obtain ⟨c6, h⟩ := h
          refine K_iaload (kdA dt_MX12_stage 39 rfl) c5 c6.1 c6.2 ?_
          refine K_goto (tgt := 80) (kdA dt_MX12_stage 40 rfl) rfl ?_
          exact K_ireturn (kdA dt_MX12_stage 45 rfl) rfl ⟨rfl, _, rfl, h⟩
      · have h := h.2 c
        refine K_aload_n 0 (kdA dt_MX12_stage 28 rfl) rfl rfl ?_
        refine gf12_32 rfl (kdA dt_MX12_stage 29 rfl) c1 ?_
        refine K_iload 4 (kdA dt_MX12_stage 30 rfl) rfl ?_
        obtain ⟨c5, h⟩ := h
        obtain ⟨c6, h⟩ := h
        refine K_iaload (kdA dt_MX12_stage 31 rfl) c5 c6.1 c6.2 ?_
        refine K_goto (tgt := 80) (kdA dt_MX12_stage 32 rfl) rfl ?_
        exact K_ireturn (kdA dt_MX12_stage 45 rfl) rfl ⟨rfl, _, rfl, h⟩
    · have h := h.2 c
      refine K_iconst (kdA dt_MX12_stage 18 rfl) (by decide) ?_
      exact K_ireturn (kdA dt_MX12_stage 19 rfl) rfl ⟨rfl, _, rfl, h⟩
  · have h := h.2 c
    refine K_iload_n 3 (kdA dt_MX12_stage 6 rfl) rfl rfl ?_
    refine K_iconst (kdA dt_MX12_stage 7 rfl) (by decide) ?_
    refine K_iconst (kdA dt_MX12_stage 8 rfl) (by decide) ?_
    refine K_cSi (as := [(0, a3), (0, 0), (0, 2)]) (st := [(2, a0)]) (kdA dt_MX12_stage 9 rfl) cl_MX12_isIn lk12_153 rfl rfl (Nat.le_of_ble_eq_true rfl) (Ci.mono h (fun x3 s2 h => ?_))
    refine K_if_eq (tgt := 23) (kdA dt_MX12_stage 10 rfl) rfl (fun c => ?_) (fun c => ?_)
    · have h := h.1 c
      refine K_iconst (kdA dt_MX12_stage 13 rfl) (by decide) ?_
      refine pf12_149 rfl (kdA dt_MX12_stage 14 rfl) c1 (fun s3 es3 => ?_)
      have h := h s3 es3
      refine K_aload_n 0 (kdA dt_MX12_stage 15 rfl) rfl rfl ?_
      refine gf12_149 rfl (kdA dt_MX12_stage 16 rfl) c1 ?_
      refine K_if_le (tgt := 36) (kdA dt_MX12_stage 17 rfl) rfl (fun c => ?_) (fun c => ?_)
      · have h := h.1 c
        refine K_bipush (kdA dt_MX12_stage 20 rfl) (by decide +kernel) ?_
        refine K_iload_n 1 (kdA dt_MX12_stage 21 rfl) rfl rfl ?_
        obtain ⟨c4, h⟩ := h
        refine K_imul (kdA dt_MX12_stage 22 rfl) c4 ?_
        refine K_iload_n 2 (kdA dt_MX12_stage 23 rfl) rfl rfl ?_
        obtain ⟨c5, h⟩ := h
        refine K_iadd (kdA dt_MX12_stage 24 rfl) c5 ?_
        refine K_istore (ls' := [(0, (2, a0)), (1, (0, a1)), (2, (0, a2)), (3, (0, a3)), (4, (0, ((60 * a1) + a2)))]) (kdA dt_MX12_stage 25 rfl) (by decide) rfl ?_
        refine K_iload_n 3 (kdA dt_MX12_stage 26 rfl) rfl rfl ?_
        refine K_if_ne (tgt := 58) (kdA dt_MX12_stage 27 rfl) rfl (fun c => ?_) (fun c => ?_)
        · have h := h.1 c
          refine K_iload_n 3 (kdA dt_MX12_stage 33 rfl) rfl rfl ?_
          refine K_iconst (kdA dt_MX12_stage 34 rfl) (by decide) ?_
          refine K_icmp_ne (tgt := 73) (kdA dt_MX12_stage 35 rfl) rfl (fun c => ?_) (fun c => ?_)
          · have h := h.1 c
            refine K_aload_n 0 (kdA dt_MX12_stage 41 rfl) rfl rfl ?_
            refine gf12_38 rfl (kdA dt_MX12_stage 42 rfl) c1 ?_
            refine K_iload 4 (kdA dt_MX12_stage 43 rfl) rfl ?_
            obtain ⟨c6, h⟩ := h
            obtain ⟨c7, h⟩ := h
            refine K_iaload (kdA dt_MX12_stage 44 rfl) c6 c7.1 c7.2 ?_
            exact K_ireturn (kdA dt_MX12_stage 45 rfl) rfl ⟨rfl, _, rfl, h⟩
          · have h := h.2 c
            refine K_aload_n 0 (kdA dt_MX12_stage 36 rfl) rfl rfl ?_
            refine gf12_35 rfl (kdA dt_MX12_stage 37 rfl) c1 ?_
            refine K_iload 4 (kdA dt_MX12_stage 38 rfl) rfl ?_
            obtain ⟨c6, h⟩ := h
            obtain ⟨c7, h⟩ := h
            refine K_iaload (kdA dt_MX12_stage 39 rfl) c6 c7.1 c7.2 ?_
            refine K_goto (tgt := 80) (kdA dt_MX12_stage 40 rfl) rfl ?_
            exact K_ireturn (kdA dt_MX12_stage 45 rfl) rfl ⟨rfl, _, rfl, h⟩
        · have h := h.2 c
          refine K_aload_n 0 (kdA dt_MX12_stage 28 rfl) rfl rfl ?_
          refine gf12_32 rfl (kdA dt_MX12_stage 29 rfl) c1 ?_
          refine K_iload 4 (kdA dt_MX12_stage 30 rfl) rfl ?_
          obtain ⟨c6, h⟩ := h
          obtain ⟨c7, h⟩ := h
          refine K_iaload (kdA dt_MX12_stage 31 rfl) c6 c7.1 c7.2 ?_
          refine K_goto (tgt := 80) (kdA dt_MX12_stage 32 rfl) rfl ?_
          exact K_ireturn (kdA dt_MX12_stage 45 rfl) rfl ⟨rfl, _, rfl, h⟩
      · have h := h.2 c
        refine K_iconst (kdA dt_MX12_stage 18 rfl) (by decide) ?_
        exact K_ireturn (kdA dt_MX12_stage 19 rfl) rfl ⟨rfl, _, rfl, h⟩
    · have h := h.2 c
      refine K_iconst (kdA dt_MX12_stage 11 rfl) (by decide) ?_
      refine K_goto (tgt := 24) (kdA dt_MX12_stage 12 rfl) rfl ?_
      refine pf12_149 rfl (kdA dt_MX12_stage 14 rfl) c1 (fun s3 es3 => ?_)
      have h := h s3 es3
      refine K_aload_n 0 (kdA dt_MX12_stage 15 rfl) rfl rfl ?_
      refine gf12_149 rfl (kdA dt_MX12_stage 16 rfl) c1 ?_
      refine K_if_le (tgt := 36) (kdA dt_MX12_stage 17 rfl) rfl (fun c => ?_) (fun c => ?_)
      · have h := h.1 c
        refine K_bipush (kdA dt_MX12_stage 20 rfl) (by decide +kernel) ?_
        refine K_iload_n 1 (kdA dt_MX12_stage 21 rfl) rfl rfl ?_
        obtain ⟨c4, h⟩ := h
        refine K_imul (kdA dt_MX12_stage 22 rfl) c4 ?_
        refine K_iload_n 2 (kdA dt_MX12_stage 23 rfl) rfl rfl ?_
        obtain ⟨c5, h⟩ := h
        refine K_iadd (kdA dt_MX12_stage 24 rfl) c5 ?_
        refine K_istore (ls' := [(0, (2, a0)), (1, (0, a1)), (2, (0, a2)), (3, (0, a3)), (4, (0, ((60 * a1) + a2)))]) (kdA dt_MX12_stage 25 rfl) (by decide) rfl ?_
        refine K_iload_n 3 (kdA dt_MX12_stage 26 rfl) rfl rfl ?_
        refine K_if_ne (tgt := 58) (kdA dt_MX12_stage 27 rfl) rfl (fun c => ?_) (fun c => ?_)
        · have h := h.1 c
          refine K_iload_n 3 (kdA dt_MX12_stage 33 rfl) rfl rfl ?_
          refine K_iconst (kdA dt_MX12_stage 34 rfl) (by decide) ?_
          refine K_icmp_ne (tgt := 73) (kdA dt_MX12_stage 35 rfl) rfl (fun c => ?_) (fun c => ?_)
          · have h := h.1 c
            refine K_aload_n 0 (kdA dt_MX12_stage 41 rfl) rfl rfl ?_
            refine gf12_38 rfl (kdA dt_MX12_stage 42 rfl) c1 ?_
            refine K_iload 4 (kdA dt_MX12_stage 43 rfl) rfl ?_
            obtain ⟨c6, h⟩ := h
            obtain ⟨c7, h⟩ := h
            refine K_iaload (kdA dt_MX12_stage 44 rfl) c6 c7.1 c7.2 ?_
            exact K_ireturn (kdA dt_MX12_stage 45 rfl) rfl ⟨rfl, _, rfl, h⟩
          · have h := h.2 c
            refine K_aload_n 0 (kdA dt_MX12_stage 36 rfl) rfl rfl ?_
            refine gf12_35 rfl (kdA dt_MX12_stage 37 rfl) c1 ?_
            refine K_iload 4 (kdA dt_MX12_stage 38 rfl) rfl ?_
            obtain ⟨c6, h⟩ := h
            obtain ⟨c7, h⟩ := h
            refine K_iaload (kdA dt_MX12_stage 39 rfl) c6 c7.1 c7.2 ?_
            refine K_goto (tgt := 80) (kdA dt_MX12_stage 40 rfl) rfl ?_
            exact K_ireturn (kdA dt_MX12_stage 45 rfl) rfl ⟨rfl, _, rfl, h⟩
        · have h := h.2 c
          refine K_aload_n 0 (kdA dt_MX12_stage 28 rfl) rfl rfl ?_
          refine gf12_32 rfl (kdA dt_MX12_stage 29 rfl) c1 ?_
          refine K_iload 4 (kdA dt_MX12_stage 30 rfl) rfl ?_
          obtain ⟨c6, h⟩ := h
          obtain ⟨c7, h⟩ := h
          refine K_iaload (kdA dt_MX12_stage 31 rfl) c6 c7.1 c7.2 ?_
          refine K_goto (tgt := 80) (kdA dt_MX12_stage 32 rfl) rfl ?_
          exact K_ireturn (kdA dt_MX12_stage 45 rfl) rfl ⟨rfl, _, rfl, h⟩
      · have h := h.2 c
        refine K_iconst (kdA dt_MX12_stage 18 rfl) (by decide) ?_
        exact K_ireturn (kdA dt_MX12_stage 19 rfl) rfl ⟨rfl, _, rfl, h⟩
theorem EX12_stage {d n : Nat} {Q : Int → kS → Prop} {a0 a1 a2 a3 : Int} {σ : kS} (h : (-2147483648 ≤ a1 ∧ a1 ≤ 2147483647) → (-2147483648 ≤ a2 ∧ a2 ≤ 2147483647) → (-2147483648 ≤ a3 ∧ a3 ≤ 2147483647) → kokw n σ → LX12_stage_0 d n Q a0 a1 a2 a3 σ) : Ci (d + 1) MX12_stage [(2, a0), (0, a1), (0, a2), (0, a3)] n σ Q := Tri_of (by decide +kernel) (Nat.le_of_ble_eq_true rfl) (fun hk hw => h (hk (0, a1) (List.mem_of_getElem? (i := 1) rfl)) (hk (0, a2) (List.mem_of_getElem? (i := 2) rfl)) (hk (0, a3) (List.mem_of_getElem? (i := 3) rfl)) hw)

def LX12_step_0 (d n : Nat) (Q : Int → kS → Prop) (a0 : Int) (a1 : Int) (σ : kS) : Prop := K (d + 1) MX12_step (kPi n Q) (0, 0) 0 [(0, (0, a0)), (1, (0, a1))] [] n σ
theorem SX12_step_0 {d n : Nat} {Q : Int → kS → Prop} {a0 a1 : Int} {σ : kS} (h : ((0 : Int) ≤ a0) ∧ (Ci d MX12_east [(0, a1)] n σ (fun x2 s1 => (-2147483648 ≤ ((a0 % 12) + x2) ∧ ((a0 % 12) + x2) ≤ 2147483647) ∧ (Ci d MX12_south [(0, a1)] n s1 (fun x4 s2 => (-2147483648 ≤ ((a0 / 12) + x4) ∧ ((a0 / 12) + x4) ≤ 2147483647) ∧ (Ci d MX12_isPlace [(0, ((a0 % 12) + x2)), (0, ((a0 / 12) + x4))] n s2 (fun x6 s3 => (x6 = 0 → Q (-1) s3) ∧ (¬ x6 = 0 → (-2147483648 ≤ (12 * ((a0 / 12) + x4)) ∧ (12 * ((a0 / 12) + x4)) ≤ 2147483647) ∧ ((-2147483648 ≤ ((12 * ((a0 / 12) + x4)) + ((a0 % 12) + x2)) ∧ ((12 * ((a0 / 12) + x4)) + ((a0 % 12) + x2)) ≤ 2147483647) ∧ (Q ((12 * ((a0 / 12) + x4)) + ((a0 % 12) + x2)) s3)))))))))) : LX12_step_0 d n Q a0 a1 σ := by
  unfold LX12_step_0
  refine K_iload_n 0 (kdA dt_MX12_step 0 rfl) rfl rfl ?_
  refine K_bipush (kdA dt_MX12_step 1 rfl) (by decide +kernel) ?_
  obtain ⟨c1, h⟩ := h
  refine K_irem (kdA dt_MX12_step 2 rfl) c1 (by decide) ?_
  refine K_iload_n 1 (kdA dt_MX12_step 3 rfl) rfl rfl ?_
  refine K_cSi (as := [(0, a1)]) (st := [(0, (a0 % 12))]) (kdA dt_MX12_step 4 rfl) cl_MX12_east lk12_168 rfl rfl (Nat.le_of_ble_eq_true rfl) (Ci.mono h (fun x2 s1 h => ?_))
  obtain ⟨c3, h⟩ := h
  refine K_iadd (kdA dt_MX12_step 5 rfl) c3 ?_
  refine K_istore_n (ls' := [(0, (0, a0)), (1, (0, a1)), (2, (0, ((a0 % 12) + x2)))]) (kdA dt_MX12_step 6 rfl) rfl (by decide) rfl ?_
  refine K_iload_n 0 (kdA dt_MX12_step 7 rfl) rfl rfl ?_
  refine K_bipush (kdA dt_MX12_step 8 rfl) (by decide +kernel) ?_
  refine K_idiv (kdA dt_MX12_step 9 rfl) c1 (by decide) ?_
  refine K_iload_n 1 (kdA dt_MX12_step 10 rfl) rfl rfl ?_
  refine K_cSi (as := [(0, a1)]) (st := [(0, (a0 / 12))]) (kdA dt_MX12_step 11 rfl) cl_MX12_south lk12_172 rfl rfl (Nat.le_of_ble_eq_true rfl) (Ci.mono h (fun x4 s2 h => ?_))
  obtain ⟨c5, h⟩ := h
  refine K_iadd (kdA dt_MX12_step 12 rfl) c5 ?_
  refine K_istore_n (ls' := [(0, (0, a0)), (1, (0, a1)), (2, (0, ((a0 % 12) + x2))), (3, (0, ((a0 / 12) + x4)))]) (kdA dt_MX12_step 13 rfl) rfl (by decide) rfl ?_
  refine K_iload_n 2 (kdA dt_MX12_step 14 rfl) rfl rfl ?_
  refine K_iload_n 3 (kdA dt_MX12_step 15 rfl) rfl rfl ?_
  refine K_cSi (as := [(0, ((a0 % 12) + x2)), (0, ((a0 / 12) + x4))]) (st := []) (kdA dt_MX12_step 16 rfl) cl_MX12_isPlace lk12_157 rfl rfl (Nat.le_of_ble_eq_true rfl) (Ci.mono h (fun x6 s3 h => ?_))
  refine K_if_eq (tgt := 37) (kdA dt_MX12_step 17 rfl) rfl (fun c => ?_) (fun c => ?_)
  · have h := h.1 c
    refine K_iconst (kdA dt_MX12_step 24 rfl) (by decide) ?_
    exact K_ireturn (kdA dt_MX12_step 25 rfl) rfl ⟨rfl, _, rfl, h⟩
  · have h := h.2 c
    refine K_bipush (kdA dt_MX12_step 18 rfl) (by decide +kernel) ?_
    refine K_iload_n 3 (kdA dt_MX12_step 19 rfl) rfl rfl ?_
    obtain ⟨c7, h⟩ := h
    refine K_imul (kdA dt_MX12_step 20 rfl) c7 ?_
    refine K_iload_n 2 (kdA dt_MX12_step 21 rfl) rfl rfl ?_
    obtain ⟨c8, h⟩ := h
    refine K_iadd (kdA dt_MX12_step 22 rfl) c8 ?_
    refine K_goto (tgt := 38) (kdA dt_MX12_step 23 rfl) rfl ?_
    exact K_ireturn (kdA dt_MX12_step 25 rfl) rfl ⟨rfl, _, rfl, h⟩
theorem EX12_step {d n : Nat} {Q : Int → kS → Prop} {a0 a1 : Int} {σ : kS} (h : (-2147483648 ≤ a0 ∧ a0 ≤ 2147483647) → (-2147483648 ≤ a1 ∧ a1 ≤ 2147483647) → kokw n σ → LX12_step_0 d n Q a0 a1 σ) : Ci (d + 1) MX12_step [(0, a0), (0, a1)] n σ Q := Tri_of (by decide +kernel) (Nat.le_of_ble_eq_true rfl) (fun hk hw => h (hk (0, a0) (List.mem_of_getElem? (i := 0) rfl)) (hk (0, a1) (List.mem_of_getElem? (i := 1) rfl)) hw)

def LX12_sum_0 (d n : Nat) (Q : Int → kS → Prop) (a0 : Int) (σ : kS) : Prop := K (d + 1) MX12_sum (kPi n Q) (0, 0) 0 [(0, (2, a0))] [] n σ
def LX12_sum_5 (d n : Nat) (Q : Int → kS → Prop) (a0 : Int) (a1 : Int) (σ : kS) : Prop := K (d + 1) MX12_sum (kPi n Q) (0, 0) 5 [(0, (2, a0)), (1, (0, a1))] [] n σ
theorem SX12_sum_0 {d n : Nat} {Q : Int → kS → Prop} {a0 : Int} {σ : kS} (h : isO 12 n a0 ∧ (Ci d MX12_term [(2, a0)] n σ (fun x2 s1 => LX12_sum_5 d n Q a0 x2 s1))) : LX12_sum_0 d n Q a0 σ := by
  unfold LX12_sum_0
  refine K_aload_n 0 (kdA dt_MX12_sum 0 rfl) rfl rfl ?_
  obtain ⟨c1, h⟩ := h
  refine K_cVi (c := 12) (as := []) (st := []) (kdA dt_MX12_sum 1 rfl) rfl cl_MX12_term lk12_258 rfl rfl (Nat.le_of_ble_eq_true rfl) c1 (Ci.mono h (fun x2 s1 h => ?_))
  refine K_istore_n (ls' := [(0, (2, a0)), (1, (0, x2))]) (kdA dt_MX12_sum 2 rfl) rfl (by decide) rfl ?_
  exact h
theorem SX12_sum_5 {d n : Nat} {Q : Int → kS → Prop} {a0 a1 : Int} {σ : kS} (h : isO 12 n a0 ∧ ((¬ (σ a0 19) = (-1) → Q a1 σ) ∧ (¬ (¬ (σ a0 19) = (-1)) → Ci d MX12_look [(2, a0)] n σ (fun x2 s1 => (x2 = 43 → Ci d MX12_look [(2, a0)] n s1 (fun x3 s2 => (¬ x3 = 43 → (-2147483648 ≤ ((s2 a0 18) + 1) ∧ ((s2 a0 18) + 1) ≤ 2147483647) ∧ (∀ s3, s3 = kst s2 a0 18 ((s2 a0 18) + 1) → Ci d MX12_term [(2, a0)] n s3 (fun x5 s4 => Ci d MX12_within [(1, (klsub a1 x5))] n s4 (fun x6 s5 => LX12_sum_5 d n Q a0 x6 s5)))) ∧ (¬ (¬ x3 = 43) → (-2147483648 ≤ ((s2 a0 18) + 1) ∧ ((s2 a0 18) + 1) ≤ 2147483647) ∧ (∀ s3, s3 = kst s2 a0 18 ((s2 a0 18) + 1) → Ci d MX12_term [(2, a0)] n s3 (fun x5 s4 => Ci d MX12_within [(1, (kladd a1 x5))] n s4 (fun x6 s5 => LX12_sum_5 d n Q a0 x6 s5)))))) ∧ (¬ x2 = 43 → Ci d MX12_look [(2, a0)] n s1 (fun x3 s2 => (¬ x3 = 45 → Q a1 s2) ∧ (¬ (¬ x3 = 45) → Ci d MX12_look [(2, a0)] n s2 (fun x4 s3 => (¬ x4 = 43 → (-2147483648 ≤ ((s3 a0 18) + 1) ∧ ((s3 a0 18) + 1) ≤ 2147483647) ∧ (∀ s4, s4 = kst s3 a0 18 ((s3 a0 18) + 1) → Ci d MX12_term [(2, a0)] n s4 (fun x6 s5 => Ci d MX12_within [(1, (klsub a1 x6))] n s5 (fun x7 s6 => LX12_sum_5 d n Q a0 x7 s6)))) ∧ (¬ (¬ x4 = 43) → (-2147483648 ≤ ((s3 a0 18) + 1) ∧ ((s3 a0 18) + 1) ≤ 2147483647) ∧ (∀ s4, s4 = kst s3 a0 18 ((s3 a0 18) + 1) → Ci d MX12_term [(2, a0)] n s4 (fun x6 s5 => Ci d MX12_within [(1, (kladd a1 x6))] n s5 (fun x7 s6 => LX12_sum_5 d n Q a0 x7 s6)))))))))))) : LX12_sum_5 d n Q a0 a1 σ := by
  unfold LX12_sum_5
  refine K_aload_n 0 (kdA dt_MX12_sum 3 rfl) rfl rfl ?_
  obtain ⟨c1, h⟩ := h
  refine gf12_212 rfl (kdA dt_MX12_sum 4 rfl) c1 ?_
  refine K_iconst (kdA dt_MX12_sum 5 rfl) (by decide) ?_
  refine K_icmp_ne (tgt := 84) (kdA dt_MX12_sum 6 rfl) rfl (fun c => ?_) (fun c => ?_)
  · have h := h.1 c
    refine K_iload_n 1 (kdA dt_MX12_sum 47 rfl) rfl rfl ?_
    exact K_ireturn (kdA dt_MX12_sum 48 rfl) rfl ⟨rfl, _, rfl, h⟩
  · have h := h.2 c
    refine K_aload_n 0 (kdA dt_MX12_sum 7 rfl) rfl rfl ?_
    refine K_cVi (c := 12) (as := []) (st := []) (kdA dt_MX12_sum 8 rfl) rfl cl_MX12_look lk12_222 rfl rfl (Nat.le_of_ble_eq_true rfl) c1 (Ci.mono h (fun x2 s1 h => ?_))
    refine K_bipush (kdA dt_MX12_sum 9 rfl) (by decide +kernel) ?_
    refine K_icmp_eq (tgt := 31) (kdA dt_MX12_sum 10 rfl) rfl (fun c => ?_) (fun c => ?_)
    · have h := h.1 c
      refine K_aload_n 0 (kdA dt_MX12_sum 15 rfl) rfl rfl ?_
      refine K_cVi (c := 12) (as := []) (st := []) (kdA dt_MX12_sum 16 rfl) rfl cl_MX12_look lk12_222 rfl rfl (Nat.le_of_ble_eq_true rfl) c1 (Ci.mono h (fun x3 s2 h => ?_))
      refine K_bipush (kdA dt_MX12_sum 17 rfl) (by decide +kernel) ?_
      refine K_icmp_ne (tgt := 44) (kdA dt_MX12_sum 18 rfl) rfl (fun c => ?_) (fun c => ?_)
      · have h := h.1 c
        refine K_iconst (kdA dt_MX12_sum 21 rfl) (by decide) ?_
        refine K_istore_n (ls' := [(0, (2, a0)), (1, (0, a1)), (2, (0, 0))]) (kdA dt_MX12_sum 22 rfl) rfl (by decide) rfl ?_
        refine K_aload_n 0 (kdA dt_MX12_sum 23 rfl) rfl rfl ?_
        refine K_dup (kdA dt_MX12_sum 24 rfl) rfl ?_
        refine gf12_203 rfl (kdA dt_MX12_sum 25 rfl) c1 ?_
        refine K_iconst (kdA dt_MX12_sum 26 rfl) (by decide) ?_
        obtain ⟨c4, h⟩ := h
        refine K_iadd (kdA dt_MX12_sum 27 rfl) c4 ?_
        refine pf12_203 rfl (kdA dt_MX12_sum 28 rfl) c1 (fun s3 es3 => ?_)
        have h := h s3 es3
        refine K_aload_n 0 (kdA dt_MX12_sum 29 rfl) rfl rfl ?_
        refine K_cVi (c := 12) (as := []) (st := []) (kdA dt_MX12_sum 30 rfl) rfl cl_MX12_term lk12_258 rfl rfl (Nat.le_of_ble_eq_true rfl) c1 (Ci.mono h (fun x5 s4 h => ?_))
        refine K_i2l (kdA dt_MX12_sum 31 rfl) ?_
        refine K_lstore_n (ls' := [(0, (2, a0)), (1, (0, a1)), (2, (0, 0)), (3, (1, x5))]) (kdA dt_MX12_sum 32 rfl) rfl (by decide) rfl ?_
        refine K_iload_n 2 (kdA dt_MX12_sum 33 rfl) rfl rfl ?_
        refine K_if_eq (tgt := 73) (kdA dt_MX12_sum 34 rfl) rfl (fun _ => ?_) (fun c => absurd (by decide) c)
        refine K_iload_n 1 (kdA dt_MX12_sum 40 rfl) rfl rfl ?_
        refine K_i2l (kdA dt_MX12_sum 41 rfl) ?_
        refine K_lload_n 3 (kdA dt_MX12_sum 42 rfl) rfl rfl ?_
        refine K_lsub (kdA dt_MX12_sum 43 rfl) ?_
        refine K_cSi (as := [(1, (klsub a1 x5))]) (st := []) (kdA dt_MX12_sum 44 rfl) cl_MX12_within lk12_254 rfl rfl (Nat.le_of_ble_eq_true rfl) (Ci.mono h (fun x6 s5 h => ?_))
        refine K_istore_n (ls' := [(0, (2, a0)), (1, (0, x6)), (2, (0, 0)), (3, (1, x5))]) (kdA dt_MX12_sum 45 rfl) rfl (by decide) rfl ?_
        refine K_goto (tgt := 5) (kdA dt_MX12_sum 46 rfl) rfl ?_
        refine K_pick [0, 1] (ls' := [(0, (2, a0)), (1, (0, x6))]) rfl ?_
        exact h
      · have h := h.2 c
        refine K_iconst (kdA dt_MX12_sum 19 rfl) (by decide) ?_
        refine K_goto (tgt := 45) (kdA dt_MX12_sum 20 rfl) rfl ?_
        refine K_istore_n (ls' := [(0, (2, a0)), (1, (0, a1)), (2, (0, 1))]) (kdA dt_MX12_sum 22 rfl) rfl (by decide) rfl ?_
        refine K_aload_n 0 (kdA dt_MX12_sum 23 rfl) rfl rfl ?_
        refine K_dup (kdA dt_MX12_sum 24 rfl) rfl ?_
        refine gf12_203 rfl (kdA dt_MX12_sum 25 rfl) c1 ?_
        refine K_iconst (kdA dt_MX12_sum 26 rfl) (by decide) ?_
        obtain ⟨c4, h⟩ := h
        refine K_iadd (kdA dt_MX12_sum 27 rfl) c4 ?_
        refine pf12_203 rfl (kdA dt_MX12_sum 28 rfl) c1 (fun s3 es3 => ?_)
        have h := h s3 es3
        refine K_aload_n 0 (kdA dt_MX12_sum 29 rfl) rfl rfl ?_
        refine K_cVi (c := 12) (as := []) (st := []) (kdA dt_MX12_sum 30 rfl) rfl cl_MX12_term lk12_258 rfl rfl (Nat.le_of_ble_eq_true rfl) c1 (Ci.mono h (fun x5 s4 h => ?_))
        refine K_i2l (kdA dt_MX12_sum 31 rfl) ?_
        refine K_lstore_n (ls' := [(0, (2, a0)), (1, (0, a1)), (2, (0, 1)), (3, (1, x5))]) (kdA dt_MX12_sum 32 rfl) rfl (by decide) rfl ?_
        refine K_iload_n 2 (kdA dt_MX12_sum 33 rfl) rfl rfl ?_
        refine K_if_eq (tgt := 73) (kdA dt_MX12_sum 34 rfl) rfl (fun c => absurd c (by decide)) (fun _ => ?_)
        refine K_iload_n 1 (kdA dt_MX12_sum 35 rfl) rfl rfl ?_
        refine K_i2l (kdA dt_MX12_sum 36 rfl) ?_
        refine K_lload_n 3 (kdA dt_MX12_sum 37 rfl) rfl rfl ?_
        refine K_ladd (kdA dt_MX12_sum 38 rfl) ?_
        refine K_goto (tgt := 77) (kdA dt_MX12_sum 39 rfl) rfl ?_
        refine K_cSi (as := [(1, (kladd a1 x5))]) (st := []) (kdA dt_MX12_sum 44 rfl) cl_MX12_within lk12_254 rfl rfl (Nat.le_of_ble_eq_true rfl) (Ci.mono h (fun x6 s5 h => ?_))
        refine K_istore_n (ls' := [(0, (2, a0)), (1, (0, x6)), (2, (0, 1)), (3, (1, x5))]) (kdA dt_MX12_sum 45 rfl) rfl (by decide) rfl ?_
        refine K_goto (tgt := 5) (kdA dt_MX12_sum 46 rfl) rfl ?_
        refine K_pick [0, 1] (ls' := [(0, (2, a0)), (1, (0, x6))]) rfl ?_
        exact h
    · have h := h.2 c
      refine K_aload_n 0 (kdA dt_MX12_sum 11 rfl) rfl rfl ?_
      refine K_cVi (c := 12) (as := []) (st := []) (kdA dt_MX12_sum 12 rfl) rfl cl_MX12_look lk12_222 rfl rfl (Nat.le_of_ble_eq_true rfl) c1 (Ci.mono h (fun x3 s2 h => ?_))
      refine K_bipush (kdA dt_MX12_sum 13 rfl) (by decide +kernel) ?_
      refine K_icmp_ne (tgt := 84) (kdA dt_MX12_sum 14 rfl) rfl (fun c => ?_) (fun c => ?_)
      · have h := h.1 c
        refine K_iload_n 1 (kdA dt_MX12_sum 47 rfl) rfl rfl ?_
        exact K_ireturn (kdA dt_MX12_sum 48 rfl) rfl ⟨rfl, _, rfl, h⟩
      · have h := h.2 c
        refine K_aload_n 0 (kdA dt_MX12_sum 15 rfl) rfl rfl ?_
        refine K_cVi (c := 12) (as := []) (st := []) (kdA dt_MX12_sum 16 rfl) rfl cl_MX12_look lk12_222 rfl rfl (Nat.le_of_ble_eq_true rfl) c1 (Ci.mono h (fun x4 s3 h => ?_))
        refine K_bipush (kdA dt_MX12_sum 17 rfl) (by decide +kernel) ?_
        refine K_icmp_ne (tgt := 44) (kdA dt_MX12_sum 18 rfl) rfl (fun c => ?_) (fun c => ?_)
        · have h := h.1 c
          refine K_iconst (kdA dt_MX12_sum 21 rfl) (by decide) ?_
          refine K_istore_n (ls' := [(0, (2, a0)), (1, (0, a1)), (2, (0, 0))]) (kdA dt_MX12_sum 22 rfl) rfl (by decide) rfl ?_
          refine K_aload_n 0 (kdA dt_MX12_sum 23 rfl) rfl rfl ?_
          refine K_dup (kdA dt_MX12_sum 24 rfl) rfl ?_
          refine gf12_203 rfl (kdA dt_MX12_sum 25 rfl) c1 ?_
          refine K_iconst (kdA dt_MX12_sum 26 rfl) (by decide) ?_
          obtain ⟨c5, h⟩ := h
          refine K_iadd (kdA dt_MX12_sum 27 rfl) c5 ?_
          refine pf12_203 rfl (kdA dt_MX12_sum 28 rfl) c1 (fun s4 es4 => ?_)
          have h := h s4 es4
          refine K_aload_n 0 (kdA dt_MX12_sum 29 rfl) rfl rfl ?_
          refine K_cVi (c := 12) (as := []) (st := []) (kdA dt_MX12_sum 30 rfl) rfl cl_MX12_term lk12_258 rfl rfl (Nat.le_of_ble_eq_true rfl) c1 (Ci.mono h (fun x6 s5 h => ?_))
          refine K_i2l (kdA dt_MX12_sum 31 rfl) ?_
          refine K_lstore_n (ls' := [(0, (2, a0)), (1, (0, a1)), (2, (0, 0)), (3, (1, x6))]) (kdA dt_MX12_sum 32 rfl) rfl (by decide) rfl ?_
          refine K_iload_n 2 (kdA dt_MX12_sum 33 rfl) rfl rfl ?_
          refine K_if_eq (tgt := 73) (kdA dt_MX12_sum 34 rfl) rfl (fun _ => ?_) (fun c => absurd (by decide) c)
          refine K_iload_n 1 (kdA dt_MX12_sum 40 rfl) rfl rfl ?_
          refine K_i2l (kdA dt_MX12_sum 41 rfl) ?_
          refine K_lload_n 3 (kdA dt_MX12_sum 42 rfl) rfl rfl ?_
          refine K_lsub (kdA dt_MX12_sum 43 rfl) ?_
          refine K_cSi (as := [(1, (klsub a1 x6))]) (st := []) (kdA dt_MX12_sum 44 rfl) cl_MX12_within lk12_254 rfl rfl (Nat.le_of_ble_eq_true rfl) (Ci.mono h (fun x7 s6 h => ?_))
          refine K_istore_n (ls' := [(0, (2, a0)), (1, (0, x7)), (2, (0, 0)), (3, (1, x6))]) (kdA dt_MX12_sum 45 rfl) rfl (by decide) rfl ?_
          refine K_goto (tgt := 5) (kdA dt_MX12_sum 46 rfl) rfl ?_
          refine K_pick [0, 1] (ls' := [(0, (2, a0)), (1, (0, x7))]) rfl ?_
          exact h
        · have h := h.2 c
          refine K_iconst (kdA dt_MX12_sum 19 rfl) (by decide) ?_
          refine K_goto (tgt := 45) (kdA dt_MX12_sum 20 rfl) rfl ?_
          refine K_istore_n (ls' := [(0, (2, a0)), (1, (0, a1)), (2, (0, 1))]) (kdA dt_MX12_sum 22 rfl) rfl (by decide) rfl ?_
          refine K_aload_n 0 (kdA dt_MX12_sum 23 rfl) rfl rfl ?_
          refine K_dup (kdA dt_MX12_sum 24 rfl) rfl ?_
          refine gf12_203 rfl (kdA dt_MX12_sum 25 rfl) c1 ?_
          refine K_iconst (kdA dt_MX12_sum 26 rfl) (by decide) ?_
          obtain ⟨c5, h⟩ := h
          refine K_iadd (kdA dt_MX12_sum 27 rfl) c5 ?_
          refine pf12_203 rfl (kdA dt_MX12_sum 28 rfl) c1 (fun s4 es4 => ?_)
          have h := h s4 es4
          refine K_aload_n 0 (kdA dt_MX12_sum 29 rfl) rfl rfl ?_
          refine K_cVi (c := 12) (as := []) (st := []) (kdA dt_MX12_sum 30 rfl) rfl cl_MX12_term lk12_258 rfl rfl (Nat.le_of_ble_eq_true rfl) c1 (Ci.mono h (fun x6 s5 h => ?_))
          refine K_i2l (kdA dt_MX12_sum 31 rfl) ?_
          refine K_lstore_n (ls' := [(0, (2, a0)), (1, (0, a1)), (2, (0, 1)), (3, (1, x6))]) (kdA dt_MX12_sum 32 rfl) rfl (by decide) rfl ?_
          refine K_iload_n 2 (kdA dt_MX12_sum 33 rfl) rfl rfl ?_
          refine K_if_eq (tgt := 73) (kdA dt_MX12_sum 34 rfl) rfl (fun c => absurd c (by decide)) (fun _ => ?_)
          refine K_iload_n 1 (kdA dt_MX12_sum 35 rfl) rfl rfl ?_
          refine K_i2l (kdA dt_MX12_sum 36 rfl) ?_
          refine K_lload_n 3 (kdA dt_MX12_sum 37 rfl) rfl rfl ?_
          refine K_ladd (kdA dt_MX12_sum 38 rfl) ?_
          refine K_goto (tgt := 77) (kdA dt_MX12_sum 39 rfl) rfl ?_
          refine K_cSi (as := [(1, (kladd a1 x6))]) (st := []) (kdA dt_MX12_sum 44 rfl) cl_MX12_within lk12_254 rfl rfl (Nat.le_of_ble_eq_true rfl) (Ci.mono h (fun x7 s6 h => ?_))
          refine K_istore_n (ls' := [(0, (2, a0)), (1, (0, x7)), (2, (0, 1)), (3, (1, x6))]) (kdA dt_MX12_sum 45 rfl) rfl (by decide) rfl ?_
          refine K_goto (tgt := 5) (kdA dt_MX12_sum 46 rfl) rfl ?_
          refine K_pick [0, 1] (ls' := [(0, (2, a0)), (1, (0, x7))]) rfl ?_
          exact h
theorem EX12_sum {d n : Nat} {Q : Int → kS → Prop} {a0 : Int} {σ : kS} (h : kokw n σ → LX12_sum_0 d n Q a0 σ) : Ci (d + 1) MX12_sum [(2, a0)] n σ Q := Tri_of (by decide +kernel) (Nat.le_of_ble_eq_true rfl) (fun hk hw => h hw)

def LX12_takes_0 (d n : Nat) (Q : Int → kS → Prop) (a0 : Int) (a1 : Int) (σ : kS) : Prop := K (d + 1) MX12_takes (kPi n Q) (0, 0) 0 [(0, (2, a0)), (1, (0, a1))] [] n σ
theorem SX12_takes_0 {d n : Nat} {Q : Int → kS → Prop} {a0 a1 : Int} {σ : kS} (h : isO 12 n a0 ∧ ((¬ (σ a0 19) = (-1) → Ci d MX12_fails [(2, a0)] n σ (fun x2 s1 => (x2 = 0 ∨ x2 = 1) ∧ (Q x2 s1))) ∧ (¬ (¬ (σ a0 19) = (-1)) → Ci d MX12_look [(2, a0)] n σ (fun x2 s1 => (x2 = a1 → (-2147483648 ≤ ((s1 a0 18) + 1) ∧ ((s1 a0 18) + 1) ≤ 2147483647) ∧ (∀ s2, s2 = kst s1 a0 18 ((s1 a0 18) + 1) → Q 1 s2)) ∧ (¬ x2 = a1 → Ci d MX12_fails [(2, a0)] n s1 (fun x3 s2 => (x3 = 0 ∨ x3 = 1) ∧ (Q x3 s2))))))) : LX12_takes_0 d n Q a0 a1 σ := by
  unfold LX12_takes_0
  refine K_aload_n 0 (kdA dt_MX12_takes 0 rfl) rfl rfl ?_
  obtain ⟨c1, h⟩ := h
  refine gf12_212 rfl (kdA dt_MX12_takes 1 rfl) c1 ?_
  refine K_iconst (kdA dt_MX12_takes 2 rfl) (by decide) ?_
  refine K_icmp_ne (tgt := 16) (kdA dt_MX12_takes 3 rfl) rfl (fun c => ?_) (fun c => ?_)
  · have h := h.1 c
    refine K_aload_n 0 (kdA dt_MX12_takes 8 rfl) rfl rfl ?_
    refine K_cVi (c := 12) (as := []) (st := []) (kdA dt_MX12_takes 9 rfl) rfl cl_MX12_fails lk12_218 rfl rfl (Nat.le_of_ble_eq_true rfl) c1 (Ci.mono h (fun x2 s1 h => ?_))
    obtain ⟨c3, h⟩ := h
    exact K_zreturn (kdA dt_MX12_takes 10 rfl) rfl c3 ⟨rfl, _, rfl, h⟩
  · have h := h.2 c
    refine K_aload_n 0 (kdA dt_MX12_takes 4 rfl) rfl rfl ?_
    refine K_cVi (c := 12) (as := []) (st := []) (kdA dt_MX12_takes 5 rfl) rfl cl_MX12_look lk12_222 rfl rfl (Nat.le_of_ble_eq_true rfl) c1 (Ci.mono h (fun x2 s1 h => ?_))
    refine K_iload_n 1 (kdA dt_MX12_takes 6 rfl) rfl rfl ?_
    refine K_icmp_eq (tgt := 21) (kdA dt_MX12_takes 7 rfl) rfl (fun c => ?_) (fun c => ?_)
    · have h := h.1 c
      refine K_aload_n 0 (kdA dt_MX12_takes 11 rfl) rfl rfl ?_
      refine K_dup (kdA dt_MX12_takes 12 rfl) rfl ?_
      refine gf12_203 rfl (kdA dt_MX12_takes 13 rfl) c1 ?_
      refine K_iconst (kdA dt_MX12_takes 14 rfl) (by decide) ?_
      obtain ⟨c3, h⟩ := h
      refine K_iadd (kdA dt_MX12_takes 15 rfl) c3 ?_
      refine pf12_203 rfl (kdA dt_MX12_takes 16 rfl) c1 (fun s2 es2 => ?_)
      have h := h s2 es2
      refine K_iconst (kdA dt_MX12_takes 17 rfl) (by decide) ?_
      exact K_zreturn (kdA dt_MX12_takes 18 rfl) rfl (Or.inr rfl) ⟨rfl, _, rfl, h⟩
    · have h := h.2 c
      refine K_aload_n 0 (kdA dt_MX12_takes 8 rfl) rfl rfl ?_
      refine K_cVi (c := 12) (as := []) (st := []) (kdA dt_MX12_takes 9 rfl) rfl cl_MX12_fails lk12_218 rfl rfl (Nat.le_of_ble_eq_true rfl) c1 (Ci.mono h (fun x3 s2 h => ?_))
      obtain ⟨c4, h⟩ := h
      exact K_zreturn (kdA dt_MX12_takes 10 rfl) rfl c4 ⟨rfl, _, rfl, h⟩
theorem EX12_takes {d n : Nat} {Q : Int → kS → Prop} {a0 a1 : Int} {σ : kS} (h : (-2147483648 ≤ a1 ∧ a1 ≤ 2147483647) → kokw n σ → LX12_takes_0 d n Q a0 a1 σ) : Ci (d + 1) MX12_takes [(2, a0), (0, a1)] n σ Q := Tri_of (by decide +kernel) (Nat.le_of_ble_eq_true rfl) (fun hk hw => h (hk (0, a1) (List.mem_of_getElem? (i := 1) rfl)) hw)

def LX12_term_0 (d n : Nat) (Q : Int → kS → Prop) (a0 : Int) (σ : kS) : Prop := K (d + 1) MX12_term (kPi n Q) (0, 0) 0 [(0, (2, a0))] [] n σ
def LX12_term_5 (d n : Nat) (Q : Int → kS → Prop) (a0 : Int) (a1 : Int) (σ : kS) : Prop := K (d + 1) MX12_term (kPi n Q) (0, 0) 5 [(0, (2, a0)), (1, (0, a1))] [] n σ
theorem SX12_term_0 {d n : Nat} {Q : Int → kS → Prop} {a0 : Int} {σ : kS} (h : isO 12 n a0 ∧ (Ci d MX12_atom [(2, a0)] n σ (fun x2 s1 => LX12_term_5 d n Q a0 x2 s1))) : LX12_term_0 d n Q a0 σ := by
  unfold LX12_term_0
  refine K_aload_n 0 (kdA dt_MX12_term 0 rfl) rfl rfl ?_
  obtain ⟨c1, h⟩ := h
  refine K_cVi (c := 12) (as := []) (st := []) (kdA dt_MX12_term 1 rfl) rfl cl_MX12_atom lk12_251 rfl rfl (Nat.le_of_ble_eq_true rfl) c1 (Ci.mono h (fun x2 s1 h => ?_))
  refine K_istore_n (ls' := [(0, (2, a0)), (1, (0, x2))]) (kdA dt_MX12_term 2 rfl) rfl (by decide) rfl ?_
  exact h
theorem SX12_term_5 {d n : Nat} {Q : Int → kS → Prop} {a0 a1 : Int} {σ : kS} (h : isO 12 n a0 ∧ ((¬ (σ a0 19) = (-1) → Q a1 σ) ∧ (¬ (¬ (σ a0 19) = (-1)) → Ci d MX12_look [(2, a0)] n σ (fun x2 s1 => (x2 = 42 → Ci d MX12_look [(2, a0)] n s1 (fun x3 s2 => (¬ x3 = 42 → (-2147483648 ≤ ((s2 a0 18) + 1) ∧ ((s2 a0 18) + 1) ≤ 2147483647) ∧ (∀ s3, s3 = kst s2 a0 18 ((s2 a0 18) + 1) → Ci d MX12_atom [(2, a0)] n s3 (fun x5 s4 => (¬ (klcmp x5 0) = 0 → (x5 ≠ 0) ∧ (Ci d MX12_within [(1, (kldiv a1 x5))] n s4 (fun x7 s5 => LX12_term_5 d n Q a0 x7 s5))) ∧ (¬ (¬ (klcmp x5 0) = 0) → Ci d MX12_within [(1, 0)] n s4 (fun x6 s5 => LX12_term_5 d n Q a0 x6 s5))))) ∧ (¬ (¬ x3 = 42) → (-2147483648 ≤ ((s2 a0 18) + 1) ∧ ((s2 a0 18) + 1) ≤ 2147483647) ∧ (∀ s3, s3 = kst s2 a0 18 ((s2 a0 18) + 1) → Ci d MX12_atom [(2, a0)] n s3 (fun x5 s4 => Ci d MX12_within [(1, (klmul a1 x5))] n s4 (fun x6 s5 => LX12_term_5 d n Q a0 x6 s5)))))) ∧ (¬ x2 = 42 → Ci d MX12_look [(2, a0)] n s1 (fun x3 s2 => (¬ x3 = 47 → Q a1 s2) ∧ (¬ (¬ x3 = 47) → Ci d MX12_look [(2, a0)] n s2 (fun x4 s3 => (¬ x4 = 42 → (-2147483648 ≤ ((s3 a0 18) + 1) ∧ ((s3 a0 18) + 1) ≤ 2147483647) ∧ (∀ s4, s4 = kst s3 a0 18 ((s3 a0 18) + 1) → Ci d MX12_atom [(2, a0)] n s4 (fun x6 s5 => (¬ (klcmp x6 0) = 0 → (x6 ≠ 0) ∧ (Ci d MX12_within [(1, (kldiv a1 x6))] n s5 (fun x8 s6 => LX12_term_5 d n Q a0 x8 s6))) ∧ (¬ (¬ (klcmp x6 0) = 0) → Ci d MX12_within [(1, 0)] n s5 (fun x7 s6 => LX12_term_5 d n Q a0 x7 s6))))) ∧ (¬ (¬ x4 = 42) → (-2147483648 ≤ ((s3 a0 18) + 1) ∧ ((s3 a0 18) + 1) ≤ 2147483647) ∧ (∀ s4, s4 = kst s3 a0 18 ((s3 a0 18) + 1) → Ci d MX12_atom [(2, a0)] n s4 (fun x6 s5 => Ci d MX12_within [(1, (klmul a1 x6))] n s5 (fun x7 s6 => LX12_term_5 d n Q a0 x7 s6)))))))))))) : LX12_term_5 d n Q a0 a1 σ := by
  unfold LX12_term_5
  refine K_aload_n 0 (kdA dt_MX12_term 3 rfl) rfl rfl ?_
  obtain ⟨c1, h⟩ := h
  refine gf12_212 rfl (kdA dt_MX12_term 4 rfl) c1 ?_
  refine K_iconst (kdA dt_MX12_term 5 rfl) (by decide) ?_
  refine K_icmp_ne (tgt := 94) (kdA dt_MX12_term 6 rfl) rfl (fun c => ?_) (fun c => ?_)
  · have h := h.1 c
    refine K_iload_n 1 (kdA dt_MX12_term 53 rfl) rfl rfl ?_
    exact K_ireturn (kdA dt_MX12_term 54 rfl) rfl ⟨rfl, _, rfl, h⟩
  · have h := h.2 c
    refine K_aload_n 0 (kdA dt_MX12_term 7 rfl) rfl rfl ?_
    refine K_cVi (c := 12) (as := []) (st := []) (kdA dt_MX12_term 8 rfl) rfl cl_MX12_look lk12_222 rfl rfl (Nat.le_of_ble_eq_true rfl) c1 (Ci.mono h (fun x2 s1 h => ?_))
    refine K_bipush (kdA dt_MX12_term 9 rfl) (by decide +kernel) ?_
    refine K_icmp_eq (tgt := 31) (kdA dt_MX12_term 10 rfl) rfl (fun c => ?_) (fun c => ?_)
    · have h := h.1 c
      refine K_aload_n 0 (kdA dt_MX12_term 15 rfl) rfl rfl ?_
      refine K_cVi (c := 12) (as := []) (st := []) (kdA dt_MX12_term 16 rfl) rfl cl_MX12_look lk12_222 rfl rfl (Nat.le_of_ble_eq_true rfl) c1 (Ci.mono h (fun x3 s2 h => ?_))
      refine K_bipush (kdA dt_MX12_term 17 rfl) (by decide +kernel) ?_
      refine K_icmp_ne (tgt := 44) (kdA dt_MX12_term 18 rfl) rfl (fun c => ?_) (fun c => ?_)
      · have h := h.1 c
        refine K_iconst (kdA dt_MX12_term 21 rfl) (by decide) ?_
        refine K_istore_n (ls' := [(0, (2, a0)), (1, (0, a1)), (2, (0, 0))]) (kdA dt_MX12_term 22 rfl) rfl (by decide) rfl ?_
        refine K_aload_n 0 (kdA dt_MX12_term 23 rfl) rfl rfl ?_
        refine K_dup (kdA dt_MX12_term 24 rfl) rfl ?_
        refine gf12_203 rfl (kdA dt_MX12_term 25 rfl) c1 ?_
        refine K_iconst (kdA dt_MX12_term 26 rfl) (by decide) ?_
        obtain ⟨c4, h⟩ := h
        refine K_iadd (kdA dt_MX12_term 27 rfl) c4 ?_
        refine pf12_203 rfl (kdA dt_MX12_term 28 rfl) c1 (fun s3 es3 => ?_)
        have h := h s3 es3
        refine K_aload_n 0 (kdA dt_MX12_term 29 rfl) rfl rfl ?_
        refine K_cVi (c := 12) (as := []) (st := []) (kdA dt_MX12_term 30 rfl) rfl cl_MX12_atom lk12_251 rfl rfl (Nat.le_of_ble_eq_true rfl) c1 (Ci.mono h (fun x5 s4 h => ?_))
        refine K_i2l (kdA dt_MX12_term 31 rfl) ?_
        refine K_lstore_n (ls' := [(0, (2, a0)), (1, (0, a1)), (2, (0, 0)), (3, (1, x5))]) (kdA dt_MX12_term 32 rfl) rfl (by decide) rfl ?_
        refine K_iload_n 2 (kdA dt_MX12_term 33 rfl) rfl rfl ?_
        refine K_if_eq (tgt := 73) (kdA dt_MX12_term 34 rfl) rfl (fun _ => ?_) (fun c => absurd (by decide) c)
        refine K_lload_n 3 (kdA dt_MX12_term 40 rfl) rfl rfl ?_
        refine K_lconst (x := 0) (kdA dt_MX12_term 41 rfl) (by decide +kernel) ?_
        refine K_lcmp (kdA dt_MX12_term 42 rfl) ?_
        refine K_if_ne (tgt := 83) (kdA dt_MX12_term 43 rfl) rfl (fun c => ?_) (fun c => ?_)
        · have h := h.1 c
          refine K_iload_n 1 (kdA dt_MX12_term 46 rfl) rfl rfl ?_
          refine K_i2l (kdA dt_MX12_term 47 rfl) ?_
          refine K_lload_n 3 (kdA dt_MX12_term 48 rfl) rfl rfl ?_
          obtain ⟨c6, h⟩ := h
          refine K_ldiv (kdA dt_MX12_term 49 rfl) c6 ?_
          refine K_cSi (as := [(1, (kldiv a1 x5))]) (st := []) (kdA dt_MX12_term 50 rfl) cl_MX12_within lk12_254 rfl rfl (Nat.le_of_ble_eq_true rfl) (Ci.mono h (fun x7 s5 h => ?_))
          refine K_istore_n (ls' := [(0, (2, a0)), (1, (0, x7)), (2, (0, 0)), (3, (1, x5))]) (kdA dt_MX12_term 51 rfl) rfl (by decide) rfl ?_
          refine K_goto (tgt := 5) (kdA dt_MX12_term 52 rfl) rfl ?_
          refine K_pick [0, 1] (ls' := [(0, (2, a0)), (1, (0, x7))]) rfl ?_
          exact h
        · have h := h.2 c
          refine K_lconst (x := 0) (kdA dt_MX12_term 44 rfl) (by decide +kernel) ?_
          refine K_goto (tgt := 87) (kdA dt_MX12_term 45 rfl) rfl ?_
          refine K_cSi (as := [(1, 0)]) (st := []) (kdA dt_MX12_term 50 rfl) cl_MX12_within lk12_254 rfl rfl (Nat.le_of_ble_eq_true rfl) (Ci.mono h (fun x6 s5 h => ?_))
          refine K_istore_n (ls' := [(0, (2, a0)), (1, (0, x6)), (2, (0, 0)), (3, (1, x5))]) (kdA dt_MX12_term 51 rfl) rfl (by decide) rfl ?_
          refine K_goto (tgt := 5) (kdA dt_MX12_term 52 rfl) rfl ?_
          refine K_pick [0, 1] (ls' := [(0, (2, a0)), (1, (0, x6))]) rfl ?_
          exact h
      · have h := h.2 c
        refine K_iconst (kdA dt_MX12_term 19 rfl) (by decide) ?_
        refine K_goto (tgt := 45) (kdA dt_MX12_term 20 rfl) rfl ?_
        refine K_istore_n (ls' := [(0, (2, a0)), (1, (0, a1)), (2, (0, 1))]) (kdA dt_MX12_term 22 rfl) rfl (by decide) rfl ?_
        refine K_aload_n 0 (kdA dt_MX12_term 23 rfl) rfl rfl ?_
        refine K_dup (kdA dt_MX12_term 24 rfl) rfl ?_
        refine gf12_203 rfl (kdA dt_MX12_term 25 rfl) c1 ?_
        refine K_iconst (kdA dt_MX12_term 26 rfl) (by decide) ?_
        obtain ⟨c4, h⟩ := h
        refine K_iadd (kdA dt_MX12_term 27 rfl) c4 ?_
        refine pf12_203 rfl (kdA dt_MX12_term 28 rfl) c1 (fun s3 es3 => ?_)
        have h := h s3 es3
        refine K_aload_n 0 (kdA dt_MX12_term 29 rfl) rfl rfl ?_
        refine K_cVi (c := 12) (as := []) (st := []) (kdA dt_MX12_term 30 rfl) rfl cl_MX12_atom lk12_251 rfl rfl (Nat.le_of_ble_eq_true rfl) c1 (Ci.mono h (fun x5 s4 h => ?_))
        refine K_i2l (kdA dt_MX12_term 31 rfl) ?_
        refine K_lstore_n (ls' := [(0, (2, a0)), (1, (0, a1)), (2, (0, 1)), (3, (1, x5))]) (kdA dt_MX12_term 32 rfl) rfl (by decide) rfl ?_
        refine K_iload_n 2 (kdA dt_MX12_term 33 rfl) rfl rfl ?_
        refine K_if_eq (tgt := 73) (kdA dt_MX12_term 34 rfl) rfl (fun c => absurd c (by decide)) (fun _ => ?_)
        refine K_iload_n 1 (kdA dt_MX12_term 35 rfl) rfl rfl ?_
        refine K_i2l (kdA dt_MX12_term 36 rfl) ?_
        refine K_lload_n 3 (kdA dt_MX12_term 37 rfl) rfl rfl ?_
        refine K_lmul (kdA dt_MX12_term 38 rfl) ?_
        refine K_goto (tgt := 87) (kdA dt_MX12_term 39 rfl) rfl ?_
        refine K_cSi (as := [(1, (klmul a1 x5))]) (st := []) (kdA dt_MX12_term 50 rfl) cl_MX12_within lk12_254 rfl rfl (Nat.le_of_ble_eq_true rfl) (Ci.mono h (fun x6 s5 h => ?_))
        refine K_istore_n (ls' := [(0, (2, a0)), (1, (0, x6)), (2, (0, 1)), (3, (1, x5))]) (kdA dt_MX12_term 51 rfl) rfl (by decide) rfl ?_
        refine K_goto (tgt := 5) (kdA dt_MX12_term 52 rfl) rfl ?_
        refine K_pick [0, 1] (ls' := [(0, (2, a0)), (1, (0, x6))]) rfl ?_
        exact h
    · have h := h.2 c
      refine K_aload_n 0 (kdA dt_MX12_term 11 rfl) rfl rfl ?_
      refine K_cVi (c := 12) (as := []) (st := []) (kdA dt_MX12_term 12 rfl) rfl cl_MX12_look lk12_222 rfl rfl (Nat.le_of_ble_eq_true rfl) c1 (Ci.mono h (fun x3 s2 h => ?_))
      refine K_bipush (kdA dt_MX12_term 13 rfl) (by decide +kernel) ?_
      refine K_icmp_ne (tgt := 94) (kdA dt_MX12_term 14 rfl) rfl (fun c => ?_) (fun c => ?_)
      · have h := h.1 c
        refine K_iload_n 1 (kdA dt_MX12_term 53 rfl) rfl rfl ?_
        exact K_ireturn (kdA dt_MX12_term 54 rfl) rfl ⟨rfl, _, rfl, h⟩
      · have h := h.2 c
        refine K_aload_n 0 (kdA dt_MX12_term 15 rfl) rfl rfl ?_
        refine K_cVi (c := 12) (as := []) (st := []) (kdA dt_MX12_term 16 rfl) rfl cl_MX12_look lk12_222 rfl rfl (Nat.le_of_ble_eq_true rfl) c1 (Ci.mono h (fun x4 s3 h => ?_))
        refine K_bipush (kdA dt_MX12_term 17 rfl) (by decide +kernel) ?_
        refine K_icmp_ne (tgt := 44) (kdA dt_MX12_term 18 rfl) rfl (fun c => ?_) (fun c => ?_)
        · have h := h.1 c
          refine K_iconst (kdA dt_MX12_term 21 rfl) (by decide) ?_
          refine K_istore_n (ls' := [(0, (2, a0)), (1, (0, a1)), (2, (0, 0))]) (kdA dt_MX12_term 22 rfl) rfl (by decide) rfl ?_
          refine K_aload_n 0 (kdA dt_MX12_term 23 rfl) rfl rfl ?_
          refine K_dup (kdA dt_MX12_term 24 rfl) rfl ?_
          refine gf12_203 rfl (kdA dt_MX12_term 25 rfl) c1 ?_
          refine K_iconst (kdA dt_MX12_term 26 rfl) (by decide) ?_
          obtain ⟨c5, h⟩ := h
          refine K_iadd (kdA dt_MX12_term 27 rfl) c5 ?_
          refine pf12_203 rfl (kdA dt_MX12_term 28 rfl) c1 (fun s4 es4 => ?_)
          have h := h s4 es4
          refine K_aload_n 0 (kdA dt_MX12_term 29 rfl) rfl rfl ?_
          refine K_cVi (c := 12) (as := []) (st := []) (kdA dt_MX12_term 30 rfl) rfl cl_MX12_atom lk12_251 rfl rfl (Nat.le_of_ble_eq_true rfl) c1 (Ci.mono h (fun x6 s5 h => ?_))
          refine K_i2l (kdA dt_MX12_term 31 rfl) ?_
          refine K_lstore_n (ls' := [(0, (2, a0)), (1, (0, a1)), (2, (0, 0)), (3, (1, x6))]) (kdA dt_MX12_term 32 rfl) rfl (by decide) rfl ?_
          refine K_iload_n 2 (kdA dt_MX12_term 33 rfl) rfl rfl ?_
          refine K_if_eq (tgt := 73) (kdA dt_MX12_term 34 rfl) rfl (fun _ => ?_) (fun c => absurd (by decide) c)
          refine K_lload_n 3 (kdA dt_MX12_term 40 rfl) rfl rfl ?_
          refine K_lconst (x := 0) (kdA dt_MX12_term 41 rfl) (by decide +kernel) ?_
          refine K_lcmp (kdA dt_MX12_term 42 rfl) ?_
          refine K_if_ne (tgt := 83) (kdA dt_MX12_term 43 rfl) rfl (fun c => ?_) (fun c => ?_)
          · have h := h.1 c
            refine K_iload_n 1 (kdA dt_MX12_term 46 rfl) rfl rfl ?_
            refine K_i2l (kdA dt_MX12_term 47 rfl) ?_
            refine K_lload_n 3 (kdA dt_MX12_term 48 rfl) rfl rfl ?_
            obtain ⟨c7, h⟩ := h
            refine K_ldiv (kdA dt_MX12_term 49 rfl) c7 ?_
            refine K_cSi (as := [(1, (kldiv a1 x6))]) (st := []) (kdA dt_MX12_term 50 rfl) cl_MX12_within lk12_254 rfl rfl (Nat.le_of_ble_eq_true rfl) (Ci.mono h (fun x8 s6 h => ?_))
            refine K_istore_n (ls' := [(0, (2, a0)), (1, (0, x8)), (2, (0, 0)), (3, (1, x6))]) (kdA dt_MX12_term 51 rfl) rfl (by decide) rfl ?_
            refine K_goto (tgt := 5) (kdA dt_MX12_term 52 rfl) rfl ?_
            refine K_pick [0, 1] (ls' := [(0, (2, a0)), (1, (0, x8))]) rfl ?_
            exact h
          · have h := h.2 c
            refine K_lconst (x := 0) (kdA dt_MX12_term 44 rfl) (by decide +kernel) ?_
            refine K_goto (tgt := 87) (kdA dt_MX12_term 45 rfl) rfl ?_
            refine K_cSi (as := [(1, 0)]) (st := []) (kdA dt_MX12_term 50 rfl) cl_MX12_within lk12_254 rfl rfl (Nat.le_of_ble_eq_true rfl) (Ci.mono h (fun x7 s6 h => ?_))
            refine K_istore_n (ls' := [(0, (2, a0)), (1, (0, x7)), (2, (0, 0)), (3, (1, x6))]) (kdA dt_MX12_term 51 rfl) rfl (by decide) rfl ?_
            refine K_goto (tgt := 5) (kdA dt_MX12_term 52 rfl) rfl ?_
            refine K_pick [0, 1] (ls' := [(0, (2, a0)), (1, (0, x7))]) rfl ?_
            exact h
        · have h := h.2 c
          refine K_iconst (kdA dt_MX12_term 19 rfl) (by decide) ?_
          refine K_goto (tgt := 45) (kdA dt_MX12_term 20 rfl) rfl ?_
          refine K_istore_n (ls' := [(0, (2, a0)), (1, (0, a1)), (2, (0, 1))]) (kdA dt_MX12_term 22 rfl) rfl (by decide) rfl ?_
          refine K_aload_n 0 (kdA dt_MX12_term 23 rfl) rfl rfl ?_
          refine K_dup (kdA dt_MX12_term 24 rfl) rfl ?_
          refine gf12_203 rfl (kdA dt_MX12_term 25 rfl) c1 ?_
          refine K_iconst (kdA dt_MX12_term 26 rfl) (by decide) ?_
          obtain ⟨c5, h⟩ := h
          refine K_iadd (kdA dt_MX12_term 27 rfl) c5 ?_
          refine pf12_203 rfl (kdA dt_MX12_term 28 rfl) c1 (fun s4 es4 => ?_)
          have h := h s4 es4
          refine K_aload_n 0 (kdA dt_MX12_term 29 rfl) rfl rfl ?_
          refine K_cVi (c := 12) (as := []) (st := []) (kdA dt_MX12_term 30 rfl) rfl cl_MX12_atom lk12_251 rfl rfl (Nat.le_of_ble_eq_true rfl) c1 (Ci.mono h (fun x6 s5 h => ?_))
          refine K_i2l (kdA dt_MX12_term 31 rfl) ?_
          refine K_lstore_n (ls' := [(0, (2, a0)), (1, (0, a1)), (2, (0, 1)), (3, (1, x6))]) (kdA dt_MX12_term 32 rfl) rfl (by decide) rfl ?_
          refine K_iload_n 2 (kdA dt_MX12_term 33 rfl) rfl rfl ?_
          refine K_if_eq (tgt := 73) (kdA dt_MX12_term 34 rfl) rfl (fun c => absurd c (by decide)) (fun _ => ?_)
          refine K_iload_n 1 (kdA dt_MX12_term 35 rfl) rfl rfl ?_
          refine K_i2l (kdA dt_MX12_term 36 rfl) ?_
          refine K_lload_n 3 (kdA dt_MX12_term 37 rfl) rfl rfl ?_
          refine K_lmul (kdA dt_MX12_term 38 rfl) ?_
          refine K_goto (tgt := 87) (kdA dt_MX12_term 39 rfl) rfl ?_
          refine K_cSi (as := [(1, (klmul a1 x6))]) (st := []) (kdA dt_MX12_term 50 rfl) cl_MX12_within lk12_254 rfl rfl (Nat.le_of_ble_eq_true rfl) (Ci.mono h (fun x7 s6 h => ?_))
          refine K_istore_n (ls' := [(0, (2, a0)), (1, (0, x7)), (2, (0, 1)), (3, (1, x6))]) (kdA dt_MX12_term 51 rfl) rfl (by decide) rfl ?_
          refine K_goto (tgt := 5) (kdA dt_MX12_term 52 rfl) rfl ?_
          refine K_pick [0, 1] (ls' := [(0, (2, a0)), (1, (0, x7))]) rfl ?_
          exact h
theorem EX12_term {d n : Nat} {Q : Int → kS → Prop} {a0 : Int} {σ : kS} (h : kokw n σ → LX12_term_0 d n Q a0 σ) : Ci (d + 1) MX12_term [(2, a0)] n σ Q := Tri_of (by decide +kernel) (Nat.le_of_ble_eq_true rfl) (fun hk hw => h hw)

def LX12_text_0 (d n : Nat) (Q : Int → kS → Prop) (a0 : Int) (a1 : Int) (σ : kS) : Prop := K (d + 1) MX12_text (kPi n Q) (0, 0) 0 [(0, (2, a0)), (1, (0, a1))] [] n σ
def LX12_text_78 (d n : Nat) (Q : Int → kS → Prop) (a0 : Int) (a2 : Int) (σ : kS) : Prop := K (d + 1) MX12_text (kPi n Q) (0, 0) 78 [(0, (2, a0)), (2, (0, a2))] [] n σ
theorem SX12_text_0 {d n : Nat} {Q : Int → kS → Prop} {a0 a1 : Int} {σ : kS} (h : isO 12 n a0 ∧ (∀ s1, s1 = kst σ a0 0 0 → Ci d MX12_isIn [(0, a1), (0, 0), (0, 1)] n s1 (fun x2 s2 => (x2 = 0 → Q (-1) s2) ∧ (¬ x2 = 0 → (¬ a1 = 0 → ((s2 a0 15) = 4 → Q (-1) s2) ∧ (¬ (s2 a0 15) = 4 → Ci d MX12_fault [(2, a0), (0, a1)] n s2 (fun x3 s3 => (x3 = (-1) → (¬ a1 = 1 → LX12_text_78 d n Q a0 0 s3) ∧ (¬ (¬ a1 = 1) → ∀ s4, s4 = kst s3 a0 13 0 → (-2147483648 ≤ ((s4 a0 15) + 1) ∧ ((s4 a0 15) + 1) ≤ 2147483647) ∧ (∀ s5, s5 = kst s4 a0 15 ((s4 a0 15) + 1) → (-2147483648 ≤ ((s5 a0 15) - 1) ∧ ((s5 a0 15) - 1) ≤ 2147483647) ∧ (Q ((s5 a0 15) - 1) s5)))) ∧ (¬ x3 = (-1) → Q (-1) s3)))) ∧ (¬ (¬ a1 = 0) → (¬ (s2 a0 14) = 6 → Ci d MX12_fault [(2, a0), (0, a1)] n s2 (fun x3 s3 => (x3 = (-1) → (¬ a1 = 1 → LX12_text_78 d n Q a0 0 s3) ∧ (¬ (¬ a1 = 1) → ∀ s4, s4 = kst s3 a0 13 0 → (-2147483648 ≤ ((s4 a0 15) + 1) ∧ ((s4 a0 15) + 1) ≤ 2147483647) ∧ (∀ s5, s5 = kst s4 a0 15 ((s4 a0 15) + 1) → (-2147483648 ≤ ((s5 a0 15) - 1) ∧ ((s5 a0 15) - 1) ≤ 2147483647) ∧ (Q ((s5 a0 15) - 1) s5)))) ∧ (¬ x3 = (-1) → Q (-1) s3))) ∧ (¬ (¬ (s2 a0 14) = 6) → Q (-1) s2)))))) : LX12_text_0 d n Q a0 a1 σ := by
  unfold LX12_text_0
  refine K_aload_n 0 (kdA dt_MX12_text 0 rfl) rfl rfl ?_
  refine K_iconst (kdA dt_MX12_text 1 rfl) (by decide) ?_
  obtain ⟨c1, h⟩ := h
  refine pf12_149 rfl (kdA dt_MX12_text 2 rfl) c1 (fun s1 es1 => ?_)
  have h := h s1 es1
  refine K_iload_n 1 (kdA dt_MX12_text 3 rfl) rfl rfl ?_
  refine K_iconst (kdA dt_MX12_text 4 rfl) (by decide) ?_
  refine K_iconst (kdA dt_MX12_text 5 rfl) (by decide) ?_
  refine K_cSi (as := [(0, a1), (0, 0), (0, 1)]) (st := []) (kdA dt_MX12_text 6 rfl) cl_MX12_isIn lk12_153 rfl rfl (Nat.le_of_ble_eq_true rfl) (Ci.mono h (fun x2 s2 h => ?_))
  refine K_if_eq (tgt := 47) (kdA dt_MX12_text 7 rfl) rfl (fun c => ?_) (fun c => ?_)
  · have h := h.1 c
    refine K_iconst (kdA dt_MX12_text 24 rfl) (by decide) ?_
    exact K_ireturn (kdA dt_MX12_text 25 rfl) rfl ⟨rfl, _, rfl, h⟩
  · have h := h.2 c
    refine K_iload_n 1 (kdA dt_MX12_text 8 rfl) rfl rfl ?_
    refine K_if_ne (tgt := 30) (kdA dt_MX12_text 9 rfl) rfl (fun c => ?_) (fun c => ?_)
    · have h := h.1 c
      refine K_aload_n 0 (kdA dt_MX12_text 15 rfl) rfl rfl ?_
      refine gf12_294 rfl (kdA dt_MX12_text 16 rfl) c1 ?_
      refine K_iconst (kdA dt_MX12_text 17 rfl) (by decide) ?_
      refine K_icmp_eq (tgt := 47) (kdA dt_MX12_text 18 rfl) rfl (fun c => ?_) (fun c => ?_)
      · have h := h.1 c
        refine K_iconst (kdA dt_MX12_text 24 rfl) (by decide) ?_
        exact K_ireturn (kdA dt_MX12_text 25 rfl) rfl ⟨rfl, _, rfl, h⟩
      · have h := h.2 c
        refine K_aload_n 0 (kdA dt_MX12_text 19 rfl) rfl rfl ?_
        refine K_iload_n 1 (kdA dt_MX12_text 20 rfl) rfl rfl ?_
        refine K_cVi (c := 12) (as := [(0, a1)]) (st := []) (kdA dt_MX12_text 21 rfl) rfl cl_MX12_fault lk12_309 rfl rfl (Nat.le_of_ble_eq_true rfl) c1 (Ci.mono h (fun x3 s3 h => ?_))
        refine K_iconst (kdA dt_MX12_text 22 rfl) (by decide) ?_
        refine K_icmp_eq (tgt := 49) (kdA dt_MX12_text 23 rfl) rfl (fun c => ?_) (fun c => ?_)
        · have h := h.1 c
          refine K_iload_n 1 (kdA dt_MX12_text 26 rfl) rfl rfl ?_
          refine K_iconst (kdA dt_MX12_text 27 rfl) (by decide) ?_
          refine K_icmp_ne (tgt := 76) (kdA dt_MX12_text 28 rfl) rfl (fun c => ?_) (fun c => ?_)
          · have h := h.1 c
            refine K_iconst (kdA dt_MX12_text 43 rfl) (by decide) ?_
            refine K_istore_n (ls' := [(0, (2, a0)), (1, (0, a1)), (2, (0, 0))]) (kdA dt_MX12_text 44 rfl) rfl (by decide) rfl ?_
            refine K_pick [0, 2] (ls' := [(0, (2, a0)), (2, (0, 0))]) rfl ?_
            exact h
          · have h := h.2 c
            refine K_aload_n 0 (kdA dt_MX12_text 29 rfl) rfl rfl ?_
            refine K_iconst (kdA dt_MX12_text 30 rfl) (by decide) ?_
            refine pf12_194 rfl (kdA dt_MX12_text 31 rfl) c1 (fun s4 es4 => ?_)
            have h := h s4 es4
            refine K_aload_n 0 (kdA dt_MX12_text 32 rfl) rfl rfl ?_
            refine K_dup (kdA dt_MX12_text 33 rfl) rfl ?_
            refine gf12_294 rfl (kdA dt_MX12_text 34 rfl) c1 ?_
            refine K_iconst (kdA dt_MX12_text 35 rfl) (by decide) ?_
            obtain ⟨c4, h⟩ := h
            refine K_iadd (kdA dt_MX12_text 36 rfl) c4 ?_
            refine pf12_294 rfl (kdA dt_MX12_text 37 rfl) c1 (fun s5 es5 => ?_)
            have h := h s5 es5
            refine K_aload_n 0 (kdA dt_MX12_text 38 rfl) rfl rfl ?_
            refine gf12_294 rfl (kdA dt_MX12_text 39 rfl) c1 ?_
            refine K_iconst (kdA dt_MX12_text 40 rfl) (by decide) ?_
            obtain ⟨c5, h⟩ := h
            refine K_isub (kdA dt_MX12_text 41 rfl) c5 ?_
            exact K_ireturn (kdA dt_MX12_text 42 rfl) rfl ⟨rfl, _, rfl, h⟩
        · have h := h.2 c
          refine K_iconst (kdA dt_MX12_text 24 rfl) (by decide) ?_
          exact K_ireturn (kdA dt_MX12_text 25 rfl) rfl ⟨rfl, _, rfl, h⟩
    · have h := h.2 c
      refine K_aload_n 0 (kdA dt_MX12_text 10 rfl) rfl rfl ?_
      refine gf12_306 rfl (kdA dt_MX12_text 11 rfl) c1 ?_
      refine K_bipush (kdA dt_MX12_text 12 rfl) (by decide +kernel) ?_
      refine K_icmp_ne (tgt := 38) (kdA dt_MX12_text 13 rfl) rfl (fun c => ?_) (fun c => ?_)
      · have h := h.1 c
        refine K_aload_n 0 (kdA dt_MX12_text 19 rfl) rfl rfl ?_
        refine K_iload_n 1 (kdA dt_MX12_text 20 rfl) rfl rfl ?_
        refine K_cVi (c := 12) (as := [(0, a1)]) (st := []) (kdA dt_MX12_text 21 rfl) rfl cl_MX12_fault lk12_309 rfl rfl (Nat.le_of_ble_eq_true rfl) c1 (Ci.mono h (fun x3 s3 h => ?_))
        refine K_iconst (kdA dt_MX12_text 22 rfl) (by decide) ?_
        refine K_icmp_eq (tgt := 49) (kdA dt_MX12_text 23 rfl) rfl (fun c => ?_) (fun c => ?_)
        · have h := h.1 c
          refine K_iload_n 1 (kdA dt_MX12_text 26 rfl) rfl rfl ?_
          refine K_iconst (kdA dt_MX12_text 27 rfl) (by decide) ?_
          refine K_icmp_ne (tgt := 76) (kdA dt_MX12_text 28 rfl) rfl (fun c => ?_) (fun c => ?_)
          · have h := h.1 c
            refine K_iconst (kdA dt_MX12_text 43 rfl) (by decide) ?_
            refine K_istore_n (ls' := [(0, (2, a0)), (1, (0, a1)), (2, (0, 0))]) (kdA dt_MX12_text 44 rfl) rfl (by decide) rfl ?_
            refine K_pick [0, 2] (ls' := [(0, (2, a0)), (2, (0, 0))]) rfl ?_
            exact h
          · have h := h.2 c
            refine K_aload_n 0 (kdA dt_MX12_text 29 rfl) rfl rfl ?_
            refine K_iconst (kdA dt_MX12_text 30 rfl) (by decide) ?_
            refine pf12_194 rfl (kdA dt_MX12_text 31 rfl) c1 (fun s4 es4 => ?_)
            have h := h s4 es4
            refine K_aload_n 0 (kdA dt_MX12_text 32 rfl) rfl rfl ?_
            refine K_dup (kdA dt_MX12_text 33 rfl) rfl ?_
            refine gf12_294 rfl (kdA dt_MX12_text 34 rfl) c1 ?_
            refine K_iconst (kdA dt_MX12_text 35 rfl) (by decide) ?_
            obtain ⟨c4, h⟩ := h
            refine K_iadd (kdA dt_MX12_text 36 rfl) c4 ?_
            refine pf12_294 rfl (kdA dt_MX12_text 37 rfl) c1 (fun s5 es5 => ?_)
            have h := h s5 es5
            refine K_aload_n 0 (kdA dt_MX12_text 38 rfl) rfl rfl ?_
            refine gf12_294 rfl (kdA dt_MX12_text 39 rfl) c1 ?_
            refine K_iconst (kdA dt_MX12_text 40 rfl) (by decide) ?_
            obtain ⟨c5, h⟩ := h
            refine K_isub (kdA dt_MX12_text 41 rfl) c5 ?_
            exact K_ireturn (kdA dt_MX12_text 42 rfl) rfl ⟨rfl, _, rfl, h⟩
        · have h := h.2 c
          refine K_iconst (kdA dt_MX12_text 24 rfl) (by decide) ?_
          exact K_ireturn (kdA dt_MX12_text 25 rfl) rfl ⟨rfl, _, rfl, h⟩
      · have h := h.2 c
        refine K_goto (tgt := 47) (kdA dt_MX12_text 14 rfl) rfl ?_
        refine K_iconst (kdA dt_MX12_text 24 rfl) (by decide) ?_
        exact K_ireturn (kdA dt_MX12_text 25 rfl) rfl ⟨rfl, _, rfl, h⟩
theorem SX12_text_78 {d n : Nat} {Q : Int → kS → Prop} {a0 a2 : Int} {σ : kS} (h : isO 12 n a0 ∧ (((σ a0 13) ≤ a2 → isA 20 n (σ a0 6) ∧ (((0 : Int) ≤ (σ a0 14) ∧ (σ a0 14) < klen (σ a0 6)) ∧ (∀ s1, s1 = kst σ (σ a0 6) (σ a0 14) (σ a0 13) → isA 20 n (s1 a0 42) ∧ (((0 : Int) ≤ (s1 a0 14) ∧ (s1 a0 14) < klen (s1 a0 42)) ∧ (∀ s2, s2 = kst s1 (s1 a0 42) (s1 a0 14) 1 → ∀ s3, s3 = kst s2 a0 13 0 → (-2147483648 ≤ ((s3 a0 14) + 1) ∧ ((s3 a0 14) + 1) ≤ 2147483647) ∧ (∀ s4, s4 = kst s3 a0 14 ((s3 a0 14) + 1) → (-2147483648 ≤ ((s4 a0 14) - 1) ∧ ((s4 a0 14) - 1) ≤ 2147483647) ∧ (Q ((s4 a0 14) - 1) s4))))))) ∧ (¬ (σ a0 13) ≤ a2 → (-2147483648 ≤ (120 * (σ a0 14)) ∧ (120 * (σ a0 14)) ≤ 2147483647) ∧ ((-2147483648 ≤ ((120 * (σ a0 14)) + a2) ∧ ((120 * (σ a0 14)) + a2) ≤ 2147483647) ∧ (isA 21 n (σ a0 4) ∧ (((0 : Int) ≤ a2 ∧ a2 < klen (σ a0 4)) ∧ (isA 21 n (σ a0 5) ∧ (((0 : Int) ≤ ((120 * (σ a0 14)) + a2) ∧ ((120 * (σ a0 14)) + a2) < klen (σ a0 5)) ∧ ((-128 ≤ (σ (σ a0 4) a2) ∧ (σ (σ a0 4) a2) ≤ 127) ∧ (∀ s1, s1 = kst σ (σ a0 5) ((120 * (σ a0 14)) + a2) (σ (σ a0 4) a2) → (-2147483648 ≤ (a2 + 1) ∧ (a2 + 1) ≤ 2147483647) ∧ (LX12_text_78 d n Q a0 (a2 + 1) s1))))))))))) : LX12_text_78 d n Q a0 a2 σ := by
  unfold LX12_text_78
  refine K_iload_n 1 (kdA dt_MX12_text 45 rfl) rfl rfl ?_
  refine K_aload_n 0 (kdA dt_MX12_text 46 rfl) rfl rfl ?_
  obtain ⟨c1, h⟩ := h
  refine gf12_194 rfl (kdA dt_MX12_text 47 rfl) c1 ?_
  refine K_icmp_ge (tgt := 112) (kdA dt_MX12_text 48 rfl) rfl (fun c => ?_) (fun c => ?_)
  · have h := h.1 c
    refine K_aload_n 0 (kdA dt_MX12_text 64 rfl) rfl rfl ?_
    refine gf12_23 rfl (kdA dt_MX12_text 65 rfl) c1 ?_
    refine K_aload_n 0 (kdA dt_MX12_text 66 rfl) rfl rfl ?_
    refine gf12_306 rfl (kdA dt_MX12_text 67 rfl) c1 ?_
    refine K_aload_n 0 (kdA dt_MX12_text 68 rfl) rfl rfl ?_
    refine gf12_194 rfl (kdA dt_MX12_text 69 rfl) c1 ?_
    obtain ⟨c2, h⟩ := h
    obtain ⟨c3, h⟩ := h
    refine K_iastore' (kdA dt_MX12_text 70 rfl) c2 c3.1 c3.2 (fun s1 es1 => ?_)
    have h := h s1 es1
    refine K_aload_n 0 (kdA dt_MX12_text 71 rfl) rfl rfl ?_
    refine gf12_91 rfl (kdA dt_MX12_text 72 rfl) c1 ?_
    refine K_aload_n 0 (kdA dt_MX12_text 73 rfl) rfl rfl ?_
    refine gf12_306 rfl (kdA dt_MX12_text 74 rfl) c1 ?_
    refine K_iconst (kdA dt_MX12_text 75 rfl) (by decide) ?_
    obtain ⟨c4, h⟩ := h
    obtain ⟨c5, h⟩ := h
    refine K_iastore' (kdA dt_MX12_text 76 rfl) c4 c5.1 c5.2 (fun s2 es2 => ?_)
    have h := h s2 es2
    refine K_aload_n 0 (kdA dt_MX12_text 77 rfl) rfl rfl ?_
    refine K_iconst (kdA dt_MX12_text 78 rfl) (by decide) ?_
    refine pf12_194 rfl (kdA dt_MX12_text 79 rfl) c1 (fun s3 es3 => ?_)
    have h := h s3 es3
    refine K_aload_n 0 (kdA dt_MX12_text 80 rfl) rfl rfl ?_
    refine K_dup (kdA dt_MX12_text 81 rfl) rfl ?_
    refine gf12_306 rfl (kdA dt_MX12_text 82 rfl) c1 ?_
    refine K_iconst (kdA dt_MX12_text 83 rfl) (by decide) ?_
    obtain ⟨c6, h⟩ := h
    refine K_iadd (kdA dt_MX12_text 84 rfl) c6 ?_
    refine pf12_306 rfl (kdA dt_MX12_text 85 rfl) c1 (fun s4 es4 => ?_)
    have h := h s4 es4
    refine K_aload_n 0 (kdA dt_MX12_text 86 rfl) rfl rfl ?_
    refine gf12_306 rfl (kdA dt_MX12_text 87 rfl) c1 ?_
    refine K_iconst (kdA dt_MX12_text 88 rfl) (by decide) ?_
    obtain ⟨c7, h⟩ := h
    refine K_isub (kdA dt_MX12_text 89 rfl) c7 ?_
    exact K_ireturn (kdA dt_MX12_text 90 rfl) rfl ⟨rfl, _, rfl, h⟩
  · have h := h.2 c
    refine K_aload_n 0 (kdA dt_MX12_text 49 rfl) rfl rfl ?_
    refine gf12_20 rfl (kdA dt_MX12_text 50 rfl) c1 ?_
    refine K_bipush (kdA dt_MX12_text 51 rfl) (by decide +kernel) ?_
    refine K_aload_n 0 (kdA dt_MX12_text 52 rfl) rfl rfl ?_
    refine gf12_306 rfl (kdA dt_MX12_text 53 rfl) c1 ?_
    obtain ⟨c2, h⟩ := h
    refine K_imul (kdA dt_MX12_text 54 rfl) c2 ?_
    refine K_iload_n 1 (kdA dt_MX12_text 55 rfl) rfl rfl ?_
    obtain ⟨c3, h⟩ := h
    refine K_iadd (kdA dt_MX12_text 56 rfl) c3 ?_
    refine K_aload_n 0 (kdA dt_MX12_text 57 rfl) rfl rfl ?_
    refine gf12_16 rfl (kdA dt_MX12_text 58 rfl) c1 ?_
    refine K_iload_n 1 (kdA dt_MX12_text 59 rfl) rfl rfl ?_
    obtain ⟨c4, h⟩ := h
    obtain ⟨c5, h⟩ := h
    refine K_baload (kdA dt_MX12_text 60 rfl) (Or.inl c4) c5.1 c5.2 ?_
    obtain ⟨c6, h⟩ := h
    obtain ⟨c7, h⟩ := h
    obtain ⟨c8, h⟩ := h
    refine K_bastore' (kdA dt_MX12_text 61 rfl) (Or.inl ⟨c6, c8⟩) c7.1 c7.2 (fun s1 es1 => ?_)
    have h := h s1 es1
    obtain ⟨c9, h⟩ := h
    refine K_iinc (ls' := [(0, (2, a0)), (2, (0, (a2 + 1)))]) 1 (kdA dt_MX12_text 62 rfl) rfl c9 (by decide) rfl ?_
    refine K_goto (tgt := 78) (kdA dt_MX12_text 63 rfl) rfl ?_
    exact h
theorem EX12_text {d n : Nat} {Q : Int → kS → Prop} {a0 a1 : Int} {σ : kS} (h : (-2147483648 ≤ a1 ∧ a1 ≤ 2147483647) → kokw n σ → LX12_text_0 d n Q a0 a1 σ) : Ci (d + 1) MX12_text [(2, a0), (0, a1)] n σ Q := Tri_of (by decide +kernel) (Nat.le_of_ble_eq_true rfl) (fun hk hw => h (hk (0, a1) (List.mem_of_getElem? (i := 1) rfl)) hw)

def LX12_then_0 (d n : Nat) (Q : Int → kS → Prop) (a0 : Int) (a1 : Int) (a2 : Int) (a3 : Int) (a4 : Int) (a5 : Int) (a6 : Int) (a7 : Int) (σ : kS) : Prop := K (d + 1) MX12_then (kPi n Q) (0, 0) 0 [(0, (2, a0)), (1, (0, a1)), (2, (0, a2)), (3, (0, a3)), (4, (0, a4)), (5, (0, a5)), (6, (0, a6)), (7, (0, a7))] [] n σ
theorem SX12_then_0 {d n : Nat} {Q : Int → kS → Prop} {a0 a1 a2 a3 a4 a5 a6 a7 : Int} {σ : kS} (h : isO 12 n a0 ∧ (∀ s1, s1 = kst σ a0 0 0 → Ci d MX12_isEra [(2, a0), (0, a1)] n s1 (fun x2 s2 => (x2 = 0 → Q (-1) s2) ∧ (¬ x2 = 0 → Ci d MX12_isWay [(2, a0), (0, a2), (0, a3), (0, a5), (0, a6)] n s2 (fun x3 s3 => (¬ x3 = 0 → Cv d MX12_leaveNow [(2, a0)] n s3 (fun s4 => Cv d MX12_goTo [(2, a0), (0, a1)] n s4 (fun s5 => Cv d MX12_layWay [(2, a0), (0, a2), (0, a3), (0, a4), (0, a5), (0, a6)] n s5 (fun s6 => Cv d MX12_comeBack [(2, a0)] n s6 (fun s7 => (¬ a7 = (-1) → (-2147483648 ≤ ((s7 a0 30) - 1) ∧ ((s7 a0 30) - 1) ≤ 2147483647) ∧ (Ci d MX12_isIn [(0, a7), (0, 0), (0, ((s7 a0 30) - 1))] n s7 (fun x9 s8 => (x9 = 0 → Q (-1) s8) ∧ (¬ x9 = 0 → isA 20 n (s8 a0 29) ∧ (((0 : Int) ≤ a7 ∧ a7 < klen (s8 a0 29)) ∧ (Q (s8 (s8 a0 29) a7) s8)))))) ∧ (¬ (¬ a7 = (-1)) → isA 20 n (s7 a0 27) ∧ (((0 : Int) ≤ a5 ∧ a5 < klen (s7 a0 27)) ∧ (((0 : Int) ≤ (s7 (s7 a0 27) a5)) ∧ (Q ((s7 (s7 a0 27) a5) / 1000) s7))))))))) ∧ (¬ (¬ x3 = 0) → Q (-1) s3)))))) : LX12_then_0 d n Q a0 a1 a2 a3 a4 a5 a6 a7 σ := by
  unfold LX12_then_0
  refine K_aload_n 0 (kdA dt_MX12_then 0 rfl) rfl rfl ?_
  refine K_iconst (kdA dt_MX12_then 1 rfl) (by decide) ?_
  obtain ⟨c1, h⟩ := h
  refine pf12_149 rfl (kdA dt_MX12_then 2 rfl) c1 (fun s1 es1 => ?_)
  have h := h s1 es1
  refine K_aload_n 0 (kdA dt_MX12_then 3 rfl) rfl rfl ?_
  refine K_iload_n 1 (kdA dt_MX12_then 4 rfl) rfl rfl ?_
  refine K_cVi (c := 12) (as := [(0, a1)]) (st := []) (kdA dt_MX12_then 5 rfl) rfl cl_MX12_isEra lk12_532 rfl rfl (Nat.le_of_ble_eq_true rfl) c1 (Ci.mono h (fun x2 s2 h => ?_))
  refine K_if_eq (tgt := 26) (kdA dt_MX12_then 6 rfl) rfl (fun c => ?_) (fun c => ?_)
  · have h := h.1 c
    refine K_iconst (kdA dt_MX12_then 14 rfl) (by decide) ?_
    exact K_ireturn (kdA dt_MX12_then 15 rfl) rfl ⟨rfl, _, rfl, h⟩
  · have h := h.2 c
    refine K_aload_n 0 (kdA dt_MX12_then 7 rfl) rfl rfl ?_
    refine K_iload_n 2 (kdA dt_MX12_then 8 rfl) rfl rfl ?_
    refine K_iload_n 3 (kdA dt_MX12_then 9 rfl) rfl rfl ?_
    refine K_iload 5 (kdA dt_MX12_then 10 rfl) rfl ?_
    refine K_iload 6 (kdA dt_MX12_then 11 rfl) rfl ?_
    refine K_cVi (c := 12) (as := [(0, a2), (0, a3), (0, a5), (0, a6)]) (st := []) (kdA dt_MX12_then 12 rfl) rfl cl_MX12_isWay lk12_341 rfl rfl (Nat.le_of_ble_eq_true rfl) c1 (Ci.mono h (fun x3 s3 h => ?_))
    refine K_if_ne (tgt := 28) (kdA dt_MX12_then 13 rfl) rfl (fun c => ?_) (fun c => ?_)
    · have h := h.1 c
      refine K_aload_n 0 (kdA dt_MX12_then 16 rfl) rfl rfl ?_
      refine K_cVv (c := 12) (as := []) (st := []) (kdA dt_MX12_then 17 rfl) rfl cl_MX12_leaveNow lk12_541 rfl rfl (Nat.le_of_ble_eq_true rfl) c1 (Cv.mono h (fun s4 h => ?_))
      refine K_aload_n 0 (kdA dt_MX12_then 18 rfl) rfl rfl ?_
      refine K_iload_n 1 (kdA dt_MX12_then 19 rfl) rfl rfl ?_
      refine K_cVv (c := 12) (as := [(0, a1)]) (st := []) (kdA dt_MX12_then 20 rfl) rfl cl_MX12_goTo lk12_538 rfl rfl (Nat.le_of_ble_eq_true rfl) c1 (Cv.mono h (fun s5 h => ?_))
      refine K_aload_n 0 (kdA dt_MX12_then 21 rfl) rfl rfl ?_
      refine K_iload_n 2 (kdA dt_MX12_then 22 rfl) rfl rfl ?_
      refine K_iload_n 3 (kdA dt_MX12_then 23 rfl) rfl rfl ?_
      refine K_iload 4 (kdA dt_MX12_then 24 rfl) rfl ?_
      refine K_iload 5 (kdA dt_MX12_then 25 rfl) rfl ?_
      refine K_iload 6 (kdA dt_MX12_then 26 rfl) rfl ?_
      refine K_cVv (c := 12) (as := [(0, a2), (0, a3), (0, a4), (0, a5), (0, a6)]) (st := []) (kdA dt_MX12_then 27 rfl) rfl cl_MX12_layWay lk12_345 rfl rfl (Nat.le_of_ble_eq_true rfl) c1 (Cv.mono h (fun s6 h => ?_))
      refine K_aload_n 0 (kdA dt_MX12_then 28 rfl) rfl rfl ?_
      refine K_cVv (c := 12) (as := []) (st := []) (kdA dt_MX12_then 29 rfl) rfl cl_MX12_comeBack lk12_544 rfl rfl (Nat.le_of_ble_eq_true rfl) c1 (Cv.mono h (fun s7 h => ?_))
      refine K_iload 7 (kdA dt_MX12_then 30 rfl) rfl ?_
      refine K_iconst (kdA dt_MX12_then 31 rfl) (by decide) ?_
      refine K_icmp_ne (tgt := 73) (kdA dt_MX12_then 32 rfl) rfl (fun c => ?_) (fun c => ?_)
      · have h := h.1 c
        refine K_iload 7 (kdA dt_MX12_then 40 rfl) rfl ?_
        refine K_iconst (kdA dt_MX12_then 41 rfl) (by decide) ?_
        refine K_aload_n 0 (kdA dt_MX12_then 42 rfl) rfl rfl ?_
        refine gf12_330 rfl (kdA dt_MX12_then 43 rfl) c1 ?_
        refine K_iconst (kdA dt_MX12_then 44 rfl) (by decide) ?_
        obtain ⟨c8, h⟩ := h
        refine K_isub (kdA dt_MX12_then 45 rfl) c8 ?_
        refine K_cSi (as := [(0, a7), (0, 0), (0, ((s7 a0 30) - 1))]) (st := []) (kdA dt_MX12_then 46 rfl) cl_MX12_isIn lk12_153 rfl rfl (Nat.le_of_ble_eq_true rfl) (Ci.mono h (fun x9 s8 h => ?_))
        refine K_if_eq (tgt := 98) (kdA dt_MX12_then 47 rfl) rfl (fun c => ?_) (fun c => ?_)
        · have h := h.1 c
          refine K_iconst (kdA dt_MX12_then 53 rfl) (by decide) ?_
          exact K_ireturn (kdA dt_MX12_then 54 rfl) rfl ⟨rfl, _, rfl, h⟩
        · have h := h.2 c
          refine K_aload_n 0 (kdA dt_MX12_then 48 rfl) rfl rfl ?_
          refine gf12_64 rfl (kdA dt_MX12_then 49 rfl) c1 ?_
          refine K_iload 7 (kdA dt_MX12_then 50 rfl) rfl ?_
          obtain ⟨c10, h⟩ := h
          obtain ⟨c11, h⟩ := h
          refine K_iaload (kdA dt_MX12_then 51 rfl) c10 c11.1 c11.2 ?_
          refine K_goto (tgt := 99) (kdA dt_MX12_then 52 rfl) rfl ?_
          exact K_ireturn (kdA dt_MX12_then 54 rfl) rfl ⟨rfl, _, rfl, h⟩
      · have h := h.2 c
        refine K_aload_n 0 (kdA dt_MX12_then 33 rfl) rfl rfl ?_
        refine gf12_58 rfl (kdA dt_MX12_then 34 rfl) c1 ?_
        refine K_iload 5 (kdA dt_MX12_then 35 rfl) rfl ?_
        obtain ⟨c8, h⟩ := h
        obtain ⟨c9, h⟩ := h
        refine K_iaload (kdA dt_MX12_then 36 rfl) c8 c9.1 c9.2 ?_
        refine K_sipush (kdA dt_MX12_then 37 rfl) (by decide +kernel) ?_
        obtain ⟨c10, h⟩ := h
        refine K_idiv (kdA dt_MX12_then 38 rfl) c10 (by decide) ?_
        refine K_goto (tgt := 99) (kdA dt_MX12_then 39 rfl) rfl ?_
        exact K_ireturn (kdA dt_MX12_then 54 rfl) rfl ⟨rfl, _, rfl, h⟩
    · have h := h.2 c
      refine K_iconst (kdA dt_MX12_then 14 rfl) (by decide) ?_
      exact K_ireturn (kdA dt_MX12_then 15 rfl) rfl ⟨rfl, _, rfl, h⟩
theorem EX12_then {d n : Nat} {Q : Int → kS → Prop} {a0 a1 a2 a3 a4 a5 a6 a7 : Int} {σ : kS} (h : (-2147483648 ≤ a1 ∧ a1 ≤ 2147483647) → (-2147483648 ≤ a2 ∧ a2 ≤ 2147483647) → (-2147483648 ≤ a3 ∧ a3 ≤ 2147483647) → (-2147483648 ≤ a4 ∧ a4 ≤ 2147483647) → (-2147483648 ≤ a5 ∧ a5 ≤ 2147483647) → (-2147483648 ≤ a6 ∧ a6 ≤ 2147483647) → (-2147483648 ≤ a7 ∧ a7 ≤ 2147483647) → kokw n σ → LX12_then_0 d n Q a0 a1 a2 a3 a4 a5 a6 a7 σ) : Ci (d + 1) MX12_then [(2, a0), (0, a1), (0, a2), (0, a3), (0, a4), (0, a5), (0, a6), (0, a7)] n σ Q := Tri_of (by decide +kernel) (Nat.le_of_ble_eq_true rfl) (fun hk hw => h (hk (0, a1) (List.mem_of_getElem? (i := 1) rfl)) (hk (0, a2) (List.mem_of_getElem? (i := 2) rfl)) (hk (0, a3) (List.mem_of_getElem? (i := 3) rfl)) (hk (0, a4) (List.mem_of_getElem? (i := 4) rfl)) (hk (0, a5) (List.mem_of_getElem? (i := 5) rfl)) (hk (0, a6) (List.mem_of_getElem? (i := 6) rfl)) (hk (0, a7) (List.mem_of_getElem? (i := 7) rfl)) hw)

def LX12_thrown_0 (d n : Nat) (Q : Int → kS → Prop) (a0 : Int) (σ : kS) : Prop := K (d + 1) MX12_thrown (kPi n Q) (0, 0) 0 [(0, (2, a0))] [] n σ
theorem SX12_thrown_0 {d n : Nat} {Q : Int → kS → Prop} {a0 : Int} {σ : kS} (h : isO 12 n a0 ∧ (Q (σ a0 0) σ)) : LX12_thrown_0 d n Q a0 σ := by
  unfold LX12_thrown_0
  refine K_aload_n 0 (kdA dt_MX12_thrown 0 rfl) rfl rfl ?_
  obtain ⟨c1, h⟩ := h
  refine gf12_149 rfl (kdA dt_MX12_thrown 1 rfl) c1 ?_
  exact K_ireturn (kdA dt_MX12_thrown 2 rfl) rfl ⟨rfl, _, rfl, h⟩
theorem EX12_thrown {d n : Nat} {Q : Int → kS → Prop} {a0 : Int} {σ : kS} (h : kokw n σ → LX12_thrown_0 d n Q a0 σ) : Ci (d + 1) MX12_thrown [(2, a0)] n σ Q := Tri_of (by decide +kernel) (Nat.le_of_ble_eq_true rfl) (fun hk hw => h hw)

def LX12_town_0 (d n : Nat) (Q : Int → kS → Prop) (a0 : Int) (a1 : Int) (σ : kS) : Prop := K (d + 1) MX12_town (kPi n Q) (0, 0) 0 [(0, (2, a0)), (1, (0, a1))] [] n σ
def LX12_town_25 (d n : Nat) (Q : Int → kS → Prop) (a0 : Int) (a1 : Int) (a2 : Int) (σ : kS) : Prop := K (d + 1) MX12_town (kPi n Q) (0, 0) 25 [(0, (2, a0)), (1, (0, a1)), (2, (0, a2))] [] n σ
theorem SX12_town_0 {d n : Nat} {Q : Int → kS → Prop} {a0 a1 : Int} {σ : kS} (h : isO 12 n a0 ∧ (∀ s1, s1 = kst σ a0 0 0 → ((s1 a0 3) = 8 → Q (-1) s1) ∧ (¬ (s1 a0 3) = 8 → Ci d MX12_isCell [(0, a1)] n s1 (fun x2 s2 => (¬ x2 = 0 → LX12_town_25 d n Q a0 a1 0 s2) ∧ (¬ (¬ x2 = 0) → Q (-1) s2))))) : LX12_town_0 d n Q a0 a1 σ := by
  unfold LX12_town_0
  refine K_aload_n 0 (kdA dt_MX12_town 0 rfl) rfl rfl ?_
  refine K_iconst (kdA dt_MX12_town 1 rfl) (by decide) ?_
  obtain ⟨c1, h⟩ := h
  refine pf12_149 rfl (kdA dt_MX12_town 2 rfl) c1 (fun s1 es1 => ?_)
  have h := h s1 es1
  refine K_aload_n 0 (kdA dt_MX12_town 3 rfl) rfl rfl ?_
  refine gf12_165 rfl (kdA dt_MX12_town 4 rfl) c1 ?_
  refine K_bipush (kdA dt_MX12_town 5 rfl) (by decide +kernel) ?_
  refine K_icmp_eq (tgt := 21) (kdA dt_MX12_town 6 rfl) rfl (fun c => ?_) (fun c => ?_)
  · have h := h.1 c
    refine K_iconst (kdA dt_MX12_town 10 rfl) (by decide) ?_
    exact K_ireturn (kdA dt_MX12_town 11 rfl) rfl ⟨rfl, _, rfl, h⟩
  · have h := h.2 c
    refine K_iload_n 1 (kdA dt_MX12_town 7 rfl) rfl rfl ?_
    refine K_cSi (as := [(0, a1)]) (st := []) (kdA dt_MX12_town 8 rfl) cl_MX12_isCell lk12_161 rfl rfl (Nat.le_of_ble_eq_true rfl) (Ci.mono h (fun x2 s2 h => ?_))
    refine K_if_ne (tgt := 23) (kdA dt_MX12_town 9 rfl) rfl (fun c => ?_) (fun c => ?_)
    · have h := h.1 c
      refine K_iconst (kdA dt_MX12_town 12 rfl) (by decide) ?_
      refine K_istore_n (ls' := [(0, (2, a0)), (1, (0, a1)), (2, (0, 0))]) (kdA dt_MX12_town 13 rfl) rfl (by decide) rfl ?_
      exact h
    · have h := h.2 c
      refine K_iconst (kdA dt_MX12_town 10 rfl) (by decide) ?_
      exact K_ireturn (kdA dt_MX12_town 11 rfl) rfl ⟨rfl, _, rfl, h⟩
theorem SX12_town_25 {d n : Nat} {Q : Int → kS → Prop} {a0 a1 a2 : Int} {σ : kS} (h : isO 12 n a0 ∧ (((σ a0 3) ≤ a2 → isA 20 n (σ a0 2) ∧ (((0 : Int) ≤ (σ a0 3) ∧ (σ a0 3) < klen (σ a0 2)) ∧ (∀ s1, s1 = kst σ (σ a0 2) (σ a0 3) a1 → (-2147483648 ≤ ((s1 a0 3) + 1) ∧ ((s1 a0 3) + 1) ≤ 2147483647) ∧ (∀ s2, s2 = kst s1 a0 3 ((s1 a0 3) + 1) → (-2147483648 ≤ ((s2 a0 3) - 1) ∧ ((s2 a0 3) - 1) ≤ 2147483647) ∧ (Q ((s2 a0 3) - 1) s2))))) ∧ (¬ (σ a0 3) ≤ a2 → isA 20 n (σ a0 2) ∧ (((0 : Int) ≤ a2 ∧ a2 < klen (σ a0 2)) ∧ ((¬ (σ (σ a0 2) a2) = a1 → (-2147483648 ≤ (a2 + 1) ∧ (a2 + 1) ≤ 2147483647) ∧ (LX12_town_25 d n Q a0 a1 (a2 + 1) σ)) ∧ (¬ (¬ (σ (σ a0 2) a2) = a1) → Q (-1) σ)))))) : LX12_town_25 d n Q a0 a1 a2 σ := by
  unfold LX12_town_25
  refine K_iload_n 2 (kdA dt_MX12_town 14 rfl) rfl rfl ?_
  refine K_aload_n 0 (kdA dt_MX12_town 15 rfl) rfl rfl ?_
  obtain ⟨c1, h⟩ := h
  refine gf12_165 rfl (kdA dt_MX12_town 16 rfl) c1 ?_
  refine K_icmp_ge (tgt := 51) (kdA dt_MX12_town 17 rfl) rfl (fun c => ?_) (fun c => ?_)
  · have h := h.1 c
    refine K_aload_n 0 (kdA dt_MX12_town 28 rfl) rfl rfl ?_
    refine gf12_13 rfl (kdA dt_MX12_town 29 rfl) c1 ?_
    refine K_aload_n 0 (kdA dt_MX12_town 30 rfl) rfl rfl ?_
    refine gf12_165 rfl (kdA dt_MX12_town 31 rfl) c1 ?_
    refine K_iload_n 1 (kdA dt_MX12_town 32 rfl) rfl rfl ?_
    obtain ⟨c2, h⟩ := h
    obtain ⟨c3, h⟩ := h
    refine K_iastore' (kdA dt_MX12_town 33 rfl) c2 c3.1 c3.2 (fun s1 es1 => ?_)
    have h := h s1 es1
    refine K_aload_n 0 (kdA dt_MX12_town 34 rfl) rfl rfl ?_
    refine K_dup (kdA dt_MX12_town 35 rfl) rfl ?_
    refine gf12_165 rfl (kdA dt_MX12_town 36 rfl) c1 ?_
    refine K_iconst (kdA dt_MX12_town 37 rfl) (by decide) ?_
    obtain ⟨c4, h⟩ := h
    refine K_iadd (kdA dt_MX12_town 38 rfl) c4 ?_
    refine pf12_165 rfl (kdA dt_MX12_town 39 rfl) c1 (fun s2 es2 => ?_)
    have h := h s2 es2
    refine K_aload_n 0 (kdA dt_MX12_town 40 rfl) rfl rfl ?_
    refine gf12_165 rfl (kdA dt_MX12_town 41 rfl) c1 ?_
    refine K_iconst (kdA dt_MX12_town 42 rfl) (by decide) ?_
    obtain ⟨c5, h⟩ := h
    refine K_isub (kdA dt_MX12_town 43 rfl) c5 ?_
    exact K_ireturn (kdA dt_MX12_town 44 rfl) rfl ⟨rfl, _, rfl, h⟩
  · have h := h.2 c
    refine K_aload_n 0 (kdA dt_MX12_town 18 rfl) rfl rfl ?_
    refine gf12_13 rfl (kdA dt_MX12_town 19 rfl) c1 ?_
    refine K_iload_n 2 (kdA dt_MX12_town 20 rfl) rfl rfl ?_
    obtain ⟨c2, h⟩ := h
    obtain ⟨c3, h⟩ := h
    refine K_iaload (kdA dt_MX12_town 21 rfl) c2 c3.1 c3.2 ?_
    refine K_iload_n 1 (kdA dt_MX12_town 22 rfl) rfl rfl ?_
    refine K_icmp_ne (tgt := 45) (kdA dt_MX12_town 23 rfl) rfl (fun c => ?_) (fun c => ?_)
    · have h := h.1 c
      obtain ⟨c4, h⟩ := h
      refine K_iinc (ls' := [(0, (2, a0)), (1, (0, a1)), (2, (0, (a2 + 1)))]) 2 (kdA dt_MX12_town 26 rfl) rfl c4 (by decide) rfl ?_
      refine K_goto (tgt := 25) (kdA dt_MX12_town 27 rfl) rfl ?_
      exact h
    · have h := h.2 c
      refine K_iconst (kdA dt_MX12_town 24 rfl) (by decide) ?_
      exact K_ireturn (kdA dt_MX12_town 25 rfl) rfl ⟨rfl, _, rfl, h⟩
theorem EX12_town {d n : Nat} {Q : Int → kS → Prop} {a0 a1 : Int} {σ : kS} (h : (-2147483648 ≤ a1 ∧ a1 ≤ 2147483647) → kokw n σ → LX12_town_0 d n Q a0 a1 σ) : Ci (d + 1) MX12_town [(2, a0), (0, a1)] n σ Q := Tri_of (by decide +kernel) (Nat.le_of_ble_eq_true rfl) (fun hk hw => h (hk (0, a1) (List.mem_of_getElem? (i := 1) rfl)) hw)

def LX12_tried_0 (d n : Nat) (Q : Int → kS → Prop) (a0 : Int) (a1 : Int) (a2 : Int) (σ : kS) : Prop := K (d + 1) MX12_tried (kPi n Q) (0, 0) 0 [(0, (2, a0)), (1, (0, a1)), (2, (0, a2))] [] n σ
def LX12_tried_43 (d n : Nat) (Q : Int → kS → Prop) (a0 : Int) (a3 : Int) (a4 : Int) (σ : kS) : Prop := K (d + 1) MX12_tried (kPi n Q) (0, 0) 43 [(0, (2, a0)), (3, (0, a3)), (4, (0, a4))] [] n σ
theorem SX12_tried_0 {d n : Nat} {Q : Int → kS → Prop} {a0 a1 a2 : Int} {σ : kS} (h : isO 12 n a0 ∧ (∀ s1, s1 = kst σ a0 0 0 → ((s1 a0 14) = 0 → Q (-1) s1) ∧ (¬ (s1 a0 14) = 0 → ((s1 a0 41) < 2 → Q (-1) s1) ∧ (¬ (s1 a0 41) < 2 → Ci d MX12_isIn [(0, a1), (0, 0), (0, 99)] n s1 (fun x2 s2 => (¬ x2 = 0 → Cv d MX12_layMisses [(2, a0), (0, a1), (0, a2)] n s2 (fun s3 => LX12_tried_43 d n Q a0 0 0 s3)) ∧ (¬ (¬ x2 = 0) → Q (-1) s2)))))) : LX12_tried_0 d n Q a0 a1 a2 σ := by
  unfold LX12_tried_0
  refine K_aload_n 0 (kdA dt_MX12_tried 0 rfl) rfl rfl ?_
  refine K_iconst (kdA dt_MX12_tried 1 rfl) (by decide) ?_
  obtain ⟨c1, h⟩ := h
  refine pf12_149 rfl (kdA dt_MX12_tried 2 rfl) c1 (fun s1 es1 => ?_)
  have h := h s1 es1
  refine K_aload_n 0 (kdA dt_MX12_tried 3 rfl) rfl rfl ?_
  refine gf12_306 rfl (kdA dt_MX12_tried 4 rfl) c1 ?_
  refine K_if_eq (tgt := 30) (kdA dt_MX12_tried 5 rfl) rfl (fun c => ?_) (fun c => ?_)
  · have h := h.1 c
    refine K_iconst (kdA dt_MX12_tried 15 rfl) (by decide) ?_
    exact K_ireturn (kdA dt_MX12_tried 16 rfl) rfl ⟨rfl, _, rfl, h⟩
  · have h := h.2 c
    refine K_aload_n 0 (kdA dt_MX12_tried 6 rfl) rfl rfl ?_
    refine gf12_420 rfl (kdA dt_MX12_tried 7 rfl) c1 ?_
    refine K_iconst (kdA dt_MX12_tried 8 rfl) (by decide) ?_
    refine K_icmp_lt (tgt := 30) (kdA dt_MX12_tried 9 rfl) rfl (fun c => ?_) (fun c => ?_)
    · have h := h.1 c
      refine K_iconst (kdA dt_MX12_tried 15 rfl) (by decide) ?_
      exact K_ireturn (kdA dt_MX12_tried 16 rfl) rfl ⟨rfl, _, rfl, h⟩
    · have h := h.2 c
      refine K_iload_n 1 (kdA dt_MX12_tried 10 rfl) rfl rfl ?_
      refine K_iconst (kdA dt_MX12_tried 11 rfl) (by decide) ?_
      refine K_bipush (kdA dt_MX12_tried 12 rfl) (by decide +kernel) ?_
      refine K_cSi (as := [(0, a1), (0, 0), (0, 99)]) (st := []) (kdA dt_MX12_tried 13 rfl) cl_MX12_isIn lk12_153 rfl rfl (Nat.le_of_ble_eq_true rfl) (Ci.mono h (fun x2 s2 h => ?_))
      refine K_if_ne (tgt := 32) (kdA dt_MX12_tried 14 rfl) rfl (fun c => ?_) (fun c => ?_)
      · have h := h.1 c
        refine K_aload_n 0 (kdA dt_MX12_tried 17 rfl) rfl rfl ?_
        refine K_iload_n 1 (kdA dt_MX12_tried 18 rfl) rfl rfl ?_
        refine K_iload_n 2 (kdA dt_MX12_tried 19 rfl) rfl rfl ?_
        refine K_cVv (c := 12) (as := [(0, a1), (0, a2)]) (st := []) (kdA dt_MX12_tried 20 rfl) rfl cl_MX12_layMisses lk12_429 rfl rfl (Nat.le_of_ble_eq_true rfl) c1 (Cv.mono h (fun s3 h => ?_))
        refine K_iconst (kdA dt_MX12_tried 21 rfl) (by decide) ?_
        refine K_istore_n (ls' := [(0, (2, a0)), (1, (0, a1)), (2, (0, a2)), (3, (0, 0))]) (kdA dt_MX12_tried 22 rfl) rfl (by decide) rfl ?_
        refine K_iconst (kdA dt_MX12_tried 23 rfl) (by decide) ?_
        refine K_istore (ls' := [(0, (2, a0)), (1, (0, a1)), (2, (0, a2)), (3, (0, 0)), (4, (0, 0))]) (kdA dt_MX12_tried 24 rfl) (by decide) rfl ?_
        refine K_pick [0, 3, 4] (ls' := [(0, (2, a0)), (3, (0, 0)), (4, (0, 0))]) rfl ?_
        exact h
      · have h := h.2 c
        refine K_iconst (kdA dt_MX12_tried 15 rfl) (by decide) ?_
        exact K_ireturn (kdA dt_MX12_tried 16 rfl) rfl ⟨rfl, _, rfl, h⟩
theorem SX12_tried_43 {d n : Nat} {Q : Int → kS → Prop} {a0 a3 a4 : Int} {σ : kS} (h : isO 12 n a0 ∧ (((σ a0 41) ≤ a4 → Q a3 σ) ∧ (¬ (σ a0 41) ≤ a4 → Ci d MX12_bestOf [(2, a0), (0, a4)] n σ (fun x2 s1 => (-2147483648 ≤ (6 * x2) ∧ (6 * x2) ≤ 2147483647) ∧ ((-2147483648 ≤ ((6 * x2) + a4) ∧ ((6 * x2) + a4) ≤ 2147483647) ∧ (isA 20 n (σ a0 40) ∧ (((0 : Int) ≤ ((6 * x2) + a4) ∧ ((6 * x2) + a4) < klen (σ a0 40)) ∧ ((-2147483648 ≤ (a3 + (s1 (σ a0 40) ((6 * x2) + a4))) ∧ (a3 + (s1 (σ a0 40) ((6 * x2) + a4))) ≤ 2147483647) ∧ ((-2147483648 ≤ (a4 + 1) ∧ (a4 + 1) ≤ 2147483647) ∧ (LX12_tried_43 d n Q a0 (a3 + (s1 (σ a0 40) ((6 * x2) + a4))) (a4 + 1) s1)))))))))) : LX12_tried_43 d n Q a0 a3 a4 σ := by
  unfold LX12_tried_43
  refine K_iload 2 (kdA dt_MX12_tried 25 rfl) rfl ?_
  refine K_aload_n 0 (kdA dt_MX12_tried 26 rfl) rfl rfl ?_
  obtain ⟨c1, h⟩ := h
  refine gf12_420 rfl (kdA dt_MX12_tried 27 rfl) c1 ?_
  refine K_icmp_ge (tgt := 78) (kdA dt_MX12_tried 28 rfl) rfl (fun c => ?_) (fun c => ?_)
  · have h := h.1 c
    refine K_iload_n 1 (kdA dt_MX12_tried 44 rfl) rfl rfl ?_
    exact K_ireturn (kdA dt_MX12_tried 45 rfl) rfl ⟨rfl, _, rfl, h⟩
  · have h := h.2 c
    refine K_iload_n 1 (kdA dt_MX12_tried 29 rfl) rfl rfl ?_
    refine K_aload_n 0 (kdA dt_MX12_tried 30 rfl) rfl rfl ?_
    refine gf12_88 rfl (kdA dt_MX12_tried 31 rfl) c1 ?_
    refine K_bipush (kdA dt_MX12_tried 32 rfl) (by decide +kernel) ?_
    refine K_aload_n 0 (kdA dt_MX12_tried 33 rfl) rfl rfl ?_
    refine K_iload 2 (kdA dt_MX12_tried 34 rfl) rfl ?_
    refine K_cVi (c := 12) (as := [(0, a4)]) (st := [(0, 6), (2, (σ a0 40)), (0, a3)]) (kdA dt_MX12_tried 35 rfl) rfl cl_MX12_bestOf lk12_433 rfl rfl (Nat.le_of_ble_eq_true rfl) c1 (Ci.mono h (fun x2 s1 h => ?_))
    obtain ⟨c3, h⟩ := h
    refine K_imul (kdA dt_MX12_tried 36 rfl) c3 ?_
    refine K_iload 2 (kdA dt_MX12_tried 37 rfl) rfl ?_
    obtain ⟨c4, h⟩ := h
    refine K_iadd (kdA dt_MX12_tried 38 rfl) c4 ?_
    obtain ⟨c5, h⟩ := h
    obtain ⟨c6, h⟩ := h
    refine K_iaload (kdA dt_MX12_tried 39 rfl) c5 c6.1 c6.2 ?_
    obtain ⟨c7, h⟩ := h
    refine K_iadd (kdA dt_MX12_tried 40 rfl) c7 ?_
    refine K_istore_n (ls' := [(0, (2, a0)), (3, (0, (a3 + (s1 (σ a0 40) ((6 * x2) + a4))))), (4, (0, a4))]) (kdA dt_MX12_tried 41 rfl) rfl (by decide) rfl ?_
    obtain ⟨c8, h⟩ := h
    refine K_iinc (ls' := [(0, (2, a0)), (3, (0, (a3 + (s1 (σ a0 40) ((6 * x2) + a4))))), (4, (0, (a4 + 1)))]) 2 (kdA dt_MX12_tried 42 rfl) rfl c8 (by decide) rfl ?_
    refine K_goto (tgt := 43) (kdA dt_MX12_tried 43 rfl) rfl ?_
    exact h
theorem EX12_tried {d n : Nat} {Q : Int → kS → Prop} {a0 a1 a2 : Int} {σ : kS} (h : (-2147483648 ≤ a1 ∧ a1 ≤ 2147483647) → (-2147483648 ≤ a2 ∧ a2 ≤ 2147483647) → kokw n σ → LX12_tried_0 d n Q a0 a1 a2 σ) : Ci (d + 1) MX12_tried [(2, a0), (0, a1), (0, a2)] n σ Q := Tri_of (by decide +kernel) (Nat.le_of_ble_eq_true rfl) (fun hk hw => h (hk (0, a1) (List.mem_of_getElem? (i := 1) rfl)) (hk (0, a2) (List.mem_of_getElem? (i := 2) rfl)) hw)

def LX12_trips_0 (d n : Nat) (Q : Int → kS → Prop) (a0 : Int) (a1 : Int) (σ : kS) : Prop := K (d + 1) MX12_trips (kPi n Q) (0, 0) 0 [(0, (2, a0)), (1, (0, a1))] [] n σ
theorem SX12_trips_0 {d n : Nat} {Q : Int → kS → Prop} {a0 a1 : Int} {σ : kS} (h : isO 12 n a0 ∧ (∀ s1, s1 = kst σ a0 0 0 → ((s1 a0 63) = 0 → Q (-1) s1) ∧ (¬ (s1 a0 63) = 0 → Ci d MX12_isIn [(0, a1), (0, 0), (0, 1)] n s1 (fun x2 s2 => (¬ x2 = 0 → (¬ a1 = 0 → Q (s2 a0 62) s2) ∧ (¬ (¬ a1 = 0) → Q (s2 a0 61) s2)) ∧ (¬ (¬ x2 = 0) → Q (-1) s2))))) : LX12_trips_0 d n Q a0 a1 σ := by
  unfold LX12_trips_0
  refine K_aload_n 0 (kdA dt_MX12_trips 0 rfl) rfl rfl ?_
  refine K_iconst (kdA dt_MX12_trips 1 rfl) (by decide) ?_
  obtain ⟨c1, h⟩ := h
  refine pf12_149 rfl (kdA dt_MX12_trips 2 rfl) c1 (fun s1 es1 => ?_)
  have h := h s1 es1
  refine K_aload_n 0 (kdA dt_MX12_trips 3 rfl) rfl rfl ?_
  refine gf12_520 rfl (kdA dt_MX12_trips 4 rfl) c1 ?_
  refine K_if_eq (tgt := 21) (kdA dt_MX12_trips 5 rfl) rfl (fun c => ?_) (fun c => ?_)
  · have h := h.1 c
    refine K_iconst (kdA dt_MX12_trips 11 rfl) (by decide) ?_
    refine K_goto (tgt := 40) (kdA dt_MX12_trips 12 rfl) rfl ?_
    exact K_ireturn (kdA dt_MX12_trips 20 rfl) rfl ⟨rfl, _, rfl, h⟩
  · have h := h.2 c
    refine K_iload_n 1 (kdA dt_MX12_trips 6 rfl) rfl rfl ?_
    refine K_iconst (kdA dt_MX12_trips 7 rfl) (by decide) ?_
    refine K_iconst (kdA dt_MX12_trips 8 rfl) (by decide) ?_
    refine K_cSi (as := [(0, a1), (0, 0), (0, 1)]) (st := []) (kdA dt_MX12_trips 9 rfl) cl_MX12_isIn lk12_153 rfl rfl (Nat.le_of_ble_eq_true rfl) (Ci.mono h (fun x2 s2 h => ?_))
    refine K_if_ne (tgt := 25) (kdA dt_MX12_trips 10 rfl) rfl (fun c => ?_) (fun c => ?_)
    · have h := h.1 c
      refine K_iload_n 1 (kdA dt_MX12_trips 13 rfl) rfl rfl ?_
      refine K_if_ne (tgt := 36) (kdA dt_MX12_trips 14 rfl) rfl (fun c => ?_) (fun c => ?_)
      · have h := h.1 c
        refine K_aload_n 0 (kdA dt_MX12_trips 18 rfl) rfl rfl ?_
        refine gf12_517 rfl (kdA dt_MX12_trips 19 rfl) c1 ?_
        exact K_ireturn (kdA dt_MX12_trips 20 rfl) rfl ⟨rfl, _, rfl, h⟩
      · have h := h.2 c
        refine K_aload_n 0 (kdA dt_MX12_trips 15 rfl) rfl rfl ?_
        refine gf12_514 rfl (kdA dt_MX12_trips 16 rfl) c1 ?_
        refine K_goto (tgt := 40) (kdA dt_MX12_trips 17 rfl) rfl ?_
        exact K_ireturn (kdA dt_MX12_trips 20 rfl) rfl ⟨rfl, _, rfl, h⟩
    · have h := h.2 c
      refine K_iconst (kdA dt_MX12_trips 11 rfl) (by decide) ?_
      refine K_goto (tgt := 40) (kdA dt_MX12_trips 12 rfl) rfl ?_
      exact K_ireturn (kdA dt_MX12_trips 20 rfl) rfl ⟨rfl, _, rfl, h⟩
theorem EX12_trips {d n : Nat} {Q : Int → kS → Prop} {a0 a1 : Int} {σ : kS} (h : (-2147483648 ≤ a1 ∧ a1 ≤ 2147483647) → kokw n σ → LX12_trips_0 d n Q a0 a1 σ) : Ci (d + 1) MX12_trips [(2, a0), (0, a1)] n σ Q := Tri_of (by decide +kernel) (Nat.le_of_ble_eq_true rfl) (fun hk hw => h (hk (0, a1) (List.mem_of_getElem? (i := 1) rfl)) hw)

def LX12_trodden_0 (d n : Nat) (Q : Int → kS → Prop) (a0 : Int) (a1 : Int) (σ : kS) : Prop := K (d + 1) MX12_trodden (kPi n Q) (0, 0) 0 [(0, (2, a0)), (1, (0, a1))] [] n σ
theorem SX12_trodden_0 {d n : Nat} {Q : Int → kS → Prop} {a0 a1 : Int} {σ : kS} (h : isO 12 n a0 ∧ (∀ s1, s1 = kst σ a0 0 0 → Ci d MX12_isCell [(0, a1)] n s1 (fun x2 s2 => (x2 = 0 → Q (-1) s2) ∧ (¬ x2 = 0 → isA 20 n (s2 a0 59) ∧ (((0 : Int) ≤ a1 ∧ a1 < klen (s2 a0 59)) ∧ (Q (s2 (s2 a0 59) a1) s2)))))) : LX12_trodden_0 d n Q a0 a1 σ := by
  unfold LX12_trodden_0
  refine K_aload_n 0 (kdA dt_MX12_trodden 0 rfl) rfl rfl ?_
  refine K_iconst (kdA dt_MX12_trodden 1 rfl) (by decide) ?_
  obtain ⟨c1, h⟩ := h
  refine pf12_149 rfl (kdA dt_MX12_trodden 2 rfl) c1 (fun s1 es1 => ?_)
  have h := h s1 es1
  refine K_iload_n 1 (kdA dt_MX12_trodden 3 rfl) rfl rfl ?_
  refine K_cSi (as := [(0, a1)]) (st := []) (kdA dt_MX12_trodden 4 rfl) cl_MX12_isCell lk12_161 rfl rfl (Nat.le_of_ble_eq_true rfl) (Ci.mono h (fun x2 s2 h => ?_))
  refine K_if_eq (tgt := 21) (kdA dt_MX12_trodden 5 rfl) rfl (fun c => ?_) (fun c => ?_)
  · have h := h.1 c
    refine K_iconst (kdA dt_MX12_trodden 11 rfl) (by decide) ?_
    exact K_ireturn (kdA dt_MX12_trodden 12 rfl) rfl ⟨rfl, _, rfl, h⟩
  · have h := h.2 c
    refine K_aload_n 0 (kdA dt_MX12_trodden 6 rfl) rfl rfl ?_
    refine gf12_133 rfl (kdA dt_MX12_trodden 7 rfl) c1 ?_
    refine K_iload_n 1 (kdA dt_MX12_trodden 8 rfl) rfl rfl ?_
    obtain ⟨c3, h⟩ := h
    obtain ⟨c4, h⟩ := h
    refine K_iaload (kdA dt_MX12_trodden 9 rfl) c3 c4.1 c4.2 ?_
    refine K_goto (tgt := 22) (kdA dt_MX12_trodden 10 rfl) rfl ?_
    exact K_ireturn (kdA dt_MX12_trodden 12 rfl) rfl ⟨rfl, _, rfl, h⟩
theorem EX12_trodden {d n : Nat} {Q : Int → kS → Prop} {a0 a1 : Int} {σ : kS} (h : (-2147483648 ≤ a1 ∧ a1 ≤ 2147483647) → kokw n σ → LX12_trodden_0 d n Q a0 a1 σ) : Ci (d + 1) MX12_trodden [(2, a0), (0, a1)] n σ Q := Tri_of (by decide +kernel) (Nat.le_of_ble_eq_true rfl) (fun hk hw => h (hk (0, a1) (List.mem_of_getElem? (i := 1) rfl)) hw)

def LX12_troddenMany_0 (d n : Nat) (Q : Int → kS → Prop) (a0 : Int) (a1 : Int) (σ : kS) : Prop := K (d + 1) MX12_troddenMany (kPi n Q) (0, 0) 0 [(0, (2, a0)), (1, (0, a1))] [] n σ
def LX12_troddenMany_4 (d n : Nat) (Q : Int → kS → Prop) (a0 : Int) (a1 : Int) (a2 : Int) (a3 : Int) (σ : kS) : Prop := K (d + 1) MX12_troddenMany (kPi n Q) (0, 0) 4 [(0, (2, a0)), (1, (0, a1)), (2, (0, a2)), (3, (0, a3))] [] n σ
theorem SX12_troddenMany_0 {d n : Nat} {Q : Int → kS → Prop} {a0 a1 : Int} {σ : kS} (h : LX12_troddenMany_4 d n Q a0 a1 0 0 σ) : LX12_troddenMany_0 d n Q a0 a1 σ := by
  unfold LX12_troddenMany_0
  refine K_iconst (kdA dt_MX12_troddenMany 0 rfl) (by decide) ?_
  refine K_istore_n (ls' := [(0, (2, a0)), (1, (0, a1)), (2, (0, 0))]) (kdA dt_MX12_troddenMany 1 rfl) rfl (by decide) rfl ?_
  refine K_iconst (kdA dt_MX12_troddenMany 2 rfl) (by decide) ?_
  refine K_istore_n (ls' := [(0, (2, a0)), (1, (0, a1)), (2, (0, 0)), (3, (0, 0))]) (kdA dt_MX12_troddenMany 3 rfl) rfl (by decide) rfl ?_
  exact h
theorem SX12_troddenMany_4 {d n : Nat} {Q : Int → kS → Prop} {a0 a1 a2 a3 : Int} {σ : kS} (h : (120 ≤ a3 → Q a2 σ) ∧ (¬ 120 ≤ a3 → isO 12 n a0 ∧ (isA 20 n (σ a0 59) ∧ (((0 : Int) ≤ a3 ∧ a3 < klen (σ a0 59)) ∧ (((σ (σ a0 59) a3) < a1 → (-2147483648 ≤ (a2 + 0) ∧ (a2 + 0) ≤ 2147483647) ∧ ((-2147483648 ≤ (a3 + 1) ∧ (a3 + 1) ≤ 2147483647) ∧ (LX12_troddenMany_4 d n Q a0 a1 (a2 + 0) (a3 + 1) σ))) ∧ (¬ (σ (σ a0 59) a3) < a1 → (-2147483648 ≤ (a2 + 1) ∧ (a2 + 1) ≤ 2147483647) ∧ ((-2147483648 ≤ (a3 + 1) ∧ (a3 + 1) ≤ 2147483647) ∧ (LX12_troddenMany_4 d n Q a0 a1 (a2 + 1) (a3 + 1) σ)))))))) : LX12_troddenMany_4 d n Q a0 a1 a2 a3 σ := by
  unfold LX12_troddenMany_4
  refine K_iload_n 3 (kdA dt_MX12_troddenMany 4 rfl) rfl rfl ?_
  refine K_bipush (kdA dt_MX12_troddenMany 5 rfl) (by decide +kernel) ?_
  refine K_icmp_ge (tgt := 34) (kdA dt_MX12_troddenMany 6 rfl) rfl (fun c => ?_) (fun c => ?_)
  · have h := h.1 c
    refine K_iload_n 2 (kdA dt_MX12_troddenMany 21 rfl) rfl rfl ?_
    exact K_ireturn (kdA dt_MX12_troddenMany 22 rfl) rfl ⟨rfl, _, rfl, h⟩
  · have h := h.2 c
    refine K_iload_n 2 (kdA dt_MX12_troddenMany 7 rfl) rfl rfl ?_
    refine K_aload_n 0 (kdA dt_MX12_troddenMany 8 rfl) rfl rfl ?_
    obtain ⟨c1, h⟩ := h
    refine gf12_133 rfl (kdA dt_MX12_troddenMany 9 rfl) c1 ?_
    refine K_iload_n 3 (kdA dt_MX12_troddenMany 10 rfl) rfl rfl ?_
    obtain ⟨c2, h⟩ := h
    obtain ⟨c3, h⟩ := h
    refine K_iaload (kdA dt_MX12_troddenMany 11 rfl) c2 c3.1 c3.2 ?_
    refine K_iload_n 1 (kdA dt_MX12_troddenMany 12 rfl) rfl rfl ?_
    refine K_icmp_lt (tgt := 25) (kdA dt_MX12_troddenMany 13 rfl) rfl (fun c => ?_) (fun c => ?_)
    · have h := h.1 c
      refine K_iconst (kdA dt_MX12_troddenMany 16 rfl) (by decide) ?_
      obtain ⟨c4, h⟩ := h
      refine K_iadd (kdA dt_MX12_troddenMany 17 rfl) c4 ?_
      refine K_istore_n (ls' := [(0, (2, a0)), (1, (0, a1)), (2, (0, (a2 + 0))), (3, (0, a3))]) (kdA dt_MX12_troddenMany 18 rfl) rfl (by decide) rfl ?_
      obtain ⟨c5, h⟩ := h
      refine K_iinc (ls' := [(0, (2, a0)), (1, (0, a1)), (2, (0, (a2 + 0))), (3, (0, (a3 + 1)))]) 3 (kdA dt_MX12_troddenMany 19 rfl) rfl c5 (by decide) rfl ?_
      refine K_goto (tgt := 4) (kdA dt_MX12_troddenMany 20 rfl) rfl ?_
      exact h
    · have h := h.2 c
      refine K_iconst (kdA dt_MX12_troddenMany 14 rfl) (by decide) ?_
      refine K_goto (tgt := 26) (kdA dt_MX12_troddenMany 15 rfl) rfl ?_
      obtain ⟨c4, h⟩ := h
      refine K_iadd (kdA dt_MX12_troddenMany 17 rfl) c4 ?_
      refine K_istore_n (ls' := [(0, (2, a0)), (1, (0, a1)), (2, (0, (a2 + 1))), (3, (0, a3))]) (kdA dt_MX12_troddenMany 18 rfl) rfl (by decide) rfl ?_
      obtain ⟨c5, h⟩ := h
      refine K_iinc (ls' := [(0, (2, a0)), (1, (0, a1)), (2, (0, (a2 + 1))), (3, (0, (a3 + 1)))]) 3 (kdA dt_MX12_troddenMany 19 rfl) rfl c5 (by decide) rfl ?_
      refine K_goto (tgt := 4) (kdA dt_MX12_troddenMany 20 rfl) rfl ?_
      exact h
theorem EX12_troddenMany {d n : Nat} {Q : Int → kS → Prop} {a0 a1 : Int} {σ : kS} (h : (-2147483648 ≤ a1 ∧ a1 ≤ 2147483647) → kokw n σ → LX12_troddenMany_0 d n Q a0 a1 σ) : Ci (d + 1) MX12_troddenMany [(2, a0), (0, a1)] n σ Q := Tri_of (by decide +kernel) (Nat.le_of_ble_eq_true rfl) (fun hk hw => h (hk (0, a1) (List.mem_of_getElem? (i := 1) rfl)) hw)

def LX12_trueMiles_0 (d n : Nat) (Q : Int → kS → Prop) (a0 : Int) (a1 : Int) (a2 : Int) (σ : kS) : Prop := K (d + 1) MX12_trueMiles (kPi n Q) (0, 0) 0 [(0, (2, a0)), (1, (0, a1)), (2, (0, a2))] [] n σ
theorem SX12_trueMiles_0 {d n : Nat} {Q : Int → kS → Prop} {a0 a1 a2 : Int} {σ : kS} (h : isO 12 n a0 ∧ ((-2147483648 ≤ (60 * a1) ∧ (60 * a1) ≤ 2147483647) ∧ ((-2147483648 ≤ ((60 * a1) + a2) ∧ ((60 * a1) + a2) ≤ 2147483647) ∧ (isA 20 n (σ a0 9) ∧ (((0 : Int) ≤ ((60 * a1) + a2) ∧ ((60 * a1) + a2) < klen (σ a0 9)) ∧ (isA 20 n (σ a0 2) ∧ (((0 : Int) ≤ (σ (σ a0 9) ((60 * a1) + a2)) ∧ (σ (σ a0 9) ((60 * a1) + a2)) < klen (σ a0 2)) ∧ (isA 20 n (σ a0 10) ∧ (((0 : Int) ≤ ((60 * a1) + a2) ∧ ((60 * a1) + a2) < klen (σ a0 10)) ∧ (((0 : Int) ≤ (σ (σ a0 10) ((60 * a1) + a2)) ∧ (σ (σ a0 10) ((60 * a1) + a2)) < klen (σ a0 2)) ∧ (Cv d MX12_goWay [(2, a0), (0, (σ (σ a0 2) (σ (σ a0 9) ((60 * a1) + a2)))), (0, (σ (σ a0 2) (σ (σ a0 10) ((60 * a1) + a2))))] n σ (fun s1 => Ci d MX12_milesOfRow [(2, a0), (2, (s1 a0 29)), (0, 0), (0, (s1 a0 30))] n s1 (fun x12 s2 => Q x12 s2))))))))))))) : LX12_trueMiles_0 d n Q a0 a1 a2 σ := by
  unfold LX12_trueMiles_0
  refine K_aload_n 0 (kdA dt_MX12_trueMiles 0 rfl) rfl rfl ?_
  refine K_aload_n 0 (kdA dt_MX12_trueMiles 1 rfl) rfl rfl ?_
  obtain ⟨c1, h⟩ := h
  refine gf12_13 rfl (kdA dt_MX12_trueMiles 2 rfl) c1 ?_
  refine K_aload_n 0 (kdA dt_MX12_trueMiles 3 rfl) rfl rfl ?_
  refine gf12_32 rfl (kdA dt_MX12_trueMiles 4 rfl) c1 ?_
  refine K_bipush (kdA dt_MX12_trueMiles 5 rfl) (by decide +kernel) ?_
  refine K_iload_n 1 (kdA dt_MX12_trueMiles 6 rfl) rfl rfl ?_
  obtain ⟨c2, h⟩ := h
  refine K_imul (kdA dt_MX12_trueMiles 7 rfl) c2 ?_
  refine K_iload_n 2 (kdA dt_MX12_trueMiles 8 rfl) rfl rfl ?_
  obtain ⟨c3, h⟩ := h
  refine K_iadd (kdA dt_MX12_trueMiles 9 rfl) c3 ?_
  obtain ⟨c4, h⟩ := h
  obtain ⟨c5, h⟩ := h
  refine K_iaload (kdA dt_MX12_trueMiles 10 rfl) c4 c5.1 c5.2 ?_
  obtain ⟨c6, h⟩ := h
  obtain ⟨c7, h⟩ := h
  refine K_iaload (kdA dt_MX12_trueMiles 11 rfl) c6 c7.1 c7.2 ?_
  refine K_aload_n 0 (kdA dt_MX12_trueMiles 12 rfl) rfl rfl ?_
  refine gf12_13 rfl (kdA dt_MX12_trueMiles 13 rfl) c1 ?_
  refine K_aload_n 0 (kdA dt_MX12_trueMiles 14 rfl) rfl rfl ?_
  refine gf12_35 rfl (kdA dt_MX12_trueMiles 15 rfl) c1 ?_
  refine K_bipush (kdA dt_MX12_trueMiles 16 rfl) (by decide +kernel) ?_
  refine K_iload_n 1 (kdA dt_MX12_trueMiles 17 rfl) rfl rfl ?_
  refine K_imul (kdA dt_MX12_trueMiles 18 rfl) c2 ?_
  refine K_iload_n 2 (kdA dt_MX12_trueMiles 19 rfl) rfl rfl ?_
  refine K_iadd (kdA dt_MX12_trueMiles 20 rfl) c3 ?_
  obtain ⟨c8, h⟩ := h
  obtain ⟨c9, h⟩ := h
  refine K_iaload (kdA dt_MX12_trueMiles 21 rfl) c8 c9.1 c9.2 ?_
  obtain ⟨c10, h⟩ := h
  refine K_iaload (kdA dt_MX12_trueMiles 22 rfl) c6 c10.1 c10.2 ?_
  refine K_cVv (c := 12) (as := [(0, (σ (σ a0 2) (σ (σ a0 9) ((60 * a1) + a2)))), (0, (σ (σ a0 2) (σ (σ a0 10) ((60 * a1) + a2))))]) (st := []) (kdA dt_MX12_trueMiles 23 rfl) rfl cl_MX12_goWay lk12_337 rfl rfl (Nat.le_of_ble_eq_true rfl) c1 (Cv.mono h (fun s1 h => ?_))
  refine K_aload_n 0 (kdA dt_MX12_trueMiles 24 rfl) rfl rfl ?_
  refine K_aload_n 0 (kdA dt_MX12_trueMiles 25 rfl) rfl rfl ?_
  refine gf12_64 rfl (kdA dt_MX12_trueMiles 26 rfl) c1 ?_
  refine K_iconst (kdA dt_MX12_trueMiles 27 rfl) (by decide) ?_
  refine K_aload_n 0 (kdA dt_MX12_trueMiles 28 rfl) rfl rfl ?_
  refine gf12_330 rfl (kdA dt_MX12_trueMiles 29 rfl) c1 ?_
  refine K_cVi (c := 12) (as := [(2, (s1 a0 29)), (0, 0), (0, (s1 a0 30))]) (st := []) (kdA dt_MX12_trueMiles 30 rfl) rfl cl_MX12_milesOfRow lk12_392 rfl rfl (Nat.le_of_ble_eq_true rfl) c1 (Ci.mono h (fun x12 s2 h => ?_))
  exact K_ireturn (kdA dt_MX12_trueMiles 31 rfl) rfl ⟨rfl, _, rfl, h⟩
theorem EX12_trueMiles {d n : Nat} {Q : Int → kS → Prop} {a0 a1 a2 : Int} {σ : kS} (h : (-2147483648 ≤ a1 ∧ a1 ≤ 2147483647) → (-2147483648 ≤ a2 ∧ a2 ≤ 2147483647) → kokw n σ → LX12_trueMiles_0 d n Q a0 a1 a2 σ) : Ci (d + 1) MX12_trueMiles [(2, a0), (0, a1), (0, a2)] n σ Q := Tri_of (by decide +kernel) (Nat.le_of_ble_eq_true rfl) (fun hk hw => h (hk (0, a1) (List.mem_of_getElem? (i := 1) rfl)) (hk (0, a2) (List.mem_of_getElem? (i := 2) rfl)) hw)

def LX12_turnsOf_0 (d n : Nat) (Q : Int → kS → Prop) (a0 : Int) (a1 : Int) (a2 : Int) (σ : kS) : Prop := K (d + 1) MX12_turnsOf (kPi n Q) (0, 0) 0 [(0, (2, a0)), (1, (0, a1)), (2, (0, a2))] [] n σ
def LX12_turnsOf_14 (d n : Nat) (Q : Int → kS → Prop) (a0 : Int) (a1 : Int) (a2 : Int) (a3 : Int) (a4 : Int) (a5 : Int) (a6 : Int) (a7 : Int) (σ : kS) : Prop := K (d + 1) MX12_turnsOf (kPi n Q) (0, 0) 14 [(0, (2, a0)), (1, (0, a1)), (2, (0, a2)), (3, (0, a3)), (4, (0, a4)), (5, (0, a5)), (6, (0, a6)), (7, (0, a7))] [] n σ
theorem SX12_turnsOf_0 {d n : Nat} {Q : Int → kS → Prop} {a0 a1 a2 : Int} {σ : kS} (h : LX12_turnsOf_14 d n Q a0 a1 a2 0 0 0 (-1) 1 σ) : LX12_turnsOf_0 d n Q a0 a1 a2 σ := by
  unfold LX12_turnsOf_0
  refine K_iconst (kdA dt_MX12_turnsOf 0 rfl) (by decide) ?_
  refine K_istore_n (ls' := [(0, (2, a0)), (1, (0, a1)), (2, (0, a2)), (3, (0, 0))]) (kdA dt_MX12_turnsOf 1 rfl) rfl (by decide) rfl ?_
  refine K_iconst (kdA dt_MX12_turnsOf 2 rfl) (by decide) ?_
  refine K_istore (ls' := [(0, (2, a0)), (1, (0, a1)), (2, (0, a2)), (3, (0, 0)), (4, (0, 0))]) (kdA dt_MX12_turnsOf 3 rfl) (by decide) rfl ?_
  refine K_iconst (kdA dt_MX12_turnsOf 4 rfl) (by decide) ?_
  refine K_istore (ls' := [(0, (2, a0)), (1, (0, a1)), (2, (0, a2)), (3, (0, 0)), (4, (0, 0)), (5, (0, 0))]) (kdA dt_MX12_turnsOf 5 rfl) (by decide) rfl ?_
  refine K_iconst (kdA dt_MX12_turnsOf 6 rfl) (by decide) ?_
  refine K_istore (ls' := [(0, (2, a0)), (1, (0, a1)), (2, (0, a2)), (3, (0, 0)), (4, (0, 0)), (5, (0, 0)), (6, (0, (-1)))]) (kdA dt_MX12_turnsOf 7 rfl) (by decide) rfl ?_
  refine K_iconst (kdA dt_MX12_turnsOf 8 rfl) (by decide) ?_
  refine K_istore (ls' := [(0, (2, a0)), (1, (0, a1)), (2, (0, a2)), (3, (0, 0)), (4, (0, 0)), (5, (0, 0)), (6, (0, (-1))), (7, (0, 1))]) (kdA dt_MX12_turnsOf 9 rfl) (by decide) rfl ?_
  exact h
theorem SX12_turnsOf_14 {d n : Nat} {Q : Int → kS → Prop} {a0 a1 a2 a3 a4 a5 a6 a7 : Int} {σ : kS} (h : isO 12 n a0 ∧ (isA 20 n (σ a0 32) ∧ (((0 : Int) ≤ a1 ∧ a1 < klen (σ a0 32)) ∧ (((σ (σ a0 32) a1) ≤ a7 → (a2 = 0 → Q a3 σ) ∧ (¬ a2 = 0 → Q a5 σ)) ∧ (¬ (σ (σ a0 32) a1) ≤ a7 → (-2147483648 ≤ (a7 - 1) ∧ (a7 - 1) ≤ 2147483647) ∧ (Ci d MX12_cellOf [(2, a0), (0, a1), (0, (a7 - 1))] n σ (fun x5 s1 => Ci d MX12_cellOf [(2, a0), (0, a1), (0, a7)] n s1 (fun x6 s2 => Ci d MX12_directionOf [(0, x5), (0, x6)] n s2 (fun x7 s3 => (a6 = (-1) → (-2147483648 ≤ (a3 + 0) ∧ (a3 + 0) ≤ 2147483647) ∧ ((¬ a6 = x7 → Ci d MJm_max [(0, a5), (0, 1)] n s3 (fun x9 s4 => (-2147483648 ≤ (a7 + 1) ∧ (a7 + 1) ≤ 2147483647) ∧ (LX12_turnsOf_14 d n Q a0 a1 a2 (a3 + 0) 1 x9 x7 (a7 + 1) s4))) ∧ (¬ (¬ a6 = x7) → (-2147483648 ≤ (a4 + 1) ∧ (a4 + 1) ≤ 2147483647) ∧ (Ci d MJm_max [(0, a5), (0, (a4 + 1))] n s3 (fun x10 s4 => (-2147483648 ≤ (a7 + 1) ∧ (a7 + 1) ≤ 2147483647) ∧ (LX12_turnsOf_14 d n Q a0 a1 a2 (a3 + 0) (a4 + 1) x10 x7 (a7 + 1) s4)))))) ∧ (¬ a6 = (-1) → (a6 = x7 → (-2147483648 ≤ (a3 + 0) ∧ (a3 + 0) ≤ 2147483647) ∧ ((¬ a6 = x7 → Ci d MJm_max [(0, a5), (0, 1)] n s3 (fun x9 s4 => (-2147483648 ≤ (a7 + 1) ∧ (a7 + 1) ≤ 2147483647) ∧ (LX12_turnsOf_14 d n Q a0 a1 a2 (a3 + 0) 1 x9 x7 (a7 + 1) s4))) ∧ (¬ (¬ a6 = x7) → (-2147483648 ≤ (a4 + 1) ∧ (a4 + 1) ≤ 2147483647) ∧ (Ci d MJm_max [(0, a5), (0, (a4 + 1))] n s3 (fun x10 s4 => (-2147483648 ≤ (a7 + 1) ∧ (a7 + 1) ≤ 2147483647) ∧ (LX12_turnsOf_14 d n Q a0 a1 a2 (a3 + 0) (a4 + 1) x10 x7 (a7 + 1) s4)))))) ∧ (¬ a6 = x7 → (-2147483648 ≤ (a3 + 1) ∧ (a3 + 1) ≤ 2147483647) ∧ ((¬ a6 = x7 → Ci d MJm_max [(0, a5), (0, 1)] n s3 (fun x9 s4 => (-2147483648 ≤ (a7 + 1) ∧ (a7 + 1) ≤ 2147483647) ∧ (LX12_turnsOf_14 d n Q a0 a1 a2 (a3 + 1) 1 x9 x7 (a7 + 1) s4))) ∧ (¬ (¬ a6 = x7) → (-2147483648 ≤ (a4 + 1) ∧ (a4 + 1) ≤ 2147483647) ∧ (Ci d MJm_max [(0, a5), (0, (a4 + 1))] n s3 (fun x10 s4 => (-2147483648 ≤ (a7 + 1) ∧ (a7 + 1) ≤ 2147483647) ∧ (LX12_turnsOf_14 d n Q a0 a1 a2 (a3 + 1) (a4 + 1) x10 x7 (a7 + 1) s4)))))))))))))))) : LX12_turnsOf_14 d n Q a0 a1 a2 a3 a4 a5 a6 a7 σ := by
  unfold LX12_turnsOf_14
  refine K_iload 7 (kdA dt_MX12_turnsOf 10 rfl) rfl ?_
  refine K_aload_n 0 (kdA dt_MX12_turnsOf 11 rfl) rfl rfl ?_
  obtain ⟨c1, h⟩ := h
  refine gf12_70 rfl (kdA dt_MX12_turnsOf 12 rfl) c1 ?_
  refine K_iload_n 1 (kdA dt_MX12_turnsOf 13 rfl) rfl rfl ?_
  obtain ⟨c2, h⟩ := h
  obtain ⟨c3, h⟩ := h
  refine K_iaload (kdA dt_MX12_turnsOf 14 rfl) c2 c3.1 c3.2 ?_
  refine K_icmp_ge (tgt := 103) (kdA dt_MX12_turnsOf 15 rfl) rfl (fun c => ?_) (fun c => ?_)
  · have h := h.1 c
    refine K_iload_n 2 (kdA dt_MX12_turnsOf 57 rfl) rfl rfl ?_
    refine K_if_eq (tgt := 112) (kdA dt_MX12_turnsOf 58 rfl) rfl (fun c => ?_) (fun c => ?_)
    · have h := h.1 c
      refine K_iload_n 3 (kdA dt_MX12_turnsOf 61 rfl) rfl rfl ?_
      exact K_ireturn (kdA dt_MX12_turnsOf 62 rfl) rfl ⟨rfl, _, rfl, h⟩
    · have h := h.2 c
      refine K_iload 5 (kdA dt_MX12_turnsOf 59 rfl) rfl ?_
      refine K_goto (tgt := 113) (kdA dt_MX12_turnsOf 60 rfl) rfl ?_
      exact K_ireturn (kdA dt_MX12_turnsOf 62 rfl) rfl ⟨rfl, _, rfl, h⟩
  · have h := h.2 c
    refine K_aload_n 0 (kdA dt_MX12_turnsOf 16 rfl) rfl rfl ?_
    refine K_iload_n 1 (kdA dt_MX12_turnsOf 17 rfl) rfl rfl ?_
    refine K_iload 7 (kdA dt_MX12_turnsOf 18 rfl) rfl ?_
    refine K_iconst (kdA dt_MX12_turnsOf 19 rfl) (by decide) ?_
    obtain ⟨c4, h⟩ := h
    refine K_isub (kdA dt_MX12_turnsOf 20 rfl) c4 ?_
    refine K_cVi (c := 12) (as := [(0, a1), (0, (a7 - 1))]) (st := []) (kdA dt_MX12_turnsOf 21 rfl) rfl cl_MX12_cellOf lk12_386 rfl rfl (Nat.le_of_ble_eq_true rfl) c1 (Ci.mono h (fun x5 s1 h => ?_))
    refine K_aload_n 0 (kdA dt_MX12_turnsOf 22 rfl) rfl rfl ?_
    refine K_iload_n 1 (kdA dt_MX12_turnsOf 23 rfl) rfl rfl ?_
    refine K_iload 7 (kdA dt_MX12_turnsOf 24 rfl) rfl ?_
    refine K_cVi (c := 12) (as := [(0, a1), (0, a7)]) (st := [(0, x5)]) (kdA dt_MX12_turnsOf 25 rfl) rfl cl_MX12_cellOf lk12_386 rfl rfl (Nat.le_of_ble_eq_true rfl) c1 (Ci.mono h (fun x6 s2 h => ?_))
    refine K_cSi (as := [(0, x5), (0, x6)]) (st := []) (kdA dt_MX12_turnsOf 26 rfl) cl_MX12_directionOf lk12_389 rfl rfl (Nat.le_of_ble_eq_true rfl) (Ci.mono h (fun x7 s3 h => ?_))
    refine K_istore (ls' := [(0, (2, a0)), (1, (0, a1)), (2, (0, a2)), (3, (0, a3)), (4, (0, a4)), (5, (0, a5)), (6, (0, a6)), (7, (0, a7)), (8, (0, x7))]) (kdA dt_MX12_turnsOf 27 rfl) (by decide) rfl ?_
    refine K_iload_n 3 (kdA dt_MX12_turnsOf 28 rfl) rfl rfl ?_
    refine K_iload 6 (kdA dt_MX12_turnsOf 29 rfl) rfl ?_
    refine K_iconst (kdA dt_MX12_turnsOf 30 rfl) (by decide) ?_
    refine K_icmp_eq (tgt := 64) (kdA dt_MX12_turnsOf 31 rfl) rfl (fun c => ?_) (fun c => ?_)
    · have h := h.1 c
      refine K_iconst (kdA dt_MX12_turnsOf 37 rfl) (by decide) ?_
      obtain ⟨c8, h⟩ := h
      refine K_iadd (kdA dt_MX12_turnsOf 38 rfl) c8 ?_
      refine K_istore_n (ls' := [(0, (2, a0)), (1, (0, a1)), (2, (0, a2)), (3, (0, (a3 + 0))), (4, (0, a4)), (5, (0, a5)), (6, (0, a6)), (7, (0, a7)), (8, (0, x7))]) (kdA dt_MX12_turnsOf 39 rfl) rfl (by decide) rfl ?_
      refine K_iload 6 (kdA dt_MX12_turnsOf 40 rfl) rfl ?_
      refine K_iload 8 (kdA dt_MX12_turnsOf 41 rfl) rfl ?_
      refine K_icmp_ne (tgt := 81) (kdA dt_MX12_turnsOf 42 rfl) rfl (fun c => ?_) (fun c => ?_)
      · have h := h.1 c
        refine K_iconst (kdA dt_MX12_turnsOf 47 rfl) (by decide) ?_
        refine K_istore (ls' := [(0, (2, a0)), (1, (0, a1)), (2, (0, a2)), (3, (0, (a3 + 0))), (4, (0, 1)), (5, (0, a5)), (6, (0, a6)), (7, (0, a7)), (8, (0, x7))]) (kdA dt_MX12_turnsOf 48 rfl) (by decide) rfl ?_
        refine K_iload 5 (kdA dt_MX12_turnsOf 49 rfl) rfl ?_
        refine K_iload 4 (kdA dt_MX12_turnsOf 50 rfl) rfl ?_
        refine K_cSi (as := [(0, a5), (0, 1)]) (st := []) (kdA dt_MX12_turnsOf 51 rfl) cl_MJm_max lk12_180 rfl rfl (Nat.le_of_ble_eq_true rfl) (Ci.mono h (fun x9 s4 h => ?_))
        refine K_istore (ls' := [(0, (2, a0)), (1, (0, a1)), (2, (0, a2)), (3, (0, (a3 + 0))), (4, (0, 1)), (5, (0, x9)), (6, (0, a6)), (7, (0, a7)), (8, (0, x7))]) (kdA dt_MX12_turnsOf 52 rfl) (by decide) rfl ?_
        refine K_iload 8 (kdA dt_MX12_turnsOf 53 rfl) rfl ?_
        refine K_istore (ls' := [(0, (2, a0)), (1, (0, a1)), (2, (0, a2)), (3, (0, (a3 + 0))), (4, (0, 1)), (5, (0, x9)), (6, (0, x7)), (7, (0, a7)), (8, (0, x7))]) (kdA dt_MX12_turnsOf 54 rfl) (by decide) rfl ?_
        obtain ⟨c10, h⟩ := h
        refine K_iinc (ls' := [(0, (2, a0)), (1, (0, a1)), (2, (0, a2)), (3, (0, (a3 + 0))), (4, (0, 1)), (5, (0, x9)), (6, (0, x7)), (7, (0, (a7 + 1))), (8, (0, x7))]) 7 (kdA dt_MX12_turnsOf 55 rfl) rfl c10 (by decide) rfl ?_
        refine K_goto (tgt := 14) (kdA dt_MX12_turnsOf 56 rfl) rfl ?_
        refine K_pick [0, 1, 2, 3, 4, 5, 6, 7] (ls' := [(0, (2, a0)), (1, (0, a1)), (2, (0, a2)), (3, (0, (a3 + 0))), (4, (0, 1)), (5, (0, x9)), (6, (0, x7)), (7, (0, (a7 + 1)))]) rfl ?_
        exact h
      · have h := h.2 c
        refine K_iload 4 (kdA dt_MX12_turnsOf 43 rfl) rfl ?_
        refine K_iconst (kdA dt_MX12_turnsOf 44 rfl) (by decide) ?_
        obtain ⟨c9, h⟩ := h
        refine K_iadd (kdA dt_MX12_turnsOf 45 rfl) c9 ?_
        refine K_goto (tgt := 82) (kdA dt_MX12_turnsOf 46 rfl) rfl ?_
        refine K_istore (ls' := [(0, (2, a0)), (1, (0, a1)), (2, (0, a2)), (3, (0, (a3 + 0))), (4, (0, (a4 + 1))), (5, (0, a5)), (6, (0, a6)), (7, (0, a7)), (8, (0, x7))]) (kdA dt_MX12_turnsOf 48 rfl) (by decide) rfl ?_
        refine K_iload 5 (kdA dt_MX12_turnsOf 49 rfl) rfl ?_
        refine K_iload 4 (kdA dt_MX12_turnsOf 50 rfl) rfl ?_
        refine K_cSi (as := [(0, a5), (0, (a4 + 1))]) (st := []) (kdA dt_MX12_turnsOf 51 rfl) cl_MJm_max lk12_180 rfl rfl (Nat.le_of_ble_eq_true rfl) (Ci.mono h (fun x10 s4 h => ?_))
        refine K_istore (ls' := [(0, (2, a0)), (1, (0, a1)), (2, (0, a2)), (3, (0, (a3 + 0))), (4, (0, (a4 + 1))), (5, (0, x10)), (6, (0, a6)), (7, (0, a7)), (8, (0, x7))]) (kdA dt_MX12_turnsOf 52 rfl) (by decide) rfl ?_
        refine K_iload 8 (kdA dt_MX12_turnsOf 53 rfl) rfl ?_
        refine K_istore (ls' := [(0, (2, a0)), (1, (0, a1)), (2, (0, a2)), (3, (0, (a3 + 0))), (4, (0, (a4 + 1))), (5, (0, x10)), (6, (0, x7)), (7, (0, a7)), (8, (0, x7))]) (kdA dt_MX12_turnsOf 54 rfl) (by decide) rfl ?_
        obtain ⟨c11, h⟩ := h
        refine K_iinc (ls' := [(0, (2, a0)), (1, (0, a1)), (2, (0, a2)), (3, (0, (a3 + 0))), (4, (0, (a4 + 1))), (5, (0, x10)), (6, (0, x7)), (7, (0, (a7 + 1))), (8, (0, x7))]) 7 (kdA dt_MX12_turnsOf 55 rfl) rfl c11 (by decide) rfl ?_
        refine K_goto (tgt := 14) (kdA dt_MX12_turnsOf 56 rfl) rfl ?_
        refine K_pick [0, 1, 2, 3, 4, 5, 6, 7] (ls' := [(0, (2, a0)), (1, (0, a1)), (2, (0, a2)), (3, (0, (a3 + 0))), (4, (0, (a4 + 1))), (5, (0, x10)), (6, (0, x7)), (7, (0, (a7 + 1)))]) rfl ?_
        exact h
    · have h := h.2 c
      refine K_iload 6 (kdA dt_MX12_turnsOf 32 rfl) rfl ?_
      refine K_iload 8 (kdA dt_MX12_turnsOf 33 rfl) rfl ?_
      refine K_icmp_eq (tgt := 64) (kdA dt_MX12_turnsOf 34 rfl) rfl (fun c => ?_) (fun c => ?_)
      · have h := h.1 c
        refine K_iconst (kdA dt_MX12_turnsOf 37 rfl) (by decide) ?_
        obtain ⟨c8, h⟩ := h
        refine K_iadd (kdA dt_MX12_turnsOf 38 rfl) c8 ?_
        refine K_istore_n (ls' := [(0, (2, a0)), (1, (0, a1)), (2, (0, a2)), (3, (0, (a3 + 0))), (4, (0, a4)), (5, (0, a5)), (6, (0, a6)), (7, (0, a7)), (8, (0, x7))]) (kdA dt_MX12_turnsOf 39 rfl) rfl (by decide) rfl ?_
        refine K_iload 6 (kdA dt_MX12_turnsOf 40 rfl) rfl ?_
        refine K_iload 8 (kdA dt_MX12_turnsOf 41 rfl) rfl ?_
        refine K_icmp_ne (tgt := 81) (kdA dt_MX12_turnsOf 42 rfl) rfl (fun c => ?_) (fun c => ?_)
        · have h := h.1 c
          refine K_iconst (kdA dt_MX12_turnsOf 47 rfl) (by decide) ?_
          refine K_istore (ls' := [(0, (2, a0)), (1, (0, a1)), (2, (0, a2)), (3, (0, (a3 + 0))), (4, (0, 1)), (5, (0, a5)), (6, (0, a6)), (7, (0, a7)), (8, (0, x7))]) (kdA dt_MX12_turnsOf 48 rfl) (by decide) rfl ?_
          refine K_iload 5 (kdA dt_MX12_turnsOf 49 rfl) rfl ?_
          refine K_iload 4 (kdA dt_MX12_turnsOf 50 rfl) rfl ?_
          refine K_cSi (as := [(0, a5), (0, 1)]) (st := []) (kdA dt_MX12_turnsOf 51 rfl) cl_MJm_max lk12_180 rfl rfl (Nat.le_of_ble_eq_true rfl) (Ci.mono h (fun x9 s4 h => ?_))
          refine K_istore (ls' := [(0, (2, a0)), (1, (0, a1)), (2, (0, a2)), (3, (0, (a3 + 0))), (4, (0, 1)), (5, (0, x9)), (6, (0, a6)), (7, (0, a7)), (8, (0, x7))]) (kdA dt_MX12_turnsOf 52 rfl) (by decide) rfl ?_
          refine K_iload 8 (kdA dt_MX12_turnsOf 53 rfl) rfl ?_
          refine K_istore (ls' := [(0, (2, a0)), (1, (0, a1)), (2, (0, a2)), (3, (0, (a3 + 0))), (4, (0, 1)), (5, (0, x9)), (6, (0, x7)), (7, (0, a7)), (8, (0, x7))]) (kdA dt_MX12_turnsOf 54 rfl) (by decide) rfl ?_
          obtain ⟨c10, h⟩ := h
          refine K_iinc (ls' := [(0, (2, a0)), (1, (0, a1)), (2, (0, a2)), (3, (0, (a3 + 0))), (4, (0, 1)), (5, (0, x9)), (6, (0, x7)), (7, (0, (a7 + 1))), (8, (0, x7))]) 7 (kdA dt_MX12_turnsOf 55 rfl) rfl c10 (by decide) rfl ?_
          refine K_goto (tgt := 14) (kdA dt_MX12_turnsOf 56 rfl) rfl ?_
          refine K_pick [0, 1, 2, 3, 4, 5, 6, 7] (ls' := [(0, (2, a0)), (1, (0, a1)), (2, (0, a2)), (3, (0, (a3 + 0))), (4, (0, 1)), (5, (0, x9)), (6, (0, x7)), (7, (0, (a7 + 1)))]) rfl ?_
          exact h
        · have h := h.2 c
          refine K_iload 4 (kdA dt_MX12_turnsOf 43 rfl) rfl ?_
          refine K_iconst (kdA dt_MX12_turnsOf 44 rfl) (by decide) ?_
          obtain ⟨c9, h⟩ := h
          refine K_iadd (kdA dt_MX12_turnsOf 45 rfl) c9 ?_
          refine K_goto (tgt := 82) (kdA dt_MX12_turnsOf 46 rfl) rfl ?_
          refine K_istore (ls' := [(0, (2, a0)), (1, (0, a1)), (2, (0, a2)), (3, (0, (a3 + 0))), (4, (0, (a4 + 1))), (5, (0, a5)), (6, (0, a6)), (7, (0, a7)), (8, (0, x7))]) (kdA dt_MX12_turnsOf 48 rfl) (by decide) rfl ?_
          refine K_iload 5 (kdA dt_MX12_turnsOf 49 rfl) rfl ?_
          refine K_iload 4 (kdA dt_MX12_turnsOf 50 rfl) rfl ?_
          refine K_cSi (as := [(0, a5), (0, (a4 + 1))]) (st := []) (kdA dt_MX12_turnsOf 51 rfl) cl_MJm_max lk12_180 rfl rfl (Nat.le_of_ble_eq_true rfl) (Ci.mono h (fun x10 s4 h => ?_))
          refine K_istore (ls' := [(0, (2, a0)), (1, (0, a1)), (2, (0, a2)), (3, (0, (a3 + 0))), (4, (0, (a4 + 1))), (5, (0, x10)), (6, (0, a6)), (7, (0, a7)), (8, (0, x7))]) (kdA dt_MX12_turnsOf 52 rfl) (by decide) rfl ?_
          refine K_iload 8 (kdA dt_MX12_turnsOf 53 rfl) rfl ?_
          refine K_istore (ls' := [(0, (2, a0)), (1, (0, a1)), (2, (0, a2)), (3, (0, (a3 + 0))), (4, (0, (a4 + 1))), (5, (0, x10)), (6, (0, x7)), (7, (0, a7)), (8, (0, x7))]) (kdA dt_MX12_turnsOf 54 rfl) (by decide) rfl ?_
          obtain ⟨c11, h⟩ := h
          refine K_iinc (ls' := [(0, (2, a0)), (1, (0, a1)), (2, (0, a2)), (3, (0, (a3 + 0))), (4, (0, (a4 + 1))), (5, (0, x10)), (6, (0, x7)), (7, (0, (a7 + 1))), (8, (0, x7))]) 7 (kdA dt_MX12_turnsOf 55 rfl) rfl c11 (by decide) rfl ?_
          refine K_goto (tgt := 14) (kdA dt_MX12_turnsOf 56 rfl) rfl ?_
          refine K_pick [0, 1, 2, 3, 4, 5, 6, 7] (ls' := [(0, (2, a0)), (1, (0, a1)), (2, (0, a2)), (3, (0, (a3 + 0))), (4, (0, (a4 + 1))), (5, (0, x10)), (6, (0, x7)), (7, (0, (a7 + 1)))]) rfl ?_
          exact h
      · have h := h.2 c
        refine K_iconst (kdA dt_MX12_turnsOf 35 rfl) (by decide) ?_
        refine K_goto (tgt := 65) (kdA dt_MX12_turnsOf 36 rfl) rfl ?_
        obtain ⟨c8, h⟩ := h
        refine K_iadd (kdA dt_MX12_turnsOf 38 rfl) c8 ?_
        refine K_istore_n (ls' := [(0, (2, a0)), (1, (0, a1)), (2, (0, a2)), (3, (0, (a3 + 1))), (4, (0, a4)), (5, (0, a5)), (6, (0, a6)), (7, (0, a7)), (8, (0, x7))]) (kdA dt_MX12_turnsOf 39 rfl) rfl (by decide) rfl ?_
        refine K_iload 6 (kdA dt_MX12_turnsOf 40 rfl) rfl ?_
        refine K_iload 8 (kdA dt_MX12_turnsOf 41 rfl) rfl ?_
        refine K_icmp_ne (tgt := 81) (kdA dt_MX12_turnsOf 42 rfl) rfl (fun c => ?_) (fun c => ?_)
        · have h := h.1 c
          refine K_iconst (kdA dt_MX12_turnsOf 47 rfl) (by decide) ?_
          refine K_istore (ls' := [(0, (2, a0)), (1, (0, a1)), (2, (0, a2)), (3, (0, (a3 + 1))), (4, (0, 1)), (5, (0, a5)), (6, (0, a6)), (7, (0, a7)), (8, (0, x7))]) (kdA dt_MX12_turnsOf 48 rfl) (by decide) rfl ?_
          refine K_iload 5 (kdA dt_MX12_turnsOf 49 rfl) rfl ?_
          refine K_iload 4 (kdA dt_MX12_turnsOf 50 rfl) rfl ?_
          refine K_cSi (as := [(0, a5), (0, 1)]) (st := []) (kdA dt_MX12_turnsOf 51 rfl) cl_MJm_max lk12_180 rfl rfl (Nat.le_of_ble_eq_true rfl) (Ci.mono h (fun x9 s4 h => ?_))
          refine K_istore (ls' := [(0, (2, a0)), (1, (0, a1)), (2, (0, a2)), (3, (0, (a3 + 1))), (4, (0, 1)), (5, (0, x9)), (6, (0, a6)), (7, (0, a7)), (8, (0, x7))]) (kdA dt_MX12_turnsOf 52 rfl) (by decide) rfl ?_
          refine K_iload 8 (kdA dt_MX12_turnsOf 53 rfl) rfl ?_
          refine K_istore (ls' := [(0, (2, a0)), (1, (0, a1)), (2, (0, a2)), (3, (0, (a3 + 1))), (4, (0, 1)), (5, (0, x9)), (6, (0, x7)), (7, (0, a7)), (8, (0, x7))]) (kdA dt_MX12_turnsOf 54 rfl) (by decide) rfl ?_
          obtain ⟨c10, h⟩ := h
          refine K_iinc (ls' := [(0, (2, a0)), (1, (0, a1)), (2, (0, a2)), (3, (0, (a3 + 1))), (4, (0, 1)), (5, (0, x9)), (6, (0, x7)), (7, (0, (a7 + 1))), (8, (0, x7))]) 7 (kdA dt_MX12_turnsOf 55 rfl) rfl c10 (by decide) rfl ?_
          refine K_goto (tgt := 14) (kdA dt_MX12_turnsOf 56 rfl) rfl ?_
          refine K_pick [0, 1, 2, 3, 4, 5, 6, 7] (ls' := [(0, (2, a0)), (1, (0, a1)), (2, (0, a2)), (3, (0, (a3 + 1))), (4, (0, 1)), (5, (0, x9)), (6, (0, x7)), (7, (0, (a7 + 1)))]) rfl ?_
          exact h
        · have h := h.2 c
          refine K_iload 4 (kdA dt_MX12_turnsOf 43 rfl) rfl ?_
          refine K_iconst (kdA dt_MX12_turnsOf 44 rfl) (by decide) ?_
          obtain ⟨c9, h⟩ := h
          refine K_iadd (kdA dt_MX12_turnsOf 45 rfl) c9 ?_
          refine K_goto (tgt := 82) (kdA dt_MX12_turnsOf 46 rfl) rfl ?_
          refine K_istore (ls' := [(0, (2, a0)), (1, (0, a1)), (2, (0, a2)), (3, (0, (a3 + 1))), (4, (0, (a4 + 1))), (5, (0, a5)), (6, (0, a6)), (7, (0, a7)), (8, (0, x7))]) (kdA dt_MX12_turnsOf 48 rfl) (by decide) rfl ?_
          refine K_iload 5 (kdA dt_MX12_turnsOf 49 rfl) rfl ?_
          refine K_iload 4 (kdA dt_MX12_turnsOf 50 rfl) rfl ?_
          refine K_cSi (as := [(0, a5), (0, (a4 + 1))]) (st := []) (kdA dt_MX12_turnsOf 51 rfl) cl_MJm_max lk12_180 rfl rfl (Nat.le_of_ble_eq_true rfl) (Ci.mono h (fun x10 s4 h => ?_))
          refine K_istore (ls' := [(0, (2, a0)), (1, (0, a1)), (2, (0, a2)), (3, (0, (a3 + 1))), (4, (0, (a4 + 1))), (5, (0, x10)), (6, (0, a6)), (7, (0, a7)), (8, (0, x7))]) (kdA dt_MX12_turnsOf 52 rfl) (by decide) rfl ?_
          refine K_iload 8 (kdA dt_MX12_turnsOf 53 rfl) rfl ?_
          refine K_istore (ls' := [(0, (2, a0)), (1, (0, a1)), (2, (0, a2)), (3, (0, (a3 + 1))), (4, (0, (a4 + 1))), (5, (0, x10)), (6, (0, x7)), (7, (0, a7)), (8, (0, x7))]) (kdA dt_MX12_turnsOf 54 rfl) (by decide) rfl ?_
          obtain ⟨c11, h⟩ := h
          refine K_iinc (ls' := [(0, (2, a0)), (1, (0, a1)), (2, (0, a2)), (3, (0, (a3 + 1))), (4, (0, (a4 + 1))), (5, (0, x10)), (6, (0, x7)), (7, (0, (a7 + 1))), (8, (0, x7))]) 7 (kdA dt_MX12_turnsOf 55 rfl) rfl c11 (by decide) rfl ?_
          refine K_goto (tgt := 14) (kdA dt_MX12_turnsOf 56 rfl) rfl ?_
          refine K_pick [0, 1, 2, 3, 4, 5, 6, 7] (ls' := [(0, (2, a0)), (1, (0, a1)), (2, (0, a2)), (3, (0, (a3 + 1))), (4, (0, (a4 + 1))), (5, (0, x10)), (6, (0, x7)), (7, (0, (a7 + 1)))]) rfl ?_
          exact h
theorem EX12_turnsOf {d n : Nat} {Q : Int → kS → Prop} {a0 a1 a2 : Int} {σ : kS} (h : (-2147483648 ≤ a1 ∧ a1 ≤ 2147483647) → (-2147483648 ≤ a2 ∧ a2 ≤ 2147483647) → kokw n σ → LX12_turnsOf_0 d n Q a0 a1 a2 σ) : Ci (d + 1) MX12_turnsOf [(2, a0), (0, a1), (0, a2)] n σ Q := Tri_of (by decide +kernel) (Nat.le_of_ble_eq_true rfl) (fun hk hw => h (hk (0, a1) (List.mem_of_getElem? (i := 1) rfl)) (hk (0, a2) (List.mem_of_getElem? (i := 2) rfl)) hw)

def LX12_unit_0 (d n : Nat) (Q : Int → kS → Prop) (a0 : Int) (σ : kS) : Prop := K (d + 1) MX12_unit (kPi n Q) (0, 0) 0 [(0, (2, a0))] [] n σ
theorem SX12_unit_0 {d n : Nat} {Q : Int → kS → Prop} {a0 : Int} {σ : kS} (h : isO 12 n a0 ∧ (Ci d MX12_look [(2, a0)] n σ (fun x2 s1 => (¬ x2 = 33 → (¬ x2 = 40 → Ci d MX12_compares [(2, a0), (0, 0), (0, 0)] n s1 (fun x3 s2 => (x3 = 0 ∨ x3 = 1) ∧ (Q x3 s2))) ∧ (¬ (¬ x2 = 40) → Ci d MX12_goesIn [(2, a0)] n s1 (fun x3 s2 => (¬ x3 = 0 → Ci d MX12_condition [(2, a0), (0, 0), (0, 0)] n s2 (fun x4 s3 => Ci d MX12_takes [(2, a0), (0, 41)] n s3 (fun x5 s4 => (¬ x5 = 0 → (-2147483648 ≤ ((s4 a0 20) - 1) ∧ ((s4 a0 20) - 1) ≤ 2147483647) ∧ (∀ s5, s5 = kst s4 a0 20 ((s4 a0 20) - 1) → (x4 = 0 ∨ x4 = 1) ∧ (Q x4 s5))) ∧ (¬ (¬ x5 = 0) → Q 0 s4)))) ∧ (¬ (¬ x3 = 0) → Q 0 s2)))) ∧ (¬ (¬ x2 = 33) → Ci d MX12_goesIn [(2, a0)] n s1 (fun x3 s2 => (¬ x3 = 0 → Ci d MX12_unit [(2, a0)] n s2 (fun x4 s3 => (-2147483648 ≤ ((s3 a0 20) - 1) ∧ ((s3 a0 20) - 1) ≤ 2147483647) ∧ (∀ s4, s4 = kst s3 a0 20 ((s3 a0 20) - 1) → (¬ x4 = 0 → Q 0 s4) ∧ (¬ (¬ x4 = 0) → Q 1 s4)))) ∧ (¬ (¬ x3 = 0) → Q 0 s2)))))) : LX12_unit_0 d n Q a0 σ := by
  unfold LX12_unit_0
  refine K_aload_n 0 (kdA dt_MX12_unit 0 rfl) rfl rfl ?_
  obtain ⟨c1, h⟩ := h
  refine K_cVi (c := 12) (as := []) (st := []) (kdA dt_MX12_unit 1 rfl) rfl cl_MX12_look lk12_222 rfl rfl (Nat.le_of_ble_eq_true rfl) c1 (Ci.mono h (fun x2 s1 h => ?_))
  refine K_istore_n (ls' := [(0, (2, a0)), (1, (0, x2))]) (kdA dt_MX12_unit 2 rfl) rfl (by decide) rfl ?_
  refine K_iload_n 1 (kdA dt_MX12_unit 3 rfl) rfl rfl ?_
  refine K_bipush (kdA dt_MX12_unit 4 rfl) (by decide +kernel) ?_
  refine K_icmp_ne (tgt := 45) (kdA dt_MX12_unit 5 rfl) rfl (fun c => ?_) (fun c => ?_)
  · have h := h.1 c
    refine K_iload_n 1 (kdA dt_MX12_unit 26 rfl) rfl rfl ?_
    refine K_bipush (kdA dt_MX12_unit 27 rfl) (by decide +kernel) ?_
    refine K_icmp_ne (tgt := 90) (kdA dt_MX12_unit 28 rfl) rfl (fun c => ?_) (fun c => ?_)
    · have h := h.1 c
      refine K_aload_n 0 (kdA dt_MX12_unit 53 rfl) rfl rfl ?_
      refine K_iconst (kdA dt_MX12_unit 54 rfl) (by decide) ?_
      refine K_iconst (kdA dt_MX12_unit 55 rfl) (by decide) ?_
      refine K_cVi (c := 12) (as := [(0, 0), (0, 0)]) (st := []) (kdA dt_MX12_unit 56 rfl) rfl cl_MX12_compares lk12_271 rfl rfl (Nat.le_of_ble_eq_true rfl) c1 (Ci.mono h (fun x3 s2 h => ?_))
      obtain ⟨c4, h⟩ := h
      exact K_zreturn (kdA dt_MX12_unit 57 rfl) rfl c4 ⟨rfl, _, rfl, h⟩
    · have h := h.2 c
      refine K_aload_n 0 (kdA dt_MX12_unit 29 rfl) rfl rfl ?_
      refine K_cVi (c := 12) (as := []) (st := []) (kdA dt_MX12_unit 30 rfl) rfl cl_MX12_goesIn lk12_239 rfl rfl (Nat.le_of_ble_eq_true rfl) c1 (Ci.mono h (fun x3 s2 h => ?_))
      refine K_if_ne (tgt := 60) (kdA dt_MX12_unit 31 rfl) rfl (fun c => ?_) (fun c => ?_)
      · have h := h.1 c
        refine K_aload_n 0 (kdA dt_MX12_unit 34 rfl) rfl rfl ?_
        refine K_iconst (kdA dt_MX12_unit 35 rfl) (by decide) ?_
        refine K_iconst (kdA dt_MX12_unit 36 rfl) (by decide) ?_
        refine K_cVi (c := 12) (as := [(0, 0), (0, 0)]) (st := []) (kdA dt_MX12_unit 37 rfl) rfl cl_MX12_condition lk12_267 rfl rfl (Nat.le_of_ble_eq_true rfl) c1 (Ci.mono h (fun x4 s3 h => ?_))
        refine K_istore_n (ls' := [(0, (2, a0)), (1, (0, x2)), (2, (0, x4))]) (kdA dt_MX12_unit 38 rfl) rfl (by decide) rfl ?_
        refine K_aload_n 0 (kdA dt_MX12_unit 39 rfl) rfl rfl ?_
        refine K_bipush (kdA dt_MX12_unit 40 rfl) (by decide +kernel) ?_
        refine K_cVi (c := 12) (as := [(0, 41)]) (st := []) (kdA dt_MX12_unit 41 rfl) rfl cl_MX12_takes lk12_245 rfl rfl (Nat.le_of_ble_eq_true rfl) c1 (Ci.mono h (fun x5 s4 h => ?_))
        refine K_if_ne (tgt := 78) (kdA dt_MX12_unit 42 rfl) rfl (fun c => ?_) (fun c => ?_)
        · have h := h.1 c
          refine K_aload_n 0 (kdA dt_MX12_unit 45 rfl) rfl rfl ?_
          refine K_dup (kdA dt_MX12_unit 46 rfl) rfl ?_
          refine gf12_215 rfl (kdA dt_MX12_unit 47 rfl) c1 ?_
          refine K_iconst (kdA dt_MX12_unit 48 rfl) (by decide) ?_
          obtain ⟨c6, h⟩ := h
          refine K_isub (kdA dt_MX12_unit 49 rfl) c6 ?_
          refine pf12_215 rfl (kdA dt_MX12_unit 50 rfl) c1 (fun s5 es5 => ?_)
          have h := h s5 es5
          refine K_iload_n 2 (kdA dt_MX12_unit 51 rfl) rfl rfl ?_
          obtain ⟨c7, h⟩ := h
          exact K_zreturn (kdA dt_MX12_unit 52 rfl) rfl c7 ⟨rfl, _, rfl, h⟩
        · have h := h.2 c
          refine K_iconst (kdA dt_MX12_unit 43 rfl) (by decide) ?_
          exact K_zreturn (kdA dt_MX12_unit 44 rfl) rfl (Or.inl rfl) ⟨rfl, _, rfl, h⟩
      · have h := h.2 c
        refine K_iconst (kdA dt_MX12_unit 32 rfl) (by decide) ?_
        exact K_zreturn (kdA dt_MX12_unit 33 rfl) rfl (Or.inl rfl) ⟨rfl, _, rfl, h⟩
  · have h := h.2 c
    refine K_aload_n 0 (kdA dt_MX12_unit 6 rfl) rfl rfl ?_
    refine K_cVi (c := 12) (as := []) (st := []) (kdA dt_MX12_unit 7 rfl) rfl cl_MX12_goesIn lk12_239 rfl rfl (Nat.le_of_ble_eq_true rfl) c1 (Ci.mono h (fun x3 s2 h => ?_))
    refine K_if_ne (tgt := 20) (kdA dt_MX12_unit 8 rfl) rfl (fun c => ?_) (fun c => ?_)
    · have h := h.1 c
      refine K_aload_n 0 (kdA dt_MX12_unit 11 rfl) rfl rfl ?_
      refine K_cVi (c := 12) (as := []) (st := []) (kdA dt_MX12_unit 12 rfl) rfl cl_MX12_unit lk12_264 rfl rfl (Nat.le_of_ble_eq_true rfl) c1 (Ci.mono h (fun x4 s3 h => ?_))
      refine K_istore_n (ls' := [(0, (2, a0)), (1, (0, x2)), (2, (0, x4))]) (kdA dt_MX12_unit 13 rfl) rfl (by decide) rfl ?_
      refine K_aload_n 0 (kdA dt_MX12_unit 14 rfl) rfl rfl ?_
      refine K_dup (kdA dt_MX12_unit 15 rfl) rfl ?_
      refine gf12_215 rfl (kdA dt_MX12_unit 16 rfl) c1 ?_
      refine K_iconst (kdA dt_MX12_unit 17 rfl) (by decide) ?_
      obtain ⟨c5, h⟩ := h
      refine K_isub (kdA dt_MX12_unit 18 rfl) c5 ?_
      refine pf12_215 rfl (kdA dt_MX12_unit 19 rfl) c1 (fun s4 es4 => ?_)
      have h := h s4 es4
      refine K_iload_n 2 (kdA dt_MX12_unit 20 rfl) rfl rfl ?_
      refine K_if_ne (tgt := 43) (kdA dt_MX12_unit 21 rfl) rfl (fun c => ?_) (fun c => ?_)
      · have h := h.1 c
        refine K_iconst (kdA dt_MX12_unit 24 rfl) (by decide) ?_
        exact K_zreturn (kdA dt_MX12_unit 25 rfl) rfl (Or.inl rfl) ⟨rfl, _, rfl, h⟩
      · have h := h.2 c
        refine K_iconst (kdA dt_MX12_unit 22 rfl) (by decide) ?_
        refine K_goto (tgt := 44) (kdA dt_MX12_unit 23 rfl) rfl ?_
        exact K_zreturn (kdA dt_MX12_unit 25 rfl) rfl (Or.inr rfl) ⟨rfl, _, rfl, h⟩
    · have h := h.2 c
      refine K_iconst (kdA dt_MX12_unit 9 rfl) (by decide) ?_
      exact K_zreturn (kdA dt_MX12_unit 10 rfl) rfl (Or.inl rfl) ⟨rfl, _, rfl, h⟩
theorem EX12_unit {d n : Nat} {Q : Int → kS → Prop} {a0 : Int} {σ : kS} (h : kokw n σ → LX12_unit_0 d n Q a0 σ) : Ci (d + 1) MX12_unit [(2, a0)] n σ Q := Tri_of (by decide +kernel) (Nat.le_of_ble_eq_true rfl) (fun hk hw => h hw)

def LX12_way_0 (d n : Nat) (Q : Int → kS → Prop) (a0 : Int) (a1 : Int) (a2 : Int) (a3 : Int) (a4 : Int) (a5 : Int) (a6 : Int) (σ : kS) : Prop := K (d + 1) MX12_way (kPi n Q) (0, 0) 0 [(0, (2, a0)), (1, (0, a1)), (2, (0, a2)), (3, (0, a3)), (4, (0, a4)), (5, (0, a5)), (6, (0, a6))] [] n σ
theorem SX12_way_0 {d n : Nat} {Q : Int → kS → Prop} {a0 a1 a2 a3 a4 a5 a6 : Int} {σ : kS} (h : isO 12 n a0 ∧ (∀ s1, s1 = kst σ a0 0 0 → Ci d MX12_isWay [(2, a0), (0, a1), (0, a2), (0, a4), (0, a5)] n s1 (fun x2 s2 => (¬ x2 = 0 → Cv d MX12_layWay [(2, a0), (0, a1), (0, a2), (0, a3), (0, a4), (0, a5)] n s2 (fun s3 => (¬ a6 = (-1) → (-2147483648 ≤ ((s3 a0 30) - 1) ∧ ((s3 a0 30) - 1) ≤ 2147483647) ∧ (Ci d MX12_isIn [(0, a6), (0, 0), (0, ((s3 a0 30) - 1))] n s3 (fun x5 s4 => (x5 = 0 → Q (-1) s4) ∧ (¬ x5 = 0 → isA 20 n (s4 a0 29) ∧ (((0 : Int) ≤ a6 ∧ a6 < klen (s4 a0 29)) ∧ (Q (s4 (s4 a0 29) a6) s4)))))) ∧ (¬ (¬ a6 = (-1)) → (-2147483648 ≤ ((s3 a0 30) - 1) ∧ ((s3 a0 30) - 1) ≤ 2147483647) ∧ (Q ((s3 a0 30) - 1) s3)))) ∧ (¬ (¬ x2 = 0) → Q (-1) s2)))) : LX12_way_0 d n Q a0 a1 a2 a3 a4 a5 a6 σ := by
  unfold LX12_way_0
  refine K_aload_n 0 (kdA dt_MX12_way 0 rfl) rfl rfl ?_
  refine K_iconst (kdA dt_MX12_way 1 rfl) (by decide) ?_
  obtain ⟨c1, h⟩ := h
  refine pf12_149 rfl (kdA dt_MX12_way 2 rfl) c1 (fun s1 es1 => ?_)
  have h := h s1 es1
  refine K_aload_n 0 (kdA dt_MX12_way 3 rfl) rfl rfl ?_
  refine K_iload_n 1 (kdA dt_MX12_way 4 rfl) rfl rfl ?_
  refine K_iload_n 2 (kdA dt_MX12_way 5 rfl) rfl rfl ?_
  refine K_iload 4 (kdA dt_MX12_way 6 rfl) rfl ?_
  refine K_iload 5 (kdA dt_MX12_way 7 rfl) rfl ?_
  refine K_cVi (c := 12) (as := [(0, a1), (0, a2), (0, a4), (0, a5)]) (st := []) (kdA dt_MX12_way 8 rfl) rfl cl_MX12_isWay lk12_341 rfl rfl (Nat.le_of_ble_eq_true rfl) c1 (Ci.mono h (fun x2 s2 h => ?_))
  refine K_if_ne (tgt := 20) (kdA dt_MX12_way 9 rfl) rfl (fun c => ?_) (fun c => ?_)
  · have h := h.1 c
    refine K_aload_n 0 (kdA dt_MX12_way 12 rfl) rfl rfl ?_
    refine K_iload_n 1 (kdA dt_MX12_way 13 rfl) rfl rfl ?_
    refine K_iload_n 2 (kdA dt_MX12_way 14 rfl) rfl rfl ?_
    refine K_iload_n 3 (kdA dt_MX12_way 15 rfl) rfl rfl ?_
    refine K_iload 4 (kdA dt_MX12_way 16 rfl) rfl ?_
    refine K_iload 5 (kdA dt_MX12_way 17 rfl) rfl ?_
    refine K_cVv (c := 12) (as := [(0, a1), (0, a2), (0, a3), (0, a4), (0, a5)]) (st := []) (kdA dt_MX12_way 18 rfl) rfl cl_MX12_layWay lk12_345 rfl rfl (Nat.le_of_ble_eq_true rfl) c1 (Cv.mono h (fun s3 h => ?_))
    refine K_iload 6 (kdA dt_MX12_way 19 rfl) rfl ?_
    refine K_iconst (kdA dt_MX12_way 20 rfl) (by decide) ?_
    refine K_icmp_ne (tgt := 46) (kdA dt_MX12_way 21 rfl) rfl (fun c => ?_) (fun c => ?_)
    · have h := h.1 c
      refine K_iload 6 (kdA dt_MX12_way 27 rfl) rfl ?_
      refine K_iconst (kdA dt_MX12_way 28 rfl) (by decide) ?_
      refine K_aload_n 0 (kdA dt_MX12_way 29 rfl) rfl rfl ?_
      refine gf12_330 rfl (kdA dt_MX12_way 30 rfl) c1 ?_
      refine K_iconst (kdA dt_MX12_way 31 rfl) (by decide) ?_
      obtain ⟨c4, h⟩ := h
      refine K_isub (kdA dt_MX12_way 32 rfl) c4 ?_
      refine K_cSi (as := [(0, a6), (0, 0), (0, ((s3 a0 30) - 1))]) (st := []) (kdA dt_MX12_way 33 rfl) cl_MX12_isIn lk12_153 rfl rfl (Nat.le_of_ble_eq_true rfl) (Ci.mono h (fun x5 s4 h => ?_))
      refine K_if_eq (tgt := 71) (kdA dt_MX12_way 34 rfl) rfl (fun c => ?_) (fun c => ?_)
      · have h := h.1 c
        refine K_iconst (kdA dt_MX12_way 40 rfl) (by decide) ?_
        exact K_ireturn (kdA dt_MX12_way 41 rfl) rfl ⟨rfl, _, rfl, h⟩
      · have h := h.2 c
        refine K_aload_n 0 (kdA dt_MX12_way 35 rfl) rfl rfl ?_
        refine gf12_64 rfl (kdA dt_MX12_way 36 rfl) c1 ?_
        refine K_iload 6 (kdA dt_MX12_way 37 rfl) rfl ?_
        obtain ⟨c6, h⟩ := h
        obtain ⟨c7, h⟩ := h
        refine K_iaload (kdA dt_MX12_way 38 rfl) c6 c7.1 c7.2 ?_
        refine K_goto (tgt := 72) (kdA dt_MX12_way 39 rfl) rfl ?_
        exact K_ireturn (kdA dt_MX12_way 41 rfl) rfl ⟨rfl, _, rfl, h⟩
    · have h := h.2 c
      refine K_aload_n 0 (kdA dt_MX12_way 22 rfl) rfl rfl ?_
      refine gf12_330 rfl (kdA dt_MX12_way 23 rfl) c1 ?_
      refine K_iconst (kdA dt_MX12_way 24 rfl) (by decide) ?_
      obtain ⟨c4, h⟩ := h
      refine K_isub (kdA dt_MX12_way 25 rfl) c4 ?_
      refine K_goto (tgt := 72) (kdA dt_MX12_way 26 rfl) rfl ?_
      exact K_ireturn (kdA dt_MX12_way 41 rfl) rfl ⟨rfl, _, rfl, h⟩
  · have h := h.2 c
    refine K_iconst (kdA dt_MX12_way 10 rfl) (by decide) ?_
    exact K_ireturn (kdA dt_MX12_way 11 rfl) rfl ⟨rfl, _, rfl, h⟩
theorem EX12_way {d n : Nat} {Q : Int → kS → Prop} {a0 a1 a2 a3 a4 a5 a6 : Int} {σ : kS} (h : (-2147483648 ≤ a1 ∧ a1 ≤ 2147483647) → (-2147483648 ≤ a2 ∧ a2 ≤ 2147483647) → (-2147483648 ≤ a3 ∧ a3 ≤ 2147483647) → (-2147483648 ≤ a4 ∧ a4 ≤ 2147483647) → (-2147483648 ≤ a5 ∧ a5 ≤ 2147483647) → (-2147483648 ≤ a6 ∧ a6 ≤ 2147483647) → kokw n σ → LX12_way_0 d n Q a0 a1 a2 a3 a4 a5 a6 σ) : Ci (d + 1) MX12_way [(2, a0), (0, a1), (0, a2), (0, a3), (0, a4), (0, a5), (0, a6)] n σ Q := Tri_of (by decide +kernel) (Nat.le_of_ble_eq_true rfl) (fun hk hw => h (hk (0, a1) (List.mem_of_getElem? (i := 1) rfl)) (hk (0, a2) (List.mem_of_getElem? (i := 2) rfl)) (hk (0, a3) (List.mem_of_getElem? (i := 3) rfl)) (hk (0, a4) (List.mem_of_getElem? (i := 4) rfl)) (hk (0, a5) (List.mem_of_getElem? (i := 5) rfl)) (hk (0, a6) (List.mem_of_getElem? (i := 6) rfl)) hw)

def LX12_weigh_0 (d n : Nat) (Q : Int → kS → Prop) (a0 : Int) (a1 : Int) (a2 : Int) (σ : kS) : Prop := K (d + 1) MX12_weigh (kPi n Q) (0, 0) 0 [(0, (2, a0)), (1, (0, a1)), (2, (0, a2))] [] n σ
theorem SX12_weigh_0 {d n : Nat} {Q : Int → kS → Prop} {a0 a1 a2 : Int} {σ : kS} (h : isO 12 n a0 ∧ (∀ s1, s1 = kst σ a0 0 0 → Ci d MX12_isGoer [(2, a0), (0, a1)] n s1 (fun x2 s2 => (x2 = 0 → Q 0 s2) ∧ (¬ x2 = 0 → Ci d MX12_isIn [(0, a2), (0, 0), (0, 9)] n s2 (fun x3 s3 => (¬ x3 = 0 → isA 20 n (s3 a0 42) ∧ (((0 : Int) ≤ a1 ∧ a1 < klen (s3 a0 42)) ∧ (∀ s4, s4 = kst s3 (s3 a0 42) a1 a2 → Q 1 s4))) ∧ (¬ (¬ x3 = 0) → Q 0 s3)))))) : LX12_weigh_0 d n Q a0 a1 a2 σ := by
  unfold LX12_weigh_0
  refine K_aload_n 0 (kdA dt_MX12_weigh 0 rfl) rfl rfl ?_
  refine K_iconst (kdA dt_MX12_weigh 1 rfl) (by decide) ?_
  obtain ⟨c1, h⟩ := h
  refine pf12_149 rfl (kdA dt_MX12_weigh 2 rfl) c1 (fun s1 es1 => ?_)
  have h := h s1 es1
  refine K_aload_n 0 (kdA dt_MX12_weigh 3 rfl) rfl rfl ?_
  refine K_iload_n 1 (kdA dt_MX12_weigh 4 rfl) rfl rfl ?_
  refine K_cVi (c := 12) (as := [(0, a1)]) (st := []) (kdA dt_MX12_weigh 5 rfl) rfl cl_MX12_isGoer lk12_311 rfl rfl (Nat.le_of_ble_eq_true rfl) c1 (Ci.mono h (fun x2 s2 h => ?_))
  refine K_if_eq (tgt := 23) (kdA dt_MX12_weigh 6 rfl) rfl (fun c => ?_) (fun c => ?_)
  · have h := h.1 c
    refine K_iconst (kdA dt_MX12_weigh 12 rfl) (by decide) ?_
    exact K_zreturn (kdA dt_MX12_weigh 13 rfl) rfl (Or.inl rfl) ⟨rfl, _, rfl, h⟩
  · have h := h.2 c
    refine K_iload_n 2 (kdA dt_MX12_weigh 7 rfl) rfl rfl ?_
    refine K_iconst (kdA dt_MX12_weigh 8 rfl) (by decide) ?_
    refine K_bipush (kdA dt_MX12_weigh 9 rfl) (by decide +kernel) ?_
    refine K_cSi (as := [(0, a2), (0, 0), (0, 9)]) (st := []) (kdA dt_MX12_weigh 10 rfl) cl_MX12_isIn lk12_153 rfl rfl (Nat.le_of_ble_eq_true rfl) (Ci.mono h (fun x3 s3 h => ?_))
    refine K_if_ne (tgt := 25) (kdA dt_MX12_weigh 11 rfl) rfl (fun c => ?_) (fun c => ?_)
    · have h := h.1 c
      refine K_aload_n 0 (kdA dt_MX12_weigh 14 rfl) rfl rfl ?_
      refine gf12_91 rfl (kdA dt_MX12_weigh 15 rfl) c1 ?_
      refine K_iload_n 1 (kdA dt_MX12_weigh 16 rfl) rfl rfl ?_
      refine K_iload_n 2 (kdA dt_MX12_weigh 17 rfl) rfl rfl ?_
      obtain ⟨c4, h⟩ := h
      obtain ⟨c5, h⟩ := h
      refine K_iastore' (kdA dt_MX12_weigh 18 rfl) c4 c5.1 c5.2 (fun s4 es4 => ?_)
      have h := h s4 es4
      refine K_iconst (kdA dt_MX12_weigh 19 rfl) (by decide) ?_
      exact K_zreturn (kdA dt_MX12_weigh 20 rfl) rfl (Or.inr rfl) ⟨rfl, _, rfl, h⟩
    · have h := h.2 c
      refine K_iconst (kdA dt_MX12_weigh 12 rfl) (by decide) ?_
      exact K_zreturn (kdA dt_MX12_weigh 13 rfl) rfl (Or.inl rfl) ⟨rfl, _, rfl, h⟩
theorem EX12_weigh {d n : Nat} {Q : Int → kS → Prop} {a0 a1 a2 : Int} {σ : kS} (h : (-2147483648 ≤ a1 ∧ a1 ≤ 2147483647) → (-2147483648 ≤ a2 ∧ a2 ≤ 2147483647) → kokw n σ → LX12_weigh_0 d n Q a0 a1 a2 σ) : Ci (d + 1) MX12_weigh [(2, a0), (0, a1), (0, a2)] n σ Q := Tri_of (by decide +kernel) (Nat.le_of_ble_eq_true rfl) (fun hk hw => h (hk (0, a1) (List.mem_of_getElem? (i := 1) rfl)) (hk (0, a2) (List.mem_of_getElem? (i := 2) rfl)) hw)

def LX12_within_0 (d n : Nat) (Q : Int → kS → Prop) (a0 : Int) (σ : kS) : Prop := K (d + 1) MX12_within (kPi n Q) (0, 0) 0 [(0, (1, a0))] [] n σ
theorem SX12_within_0 {d n : Nat} {Q : Int → kS → Prop} {a0 : Int} {σ : kS} (h : Cl d MJm_minL [(1, 1000000), (1, a0)] n σ (fun x1 s1 => Cl d MJm_maxL [(1, (-1000000)), (1, x1)] n s1 (fun x2 s2 => (-2147483648 ≤ x2 ∧ x2 ≤ 2147483647) ∧ (Q x2 s2)))) : LX12_within_0 d n Q a0 σ := by
  unfold LX12_within_0
  refine K_ldc2 (x := (-1000000)) (kdA dt_MX12_within 0 rfl) (tb7 110 rfl rfl) (by decide +kernel) ?_
  refine K_ldc2 (x := 1000000) (kdA dt_MX12_within 1 rfl) (tb7 111 rfl rfl) (by decide +kernel) ?_
  refine K_lload_n 0 (kdA dt_MX12_within 2 rfl) rfl rfl ?_
  refine K_cSl (as := [(1, 1000000), (1, a0)]) (st := [(1, (-1000000))]) (kdA dt_MX12_within 3 rfl) cl_MJm_minL lk12_229 rfl rfl (Nat.le_of_ble_eq_true rfl) (Cl.mono h (fun x1 s1 h => ?_))
  refine K_cSl (as := [(1, (-1000000)), (1, x1)]) (st := []) (kdA dt_MX12_within 4 rfl) cl_MJm_maxL lk12_233 rfl rfl (Nat.le_of_ble_eq_true rfl) (Cl.mono h (fun x2 s2 h => ?_))
  obtain ⟨c3, h⟩ := h
  refine K_l2i (kdA dt_MX12_within 5 rfl) c3 ?_
  exact K_ireturn (kdA dt_MX12_within 6 rfl) rfl ⟨rfl, _, rfl, h⟩
theorem EX12_within {d n : Nat} {Q : Int → kS → Prop} {a0 : Int} {σ : kS} (h : (-9223372036854775808 ≤ a0 ∧ a0 ≤ 9223372036854775807) → kokw n σ → LX12_within_0 d n Q a0 σ) : Ci (d + 1) MX12_within [(1, a0)] n σ Q := Tri_of (by decide +kernel) (Nat.le_of_ble_eq_true rfl) (fun hk hw => h (hk (1, a0) (List.mem_of_getElem? (i := 0) rfl)) hw)

def LX12_worn_0 (d n : Nat) (Q : Int → kS → Prop) (a0 : Int) (a1 : Int) (σ : kS) : Prop := K (d + 1) MX12_worn (kPi n Q) (0, 0) 0 [(0, (2, a0)), (1, (0, a1))] [] n σ
theorem SX12_worn_0 {d n : Nat} {Q : Int → kS → Prop} {a0 a1 : Int} {σ : kS} (h : isO 12 n a0 ∧ (∀ s1, s1 = kst σ a0 0 0 → Ci d MX12_isIn [(0, a1), (0, 1), (0, 99)] n s1 (fun x2 s2 => (x2 = 0 → Q (-1) s2) ∧ (¬ x2 = 0 → Ci d MX12_troddenMany [(2, a0), (0, a1)] n s2 (fun x3 s3 => Q x3 s3))))) : LX12_worn_0 d n Q a0 a1 σ := by
  unfold LX12_worn_0
  refine K_aload_n 0 (kdA dt_MX12_worn 0 rfl) rfl rfl ?_
  refine K_iconst (kdA dt_MX12_worn 1 rfl) (by decide) ?_
  obtain ⟨c1, h⟩ := h
  refine pf12_149 rfl (kdA dt_MX12_worn 2 rfl) c1 (fun s1 es1 => ?_)
  have h := h s1 es1
  refine K_iload_n 1 (kdA dt_MX12_worn 3 rfl) rfl rfl ?_
  refine K_iconst (kdA dt_MX12_worn 4 rfl) (by decide) ?_
  refine K_bipush (kdA dt_MX12_worn 5 rfl) (by decide +kernel) ?_
  refine K_cSi (as := [(0, a1), (0, 1), (0, 99)]) (st := []) (kdA dt_MX12_worn 6 rfl) cl_MX12_isIn lk12_153 rfl rfl (Nat.le_of_ble_eq_true rfl) (Ci.mono h (fun x2 s2 h => ?_))
  refine K_if_eq (tgt := 23) (kdA dt_MX12_worn 7 rfl) rfl (fun c => ?_) (fun c => ?_)
  · have h := h.1 c
    refine K_iconst (kdA dt_MX12_worn 12 rfl) (by decide) ?_
    exact K_ireturn (kdA dt_MX12_worn 13 rfl) rfl ⟨rfl, _, rfl, h⟩
  · have h := h.2 c
    refine K_aload_n 0 (kdA dt_MX12_worn 8 rfl) rfl rfl ?_
    refine K_iload_n 1 (kdA dt_MX12_worn 9 rfl) rfl rfl ?_
    refine K_cVi (c := 12) (as := [(0, a1)]) (st := []) (kdA dt_MX12_worn 10 rfl) rfl cl_MX12_troddenMany lk12_526 rfl rfl (Nat.le_of_ble_eq_true rfl) c1 (Ci.mono h (fun x3 s3 h => ?_))
    refine K_goto (tgt := 24) (kdA dt_MX12_worn 11 rfl) rfl ?_
    exact K_ireturn (kdA dt_MX12_worn 13 rfl) rfl ⟨rfl, _, rfl, h⟩
theorem EX12_worn {d n : Nat} {Q : Int → kS → Prop} {a0 a1 : Int} {σ : kS} (h : (-2147483648 ≤ a1 ∧ a1 ≤ 2147483647) → kokw n σ → LX12_worn_0 d n Q a0 a1 σ) : Ci (d + 1) MX12_worn [(2, a0), (0, a1)] n σ Q := Tri_of (by decide +kernel) (Nat.le_of_ble_eq_true rfl) (fun hk hw => h (hk (0, a1) (List.mem_of_getElem? (i := 1) rfl)) hw)
