/-! segments, by program -/
def LX12_about_0 (d n : Nat) (Q : Int → kS → Prop) (a0 : Int) (a1 : Int) (a2 : Int) (σ : kS) : Prop := K (d + 1) MX12_about (kPi n Q) (0, 0) 0 [(0, (2, a0)), (1, (0, a1)), (2, (0, a2))] [] n σ
theorem SX12_about_0 {d n : Nat} {Q : Int → kS → Prop} {a0 a1 a2 : Int} {σ : kS} (h : isO 12 n a0 ∧ (∀ s1, s1 = kst σ a0 0 0 → Ci d MX12_isLine [(2, a0), (0, a1)] n s1 (fun x2 s2 => (x2 = 0 → Q (-1) s2) ∧ (¬ x2 = 0 → Ci d MX12_isIn [(0, a2), (0, 0), (0, 2)] n s2 (fun x3 s3 => (¬ x3 = 0 → (¬ a2 = 0 → (¬ a2 = 2 → Ci d MX12_turnsOf [(2, a0), (0, a1), (0, 0)] n s3 (fun x4 s4 => Q x4 s4)) ∧ (¬ (¬ a2 = 2) → Ci d MX12_turnsOf [(2, a0), (0, a1), (0, 1)] n s3 (fun x4 s4 => Q x4 s4))) ∧ (¬ (¬ a2 = 0) → (-2147483648 ≤ (140 * a1) ∧ (140 * a1) ≤ 2147483647) ∧ (isA 20 n (s3 a0 32) ∧ (((0 : Int) ≤ a1 ∧ a1 < klen (s3 a0 32)) ∧ (Ci d MX12_milesOfRow [(2, a0), (2, (s3 a0 33)), (0, (140 * a1)), (0, (s3 (s3 a0 32) a1))] n s3 (fun x7 s4 => Q x7 s4)))))) ∧ (¬ (¬ x3 = 0) → Q (-1) s3)))))) : LX12_about_0 d n Q a0 a1 a2 σ := by
  unfold LX12_about_0
  refine K_aload_n 0 (kdA dt_MX12_about 0 rfl) rfl rfl ?_
  refine K_iconst (kdA dt_MX12_about 1 rfl) (by decide) ?_
  obtain ⟨c1, h⟩ := h
  refine pf12_149 rfl (kdA dt_MX12_about 2 rfl) c1 (fun s1 es1 => ?_)
  have h := h s1 es1
  refine K_aload_n 0 (kdA dt_MX12_about 3 rfl) rfl rfl ?_
  refine K_iload_n 1 (kdA dt_MX12_about 4 rfl) rfl rfl ?_
  refine K_cVi (c := 12) (as := [(0, a1)]) (st := []) (kdA dt_MX12_about 5 rfl) rfl cl_MX12_isLine lk12_383 rfl rfl (Nat.le_of_ble_eq_true rfl) c1 (Ci.mono h (fun x2 s2 h => ?_))
  refine K_if_eq (tgt := 22) (kdA dt_MX12_about 6 rfl) rfl (fun c => ?_) (fun c => ?_)
  · have h := h.1 c
    refine K_iconst (kdA dt_MX12_about 12 rfl) (by decide) ?_
    exact K_ireturn (kdA dt_MX12_about 13 rfl) rfl ⟨rfl, _, rfl, h⟩
  · have h := h.2 c
    refine K_iload_n 2 (kdA dt_MX12_about 7 rfl) rfl rfl ?_
    refine K_iconst (kdA dt_MX12_about 8 rfl) (by decide) ?_
    refine K_iconst (kdA dt_MX12_about 9 rfl) (by decide) ?_
    refine K_cSi (as := [(0, a2), (0, 0), (0, 2)]) (st := []) (kdA dt_MX12_about 10 rfl) cl_MX12_isIn lk12_153 rfl rfl (Nat.le_of_ble_eq_true rfl) (Ci.mono h (fun x3 s3 h => ?_))
    refine K_if_ne (tgt := 24) (kdA dt_MX12_about 11 rfl) rfl (fun c => ?_) (fun c => ?_)
    · have h := h.1 c
      refine K_iload_n 2 (kdA dt_MX12_about 14 rfl) rfl rfl ?_
      refine K_if_ne (tgt := 50) (kdA dt_MX12_about 15 rfl) rfl (fun c => ?_) (fun c => ?_)
      · have h := h.1 c
        refine K_aload_n 0 (kdA dt_MX12_about 28 rfl) rfl rfl ?_
        refine K_iload_n 1 (kdA dt_MX12_about 29 rfl) rfl rfl ?_
        refine K_iload_n 2 (kdA dt_MX12_about 30 rfl) rfl rfl ?_
        refine K_iconst (kdA dt_MX12_about 31 rfl) (by decide) ?_
        refine K_icmp_ne (tgt := 61) (kdA dt_MX12_about 32 rfl) rfl (fun c => ?_) (fun c => ?_)
        · have h := h.1 c
          refine K_iconst (kdA dt_MX12_about 35 rfl) (by decide) ?_
          refine K_cVi (c := 12) (as := [(0, a1), (0, 0)]) (st := []) (kdA dt_MX12_about 36 rfl) rfl cl_MX12_turnsOf lk12_396 rfl rfl (Nat.le_of_ble_eq_true rfl) c1 (Ci.mono h (fun x4 s4 h => ?_))
          exact K_ireturn (kdA dt_MX12_about 37 rfl) rfl ⟨rfl, _, rfl, h⟩
        · have h := h.2 c
          refine K_iconst (kdA dt_MX12_about 33 rfl) (by decide) ?_
          refine K_goto (tgt := 62) (kdA dt_MX12_about 34 rfl) rfl ?_
          refine K_cVi (c := 12) (as := [(0, a1), (0, 1)]) (st := []) (kdA dt_MX12_about 36 rfl) rfl cl_MX12_turnsOf lk12_396 rfl rfl (Nat.le_of_ble_eq_true rfl) c1 (Ci.mono h (fun x4 s4 h => ?_))
          exact K_ireturn (kdA dt_MX12_about 37 rfl) rfl ⟨rfl, _, rfl, h⟩
      · have h := h.2 c
        refine K_aload_n 0 (kdA dt_MX12_about 16 rfl) rfl rfl ?_
        refine K_aload_n 0 (kdA dt_MX12_about 17 rfl) rfl rfl ?_
        refine gf12_73 rfl (kdA dt_MX12_about 18 rfl) c1 ?_
        refine K_sipush (kdA dt_MX12_about 19 rfl) (by decide +kernel) ?_
        refine K_iload_n 1 (kdA dt_MX12_about 20 rfl) rfl rfl ?_
        obtain ⟨c4, h⟩ := h
        refine K_imul (kdA dt_MX12_about 21 rfl) c4 ?_
        refine K_aload_n 0 (kdA dt_MX12_about 22 rfl) rfl rfl ?_
        refine gf12_70 rfl (kdA dt_MX12_about 23 rfl) c1 ?_
        refine K_iload_n 1 (kdA dt_MX12_about 24 rfl) rfl rfl ?_
        obtain ⟨c5, h⟩ := h
        obtain ⟨c6, h⟩ := h
        refine K_iaload (kdA dt_MX12_about 25 rfl) c5 c6.1 c6.2 ?_
        refine K_cVi (c := 12) (as := [(2, (s3 a0 33)), (0, (140 * a1)), (0, (s3 (s3 a0 32) a1))]) (st := []) (kdA dt_MX12_about 26 rfl) rfl cl_MX12_milesOfRow lk12_392 rfl rfl (Nat.le_of_ble_eq_true rfl) c1 (Ci.mono h (fun x7 s4 h => ?_))
        refine K_goto (tgt := 65) (kdA dt_MX12_about 27 rfl) rfl ?_
        exact K_ireturn (kdA dt_MX12_about 37 rfl) rfl ⟨rfl, _, rfl, h⟩
    · have h := h.2 c
      refine K_iconst (kdA dt_MX12_about 12 rfl) (by decide) ?_
      exact K_ireturn (kdA dt_MX12_about 13 rfl) rfl ⟨rfl, _, rfl, h⟩
theorem EX12_about {d n : Nat} {Q : Int → kS → Prop} {a0 a1 a2 : Int} {σ : kS} (h : (-2147483648 ≤ a1 ∧ a1 ≤ 2147483647) → (-2147483648 ≤ a2 ∧ a2 ≤ 2147483647) → kokw n σ → LX12_about_0 d n Q a0 a1 a2 σ) : Ci (d + 1) MX12_about [(2, a0), (0, a1), (0, a2)] n σ Q := Tri_of (by decide +kernel) (Nat.le_of_ble_eq_true rfl) (fun hk hw => h (hk (0, a1) (List.mem_of_getElem? (i := 1) rfl)) (hk (0, a2) (List.mem_of_getElem? (i := 2) rfl)) hw)

def LX12_addCell_0 (d n : Nat) (Q : kS → Prop) (a0 : Int) (a1 : Int) (σ : kS) : Prop := K (d + 1) MX12_addCell (kPv n Q) (0, 0) 0 [(0, (2, a0)), (1, (0, a1))] [] n σ
theorem SX12_addCell_0 {d n : Nat} {Q : kS → Prop} {a0 a1 : Int} {σ : kS} (h : isO 12 n a0 ∧ ((-2147483648 ≤ (140 * (σ a0 34)) ∧ (140 * (σ a0 34)) ≤ 2147483647) ∧ (isA 20 n (σ a0 32) ∧ (((0 : Int) ≤ (σ a0 34) ∧ (σ a0 34) < klen (σ a0 32)) ∧ ((-2147483648 ≤ ((140 * (σ a0 34)) + (σ (σ a0 32) (σ a0 34))) ∧ ((140 * (σ a0 34)) + (σ (σ a0 32) (σ a0 34))) ≤ 2147483647) ∧ (isA 20 n (σ a0 33) ∧ (((0 : Int) ≤ ((140 * (σ a0 34)) + (σ (σ a0 32) (σ a0 34))) ∧ ((140 * (σ a0 34)) + (σ (σ a0 32) (σ a0 34))) < klen (σ a0 33)) ∧ (∀ s1, s1 = kst σ (σ a0 33) ((140 * (σ a0 34)) + (σ (σ a0 32) (σ a0 34))) a1 → isA 20 n (s1 a0 32) ∧ (((0 : Int) ≤ (s1 a0 34) ∧ (s1 a0 34) < klen (s1 a0 32)) ∧ ((-2147483648 ≤ ((s1 (s1 a0 32) (s1 a0 34)) + 1) ∧ ((s1 (s1 a0 32) (s1 a0 34)) + 1) ≤ 2147483647) ∧ (∀ s2, s2 = kst s1 (s1 a0 32) (s1 a0 34) ((s1 (s1 a0 32) (s1 a0 34)) + 1) → Q s2))))))))))) : LX12_addCell_0 d n Q a0 a1 σ := by
  unfold LX12_addCell_0
  refine K_aload_n 0 (kdA dt_MX12_addCell 0 rfl) rfl rfl ?_
  obtain ⟨c1, h⟩ := h
  refine gf12_73 rfl (kdA dt_MX12_addCell 1 rfl) c1 ?_
  refine K_sipush (kdA dt_MX12_addCell 2 rfl) (by decide +kernel) ?_
  refine K_aload_n 0 (kdA dt_MX12_addCell 3 rfl) rfl rfl ?_
  refine gf12_371 rfl (kdA dt_MX12_addCell 4 rfl) c1 ?_
  obtain ⟨c2, h⟩ := h
  refine K_imul (kdA dt_MX12_addCell 5 rfl) c2 ?_
  refine K_aload_n 0 (kdA dt_MX12_addCell 6 rfl) rfl rfl ?_
  refine gf12_70 rfl (kdA dt_MX12_addCell 7 rfl) c1 ?_
  refine K_aload_n 0 (kdA dt_MX12_addCell 8 rfl) rfl rfl ?_
  refine gf12_371 rfl (kdA dt_MX12_addCell 9 rfl) c1 ?_
  obtain ⟨c3, h⟩ := h
  obtain ⟨c4, h⟩ := h
  refine K_iaload (kdA dt_MX12_addCell 10 rfl) c3 c4.1 c4.2 ?_
  obtain ⟨c5, h⟩ := h
  refine K_iadd (kdA dt_MX12_addCell 11 rfl) c5 ?_
  refine K_iload_n 1 (kdA dt_MX12_addCell 12 rfl) rfl rfl ?_
  obtain ⟨c6, h⟩ := h
  obtain ⟨c7, h⟩ := h
  refine K_iastore' (kdA dt_MX12_addCell 13 rfl) c6 c7.1 c7.2 (fun s1 es1 => ?_)
  have h := h s1 es1
  refine K_aload_n 0 (kdA dt_MX12_addCell 14 rfl) rfl rfl ?_
  refine gf12_70 rfl (kdA dt_MX12_addCell 15 rfl) c1 ?_
  refine K_aload_n 0 (kdA dt_MX12_addCell 16 rfl) rfl rfl ?_
  refine gf12_371 rfl (kdA dt_MX12_addCell 17 rfl) c1 ?_
  refine K_dup2 (kdA dt_MX12_addCell 18 rfl) rfl rfl ?_
  obtain ⟨c8, h⟩ := h
  obtain ⟨c9, h⟩ := h
  refine K_iaload (kdA dt_MX12_addCell 19 rfl) c8 c9.1 c9.2 ?_
  refine K_iconst (kdA dt_MX12_addCell 20 rfl) (by decide) ?_
  obtain ⟨c10, h⟩ := h
  refine K_iadd (kdA dt_MX12_addCell 21 rfl) c10 ?_
  refine K_iastore' (kdA dt_MX12_addCell 22 rfl) c8 c9.1 c9.2 (fun s2 es2 => ?_)
  have h := h s2 es2
  exact K_return (kdA dt_MX12_addCell 23 rfl) rfl ⟨rfl, rfl, h⟩
theorem EX12_addCell {d n : Nat} {Q : kS → Prop} {a0 a1 : Int} {σ : kS} (h : (-2147483648 ≤ a1 ∧ a1 ≤ 2147483647) → kokw n σ → LX12_addCell_0 d n Q a0 a1 σ) : Cv (d + 1) MX12_addCell [(2, a0), (0, a1)] n σ Q := Tri_of (by decide +kernel) (Nat.le_of_ble_eq_true rfl) (fun hk hw => h (hk (0, a1) (List.mem_of_getElem? (i := 1) rfl)) hw)

def LX12_addHop_0 (d n : Nat) (Q : kS → Prop) (a0 : Int) (a1 : Int) (a2 : Int) (σ : kS) : Prop := K (d + 1) MX12_addHop (kPv n Q) (0, 0) 0 [(0, (2, a0)), (1, (0, a1)), (2, (0, a2))] [] n σ
def LX12_addHop_2 (d n : Nat) (Q : kS → Prop) (a0 : Int) (a1 : Int) (a2 : Int) (a3 : Int) (σ : kS) : Prop := K (d + 1) MX12_addHop (kPv n Q) (0, 0) 2 [(0, (2, a0)), (1, (0, a1)), (2, (0, a2)), (3, (0, a3))] [] n σ
theorem SX12_addHop_0 {d n : Nat} {Q : kS → Prop} {a0 a1 a2 : Int} {σ : kS} (h : LX12_addHop_2 d n Q a0 a1 a2 1 σ) : LX12_addHop_0 d n Q a0 a1 a2 σ := by
  unfold LX12_addHop_0
  refine K_iconst (kdA dt_MX12_addHop 0 rfl) (by decide) ?_
  refine K_istore_n (ls' := [(0, (2, a0)), (1, (0, a1)), (2, (0, a2)), (3, (0, 1))]) (kdA dt_MX12_addHop 1 rfl) rfl (by decide) rfl ?_
  exact h
theorem SX12_addHop_2 {d n : Nat} {Q : kS → Prop} {a0 a1 a2 a3 : Int} {σ : kS} (h : Ci d MX12_apart [(0, a1), (0, a2)] n σ (fun x1 s1 => (x1 < a3 → Q s1) ∧ (¬ x1 < a3 → Ci d MX12_onLine [(0, a1), (0, a2), (0, a3)] n s1 (fun x2 s2 => isO 12 n a0 ∧ (Cv d MX12_addCell [(2, a0), (0, x2)] n s2 (fun s3 => (-2147483648 ≤ (a3 + 1) ∧ (a3 + 1) ≤ 2147483647) ∧ (LX12_addHop_2 d n Q a0 a1 a2 (a3 + 1) s3))))))) : LX12_addHop_2 d n Q a0 a1 a2 a3 σ := by
  unfold LX12_addHop_2
  refine K_iload_n 3 (kdA dt_MX12_addHop 2 rfl) rfl rfl ?_
  refine K_iload_n 1 (kdA dt_MX12_addHop 3 rfl) rfl rfl ?_
  refine K_iload_n 2 (kdA dt_MX12_addHop 4 rfl) rfl rfl ?_
  refine K_cSi (as := [(0, a1), (0, a2)]) (st := [(0, a3)]) (kdA dt_MX12_addHop 5 rfl) cl_MX12_apart lk12_352 rfl rfl (Nat.le_of_ble_eq_true rfl) (Ci.mono h (fun x1 s1 h => ?_))
  refine K_icmp_gt (tgt := 27) (kdA dt_MX12_addHop 6 rfl) rfl (fun c => ?_) (fun c => ?_)
  · have h := h.1 c
    exact K_return (kdA dt_MX12_addHop 15 rfl) rfl ⟨rfl, rfl, h⟩
  · have h := h.2 c
    refine K_aload_n 0 (kdA dt_MX12_addHop 7 rfl) rfl rfl ?_
    refine K_iload_n 1 (kdA dt_MX12_addHop 8 rfl) rfl rfl ?_
    refine K_iload_n 2 (kdA dt_MX12_addHop 9 rfl) rfl rfl ?_
    refine K_iload_n 3 (kdA dt_MX12_addHop 10 rfl) rfl rfl ?_
    refine K_cSi (as := [(0, a1), (0, a2), (0, a3)]) (st := [(2, a0)]) (kdA dt_MX12_addHop 11 rfl) cl_MX12_onLine lk12_358 rfl rfl (Nat.le_of_ble_eq_true rfl) (Ci.mono h (fun x2 s2 h => ?_))
    obtain ⟨c3, h⟩ := h
    refine K_cVv (c := 12) (as := [(0, x2)]) (st := []) (kdA dt_MX12_addHop 12 rfl) rfl cl_MX12_addCell lk12_374 rfl rfl (Nat.le_of_ble_eq_true rfl) c3 (Cv.mono h (fun s3 h => ?_))
    obtain ⟨c5, h⟩ := h
    refine K_iinc (ls' := [(0, (2, a0)), (1, (0, a1)), (2, (0, a2)), (3, (0, (a3 + 1)))]) 3 (kdA dt_MX12_addHop 13 rfl) rfl c5 (by decide) rfl ?_
    refine K_goto (tgt := 2) (kdA dt_MX12_addHop 14 rfl) rfl ?_
    exact h
theorem EX12_addHop {d n : Nat} {Q : kS → Prop} {a0 a1 a2 : Int} {σ : kS} (h : (-2147483648 ≤ a1 ∧ a1 ≤ 2147483647) → (-2147483648 ≤ a2 ∧ a2 ≤ 2147483647) → kokw n σ → LX12_addHop_0 d n Q a0 a1 a2 σ) : Cv (d + 1) MX12_addHop [(2, a0), (0, a1), (0, a2)] n σ Q := Tri_of (by decide +kernel) (Nat.le_of_ble_eq_true rfl) (fun hk hw => h (hk (0, a1) (List.mem_of_getElem? (i := 1) rfl)) (hk (0, a2) (List.mem_of_getElem? (i := 2) rfl)) hw)

def LX12_added_0 (d n : Nat) (Q : Int → kS → Prop) (a0 : Int) (σ : kS) : Prop := K (d + 1) MX12_added (kPi n Q) (0, 0) 0 [(0, (2, a0))] [] n σ
theorem SX12_added_0 {d n : Nat} {Q : Int → kS → Prop} {a0 : Int} {σ : kS} (h : isO 12 n a0 ∧ ((-2147483648 ≤ ((σ a0 34) + 1) ∧ ((σ a0 34) + 1) ≤ 2147483647) ∧ (∀ s1, s1 = kst σ a0 34 ((σ a0 34) + 1) → (-2147483648 ≤ ((s1 a0 34) - 1) ∧ ((s1 a0 34) - 1) ≤ 2147483647) ∧ (Q ((s1 a0 34) - 1) s1)))) : LX12_added_0 d n Q a0 σ := by
  unfold LX12_added_0
  refine K_aload_n 0 (kdA dt_MX12_added 0 rfl) rfl rfl ?_
  refine K_dup (kdA dt_MX12_added 1 rfl) rfl ?_
  obtain ⟨c1, h⟩ := h
  refine gf12_371 rfl (kdA dt_MX12_added 2 rfl) c1 ?_
  refine K_iconst (kdA dt_MX12_added 3 rfl) (by decide) ?_
  obtain ⟨c2, h⟩ := h
  refine K_iadd (kdA dt_MX12_added 4 rfl) c2 ?_
  refine pf12_371 rfl (kdA dt_MX12_added 5 rfl) c1 (fun s1 es1 => ?_)
  have h := h s1 es1
  refine K_aload_n 0 (kdA dt_MX12_added 6 rfl) rfl rfl ?_
  refine gf12_371 rfl (kdA dt_MX12_added 7 rfl) c1 ?_
  refine K_iconst (kdA dt_MX12_added 8 rfl) (by decide) ?_
  obtain ⟨c3, h⟩ := h
  refine K_isub (kdA dt_MX12_added 9 rfl) c3 ?_
  exact K_ireturn (kdA dt_MX12_added 10 rfl) rfl ⟨rfl, _, rfl, h⟩
theorem EX12_added {d n : Nat} {Q : Int → kS → Prop} {a0 : Int} {σ : kS} (h : kokw n σ → LX12_added_0 d n Q a0 σ) : Ci (d + 1) MX12_added [(2, a0)] n σ Q := Tri_of (by decide +kernel) (Nat.le_of_ble_eq_true rfl) (fun hk hw => h hw)

def LX12_against_0 (d n : Nat) (Q : Int → kS → Prop) (a0 : Int) (a1 : Int) (a2 : Int) (a3 : Int) (a4 : Int) (σ : kS) : Prop := K (d + 1) MX12_against (kPi n Q) (0, 0) 0 [(0, (2, a0)), (1, (0, a1)), (2, (0, a2)), (3, (0, a3)), (4, (0, a4))] [] n σ
def LX12_against_48 (d n : Nat) (Q : Int → kS → Prop) (a0 : Int) (a1 : Int) (a2 : Int) (a3 : Int) (a4 : Int) (a5 : Int) (a6 : Int) (a7 : Int) (a8 : Int) (σ : kS) : Prop := K (d + 1) MX12_against (kPi n Q) (0, 0) 48 [(0, (2, a0)), (1, (0, a1)), (2, (0, a2)), (3, (0, a3)), (4, (0, a4)), (5, (0, a5)), (6, (0, a6)), (7, (0, a7)), (8, (0, a8))] [] n σ
def LX12_against_58 (d n : Nat) (Q : Int → kS → Prop) (a0 : Int) (a1 : Int) (a2 : Int) (a3 : Int) (a4 : Int) (a5 : Int) (a6 : Int) (a7 : Int) (a8 : Int) (a9 : Int) (σ : kS) : Prop := K (d + 1) MX12_against (kPi n Q) (0, 0) 58 [(0, (2, a0)), (1, (0, a1)), (2, (0, a2)), (3, (0, a3)), (4, (0, a4)), (5, (0, a5)), (6, (0, a6)), (7, (0, a7)), (8, (0, a8)), (9, (0, a9))] [] n σ
theorem SX12_against_0 {d n : Nat} {Q : Int → kS → Prop} {a0 a1 a2 a3 a4 : Int} {σ : kS} (h : isO 12 n a0 ∧ (∀ s1, s1 = kst σ a0 0 0 → Ci d MX12_isNear [(2, a0), (0, a1), (0, a2), (0, a3)] n s1 (fun x2 s2 => (x2 = 0 → Q (-1) s2) ∧ (¬ x2 = 0 → Ci d MX12_isIn [(0, a4), (0, 0), (0, 1)] n s2 (fun x3 s3 => (¬ x3 = 0 → Ci d MX12_nearOf [(2, a0), (0, a1), (0, 0), (0, 0), (0, a2), (0, a3)] n s3 (fun x4 s4 => LX12_against_48 d n Q a0 a1 a2 a3 a4 x4 0 0 (-3) s4)) ∧ (¬ (¬ x3 = 0) → Q (-1) s3)))))) : LX12_against_0 d n Q a0 a1 a2 a3 a4 σ := by
  unfold LX12_against_0
  refine K_aload_n 0 (kdA dt_MX12_against 0 rfl) rfl rfl ?_
  refine K_iconst (kdA dt_MX12_against 1 rfl) (by decide) ?_
  obtain ⟨c1, h⟩ := h
  refine pf12_149 rfl (kdA dt_MX12_against 2 rfl) c1 (fun s1 es1 => ?_)
  have h := h s1 es1
  refine K_aload_n 0 (kdA dt_MX12_against 3 rfl) rfl rfl ?_
  refine K_iload_n 1 (kdA dt_MX12_against 4 rfl) rfl rfl ?_
  refine K_iload_n 2 (kdA dt_MX12_against 5 rfl) rfl rfl ?_
  refine K_iload_n 3 (kdA dt_MX12_against 6 rfl) rfl rfl ?_
  refine K_cVi (c := 12) (as := [(0, a1), (0, a2), (0, a3)]) (st := []) (kdA dt_MX12_against 7 rfl) rfl cl_MX12_isNear lk12_410 rfl rfl (Nat.le_of_ble_eq_true rfl) c1 (Ci.mono h (fun x2 s2 h => ?_))
  refine K_if_eq (tgt := 25) (kdA dt_MX12_against 8 rfl) rfl (fun c => ?_) (fun c => ?_)
  · have h := h.1 c
    refine K_iconst (kdA dt_MX12_against 14 rfl) (by decide) ?_
    exact K_ireturn (kdA dt_MX12_against 15 rfl) rfl ⟨rfl, _, rfl, h⟩
  · have h := h.2 c
    refine K_iload 4 (kdA dt_MX12_against 9 rfl) rfl ?_
    refine K_iconst (kdA dt_MX12_against 10 rfl) (by decide) ?_
    refine K_iconst (kdA dt_MX12_against 11 rfl) (by decide) ?_
    refine K_cSi (as := [(0, a4), (0, 0), (0, 1)]) (st := []) (kdA dt_MX12_against 12 rfl) cl_MX12_isIn lk12_153 rfl rfl (Nat.le_of_ble_eq_true rfl) (Ci.mono h (fun x3 s3 h => ?_))
    refine K_if_ne (tgt := 27) (kdA dt_MX12_against 13 rfl) rfl (fun c => ?_) (fun c => ?_)
    · have h := h.1 c
      refine K_aload_n 0 (kdA dt_MX12_against 16 rfl) rfl rfl ?_
      refine K_iload_n 1 (kdA dt_MX12_against 17 rfl) rfl rfl ?_
      refine K_iconst (kdA dt_MX12_against 18 rfl) (by decide) ?_
      refine K_iconst (kdA dt_MX12_against 19 rfl) (by decide) ?_
      refine K_iload_n 2 (kdA dt_MX12_against 20 rfl) rfl rfl ?_
      refine K_iload_n 3 (kdA dt_MX12_against 21 rfl) rfl rfl ?_
      refine K_cVi (c := 12) (as := [(0, a1), (0, 0), (0, 0), (0, a2), (0, a3)]) (st := []) (kdA dt_MX12_against 22 rfl) rfl cl_MX12_nearOf lk12_413 rfl rfl (Nat.le_of_ble_eq_true rfl) c1 (Ci.mono h (fun x4 s4 h => ?_))
      refine K_istore (ls' := [(0, (2, a0)), (1, (0, a1)), (2, (0, a2)), (3, (0, a3)), (4, (0, a4)), (5, (0, x4))]) (kdA dt_MX12_against 23 rfl) (by decide) rfl ?_
      refine K_iconst (kdA dt_MX12_against 24 rfl) (by decide) ?_
      refine K_istore (ls' := [(0, (2, a0)), (1, (0, a1)), (2, (0, a2)), (3, (0, a3)), (4, (0, a4)), (5, (0, x4)), (6, (0, 0))]) (kdA dt_MX12_against 25 rfl) (by decide) rfl ?_
      refine K_iconst (kdA dt_MX12_against 26 rfl) (by decide) ?_
      refine K_istore (ls' := [(0, (2, a0)), (1, (0, a1)), (2, (0, a2)), (3, (0, a3)), (4, (0, a4)), (5, (0, x4)), (6, (0, 0)), (7, (0, 0))]) (kdA dt_MX12_against 27 rfl) (by decide) rfl ?_
      refine K_bipush (kdA dt_MX12_against 28 rfl) (by decide +kernel) ?_
      refine K_istore (ls' := [(0, (2, a0)), (1, (0, a1)), (2, (0, a2)), (3, (0, a3)), (4, (0, a4)), (5, (0, x4)), (6, (0, 0)), (7, (0, 0)), (8, (0, (-3)))]) (kdA dt_MX12_against 29 rfl) (by decide) rfl ?_
      exact h
    · have h := h.2 c
      refine K_iconst (kdA dt_MX12_against 14 rfl) (by decide) ?_
      exact K_ireturn (kdA dt_MX12_against 15 rfl) rfl ⟨rfl, _, rfl, h⟩
theorem SX12_against_48 {d n : Nat} {Q : Int → kS → Prop} {a0 a1 a2 a3 a4 a5 a6 a7 a8 : Int} {σ : kS} (h : (3 < a8 → (¬ a4 = 0 → Q a7 σ) ∧ (¬ (¬ a4 = 0) → Q a6 σ)) ∧ (¬ 3 < a8 → LX12_against_58 d n Q a0 a1 a2 a3 a4 a5 a6 a7 a8 (-3) σ)) : LX12_against_48 d n Q a0 a1 a2 a3 a4 a5 a6 a7 a8 σ := by
  unfold LX12_against_48
  refine K_iload 8 (kdA dt_MX12_against 30 rfl) rfl ?_
  refine K_iconst (kdA dt_MX12_against 31 rfl) (by decide) ?_
  refine K_icmp_gt (tgt := 130) (kdA dt_MX12_against 32 rfl) rfl (fun c => ?_) (fun c => ?_)
  · have h := h.1 c
    refine K_iload 4 (kdA dt_MX12_against 69 rfl) rfl ?_
    refine K_if_ne (tgt := 140) (kdA dt_MX12_against 70 rfl) rfl (fun c => ?_) (fun c => ?_)
    · have h := h.1 c
      refine K_iload 7 (kdA dt_MX12_against 73 rfl) rfl ?_
      exact K_ireturn (kdA dt_MX12_against 74 rfl) rfl ⟨rfl, _, rfl, h⟩
    · have h := h.2 c
      refine K_iload 6 (kdA dt_MX12_against 71 rfl) rfl ?_
      refine K_goto (tgt := 142) (kdA dt_MX12_against 72 rfl) rfl ?_
      exact K_ireturn (kdA dt_MX12_against 74 rfl) rfl ⟨rfl, _, rfl, h⟩
  · have h := h.2 c
    refine K_bipush (kdA dt_MX12_against 33 rfl) (by decide +kernel) ?_
    refine K_istore (ls' := [(0, (2, a0)), (1, (0, a1)), (2, (0, a2)), (3, (0, a3)), (4, (0, a4)), (5, (0, a5)), (6, (0, a6)), (7, (0, a7)), (8, (0, a8)), (9, (0, (-3)))]) (kdA dt_MX12_against 34 rfl) (by decide) rfl ?_
    exact h
theorem SX12_against_58 {d n : Nat} {Q : Int → kS → Prop} {a0 a1 a2 a3 a4 a5 a6 a7 a8 a9 : Int} {σ : kS} (h : (3 < a9 → (-2147483648 ≤ (a8 + 1) ∧ (a8 + 1) ≤ 2147483647) ∧ (LX12_against_48 d n Q a0 a1 a2 a3 a4 a5 a6 a7 (a8 + 1) σ)) ∧ (¬ 3 < a9 → (¬ a8 = 0 → isO 12 n a0 ∧ (Ci d MX12_isInLand [(2, a0), (0, a1), (0, a8), (0, a9)] n σ (fun x2 s1 => (¬ x2 = 0 → (-2147483648 ≤ (a7 + 1) ∧ (a7 + 1) ≤ 2147483647) ∧ (Ci d MX12_nearOf [(2, a0), (0, a1), (0, a8), (0, a9), (0, a2), (0, a3)] n s1 (fun x4 s2 => (x4 < a5 → (-2147483648 ≤ (a6 + 0) ∧ (a6 + 0) ≤ 2147483647) ∧ ((-2147483648 ≤ (a9 + 1) ∧ (a9 + 1) ≤ 2147483647) ∧ (LX12_against_58 d n Q a0 a1 a2 a3 a4 a5 (a6 + 0) (a7 + 1) a8 (a9 + 1) s2))) ∧ (¬ x4 < a5 → (-2147483648 ≤ (a6 + 1) ∧ (a6 + 1) ≤ 2147483647) ∧ ((-2147483648 ≤ (a9 + 1) ∧ (a9 + 1) ≤ 2147483647) ∧ (LX12_against_58 d n Q a0 a1 a2 a3 a4 a5 (a6 + 1) (a7 + 1) a8 (a9 + 1) s2)))))) ∧ (¬ (¬ x2 = 0) → (-2147483648 ≤ (a9 + 1) ∧ (a9 + 1) ≤ 2147483647) ∧ (LX12_against_58 d n Q a0 a1 a2 a3 a4 a5 a6 a7 a8 (a9 + 1) s1))))) ∧ (¬ (¬ a8 = 0) → (a9 = 0 → (-2147483648 ≤ (a9 + 1) ∧ (a9 + 1) ≤ 2147483647) ∧ (LX12_against_58 d n Q a0 a1 a2 a3 a4 a5 a6 a7 a8 (a9 + 1) σ)) ∧ (¬ a9 = 0 → isO 12 n a0 ∧ (Ci d MX12_isInLand [(2, a0), (0, a1), (0, a8), (0, a9)] n σ (fun x2 s1 => (¬ x2 = 0 → (-2147483648 ≤ (a7 + 1) ∧ (a7 + 1) ≤ 2147483647) ∧ (Ci d MX12_nearOf [(2, a0), (0, a1), (0, a8), (0, a9), (0, a2), (0, a3)] n s1 (fun x4 s2 => (x4 < a5 → (-2147483648 ≤ (a6 + 0) ∧ (a6 + 0) ≤ 2147483647) ∧ ((-2147483648 ≤ (a9 + 1) ∧ (a9 + 1) ≤ 2147483647) ∧ (LX12_against_58 d n Q a0 a1 a2 a3 a4 a5 (a6 + 0) (a7 + 1) a8 (a9 + 1) s2))) ∧ (¬ x4 < a5 → (-2147483648 ≤ (a6 + 1) ∧ (a6 + 1) ≤ 2147483647) ∧ ((-2147483648 ≤ (a9 + 1) ∧ (a9 + 1) ≤ 2147483647) ∧ (LX12_against_58 d n Q a0 a1 a2 a3 a4 a5 (a6 + 1) (a7 + 1) a8 (a9 + 1) s2)))))) ∧ (¬ (¬ x2 = 0) → (-2147483648 ≤ (a9 + 1) ∧ (a9 + 1) ≤ 2147483647) ∧ (LX12_against_58 d n Q a0 a1 a2 a3 a4 a5 a6 a7 a8 (a9 + 1) s1)))))))) : LX12_against_58 d n Q a0 a1 a2 a3 a4 a5 a6 a7 a8 a9 σ := by
  unfold LX12_against_58
  refine K_iload 9 (kdA dt_MX12_against 35 rfl) rfl ?_
  refine K_iconst (kdA dt_MX12_against 36 rfl) (by decide) ?_
  refine K_icmp_gt (tgt := 124) (kdA dt_MX12_against 37 rfl) rfl (fun c => ?_) (fun c => ?_)
  · have h := h.1 c
    obtain ⟨c1, h⟩ := h
    refine K_iinc (ls' := [(0, (2, a0)), (1, (0, a1)), (2, (0, a2)), (3, (0, a3)), (4, (0, a4)), (5, (0, a5)), (6, (0, a6)), (7, (0, a7)), (8, (0, (a8 + 1))), (9, (0, a9))]) 8 (kdA dt_MX12_against 67 rfl) rfl c1 (by decide) rfl ?_
    refine K_goto (tgt := 48) (kdA dt_MX12_against 68 rfl) rfl ?_
    refine K_pick [0, 1, 2, 3, 4, 5, 6, 7, 8] (ls' := [(0, (2, a0)), (1, (0, a1)), (2, (0, a2)), (3, (0, a3)), (4, (0, a4)), (5, (0, a5)), (6, (0, a6)), (7, (0, a7)), (8, (0, (a8 + 1)))]) rfl ?_
    exact h
  · have h := h.2 c
    refine K_iload 8 (kdA dt_MX12_against 38 rfl) rfl ?_
    refine K_if_ne (tgt := 74) (kdA dt_MX12_against 39 rfl) rfl (fun c => ?_) (fun c => ?_)
    · have h := h.1 c
      refine K_aload_n 0 (kdA dt_MX12_against 42 rfl) rfl rfl ?_
      refine K_iload_n 1 (kdA dt_MX12_against 43 rfl) rfl rfl ?_
      refine K_iload 8 (kdA dt_MX12_against 44 rfl) rfl ?_
      refine K_iload 9 (kdA dt_MX12_against 45 rfl) rfl ?_
      obtain ⟨c1, h⟩ := h
      refine K_cVi (c := 12) (as := [(0, a1), (0, a8), (0, a9)]) (st := []) (kdA dt_MX12_against 46 rfl) rfl cl_MX12_isInLand lk12_417 rfl rfl (Nat.le_of_ble_eq_true rfl) c1 (Ci.mono h (fun x2 s1 h => ?_))
      refine K_if_ne (tgt := 89) (kdA dt_MX12_against 47 rfl) rfl (fun c => ?_) (fun c => ?_)
      · have h := h.1 c
        obtain ⟨c3, h⟩ := h
        refine K_iinc (ls' := [(0, (2, a0)), (1, (0, a1)), (2, (0, a2)), (3, (0, a3)), (4, (0, a4)), (5, (0, a5)), (6, (0, a6)), (7, (0, (a7 + 1))), (8, (0, a8)), (9, (0, a9))]) 7 (kdA dt_MX12_against 49 rfl) rfl c3 (by decide) rfl ?_
        refine K_iload 6 (kdA dt_MX12_against 50 rfl) rfl ?_
        refine K_aload_n 0 (kdA dt_MX12_against 51 rfl) rfl rfl ?_
        refine K_iload_n 1 (kdA dt_MX12_against 52 rfl) rfl rfl ?_
        refine K_iload 8 (kdA dt_MX12_against 53 rfl) rfl ?_
        refine K_iload 9 (kdA dt_MX12_against 54 rfl) rfl ?_
        refine K_iload_n 2 (kdA dt_MX12_against 55 rfl) rfl rfl ?_
        refine K_iload_n 3 (kdA dt_MX12_against 56 rfl) rfl rfl ?_
        refine K_cVi (c := 12) (as := [(0, a1), (0, a8), (0, a9), (0, a2), (0, a3)]) (st := [(0, a6)]) (kdA dt_MX12_against 57 rfl) rfl cl_MX12_nearOf lk12_413 rfl rfl (Nat.le_of_ble_eq_true rfl) c1 (Ci.mono h (fun x4 s2 h => ?_))
        refine K_iload 5 (kdA dt_MX12_against 58 rfl) rfl ?_
        refine K_icmp_lt (tgt := 114) (kdA dt_MX12_against 59 rfl) rfl (fun c => ?_) (fun c => ?_)
        · have h := h.1 c
          refine K_iconst (kdA dt_MX12_against 62 rfl) (by decide) ?_
          obtain ⟨c5, h⟩ := h
          refine K_iadd (kdA dt_MX12_against 63 rfl) c5 ?_
          refine K_istore (ls' := [(0, (2, a0)), (1, (0, a1)), (2, (0, a2)), (3, (0, a3)), (4, (0, a4)), (5, (0, a5)), (6, (0, (a6 + 0))), (7, (0, (a7 + 1))), (8, (0, a8)), (9, (0, a9))]) (kdA dt_MX12_against 64 rfl) (by decide) rfl ?_
          obtain ⟨c6, h⟩ := h
          refine K_iinc (ls' := [(0, (2, a0)), (1, (0, a1)), (2, (0, a2)), (3, (0, a3)), (4, (0, a4)), (5, (0, a5)), (6, (0, (a6 + 0))), (7, (0, (a7 + 1))), (8, (0, a8)), (9, (0, (a9 + 1)))]) 9 (kdA dt_MX12_against 65 rfl) rfl c6 (by decide) rfl ?_
          refine K_goto (tgt := 58) (kdA dt_MX12_against 66 rfl) rfl ?_
          exact h
        · have h := h.2 c
          refine K_iconst (kdA dt_MX12_against 60 rfl) (by decide) ?_
          refine K_goto (tgt := 115) (kdA dt_MX12_against 61 rfl) rfl ?_
          obtain ⟨c5, h⟩ := h
          refine K_iadd (kdA dt_MX12_against 63 rfl) c5 ?_
          refine K_istore (ls' := [(0, (2, a0)), (1, (0, a1)), (2, (0, a2)), (3, (0, a3)), (4, (0, a4)), (5, (0, a5)), (6, (0, (a6 + 1))), (7, (0, (a7 + 1))), (8, (0, a8)), (9, (0, a9))]) (kdA dt_MX12_against 64 rfl) (by decide) rfl ?_
          obtain ⟨c6, h⟩ := h
          refine K_iinc (ls' := [(0, (2, a0)), (1, (0, a1)), (2, (0, a2)), (3, (0, a3)), (4, (0, a4)), (5, (0, a5)), (6, (0, (a6 + 1))), (7, (0, (a7 + 1))), (8, (0, a8)), (9, (0, (a9 + 1)))]) 9 (kdA dt_MX12_against 65 rfl) rfl c6 (by decide) rfl ?_
          refine K_goto (tgt := 58) (kdA dt_MX12_against 66 rfl) rfl ?_
          exact h
      · have h := h.2 c
        refine K_goto (tgt := 118) (kdA dt_MX12_against 48 rfl) rfl ?_
        obtain ⟨c3, h⟩ := h
        refine K_iinc (ls' := [(0, (2, a0)), (1, (0, a1)), (2, (0, a2)), (3, (0, a3)), (4, (0, a4)), (5, (0, a5)), (6, (0, a6)), (7, (0, a7)), (8, (0, a8)), (9, (0, (a9 + 1)))]) 9 (kdA dt_MX12_against 65 rfl) rfl c3 (by decide) rfl ?_
        refine K_goto (tgt := 58) (kdA dt_MX12_against 66 rfl) rfl ?_
        exact h
    · have h := h.2 c
      refine K_iload 9 (kdA dt_MX12_against 40 rfl) rfl ?_
      refine K_if_eq (tgt := 118) (kdA dt_MX12_against 41 rfl) rfl (fun c => ?_) (fun c => ?_)
      · have h := h.1 c
        obtain ⟨c1, h⟩ := h
        refine K_iinc (ls' := [(0, (2, a0)), (1, (0, a1)), (2, (0, a2)), (3, (0, a3)), (4, (0, a4)), (5, (0, a5)), (6, (0, a6)), (7, (0, a7)), (8, (0, a8)), (9, (0, (a9 + 1)))]) 9 (kdA dt_MX12_against 65 rfl) rfl c1 (by decide) rfl ?_
        refine K_goto (tgt := 58) (kdA dt_MX12_against 66 rfl) rfl ?_
        exact h
      · have h := h.2 c
        refine K_aload_n 0 (kdA dt_MX12_against 42 rfl) rfl rfl ?_
        refine K_iload_n 1 (kdA dt_MX12_against 43 rfl) rfl rfl ?_
        refine K_iload 8 (kdA dt_MX12_against 44 rfl) rfl ?_
        refine K_iload 9 (kdA dt_MX12_against 45 rfl) rfl ?_
        obtain ⟨c1, h⟩ := h
        refine K_cVi (c := 12) (as := [(0, a1), (0, a8), (0, a9)]) (st := []) (kdA dt_MX12_against 46 rfl) rfl cl_MX12_isInLand lk12_417 rfl rfl (Nat.le_of_ble_eq_true rfl) c1 (Ci.mono h (fun x2 s1 h => ?_))
        refine K_if_ne (tgt := 89) (kdA dt_MX12_against 47 rfl) rfl (fun c => ?_) (fun c => ?_)
        · have h := h.1 c
          obtain ⟨c3, h⟩ := h
          refine K_iinc (ls' := [(0, (2, a0)), (1, (0, a1)), (2, (0, a2)), (3, (0, a3)), (4, (0, a4)), (5, (0, a5)), (6, (0, a6)), (7, (0, (a7 + 1))), (8, (0, a8)), (9, (0, a9))]) 7 (kdA dt_MX12_against 49 rfl) rfl c3 (by decide) rfl ?_
          refine K_iload 6 (kdA dt_MX12_against 50 rfl) rfl ?_
          refine K_aload_n 0 (kdA dt_MX12_against 51 rfl) rfl rfl ?_
          refine K_iload_n 1 (kdA dt_MX12_against 52 rfl) rfl rfl ?_
          refine K_iload 8 (kdA dt_MX12_against 53 rfl) rfl ?_
          refine K_iload 9 (kdA dt_MX12_against 54 rfl) rfl ?_
          refine K_iload_n 2 (kdA dt_MX12_against 55 rfl) rfl rfl ?_
          refine K_iload_n 3 (kdA dt_MX12_against 56 rfl) rfl rfl ?_
          refine K_cVi (c := 12) (as := [(0, a1), (0, a8), (0, a9), (0, a2), (0, a3)]) (st := [(0, a6)]) (kdA dt_MX12_against 57 rfl) rfl cl_MX12_nearOf lk12_413 rfl rfl (Nat.le_of_ble_eq_true rfl) c1 (Ci.mono h (fun x4 s2 h => ?_))
          refine K_iload 5 (kdA dt_MX12_against 58 rfl) rfl ?_
          refine K_icmp_lt (tgt := 114) (kdA dt_MX12_against 59 rfl) rfl (fun c => ?_) (fun c => ?_)
          · have h := h.1 c
            refine K_iconst (kdA dt_MX12_against 62 rfl) (by decide) ?_
            obtain ⟨c5, h⟩ := h
            refine K_iadd (kdA dt_MX12_against 63 rfl) c5 ?_
            refine K_istore (ls' := [(0, (2, a0)), (1, (0, a1)), (2, (0, a2)), (3, (0, a3)), (4, (0, a4)), (5, (0, a5)), (6, (0, (a6 + 0))), (7, (0, (a7 + 1))), (8, (0, a8)), (9, (0, a9))]) (kdA dt_MX12_against 64 rfl) (by decide) rfl ?_
            obtain ⟨c6, h⟩ := h
            refine K_iinc (ls' := [(0, (2, a0)), (1, (0, a1)), (2, (0, a2)), (3, (0, a3)), (4, (0, a4)), (5, (0, a5)), (6, (0, (a6 + 0))), (7, (0, (a7 + 1))), (8, (0, a8)), (9, (0, (a9 + 1)))]) 9 (kdA dt_MX12_against 65 rfl) rfl c6 (by decide) rfl ?_
            refine K_goto (tgt := 58) (kdA dt_MX12_against 66 rfl) rfl ?_
            exact h
          · have h := h.2 c
            refine K_iconst (kdA dt_MX12_against 60 rfl) (by decide) ?_
            refine K_goto (tgt := 115) (kdA dt_MX12_against 61 rfl) rfl ?_
            obtain ⟨c5, h⟩ := h
            refine K_iadd (kdA dt_MX12_against 63 rfl) c5 ?_
            refine K_istore (ls' := [(0, (2, a0)), (1, (0, a1)), (2, (0, a2)), (3, (0, a3)), (4, (0, a4)), (5, (0, a5)), (6, (0, (a6 + 1))), (7, (0, (a7 + 1))), (8, (0, a8)), (9, (0, a9))]) (kdA dt_MX12_against 64 rfl) (by decide) rfl ?_
            obtain ⟨c6, h⟩ := h
            refine K_iinc (ls' := [(0, (2, a0)), (1, (0, a1)), (2, (0, a2)), (3, (0, a3)), (4, (0, a4)), (5, (0, a5)), (6, (0, (a6 + 1))), (7, (0, (a7 + 1))), (8, (0, a8)), (9, (0, (a9 + 1)))]) 9 (kdA dt_MX12_against 65 rfl) rfl c6 (by decide) rfl ?_
            refine K_goto (tgt := 58) (kdA dt_MX12_against 66 rfl) rfl ?_
            exact h
        · have h := h.2 c
          refine K_goto (tgt := 118) (kdA dt_MX12_against 48 rfl) rfl ?_
          obtain ⟨c3, h⟩ := h
          refine K_iinc (ls' := [(0, (2, a0)), (1, (0, a1)), (2, (0, a2)), (3, (0, a3)), (4, (0, a4)), (5, (0, a5)), (6, (0, a6)), (7, (0, a7)), (8, (0, a8)), (9, (0, (a9 + 1)))]) 9 (kdA dt_MX12_against 65 rfl) rfl c3 (by decide) rfl ?_
          refine K_goto (tgt := 58) (kdA dt_MX12_against 66 rfl) rfl ?_
          exact h
theorem EX12_against {d n : Nat} {Q : Int → kS → Prop} {a0 a1 a2 a3 a4 : Int} {σ : kS} (h : (-2147483648 ≤ a1 ∧ a1 ≤ 2147483647) → (-2147483648 ≤ a2 ∧ a2 ≤ 2147483647) → (-2147483648 ≤ a3 ∧ a3 ≤ 2147483647) → (-2147483648 ≤ a4 ∧ a4 ≤ 2147483647) → kokw n σ → LX12_against_0 d n Q a0 a1 a2 a3 a4 σ) : Ci (d + 1) MX12_against [(2, a0), (0, a1), (0, a2), (0, a3), (0, a4)] n σ Q := Tri_of (by decide +kernel) (Nat.le_of_ble_eq_true rfl) (fun hk hw => h (hk (0, a1) (List.mem_of_getElem? (i := 1) rfl)) (hk (0, a2) (List.mem_of_getElem? (i := 2) rfl)) (hk (0, a3) (List.mem_of_getElem? (i := 3) rfl)) (hk (0, a4) (List.mem_of_getElem? (i := 4) rfl)) hw)

def LX12_alike_0 (d n : Nat) (Q : Int → kS → Prop) (a0 : Int) (a1 : Int) (a2 : Int) (σ : kS) : Prop := K (d + 1) MX12_alike (kPi n Q) (0, 0) 0 [(0, (2, a0)), (1, (0, a1)), (2, (0, a2))] [] n σ
def LX12_alike_30 (d n : Nat) (Q : Int → kS → Prop) (a0 : Int) (a1 : Int) (a2 : Int) (a3 : Int) (a4 : Int) (σ : kS) : Prop := K (d + 1) MX12_alike (kPi n Q) (0, 0) 30 [(0, (2, a0)), (1, (0, a1)), (2, (0, a2)), (3, (0, a3)), (4, (0, a4))] [] n σ
theorem SX12_alike_0 {d n : Nat} {Q : Int → kS → Prop} {a0 a1 a2 : Int} {σ : kS} (h : isO 12 n a0 ∧ (∀ s1, s1 = kst σ a0 0 0 → Ci d MX12_isLine [(2, a0), (0, a1)] n s1 (fun x2 s2 => (x2 = 0 → Q (-1) s2) ∧ (¬ x2 = 0 → Ci d MX12_isIn [(0, a2), (0, 1), (0, 99)] n s2 (fun x3 s3 => (¬ x3 = 0 → LX12_alike_30 d n Q a0 a1 a2 0 0 s3) ∧ (¬ (¬ x3 = 0) → Q (-1) s3)))))) : LX12_alike_0 d n Q a0 a1 a2 σ := by
  unfold LX12_alike_0
  refine K_aload_n 0 (kdA dt_MX12_alike 0 rfl) rfl rfl ?_
  refine K_iconst (kdA dt_MX12_alike 1 rfl) (by decide) ?_
  obtain ⟨c1, h⟩ := h
  refine pf12_149 rfl (kdA dt_MX12_alike 2 rfl) c1 (fun s1 es1 => ?_)
  have h := h s1 es1
  refine K_aload_n 0 (kdA dt_MX12_alike 3 rfl) rfl rfl ?_
  refine K_iload_n 1 (kdA dt_MX12_alike 4 rfl) rfl rfl ?_
  refine K_cVi (c := 12) (as := [(0, a1)]) (st := []) (kdA dt_MX12_alike 5 rfl) rfl cl_MX12_isLine lk12_383 rfl rfl (Nat.le_of_ble_eq_true rfl) c1 (Ci.mono h (fun x2 s2 h => ?_))
  refine K_if_eq (tgt := 23) (kdA dt_MX12_alike 6 rfl) rfl (fun c => ?_) (fun c => ?_)
  · have h := h.1 c
    refine K_iconst (kdA dt_MX12_alike 12 rfl) (by decide) ?_
    exact K_ireturn (kdA dt_MX12_alike 13 rfl) rfl ⟨rfl, _, rfl, h⟩
  · have h := h.2 c
    refine K_iload_n 2 (kdA dt_MX12_alike 7 rfl) rfl rfl ?_
    refine K_iconst (kdA dt_MX12_alike 8 rfl) (by decide) ?_
    refine K_bipush (kdA dt_MX12_alike 9 rfl) (by decide +kernel) ?_
    refine K_cSi (as := [(0, a2), (0, 1), (0, 99)]) (st := []) (kdA dt_MX12_alike 10 rfl) cl_MX12_isIn lk12_153 rfl rfl (Nat.le_of_ble_eq_true rfl) (Ci.mono h (fun x3 s3 h => ?_))
    refine K_if_ne (tgt := 25) (kdA dt_MX12_alike 11 rfl) rfl (fun c => ?_) (fun c => ?_)
    · have h := h.1 c
      refine K_iconst (kdA dt_MX12_alike 14 rfl) (by decide) ?_
      refine K_istore_n (ls' := [(0, (2, a0)), (1, (0, a1)), (2, (0, a2)), (3, (0, 0))]) (kdA dt_MX12_alike 15 rfl) rfl (by decide) rfl ?_
      refine K_iconst (kdA dt_MX12_alike 16 rfl) (by decide) ?_
      refine K_istore (ls' := [(0, (2, a0)), (1, (0, a1)), (2, (0, a2)), (3, (0, 0)), (4, (0, 0))]) (kdA dt_MX12_alike 17 rfl) (by decide) rfl ?_
      exact h
    · have h := h.2 c
      refine K_iconst (kdA dt_MX12_alike 12 rfl) (by decide) ?_
      exact K_ireturn (kdA dt_MX12_alike 13 rfl) rfl ⟨rfl, _, rfl, h⟩
theorem SX12_alike_30 {d n : Nat} {Q : Int → kS → Prop} {a0 a1 a2 a3 a4 : Int} {σ : kS} (h : (120 ≤ a4 → Q a3 σ) ∧ (¬ 120 ≤ a4 → isO 12 n a0 ∧ (isA 20 n (σ a0 59) ∧ (((0 : Int) ≤ a4 ∧ a4 < klen (σ a0 59)) ∧ (((σ (σ a0 59) a4) < a2 → (-2147483648 ≤ (a3 + 0) ∧ (a3 + 0) ≤ 2147483647) ∧ ((-2147483648 ≤ (a4 + 1) ∧ (a4 + 1) ≤ 2147483647) ∧ (LX12_alike_30 d n Q a0 a1 a2 (a3 + 0) (a4 + 1) σ))) ∧ (¬ (σ (σ a0 59) a4) < a2 → Ci d MX12_farFrom [(2, a0), (0, a1), (0, 0), (0, 0), (0, a4)] n σ (fun x4 s1 => (¬ x4 = 0 → (-2147483648 ≤ (a3 + 0) ∧ (a3 + 0) ≤ 2147483647) ∧ ((-2147483648 ≤ (a4 + 1) ∧ (a4 + 1) ≤ 2147483647) ∧ (LX12_alike_30 d n Q a0 a1 a2 (a3 + 0) (a4 + 1) s1))) ∧ (¬ (¬ x4 = 0) → (-2147483648 ≤ (a3 + 1) ∧ (a3 + 1) ≤ 2147483647) ∧ ((-2147483648 ≤ (a4 + 1) ∧ (a4 + 1) ≤ 2147483647) ∧ (LX12_alike_30 d n Q a0 a1 a2 (a3 + 1) (a4 + 1) s1)))))))))) : LX12_alike_30 d n Q a0 a1 a2 a3 a4 σ := by
  unfold LX12_alike_30
  refine K_iload 4 (kdA dt_MX12_alike 18 rfl) rfl ?_
  refine K_bipush (kdA dt_MX12_alike 19 rfl) (by decide +kernel) ?_
  refine K_icmp_ge (tgt := 74) (kdA dt_MX12_alike 20 rfl) rfl (fun c => ?_) (fun c => ?_)
  · have h := h.1 c
    refine K_iload_n 3 (kdA dt_MX12_alike 42 rfl) rfl rfl ?_
    exact K_ireturn (kdA dt_MX12_alike 43 rfl) rfl ⟨rfl, _, rfl, h⟩
  · have h := h.2 c
    refine K_iload_n 3 (kdA dt_MX12_alike 21 rfl) rfl rfl ?_
    refine K_aload_n 0 (kdA dt_MX12_alike 22 rfl) rfl rfl ?_
    obtain ⟨c1, h⟩ := h
    refine gf12_133 rfl (kdA dt_MX12_alike 23 rfl) c1 ?_
    refine K_iload 4 (kdA dt_MX12_alike 24 rfl) rfl ?_
    obtain ⟨c2, h⟩ := h
    obtain ⟨c3, h⟩ := h
    refine K_iaload (kdA dt_MX12_alike 25 rfl) c2 c3.1 c3.2 ?_
    refine K_iload_n 2 (kdA dt_MX12_alike 26 rfl) rfl rfl ?_
    refine K_icmp_lt (tgt := 65) (kdA dt_MX12_alike 27 rfl) rfl (fun c => ?_) (fun c => ?_)
    · have h := h.1 c
      refine K_iconst (kdA dt_MX12_alike 37 rfl) (by decide) ?_
      obtain ⟨c4, h⟩ := h
      refine K_iadd (kdA dt_MX12_alike 38 rfl) c4 ?_
      refine K_istore_n (ls' := [(0, (2, a0)), (1, (0, a1)), (2, (0, a2)), (3, (0, (a3 + 0))), (4, (0, a4))]) (kdA dt_MX12_alike 39 rfl) rfl (by decide) rfl ?_
      obtain ⟨c5, h⟩ := h
      refine K_iinc (ls' := [(0, (2, a0)), (1, (0, a1)), (2, (0, a2)), (3, (0, (a3 + 0))), (4, (0, (a4 + 1)))]) 4 (kdA dt_MX12_alike 40 rfl) rfl c5 (by decide) rfl ?_
      refine K_goto (tgt := 30) (kdA dt_MX12_alike 41 rfl) rfl ?_
      exact h
    · have h := h.2 c
      refine K_aload_n 0 (kdA dt_MX12_alike 28 rfl) rfl rfl ?_
      refine K_iload_n 1 (kdA dt_MX12_alike 29 rfl) rfl rfl ?_
      refine K_iconst (kdA dt_MX12_alike 30 rfl) (by decide) ?_
      refine K_iconst (kdA dt_MX12_alike 31 rfl) (by decide) ?_
      refine K_iload 4 (kdA dt_MX12_alike 32 rfl) rfl ?_
      refine K_cVi (c := 12) (as := [(0, a1), (0, 0), (0, 0), (0, a4)]) (st := [(0, a3)]) (kdA dt_MX12_alike 33 rfl) rfl cl_MX12_farFrom lk12_406 rfl rfl (Nat.le_of_ble_eq_true rfl) c1 (Ci.mono h (fun x4 s1 h => ?_))
      refine K_if_ne (tgt := 65) (kdA dt_MX12_alike 34 rfl) rfl (fun c => ?_) (fun c => ?_)
      · have h := h.1 c
        refine K_iconst (kdA dt_MX12_alike 37 rfl) (by decide) ?_
        obtain ⟨c5, h⟩ := h
        refine K_iadd (kdA dt_MX12_alike 38 rfl) c5 ?_
        refine K_istore_n (ls' := [(0, (2, a0)), (1, (0, a1)), (2, (0, a2)), (3, (0, (a3 + 0))), (4, (0, a4))]) (kdA dt_MX12_alike 39 rfl) rfl (by decide) rfl ?_
        obtain ⟨c6, h⟩ := h
        refine K_iinc (ls' := [(0, (2, a0)), (1, (0, a1)), (2, (0, a2)), (3, (0, (a3 + 0))), (4, (0, (a4 + 1)))]) 4 (kdA dt_MX12_alike 40 rfl) rfl c6 (by decide) rfl ?_
        refine K_goto (tgt := 30) (kdA dt_MX12_alike 41 rfl) rfl ?_
        exact h
      · have h := h.2 c
        refine K_iconst (kdA dt_MX12_alike 35 rfl) (by decide) ?_
        refine K_goto (tgt := 66) (kdA dt_MX12_alike 36 rfl) rfl ?_
        obtain ⟨c5, h⟩ := h
        refine K_iadd (kdA dt_MX12_alike 38 rfl) c5 ?_
        refine K_istore_n (ls' := [(0, (2, a0)), (1, (0, a1)), (2, (0, a2)), (3, (0, (a3 + 1))), (4, (0, a4))]) (kdA dt_MX12_alike 39 rfl) rfl (by decide) rfl ?_
        obtain ⟨c6, h⟩ := h
        refine K_iinc (ls' := [(0, (2, a0)), (1, (0, a1)), (2, (0, a2)), (3, (0, (a3 + 1))), (4, (0, (a4 + 1)))]) 4 (kdA dt_MX12_alike 40 rfl) rfl c6 (by decide) rfl ?_
        refine K_goto (tgt := 30) (kdA dt_MX12_alike 41 rfl) rfl ?_
        exact h
theorem EX12_alike {d n : Nat} {Q : Int → kS → Prop} {a0 a1 a2 : Int} {σ : kS} (h : (-2147483648 ≤ a1 ∧ a1 ≤ 2147483647) → (-2147483648 ≤ a2 ∧ a2 ≤ 2147483647) → kokw n σ → LX12_alike_0 d n Q a0 a1 a2 σ) : Ci (d + 1) MX12_alike [(2, a0), (0, a1), (0, a2)] n σ Q := Tri_of (by decide +kernel) (Nat.le_of_ble_eq_true rfl) (fun hk hw => h (hk (0, a1) (List.mem_of_getElem? (i := 1) rfl)) (hk (0, a2) (List.mem_of_getElem? (i := 2) rfl)) hw)

def LX12_apart_0 (d n : Nat) (Q : Int → kS → Prop) (a0 : Int) (a1 : Int) (σ : kS) : Prop := K (d + 1) MX12_apart (kPi n Q) (0, 0) 0 [(0, (0, a0)), (1, (0, a1))] [] n σ
theorem SX12_apart_0 {d n : Nat} {Q : Int → kS → Prop} {a0 a1 : Int} {σ : kS} (h : ((0 : Int) ≤ a0) ∧ (((0 : Int) ≤ a1) ∧ ((-2147483648 ≤ ((a0 % 12) - (a1 % 12)) ∧ ((a0 % 12) - (a1 % 12)) ≤ 2147483647) ∧ (Ci d MJm_abs [(0, ((a0 % 12) - (a1 % 12)))] n σ (fun x4 s1 => (-2147483648 ≤ ((a0 / 12) - (a1 / 12)) ∧ ((a0 / 12) - (a1 / 12)) ≤ 2147483647) ∧ (Ci d MJm_abs [(0, ((a0 / 12) - (a1 / 12)))] n s1 (fun x6 s2 => Ci d MJm_max [(0, x4), (0, x6)] n s2 (fun x7 s3 => Q x7 s3)))))))) : LX12_apart_0 d n Q a0 a1 σ := by
  unfold LX12_apart_0
  refine K_iload_n 0 (kdA dt_MX12_apart 0 rfl) rfl rfl ?_
  refine K_bipush (kdA dt_MX12_apart 1 rfl) (by decide +kernel) ?_
  obtain ⟨c1, h⟩ := h
  refine K_irem (kdA dt_MX12_apart 2 rfl) c1 (by decide) ?_
  refine K_iload_n 1 (kdA dt_MX12_apart 3 rfl) rfl rfl ?_
  refine K_bipush (kdA dt_MX12_apart 4 rfl) (by decide +kernel) ?_
  obtain ⟨c2, h⟩ := h
  refine K_irem (kdA dt_MX12_apart 5 rfl) c2 (by decide) ?_
  obtain ⟨c3, h⟩ := h
  refine K_isub (kdA dt_MX12_apart 6 rfl) c3 ?_
  refine K_cSi (as := [(0, ((a0 % 12) - (a1 % 12)))]) (st := []) (kdA dt_MX12_apart 7 rfl) cl_MJm_abs lk12_175 rfl rfl (Nat.le_of_ble_eq_true rfl) (Ci.mono h (fun x4 s1 h => ?_))
  refine K_iload_n 0 (kdA dt_MX12_apart 8 rfl) rfl rfl ?_
  refine K_bipush (kdA dt_MX12_apart 9 rfl) (by decide +kernel) ?_
  refine K_idiv (kdA dt_MX12_apart 10 rfl) c1 (by decide) ?_
  refine K_iload_n 1 (kdA dt_MX12_apart 11 rfl) rfl rfl ?_
  refine K_bipush (kdA dt_MX12_apart 12 rfl) (by decide +kernel) ?_
  refine K_idiv (kdA dt_MX12_apart 13 rfl) c2 (by decide) ?_
  obtain ⟨c5, h⟩ := h
  refine K_isub (kdA dt_MX12_apart 14 rfl) c5 ?_
  refine K_cSi (as := [(0, ((a0 / 12) - (a1 / 12)))]) (st := [(0, x4)]) (kdA dt_MX12_apart 15 rfl) cl_MJm_abs lk12_175 rfl rfl (Nat.le_of_ble_eq_true rfl) (Ci.mono h (fun x6 s2 h => ?_))
  refine K_cSi (as := [(0, x4), (0, x6)]) (st := []) (kdA dt_MX12_apart 16 rfl) cl_MJm_max lk12_180 rfl rfl (Nat.le_of_ble_eq_true rfl) (Ci.mono h (fun x7 s3 h => ?_))
  exact K_ireturn (kdA dt_MX12_apart 17 rfl) rfl ⟨rfl, _, rfl, h⟩
theorem EX12_apart {d n : Nat} {Q : Int → kS → Prop} {a0 a1 : Int} {σ : kS} (h : (-2147483648 ≤ a0 ∧ a0 ≤ 2147483647) → (-2147483648 ≤ a1 ∧ a1 ≤ 2147483647) → kokw n σ → LX12_apart_0 d n Q a0 a1 σ) : Ci (d + 1) MX12_apart [(0, a0), (0, a1)] n σ Q := Tri_of (by decide +kernel) (Nat.le_of_ble_eq_true rfl) (fun hk hw => h (hk (0, a0) (List.mem_of_getElem? (i := 0) rfl)) (hk (0, a1) (List.mem_of_getElem? (i := 1) rfl)) hw)

def LX12_areTowns_0 (d n : Nat) (Q : Int → kS → Prop) (a0 : Int) (a1 : Int) (a2 : Int) (σ : kS) : Prop := K (d + 1) MX12_areTowns (kPi n Q) (0, 0) 0 [(0, (2, a0)), (1, (0, a1)), (2, (0, a2))] [] n σ
theorem SX12_areTowns_0 {d n : Nat} {Q : Int → kS → Prop} {a0 a1 a2 : Int} {σ : kS} (h : isO 12 n a0 ∧ (Ci d MX12_isTown [(2, a0), (0, a1)] n σ (fun x2 s1 => (x2 = 0 → Q 0 s1) ∧ (¬ x2 = 0 → Ci d MX12_isTown [(2, a0), (0, a2)] n s1 (fun x3 s2 => (x3 = 0 → Q 0 s2) ∧ (¬ x3 = 0 → (a1 = a2 → Q 0 s2) ∧ (¬ a1 = a2 → Q 1 s2))))))) : LX12_areTowns_0 d n Q a0 a1 a2 σ := by
  unfold LX12_areTowns_0
  refine K_aload_n 0 (kdA dt_MX12_areTowns 0 rfl) rfl rfl ?_
  refine K_iload_n 1 (kdA dt_MX12_areTowns 1 rfl) rfl rfl ?_
  obtain ⟨c1, h⟩ := h
  refine K_cVi (c := 12) (as := [(0, a1)]) (st := []) (kdA dt_MX12_areTowns 2 rfl) rfl cl_MX12_isTown lk12_449 rfl rfl (Nat.le_of_ble_eq_true rfl) c1 (Ci.mono h (fun x2 s1 h => ?_))
  refine K_if_eq (tgt := 25) (kdA dt_MX12_areTowns 3 rfl) rfl (fun c => ?_) (fun c => ?_)
  · have h := h.1 c
    refine K_iconst (kdA dt_MX12_areTowns 13 rfl) (by decide) ?_
    exact K_zreturn (kdA dt_MX12_areTowns 14 rfl) rfl (Or.inl rfl) ⟨rfl, _, rfl, h⟩
  · have h := h.2 c
    refine K_aload_n 0 (kdA dt_MX12_areTowns 4 rfl) rfl rfl ?_
    refine K_iload_n 2 (kdA dt_MX12_areTowns 5 rfl) rfl rfl ?_
    refine K_cVi (c := 12) (as := [(0, a2)]) (st := []) (kdA dt_MX12_areTowns 6 rfl) rfl cl_MX12_isTown lk12_449 rfl rfl (Nat.le_of_ble_eq_true rfl) c1 (Ci.mono h (fun x3 s2 h => ?_))
    refine K_if_eq (tgt := 25) (kdA dt_MX12_areTowns 7 rfl) rfl (fun c => ?_) (fun c => ?_)
    · have h := h.1 c
      refine K_iconst (kdA dt_MX12_areTowns 13 rfl) (by decide) ?_
      exact K_zreturn (kdA dt_MX12_areTowns 14 rfl) rfl (Or.inl rfl) ⟨rfl, _, rfl, h⟩
    · have h := h.2 c
      refine K_iload_n 1 (kdA dt_MX12_areTowns 8 rfl) rfl rfl ?_
      refine K_iload_n 2 (kdA dt_MX12_areTowns 9 rfl) rfl rfl ?_
      refine K_icmp_eq (tgt := 25) (kdA dt_MX12_areTowns 10 rfl) rfl (fun c => ?_) (fun c => ?_)
      · have h := h.1 c
        refine K_iconst (kdA dt_MX12_areTowns 13 rfl) (by decide) ?_
        exact K_zreturn (kdA dt_MX12_areTowns 14 rfl) rfl (Or.inl rfl) ⟨rfl, _, rfl, h⟩
      · have h := h.2 c
        refine K_iconst (kdA dt_MX12_areTowns 11 rfl) (by decide) ?_
        refine K_goto (tgt := 26) (kdA dt_MX12_areTowns 12 rfl) rfl ?_
        exact K_zreturn (kdA dt_MX12_areTowns 14 rfl) rfl (Or.inr rfl) ⟨rfl, _, rfl, h⟩
theorem EX12_areTowns {d n : Nat} {Q : Int → kS → Prop} {a0 a1 a2 : Int} {σ : kS} (h : (-2147483648 ≤ a1 ∧ a1 ≤ 2147483647) → (-2147483648 ≤ a2 ∧ a2 ≤ 2147483647) → kokw n σ → LX12_areTowns_0 d n Q a0 a1 a2 σ) : Ci (d + 1) MX12_areTowns [(2, a0), (0, a1), (0, a2)] n σ Q := Tri_of (by decide +kernel) (Nat.le_of_ble_eq_true rfl) (fun hk hw => h (hk (0, a1) (List.mem_of_getElem? (i := 1) rfl)) (hk (0, a2) (List.mem_of_getElem? (i := 2) rfl)) hw)

def LX12_atom_0 (d n : Nat) (Q : Int → kS → Prop) (a0 : Int) (σ : kS) : Prop := K (d + 1) MX12_atom (kPi n Q) (0, 0) 0 [(0, (2, a0))] [] n σ
def LX12_atom_90 (d n : Nat) (Q : Int → kS → Prop) (a0 : Int) (a2 : Int) (a3 : Int) (σ : kS) : Prop := K (d + 1) MX12_atom (kPi n Q) (0, 0) 90 [(0, (2, a0)), (2, (0, a2)), (3, (0, a3))] [] n σ
theorem SX12_atom_0 {d n : Nat} {Q : Int → kS → Prop} {a0 : Int} {σ : kS} (h : isO 12 n a0 ∧ (Ci d MX12_look [(2, a0)] n σ (fun x2 s1 => Ci d MX12_isAmong [(2, (-6)), (0, x2)] n s1 (fun x3 s2 => (x3 = 0 → (¬ x2 = 91 → Ci d MX12_isDigit [(2, a0)] n s2 (fun x4 s3 => (¬ x4 = 0 → LX12_atom_90 d n Q a0 0 0 s3) ∧ (¬ (¬ x4 = 0) → Ci d MX12_fails [(2, a0)] n s3 (fun x5 s4 => LX12_atom_90 d n Q a0 0 0 s4)))) ∧ (¬ (¬ x2 = 91) → Ci d MX12_goesIn [(2, a0)] n s2 (fun x4 s3 => (¬ x4 = 0 → Ci d MX12_sum [(2, a0)] n s3 (fun x5 s4 => Ci d MX12_takes [(2, a0), (0, 93)] n s4 (fun x6 s5 => (¬ x6 = 0 → (-2147483648 ≤ ((s5 a0 20) - 1) ∧ ((s5 a0 20) - 1) ≤ 2147483647) ∧ (∀ s6, s6 = kst s5 a0 20 ((s5 a0 20) - 1) → Q x5 s6)) ∧ (¬ (¬ x6 = 0) → Q 0 s5)))) ∧ (¬ (¬ x4 = 0) → Q 0 s3)))) ∧ (¬ x3 = 0 → (-2147483648 ≤ ((s2 a0 18) + 1) ∧ ((s2 a0 18) + 1) ≤ 2147483647) ∧ (∀ s3, s3 = kst s2 a0 18 ((s2 a0 18) + 1) → isA 20 n (s3 a0 7) ∧ (((0 : Int) ≤ x2 ∧ x2 < klen (s3 a0 7)) ∧ (Q (s3 (s3 a0 7) x2) s3)))))))) : LX12_atom_0 d n Q a0 σ := by
  unfold LX12_atom_0
  refine K_aload_n 0 (kdA dt_MX12_atom 0 rfl) rfl rfl ?_
  obtain ⟨c1, h⟩ := h
  refine K_cVi (c := 12) (as := []) (st := []) (kdA dt_MX12_atom 1 rfl) rfl cl_MX12_look lk12_222 rfl rfl (Nat.le_of_ble_eq_true rfl) c1 (Ci.mono h (fun x2 s1 h => ?_))
  refine K_istore_n (ls' := [(0, (2, a0)), (1, (0, x2))]) (kdA dt_MX12_atom 2 rfl) rfl (by decide) rfl ?_
  refine K_ldcU (kdA dt_MX12_atom 3 rfl) rfl ?_
  refine K_iload_n 1 (kdA dt_MX12_atom 4 rfl) rfl rfl ?_
  refine K_cSi (as := [(2, (-6)), (0, x2)]) (st := []) (kdA dt_MX12_atom 5 rfl) cl_MX12_isAmong lk12_235 rfl rfl (Nat.le_of_ble_eq_true rfl) (Ci.mono h (fun x3 s2 h => ?_))
  refine K_if_eq (tgt := 31) (kdA dt_MX12_atom 6 rfl) rfl (fun c => ?_) (fun c => ?_)
  · have h := h.1 c
    refine K_iload_n 1 (kdA dt_MX12_atom 18 rfl) rfl rfl ?_
    refine K_bipush (kdA dt_MX12_atom 19 rfl) (by decide +kernel) ?_
    refine K_icmp_ne (tgt := 74) (kdA dt_MX12_atom 20 rfl) rfl (fun c => ?_) (fun c => ?_)
    · have h := h.1 c
      refine K_aload_n 0 (kdA dt_MX12_atom 43 rfl) rfl rfl ?_
      refine K_cVi (c := 12) (as := []) (st := []) (kdA dt_MX12_atom 44 rfl) rfl cl_MX12_isDigit lk12_248 rfl rfl (Nat.le_of_ble_eq_true rfl) c1 (Ci.mono h (fun x4 s3 h => ?_))
      refine K_if_ne (tgt := 86) (kdA dt_MX12_atom 45 rfl) rfl (fun c => ?_) (fun c => ?_)
      · have h := h.1 c
        refine K_iconst (kdA dt_MX12_atom 49 rfl) (by decide) ?_
        refine K_istore_n (ls' := [(0, (2, a0)), (1, (0, x2)), (2, (0, 0))]) (kdA dt_MX12_atom 50 rfl) rfl (by decide) rfl ?_
        refine K_iconst (kdA dt_MX12_atom 51 rfl) (by decide) ?_
        refine K_istore_n (ls' := [(0, (2, a0)), (1, (0, x2)), (2, (0, 0)), (3, (0, 0))]) (kdA dt_MX12_atom 52 rfl) rfl (by decide) rfl ?_
        refine K_pick [0, 2, 3] (ls' := [(0, (2, a0)), (2, (0, 0)), (3, (0, 0))]) rfl ?_
        exact h
      · have h := h.2 c
        refine K_aload_n 0 (kdA dt_MX12_atom 46 rfl) rfl rfl ?_
        refine K_cVi (c := 12) (as := []) (st := []) (kdA dt_MX12_atom 47 rfl) rfl cl_MX12_fails lk12_218 rfl rfl (Nat.le_of_ble_eq_true rfl) c1 (Ci.mono h (fun x5 s4 h => ?_))
        refine K_pop (kdA dt_MX12_atom 48 rfl) rfl ?_
        refine K_iconst (kdA dt_MX12_atom 49 rfl) (by decide) ?_
        refine K_istore_n (ls' := [(0, (2, a0)), (1, (0, x2)), (2, (0, 0))]) (kdA dt_MX12_atom 50 rfl) rfl (by decide) rfl ?_
        refine K_iconst (kdA dt_MX12_atom 51 rfl) (by decide) ?_
        refine K_istore_n (ls' := [(0, (2, a0)), (1, (0, x2)), (2, (0, 0)), (3, (0, 0))]) (kdA dt_MX12_atom 52 rfl) rfl (by decide) rfl ?_
        refine K_pick [0, 2, 3] (ls' := [(0, (2, a0)), (2, (0, 0)), (3, (0, 0))]) rfl ?_
        exact h
    · have h := h.2 c
      refine K_aload_n 0 (kdA dt_MX12_atom 21 rfl) rfl rfl ?_
      refine K_cVi (c := 12) (as := []) (st := []) (kdA dt_MX12_atom 22 rfl) rfl cl_MX12_goesIn lk12_239 rfl rfl (Nat.le_of_ble_eq_true rfl) c1 (Ci.mono h (fun x4 s3 h => ?_))
      refine K_if_ne (tgt := 46) (kdA dt_MX12_atom 23 rfl) rfl (fun c => ?_) (fun c => ?_)
      · have h := h.1 c
        refine K_aload_n 0 (kdA dt_MX12_atom 26 rfl) rfl rfl ?_
        refine K_cVi (c := 12) (as := []) (st := []) (kdA dt_MX12_atom 27 rfl) rfl cl_MX12_sum lk12_242 rfl rfl (Nat.le_of_ble_eq_true rfl) c1 (Ci.mono h (fun x5 s4 h => ?_))
        refine K_istore_n (ls' := [(0, (2, a0)), (1, (0, x2)), (2, (0, x5))]) (kdA dt_MX12_atom 28 rfl) rfl (by decide) rfl ?_
        refine K_aload_n 0 (kdA dt_MX12_atom 29 rfl) rfl rfl ?_
        refine K_bipush (kdA dt_MX12_atom 30 rfl) (by decide +kernel) ?_
        refine K_cVi (c := 12) (as := [(0, 93)]) (st := []) (kdA dt_MX12_atom 31 rfl) rfl cl_MX12_takes lk12_245 rfl rfl (Nat.le_of_ble_eq_true rfl) c1 (Ci.mono h (fun x6 s5 h => ?_))
        refine K_if_ne (tgt := 62) (kdA dt_MX12_atom 32 rfl) rfl (fun c => ?_) (fun c => ?_)
        · have h := h.1 c
          refine K_aload_n 0 (kdA dt_MX12_atom 35 rfl) rfl rfl ?_
          refine K_dup (kdA dt_MX12_atom 36 rfl) rfl ?_
          refine gf12_215 rfl (kdA dt_MX12_atom 37 rfl) c1 ?_
          refine K_iconst (kdA dt_MX12_atom 38 rfl) (by decide) ?_
          obtain ⟨c7, h⟩ := h
          refine K_isub (kdA dt_MX12_atom 39 rfl) c7 ?_
          refine pf12_215 rfl (kdA dt_MX12_atom 40 rfl) c1 (fun s6 es6 => ?_)
          have h := h s6 es6
          refine K_iload_n 2 (kdA dt_MX12_atom 41 rfl) rfl rfl ?_
          exact K_ireturn (kdA dt_MX12_atom 42 rfl) rfl ⟨rfl, _, rfl, h⟩
        · have h := h.2 c
          refine K_iconst (kdA dt_MX12_atom 33 rfl) (by decide) ?_
          exact K_ireturn (kdA dt_MX12_atom 34 rfl) rfl ⟨rfl, _, rfl, h⟩
      · have h := h.2 c
        refine K_iconst (kdA dt_MX12_atom 24 rfl) (by decide) ?_
        exact K_ireturn (kdA dt_MX12_atom 25 rfl) rfl ⟨rfl, _, rfl, h⟩
  · have h := h.2 c
    refine K_aload_n 0 (kdA dt_MX12_atom 7 rfl) rfl rfl ?_
    refine K_dup (kdA dt_MX12_atom 8 rfl) rfl ?_
    refine gf12_203 rfl (kdA dt_MX12_atom 9 rfl) c1 ?_
    refine K_iconst (kdA dt_MX12_atom 10 rfl) (by decide) ?_
    obtain ⟨c4, h⟩ := h
    refine K_iadd (kdA dt_MX12_atom 11 rfl) c4 ?_
    refine pf12_203 rfl (kdA dt_MX12_atom 12 rfl) c1 (fun s3 es3 => ?_)
    have h := h s3 es3
    refine K_aload_n 0 (kdA dt_MX12_atom 13 rfl) rfl rfl ?_
    refine gf12_26 rfl (kdA dt_MX12_atom 14 rfl) c1 ?_
    refine K_iload_n 1 (kdA dt_MX12_atom 15 rfl) rfl rfl ?_
    obtain ⟨c5, h⟩ := h
    obtain ⟨c6, h⟩ := h
    refine K_iaload (kdA dt_MX12_atom 16 rfl) c5 c6.1 c6.2 ?_
    exact K_ireturn (kdA dt_MX12_atom 17 rfl) rfl ⟨rfl, _, rfl, h⟩
theorem SX12_atom_90 {d n : Nat} {Q : Int → kS → Prop} {a0 a2 a3 : Int} {σ : kS} (h : isO 12 n a0 ∧ (Ci d MX12_isDigit [(2, a0)] n σ (fun x2 s1 => (x2 = 0 → Q a2 s1) ∧ (¬ x2 = 0 → (¬ (s1 a0 19) = (-1) → Q a2 s1) ∧ (¬ (¬ (s1 a0 19) = (-1)) → (¬ a3 = 4 → (-2147483648 ≤ (10 * a2) ∧ (10 * a2) ≤ 2147483647) ∧ ((-2147483648 ≤ ((s1 a0 16) + (s1 a0 18)) ∧ ((s1 a0 16) + (s1 a0 18)) ≤ 2147483647) ∧ (isA 21 n (s1 a0 12) ∧ (((0 : Int) ≤ ((s1 a0 16) + (s1 a0 18)) ∧ ((s1 a0 16) + (s1 a0 18)) < klen (s1 a0 12)) ∧ ((-2147483648 ≤ ((10 * a2) + (s1 (s1 a0 12) ((s1 a0 16) + (s1 a0 18)))) ∧ ((10 * a2) + (s1 (s1 a0 12) ((s1 a0 16) + (s1 a0 18)))) ≤ 2147483647) ∧ ((-2147483648 ≤ (((10 * a2) + (s1 (s1 a0 12) ((s1 a0 16) + (s1 a0 18)))) - 48) ∧ (((10 * a2) + (s1 (s1 a0 12) ((s1 a0 16) + (s1 a0 18)))) - 48) ≤ 2147483647) ∧ ((-2147483648 ≤ ((s1 a0 18) + 1) ∧ ((s1 a0 18) + 1) ≤ 2147483647) ∧ (∀ s2, s2 = kst s1 a0 18 ((s1 a0 18) + 1) → (-2147483648 ≤ (a3 + 1) ∧ (a3 + 1) ≤ 2147483647) ∧ (LX12_atom_90 d n Q a0 (((10 * a2) + (s1 (s1 a0 12) ((s1 a0 16) + (s1 a0 18)))) - 48) (a3 + 1) s2))))))))) ∧ (¬ (¬ a3 = 4) → Ci d MX12_fails [(2, a0)] n s1 (fun x3 s2 => Q 0 s2))))))) : LX12_atom_90 d n Q a0 a2 a3 σ := by
  unfold LX12_atom_90
  refine K_aload_n 0 (kdA dt_MX12_atom 53 rfl) rfl rfl ?_
  obtain ⟨c1, h⟩ := h
  refine K_cVi (c := 12) (as := []) (st := []) (kdA dt_MX12_atom 54 rfl) rfl cl_MX12_isDigit lk12_248 rfl rfl (Nat.le_of_ble_eq_true rfl) c1 (Ci.mono h (fun x2 s1 h => ?_))
  refine K_if_eq (tgt := 156) (kdA dt_MX12_atom 55 rfl) rfl (fun c => ?_) (fun c => ?_)
  · have h := h.1 c
    refine K_iload_n 1 (kdA dt_MX12_atom 91 rfl) rfl rfl ?_
    exact K_ireturn (kdA dt_MX12_atom 92 rfl) rfl ⟨rfl, _, rfl, h⟩
  · have h := h.2 c
    refine K_aload_n 0 (kdA dt_MX12_atom 56 rfl) rfl rfl ?_
    refine gf12_212 rfl (kdA dt_MX12_atom 57 rfl) c1 ?_
    refine K_iconst (kdA dt_MX12_atom 58 rfl) (by decide) ?_
    refine K_icmp_ne (tgt := 156) (kdA dt_MX12_atom 59 rfl) rfl (fun c => ?_) (fun c => ?_)
    · have h := h.1 c
      refine K_iload_n 1 (kdA dt_MX12_atom 91 rfl) rfl rfl ?_
      exact K_ireturn (kdA dt_MX12_atom 92 rfl) rfl ⟨rfl, _, rfl, h⟩
    · have h := h.2 c
      refine K_iload_n 2 (kdA dt_MX12_atom 60 rfl) rfl rfl ?_
      refine K_iconst (kdA dt_MX12_atom 61 rfl) (by decide) ?_
      refine K_icmp_ne (tgt := 117) (kdA dt_MX12_atom 62 rfl) rfl (fun c => ?_) (fun c => ?_)
      · have h := h.1 c
        refine K_bipush (kdA dt_MX12_atom 68 rfl) (by decide +kernel) ?_
        refine K_iload_n 1 (kdA dt_MX12_atom 69 rfl) rfl rfl ?_
        obtain ⟨c3, h⟩ := h
        refine K_imul (kdA dt_MX12_atom 70 rfl) c3 ?_
        refine K_aload_n 0 (kdA dt_MX12_atom 71 rfl) rfl rfl ?_
        refine gf12_41 rfl (kdA dt_MX12_atom 72 rfl) c1 ?_
        refine K_aload_n 0 (kdA dt_MX12_atom 73 rfl) rfl rfl ?_
        refine gf12_209 rfl (kdA dt_MX12_atom 74 rfl) c1 ?_
        refine K_aload_n 0 (kdA dt_MX12_atom 75 rfl) rfl rfl ?_
        refine gf12_203 rfl (kdA dt_MX12_atom 76 rfl) c1 ?_
        obtain ⟨c4, h⟩ := h
        refine K_iadd (kdA dt_MX12_atom 77 rfl) c4 ?_
        obtain ⟨c5, h⟩ := h
        obtain ⟨c6, h⟩ := h
        refine K_baload (kdA dt_MX12_atom 78 rfl) (Or.inl c5) c6.1 c6.2 ?_
        obtain ⟨c7, h⟩ := h
        refine K_iadd (kdA dt_MX12_atom 79 rfl) c7 ?_
        refine K_bipush (kdA dt_MX12_atom 80 rfl) (by decide +kernel) ?_
        obtain ⟨c8, h⟩ := h
        refine K_isub (kdA dt_MX12_atom 81 rfl) c8 ?_
        refine K_istore_n (ls' := [(0, (2, a0)), (2, (0, (((10 * a2) + (s1 (s1 a0 12) ((s1 a0 16) + (s1 a0 18)))) - 48))), (3, (0, a3))]) (kdA dt_MX12_atom 82 rfl) rfl (by decide) rfl ?_
        refine K_aload_n 0 (kdA dt_MX12_atom 83 rfl) rfl rfl ?_
        refine K_dup (kdA dt_MX12_atom 84 rfl) rfl ?_
        refine gf12_203 rfl (kdA dt_MX12_atom 85 rfl) c1 ?_
        refine K_iconst (kdA dt_MX12_atom 86 rfl) (by decide) ?_
        obtain ⟨c9, h⟩ := h
        refine K_iadd (kdA dt_MX12_atom 87 rfl) c9 ?_
        refine pf12_203 rfl (kdA dt_MX12_atom 88 rfl) c1 (fun s2 es2 => ?_)
        have h := h s2 es2
        obtain ⟨c10, h⟩ := h
        refine K_iinc (ls' := [(0, (2, a0)), (2, (0, (((10 * a2) + (s1 (s1 a0 12) ((s1 a0 16) + (s1 a0 18)))) - 48))), (3, (0, (a3 + 1)))]) 2 (kdA dt_MX12_atom 89 rfl) rfl c10 (by decide) rfl ?_
        refine K_goto (tgt := 90) (kdA dt_MX12_atom 90 rfl) rfl ?_
        exact h
      · have h := h.2 c
        refine K_aload_n 0 (kdA dt_MX12_atom 63 rfl) rfl rfl ?_
        refine K_cVi (c := 12) (as := []) (st := []) (kdA dt_MX12_atom 64 rfl) rfl cl_MX12_fails lk12_218 rfl rfl (Nat.le_of_ble_eq_true rfl) c1 (Ci.mono h (fun x3 s2 h => ?_))
        refine K_pop (kdA dt_MX12_atom 65 rfl) rfl ?_
        refine K_iconst (kdA dt_MX12_atom 66 rfl) (by decide) ?_
        exact K_ireturn (kdA dt_MX12_atom 67 rfl) rfl ⟨rfl, _, rfl, h⟩
theorem EX12_atom {d n : Nat} {Q : Int → kS → Prop} {a0 : Int} {σ : kS} (h : kokw n σ → LX12_atom_0 d n Q a0 σ) : Ci (d + 1) MX12_atom [(2, a0)] n σ Q := Tri_of (by decide +kernel) (Nat.le_of_ble_eq_true rfl) (fun hk hw => h hw)

def LX12_begin_0 (d n : Nat) (Q : kS → Prop) (a0 : Int) (a1 : Int) (a2 : Int) (a3 : Int) (σ : kS) : Prop := K (d + 1) MX12_begin (kPv n Q) (0, 0) 0 [(0, (2, a0)), (1, (2, a1)), (2, (0, a2)), (3, (0, a3))] [] n σ
theorem SX12_begin_0 {d n : Nat} {Q : kS → Prop} {a0 a1 a2 a3 : Int} {σ : kS} (h : isO 12 n a0 ∧ (∀ s1, s1 = kst σ a0 12 a1 → ∀ s2, s2 = kst s1 a0 16 a2 → ∀ s3, s3 = kst s2 a0 17 a3 → ∀ s4, s4 = kst s3 a0 18 0 → ∀ s5, s5 = kst s4 a0 19 (-1) → Q s5)) : LX12_begin_0 d n Q a0 a1 a2 a3 σ := by
  unfold LX12_begin_0
  refine K_aload_n 0 (kdA dt_MX12_begin 0 rfl) rfl rfl ?_
  refine K_aload_n 1 (kdA dt_MX12_begin 1 rfl) rfl rfl ?_
  obtain ⟨c1, h⟩ := h
  refine pf12_41 rfl (kdA dt_MX12_begin 2 rfl) c1 (fun s1 es1 => ?_)
  have h := h s1 es1
  refine K_aload_n 0 (kdA dt_MX12_begin 3 rfl) rfl rfl ?_
  refine K_iload_n 2 (kdA dt_MX12_begin 4 rfl) rfl rfl ?_
  refine pf12_209 rfl (kdA dt_MX12_begin 5 rfl) c1 (fun s2 es2 => ?_)
  have h := h s2 es2
  refine K_aload_n 0 (kdA dt_MX12_begin 6 rfl) rfl rfl ?_
  refine K_iload_n 3 (kdA dt_MX12_begin 7 rfl) rfl rfl ?_
  refine pf12_206 rfl (kdA dt_MX12_begin 8 rfl) c1 (fun s3 es3 => ?_)
  have h := h s3 es3
  refine K_aload_n 0 (kdA dt_MX12_begin 9 rfl) rfl rfl ?_
  refine K_iconst (kdA dt_MX12_begin 10 rfl) (by decide) ?_
  refine pf12_203 rfl (kdA dt_MX12_begin 11 rfl) c1 (fun s4 es4 => ?_)
  have h := h s4 es4
  refine K_aload_n 0 (kdA dt_MX12_begin 12 rfl) rfl rfl ?_
  refine K_iconst (kdA dt_MX12_begin 13 rfl) (by decide) ?_
  refine pf12_212 rfl (kdA dt_MX12_begin 14 rfl) c1 (fun s5 es5 => ?_)
  have h := h s5 es5
  exact K_return (kdA dt_MX12_begin 15 rfl) rfl ⟨rfl, rfl, h⟩
theorem EX12_begin {d n : Nat} {Q : kS → Prop} {a0 a1 a2 a3 : Int} {σ : kS} (h : (-2147483648 ≤ a2 ∧ a2 ≤ 2147483647) → (-2147483648 ≤ a3 ∧ a3 ≤ 2147483647) → kokw n σ → LX12_begin_0 d n Q a0 a1 a2 a3 σ) : Cv (d + 1) MX12_begin [(2, a0), (2, a1), (0, a2), (0, a3)] n σ Q := Tri_of (by decide +kernel) (Nat.le_of_ble_eq_true rfl) (fun hk hw => h (hk (0, a2) (List.mem_of_getElem? (i := 2) rfl)) (hk (0, a3) (List.mem_of_getElem? (i := 3) rfl)) hw)

def LX12_best_0 (d n : Nat) (Q : Int → kS → Prop) (a0 : Int) (a1 : Int) (a2 : Int) (a3 : Int) (σ : kS) : Prop := K (d + 1) MX12_best (kPi n Q) (0, 0) 0 [(0, (2, a0)), (1, (0, a1)), (2, (0, a2)), (3, (0, a3))] [] n σ
theorem SX12_best_0 {d n : Nat} {Q : Int → kS → Prop} {a0 a1 a2 a3 : Int} {σ : kS} (h : isO 12 n a0 ∧ (∀ s1, s1 = kst σ a0 0 0 → ((s1 a0 14) = 0 → Q (-1) s1) ∧ (¬ (s1 a0 14) = 0 → Ci d MX12_isIn [(0, a1), (0, 0), (0, 99)] n s1 (fun x2 s2 => (x2 = 0 → Q (-1) s2) ∧ (¬ x2 = 0 → Ci d MX12_isIn [(0, a3), (0, 0), (0, 1)] n s2 (fun x3 s3 => (¬ x3 = 0 → Cv d MX12_layMisses [(2, a0), (0, a1), (0, a2)] n s3 (fun s4 => (¬ a3 = 0 → Ci d MX12_bestOf [(2, a0), (0, (-1))] n s4 (fun x5 s5 => Ci d MX12_fitOf [(2, a0), (0, x5), (0, (-1))] n s5 (fun x6 s6 => Q x6 s6))) ∧ (¬ (¬ a3 = 0) → Ci d MX12_bestOf [(2, a0), (0, (-1))] n s4 (fun x5 s5 => Q x5 s5)))) ∧ (¬ (¬ x3 = 0) → Q (-1) s3))))))) : LX12_best_0 d n Q a0 a1 a2 a3 σ := by
  unfold LX12_best_0
  refine K_aload_n 0 (kdA dt_MX12_best 0 rfl) rfl rfl ?_
  refine K_iconst (kdA dt_MX12_best 1 rfl) (by decide) ?_
  obtain ⟨c1, h⟩ := h
  refine pf12_149 rfl (kdA dt_MX12_best 2 rfl) c1 (fun s1 es1 => ?_)
  have h := h s1 es1
  refine K_aload_n 0 (kdA dt_MX12_best 3 rfl) rfl rfl ?_
  refine gf12_306 rfl (kdA dt_MX12_best 4 rfl) c1 ?_
  refine K_if_eq (tgt := 31) (kdA dt_MX12_best 5 rfl) rfl (fun c => ?_) (fun c => ?_)
  · have h := h.1 c
    refine K_iconst (kdA dt_MX12_best 16 rfl) (by decide) ?_
    exact K_ireturn (kdA dt_MX12_best 17 rfl) rfl ⟨rfl, _, rfl, h⟩
  · have h := h.2 c
    refine K_iload_n 1 (kdA dt_MX12_best 6 rfl) rfl rfl ?_
    refine K_iconst (kdA dt_MX12_best 7 rfl) (by decide) ?_
    refine K_bipush (kdA dt_MX12_best 8 rfl) (by decide +kernel) ?_
    refine K_cSi (as := [(0, a1), (0, 0), (0, 99)]) (st := []) (kdA dt_MX12_best 9 rfl) cl_MX12_isIn lk12_153 rfl rfl (Nat.le_of_ble_eq_true rfl) (Ci.mono h (fun x2 s2 h => ?_))
    refine K_if_eq (tgt := 31) (kdA dt_MX12_best 10 rfl) rfl (fun c => ?_) (fun c => ?_)
    · have h := h.1 c
      refine K_iconst (kdA dt_MX12_best 16 rfl) (by decide) ?_
      exact K_ireturn (kdA dt_MX12_best 17 rfl) rfl ⟨rfl, _, rfl, h⟩
    · have h := h.2 c
      refine K_iload_n 3 (kdA dt_MX12_best 11 rfl) rfl rfl ?_
      refine K_iconst (kdA dt_MX12_best 12 rfl) (by decide) ?_
      refine K_iconst (kdA dt_MX12_best 13 rfl) (by decide) ?_
      refine K_cSi (as := [(0, a3), (0, 0), (0, 1)]) (st := []) (kdA dt_MX12_best 14 rfl) cl_MX12_isIn lk12_153 rfl rfl (Nat.le_of_ble_eq_true rfl) (Ci.mono h (fun x3 s3 h => ?_))
      refine K_if_ne (tgt := 33) (kdA dt_MX12_best 15 rfl) rfl (fun c => ?_) (fun c => ?_)
      · have h := h.1 c
        refine K_aload_n 0 (kdA dt_MX12_best 18 rfl) rfl rfl ?_
        refine K_iload_n 1 (kdA dt_MX12_best 19 rfl) rfl rfl ?_
        refine K_iload_n 2 (kdA dt_MX12_best 20 rfl) rfl rfl ?_
        refine K_cVv (c := 12) (as := [(0, a1), (0, a2)]) (st := []) (kdA dt_MX12_best 21 rfl) rfl cl_MX12_layMisses lk12_429 rfl rfl (Nat.le_of_ble_eq_true rfl) c1 (Cv.mono h (fun s4 h => ?_))
        refine K_iload_n 3 (kdA dt_MX12_best 22 rfl) rfl rfl ?_
        refine K_if_ne (tgt := 51) (kdA dt_MX12_best 23 rfl) rfl (fun c => ?_) (fun c => ?_)
        · have h := h.1 c
          refine K_aload_n 0 (kdA dt_MX12_best 28 rfl) rfl rfl ?_
          refine K_aload_n 0 (kdA dt_MX12_best 29 rfl) rfl rfl ?_
          refine K_iconst (kdA dt_MX12_best 30 rfl) (by decide) ?_
          refine K_cVi (c := 12) (as := [(0, (-1))]) (st := [(2, a0)]) (kdA dt_MX12_best 31 rfl) rfl cl_MX12_bestOf lk12_433 rfl rfl (Nat.le_of_ble_eq_true rfl) c1 (Ci.mono h (fun x5 s5 h => ?_))
          refine K_iconst (kdA dt_MX12_best 32 rfl) (by decide) ?_
          refine K_cVi (c := 12) (as := [(0, x5), (0, (-1))]) (st := []) (kdA dt_MX12_best 33 rfl) rfl cl_MX12_fitOf lk12_426 rfl rfl (Nat.le_of_ble_eq_true rfl) c1 (Ci.mono h (fun x6 s6 h => ?_))
          exact K_ireturn (kdA dt_MX12_best 34 rfl) rfl ⟨rfl, _, rfl, h⟩
        · have h := h.2 c
          refine K_aload_n 0 (kdA dt_MX12_best 24 rfl) rfl rfl ?_
          refine K_iconst (kdA dt_MX12_best 25 rfl) (by decide) ?_
          refine K_cVi (c := 12) (as := [(0, (-1))]) (st := []) (kdA dt_MX12_best 26 rfl) rfl cl_MX12_bestOf lk12_433 rfl rfl (Nat.le_of_ble_eq_true rfl) c1 (Ci.mono h (fun x5 s5 h => ?_))
          refine K_goto (tgt := 61) (kdA dt_MX12_best 27 rfl) rfl ?_
          exact K_ireturn (kdA dt_MX12_best 34 rfl) rfl ⟨rfl, _, rfl, h⟩
      · have h := h.2 c
        refine K_iconst (kdA dt_MX12_best 16 rfl) (by decide) ?_
        exact K_ireturn (kdA dt_MX12_best 17 rfl) rfl ⟨rfl, _, rfl, h⟩
theorem EX12_best {d n : Nat} {Q : Int → kS → Prop} {a0 a1 a2 a3 : Int} {σ : kS} (h : (-2147483648 ≤ a1 ∧ a1 ≤ 2147483647) → (-2147483648 ≤ a2 ∧ a2 ≤ 2147483647) → (-2147483648 ≤ a3 ∧ a3 ≤ 2147483647) → kokw n σ → LX12_best_0 d n Q a0 a1 a2 a3 σ) : Ci (d + 1) MX12_best [(2, a0), (0, a1), (0, a2), (0, a3)] n σ Q := Tri_of (by decide +kernel) (Nat.le_of_ble_eq_true rfl) (fun hk hw => h (hk (0, a1) (List.mem_of_getElem? (i := 1) rfl)) (hk (0, a2) (List.mem_of_getElem? (i := 2) rfl)) (hk (0, a3) (List.mem_of_getElem? (i := 3) rfl)) hw)

def LX12_bestOf_0 (d n : Nat) (Q : Int → kS → Prop) (a0 : Int) (a1 : Int) (σ : kS) : Prop := K (d + 1) MX12_bestOf (kPi n Q) (0, 0) 0 [(0, (2, a0)), (1, (0, a1))] [] n σ
def LX12_bestOf_4 (d n : Nat) (Q : Int → kS → Prop) (a0 : Int) (a1 : Int) (a2 : Int) (a3 : Int) (σ : kS) : Prop := K (d + 1) MX12_bestOf (kPi n Q) (0, 0) 4 [(0, (2, a0)), (1, (0, a1)), (2, (0, a2)), (3, (0, a3))] [] n σ
theorem SX12_bestOf_0 {d n : Nat} {Q : Int → kS → Prop} {a0 a1 : Int} {σ : kS} (h : LX12_bestOf_4 d n Q a0 a1 0 1 σ) : LX12_bestOf_0 d n Q a0 a1 σ := by
  unfold LX12_bestOf_0
  refine K_iconst (kdA dt_MX12_bestOf 0 rfl) (by decide) ?_
  refine K_istore_n (ls' := [(0, (2, a0)), (1, (0, a1)), (2, (0, 0))]) (kdA dt_MX12_bestOf 1 rfl) rfl (by decide) rfl ?_
  refine K_iconst (kdA dt_MX12_bestOf 2 rfl) (by decide) ?_
  refine K_istore_n (ls' := [(0, (2, a0)), (1, (0, a1)), (2, (0, 0)), (3, (0, 1))]) (kdA dt_MX12_bestOf 3 rfl) rfl (by decide) rfl ?_
  exact h
theorem SX12_bestOf_4 {d n : Nat} {Q : Int → kS → Prop} {a0 a1 a2 a3 : Int} {σ : kS} (h : isO 12 n a0 ∧ (((σ a0 14) ≤ a3 → Q a2 σ) ∧ (¬ (σ a0 14) ≤ a3 → Ci d MX12_fitOf [(2, a0), (0, a3), (0, a1)] n σ (fun x2 s1 => Ci d MX12_fitOf [(2, a0), (0, a2), (0, a1)] n s1 (fun x3 s2 => (x3 ≤ x2 → (-2147483648 ≤ (a3 + 1) ∧ (a3 + 1) ≤ 2147483647) ∧ (LX12_bestOf_4 d n Q a0 a1 a2 (a3 + 1) s2)) ∧ (¬ x3 ≤ x2 → (-2147483648 ≤ (a3 + 1) ∧ (a3 + 1) ≤ 2147483647) ∧ (LX12_bestOf_4 d n Q a0 a1 a3 (a3 + 1) s2))))))) : LX12_bestOf_4 d n Q a0 a1 a2 a3 σ := by
  unfold LX12_bestOf_4
  refine K_iload_n 3 (kdA dt_MX12_bestOf 4 rfl) rfl rfl ?_
  refine K_aload_n 0 (kdA dt_MX12_bestOf 5 rfl) rfl rfl ?_
  obtain ⟨c1, h⟩ := h
  refine gf12_306 rfl (kdA dt_MX12_bestOf 6 rfl) c1 ?_
  refine K_icmp_ge (tgt := 35) (kdA dt_MX12_bestOf 7 rfl) rfl (fun c => ?_) (fun c => ?_)
  · have h := h.1 c
    refine K_iload_n 2 (kdA dt_MX12_bestOf 21 rfl) rfl rfl ?_
    exact K_ireturn (kdA dt_MX12_bestOf 22 rfl) rfl ⟨rfl, _, rfl, h⟩
  · have h := h.2 c
    refine K_aload_n 0 (kdA dt_MX12_bestOf 8 rfl) rfl rfl ?_
    refine K_iload_n 3 (kdA dt_MX12_bestOf 9 rfl) rfl rfl ?_
    refine K_iload_n 1 (kdA dt_MX12_bestOf 10 rfl) rfl rfl ?_
    refine K_cVi (c := 12) (as := [(0, a3), (0, a1)]) (st := []) (kdA dt_MX12_bestOf 11 rfl) rfl cl_MX12_fitOf lk12_426 rfl rfl (Nat.le_of_ble_eq_true rfl) c1 (Ci.mono h (fun x2 s1 h => ?_))
    refine K_aload_n 0 (kdA dt_MX12_bestOf 12 rfl) rfl rfl ?_
    refine K_iload_n 2 (kdA dt_MX12_bestOf 13 rfl) rfl rfl ?_
    refine K_iload_n 1 (kdA dt_MX12_bestOf 14 rfl) rfl rfl ?_
    refine K_cVi (c := 12) (as := [(0, a2), (0, a1)]) (st := [(0, x2)]) (kdA dt_MX12_bestOf 15 rfl) rfl cl_MX12_fitOf lk12_426 rfl rfl (Nat.le_of_ble_eq_true rfl) c1 (Ci.mono h (fun x3 s2 h => ?_))
    refine K_icmp_ge (tgt := 29) (kdA dt_MX12_bestOf 16 rfl) rfl (fun c => ?_) (fun c => ?_)
    · have h := h.1 c
      obtain ⟨c4, h⟩ := h
      refine K_iinc (ls' := [(0, (2, a0)), (1, (0, a1)), (2, (0, a2)), (3, (0, (a3 + 1)))]) 3 (kdA dt_MX12_bestOf 19 rfl) rfl c4 (by decide) rfl ?_
      refine K_goto (tgt := 4) (kdA dt_MX12_bestOf 20 rfl) rfl ?_
      exact h
    · have h := h.2 c
      refine K_iload_n 3 (kdA dt_MX12_bestOf 17 rfl) rfl rfl ?_
      refine K_istore_n (ls' := [(0, (2, a0)), (1, (0, a1)), (2, (0, a3)), (3, (0, a3))]) (kdA dt_MX12_bestOf 18 rfl) rfl (by decide) rfl ?_
      obtain ⟨c4, h⟩ := h
      refine K_iinc (ls' := [(0, (2, a0)), (1, (0, a1)), (2, (0, a3)), (3, (0, (a3 + 1)))]) 3 (kdA dt_MX12_bestOf 19 rfl) rfl c4 (by decide) rfl ?_
      refine K_goto (tgt := 4) (kdA dt_MX12_bestOf 20 rfl) rfl ?_
      exact h
theorem EX12_bestOf {d n : Nat} {Q : Int → kS → Prop} {a0 a1 : Int} {σ : kS} (h : (-2147483648 ≤ a1 ∧ a1 ≤ 2147483647) → kokw n σ → LX12_bestOf_0 d n Q a0 a1 σ) : Ci (d + 1) MX12_bestOf [(2, a0), (0, a1)] n σ Q := Tri_of (by decide +kernel) (Nat.le_of_ble_eq_true rfl) (fun hk hw => h (hk (0, a1) (List.mem_of_getElem? (i := 1) rfl)) hw)

def LX12_bring_0 (d n : Nat) (Q : Int → kS → Prop) (a0 : Int) (a1 : Int) (σ : kS) : Prop := K (d + 1) MX12_bring (kPi n Q) (0, 0) 0 [(0, (2, a0)), (1, (0, a1))] [] n σ
theorem SX12_bring_0 {d n : Nat} {Q : Int → kS → Prop} {a0 a1 : Int} {σ : kS} (h : isO 12 n a0 ∧ (∀ s1, s1 = kst σ a0 0 0 → Ci d MX12_isEra [(2, a0), (0, a1)] n s1 (fun x2 s2 => (¬ x2 = 0 → Ci d MX12_changedOf [(2, a0), (0, a1)] n s2 (fun x3 s3 => Cv d MX12_goTo [(2, a0), (0, a1)] n s3 (fun s4 => Q x3 s4))) ∧ (¬ (¬ x2 = 0) → Q (-1) s2)))) : LX12_bring_0 d n Q a0 a1 σ := by
  unfold LX12_bring_0
  refine K_aload_n 0 (kdA dt_MX12_bring 0 rfl) rfl rfl ?_
  refine K_iconst (kdA dt_MX12_bring 1 rfl) (by decide) ?_
  obtain ⟨c1, h⟩ := h
  refine pf12_149 rfl (kdA dt_MX12_bring 2 rfl) c1 (fun s1 es1 => ?_)
  have h := h s1 es1
  refine K_aload_n 0 (kdA dt_MX12_bring 3 rfl) rfl rfl ?_
  refine K_iload_n 1 (kdA dt_MX12_bring 4 rfl) rfl rfl ?_
  refine K_cVi (c := 12) (as := [(0, a1)]) (st := []) (kdA dt_MX12_bring 5 rfl) rfl cl_MX12_isEra lk12_532 rfl rfl (Nat.le_of_ble_eq_true rfl) c1 (Ci.mono h (fun x2 s2 h => ?_))
  refine K_if_ne (tgt := 15) (kdA dt_MX12_bring 6 rfl) rfl (fun c => ?_) (fun c => ?_)
  · have h := h.1 c
    refine K_aload_n 0 (kdA dt_MX12_bring 9 rfl) rfl rfl ?_
    refine K_iload_n 1 (kdA dt_MX12_bring 10 rfl) rfl rfl ?_
    refine K_cVi (c := 12) (as := [(0, a1)]) (st := []) (kdA dt_MX12_bring 11 rfl) rfl cl_MX12_changedOf lk12_535 rfl rfl (Nat.le_of_ble_eq_true rfl) c1 (Ci.mono h (fun x3 s3 h => ?_))
    refine K_istore_n (ls' := [(0, (2, a0)), (1, (0, a1)), (2, (0, x3))]) (kdA dt_MX12_bring 12 rfl) rfl (by decide) rfl ?_
    refine K_aload_n 0 (kdA dt_MX12_bring 13 rfl) rfl rfl ?_
    refine K_iload_n 1 (kdA dt_MX12_bring 14 rfl) rfl rfl ?_
    refine K_cVv (c := 12) (as := [(0, a1)]) (st := []) (kdA dt_MX12_bring 15 rfl) rfl cl_MX12_goTo lk12_538 rfl rfl (Nat.le_of_ble_eq_true rfl) c1 (Cv.mono h (fun s4 h => ?_))
    refine K_iload_n 2 (kdA dt_MX12_bring 16 rfl) rfl rfl ?_
    exact K_ireturn (kdA dt_MX12_bring 17 rfl) rfl ⟨rfl, _, rfl, h⟩
  · have h := h.2 c
    refine K_iconst (kdA dt_MX12_bring 7 rfl) (by decide) ?_
    exact K_ireturn (kdA dt_MX12_bring 8 rfl) rfl ⟨rfl, _, rfl, h⟩
theorem EX12_bring {d n : Nat} {Q : Int → kS → Prop} {a0 a1 : Int} {σ : kS} (h : (-2147483648 ≤ a1 ∧ a1 ≤ 2147483647) → kokw n σ → LX12_bring_0 d n Q a0 a1 σ) : Ci (d + 1) MX12_bring [(2, a0), (0, a1)] n σ Q := Tri_of (by decide +kernel) (Nat.le_of_ble_eq_true rfl) (fun hk hw => h (hk (0, a1) (List.mem_of_getElem? (i := 1) rfl)) hw)

def LX12_bytesIn_0 (d n : Nat) (Q : Int → kS → Prop) (a0 : Int) (σ : kS) : Prop := K (d + 1) MX12_bytesIn (kPi n Q) (0, 0) 0 [(0, (0, a0))] [] n σ
def LX12_bytesIn_5 (d n : Nat) (Q : Int → kS → Prop) (a0 : Int) (a1 : Int) (a2 : Int) (σ : kS) : Prop := K (d + 1) MX12_bytesIn (kPi n Q) (0, 0) 5 [(0, (0, a0)), (1, (0, a1)), (2, (0, a2))] [] n σ
theorem SX12_bytesIn_0 {d n : Nat} {Q : Int → kS → Prop} {a0 : Int} {σ : kS} (h : LX12_bytesIn_5 d n Q a0 0 24 σ) : LX12_bytesIn_0 d n Q a0 σ := by
  unfold LX12_bytesIn_0
  refine K_iconst (kdA dt_MX12_bytesIn 0 rfl) (by decide) ?_
  refine K_istore_n (ls' := [(0, (0, a0)), (1, (0, 0))]) (kdA dt_MX12_bytesIn 1 rfl) rfl (by decide) rfl ?_
  refine K_bipush (kdA dt_MX12_bytesIn 2 rfl) (by decide +kernel) ?_
  refine K_istore_n (ls' := [(0, (0, a0)), (1, (0, 0)), (2, (0, 24))]) (kdA dt_MX12_bytesIn 3 rfl) rfl (by decide) rfl ?_
  exact h
theorem SX12_bytesIn_5 {d n : Nat} {Q : Int → kS → Prop} {a0 a1 a2 : Int} {σ : kS} (h : (a2 < 0 → Q a1 σ) ∧ (¬ a2 < 0 → ((kand (kishr a0 a2) 255) = 0 → (-2147483648 ≤ (a1 + 0) ∧ (a1 + 0) ≤ 2147483647) ∧ ((-2147483648 ≤ (a2 + (-8)) ∧ (a2 + (-8)) ≤ 2147483647) ∧ (LX12_bytesIn_5 d n Q a0 (a1 + 0) (a2 + (-8)) σ))) ∧ (¬ (kand (kishr a0 a2) 255) = 0 → (-2147483648 ≤ (a1 + 1) ∧ (a1 + 1) ≤ 2147483647) ∧ ((-2147483648 ≤ (a2 + (-8)) ∧ (a2 + (-8)) ≤ 2147483647) ∧ (LX12_bytesIn_5 d n Q a0 (a1 + 1) (a2 + (-8)) σ))))) : LX12_bytesIn_5 d n Q a0 a1 a2 σ := by
  unfold LX12_bytesIn_5
  refine K_iload_n 2 (kdA dt_MX12_bytesIn 4 rfl) rfl rfl ?_
  refine K_if_lt (tgt := 33) (kdA dt_MX12_bytesIn 5 rfl) rfl (fun c => ?_) (fun c => ?_)
  · have h := h.1 c
    refine K_iload_n 1 (kdA dt_MX12_bytesIn 20 rfl) rfl rfl ?_
    exact K_ireturn (kdA dt_MX12_bytesIn 21 rfl) rfl ⟨rfl, _, rfl, h⟩
  · have h := h.2 c
    refine K_iload_n 1 (kdA dt_MX12_bytesIn 6 rfl) rfl rfl ?_
    refine K_iload_n 0 (kdA dt_MX12_bytesIn 7 rfl) rfl rfl ?_
    refine K_iload_n 2 (kdA dt_MX12_bytesIn 8 rfl) rfl rfl ?_
    refine K_ishr (kdA dt_MX12_bytesIn 9 rfl) ?_
    refine K_sipush (kdA dt_MX12_bytesIn 10 rfl) (by decide +kernel) ?_
    refine K_iand (kdA dt_MX12_bytesIn 11 rfl) ?_
    refine K_if_eq (tgt := 24) (kdA dt_MX12_bytesIn 12 rfl) rfl (fun c => ?_) (fun c => ?_)
    · have h := h.1 c
      refine K_iconst (kdA dt_MX12_bytesIn 15 rfl) (by decide) ?_
      obtain ⟨c1, h⟩ := h
      refine K_iadd (kdA dt_MX12_bytesIn 16 rfl) c1 ?_
      refine K_istore_n (ls' := [(0, (0, a0)), (1, (0, (a1 + 0))), (2, (0, a2))]) (kdA dt_MX12_bytesIn 17 rfl) rfl (by decide) rfl ?_
      obtain ⟨c2, h⟩ := h
      refine K_iinc (ls' := [(0, (0, a0)), (1, (0, (a1 + 0))), (2, (0, (a2 + (-8))))]) 2 (kdA dt_MX12_bytesIn 18 rfl) rfl c2 (by decide) rfl ?_
      refine K_goto (tgt := 5) (kdA dt_MX12_bytesIn 19 rfl) rfl ?_
      exact h
    · have h := h.2 c
      refine K_iconst (kdA dt_MX12_bytesIn 13 rfl) (by decide) ?_
      refine K_goto (tgt := 25) (kdA dt_MX12_bytesIn 14 rfl) rfl ?_
      obtain ⟨c1, h⟩ := h
      refine K_iadd (kdA dt_MX12_bytesIn 16 rfl) c1 ?_
      refine K_istore_n (ls' := [(0, (0, a0)), (1, (0, (a1 + 1))), (2, (0, a2))]) (kdA dt_MX12_bytesIn 17 rfl) rfl (by decide) rfl ?_
      obtain ⟨c2, h⟩ := h
      refine K_iinc (ls' := [(0, (0, a0)), (1, (0, (a1 + 1))), (2, (0, (a2 + (-8))))]) 2 (kdA dt_MX12_bytesIn 18 rfl) rfl c2 (by decide) rfl ?_
      refine K_goto (tgt := 5) (kdA dt_MX12_bytesIn 19 rfl) rfl ?_
      exact h
theorem EX12_bytesIn {d n : Nat} {Q : Int → kS → Prop} {a0 : Int} {σ : kS} (h : (-2147483648 ≤ a0 ∧ a0 ≤ 2147483647) → kokw n σ → LX12_bytesIn_0 d n Q a0 σ) : Ci (d + 1) MX12_bytesIn [(0, a0)] n σ Q := Tri_of (by decide +kernel) (Nat.le_of_ble_eq_true rfl) (fun hk hw => h (hk (0, a0) (List.mem_of_getElem? (i := 0) rfl)) hw)

def LX12_cellOf_0 (d n : Nat) (Q : Int → kS → Prop) (a0 : Int) (a1 : Int) (a2 : Int) (σ : kS) : Prop := K (d + 1) MX12_cellOf (kPi n Q) (0, 0) 0 [(0, (2, a0)), (1, (0, a1)), (2, (0, a2))] [] n σ
theorem SX12_cellOf_0 {d n : Nat} {Q : Int → kS → Prop} {a0 a1 a2 : Int} {σ : kS} (h : isO 12 n a0 ∧ ((-2147483648 ≤ (140 * a1) ∧ (140 * a1) ≤ 2147483647) ∧ ((-2147483648 ≤ ((140 * a1) + a2) ∧ ((140 * a1) + a2) ≤ 2147483647) ∧ (isA 20 n (σ a0 33) ∧ (((0 : Int) ≤ ((140 * a1) + a2) ∧ ((140 * a1) + a2) < klen (σ a0 33)) ∧ (Q (σ (σ a0 33) ((140 * a1) + a2)) σ)))))) : LX12_cellOf_0 d n Q a0 a1 a2 σ := by
  unfold LX12_cellOf_0
  refine K_aload_n 0 (kdA dt_MX12_cellOf 0 rfl) rfl rfl ?_
  obtain ⟨c1, h⟩ := h
  refine gf12_73 rfl (kdA dt_MX12_cellOf 1 rfl) c1 ?_
  refine K_sipush (kdA dt_MX12_cellOf 2 rfl) (by decide +kernel) ?_
  refine K_iload_n 1 (kdA dt_MX12_cellOf 3 rfl) rfl rfl ?_
  obtain ⟨c2, h⟩ := h
  refine K_imul (kdA dt_MX12_cellOf 4 rfl) c2 ?_
  refine K_iload_n 2 (kdA dt_MX12_cellOf 5 rfl) rfl rfl ?_
  obtain ⟨c3, h⟩ := h
  refine K_iadd (kdA dt_MX12_cellOf 6 rfl) c3 ?_
  obtain ⟨c4, h⟩ := h
  obtain ⟨c5, h⟩ := h
  refine K_iaload (kdA dt_MX12_cellOf 7 rfl) c4 c5.1 c5.2 ?_
  exact K_ireturn (kdA dt_MX12_cellOf 8 rfl) rfl ⟨rfl, _, rfl, h⟩
theorem EX12_cellOf {d n : Nat} {Q : Int → kS → Prop} {a0 a1 a2 : Int} {σ : kS} (h : (-2147483648 ≤ a1 ∧ a1 ≤ 2147483647) → (-2147483648 ≤ a2 ∧ a2 ≤ 2147483647) → kokw n σ → LX12_cellOf_0 d n Q a0 a1 a2 σ) : Ci (d + 1) MX12_cellOf [(2, a0), (0, a1), (0, a2)] n σ Q := Tri_of (by decide +kernel) (Nat.le_of_ble_eq_true rfl) (fun hk hw => h (hk (0, a1) (List.mem_of_getElem? (i := 1) rfl)) (hk (0, a2) (List.mem_of_getElem? (i := 2) rfl)) hw)

def LX12_changed_0 (d n : Nat) (Q : Int → kS → Prop) (a0 : Int) (a1 : Int) (σ : kS) : Prop := K (d + 1) MX12_changed (kPi n Q) (0, 0) 0 [(0, (2, a0)), (1, (0, a1))] [] n σ
theorem SX12_changed_0 {d n : Nat} {Q : Int → kS → Prop} {a0 a1 : Int} {σ : kS} (h : isO 12 n a0 ∧ (∀ s1, s1 = kst σ a0 0 0 → Ci d MX12_isEra [(2, a0), (0, a1)] n s1 (fun x2 s2 => (x2 = 0 → Q (-1) s2) ∧ (¬ x2 = 0 → Ci d MX12_changedOf [(2, a0), (0, a1)] n s2 (fun x3 s3 => Q x3 s3))))) : LX12_changed_0 d n Q a0 a1 σ := by
  unfold LX12_changed_0
  refine K_aload_n 0 (kdA dt_MX12_changed 0 rfl) rfl rfl ?_
  refine K_iconst (kdA dt_MX12_changed 1 rfl) (by decide) ?_
  obtain ⟨c1, h⟩ := h
  refine pf12_149 rfl (kdA dt_MX12_changed 2 rfl) c1 (fun s1 es1 => ?_)
  have h := h s1 es1
  refine K_aload_n 0 (kdA dt_MX12_changed 3 rfl) rfl rfl ?_
  refine K_iload_n 1 (kdA dt_MX12_changed 4 rfl) rfl rfl ?_
  refine K_cVi (c := 12) (as := [(0, a1)]) (st := []) (kdA dt_MX12_changed 5 rfl) rfl cl_MX12_isEra lk12_532 rfl rfl (Nat.le_of_ble_eq_true rfl) c1 (Ci.mono h (fun x2 s2 h => ?_))
  refine K_if_eq (tgt := 21) (kdA dt_MX12_changed 6 rfl) rfl (fun c => ?_) (fun c => ?_)
  · have h := h.1 c
    refine K_iconst (kdA dt_MX12_changed 11 rfl) (by decide) ?_
    exact K_ireturn (kdA dt_MX12_changed 12 rfl) rfl ⟨rfl, _, rfl, h⟩
  · have h := h.2 c
    refine K_aload_n 0 (kdA dt_MX12_changed 7 rfl) rfl rfl ?_
    refine K_iload_n 1 (kdA dt_MX12_changed 8 rfl) rfl rfl ?_
    refine K_cVi (c := 12) (as := [(0, a1)]) (st := []) (kdA dt_MX12_changed 9 rfl) rfl cl_MX12_changedOf lk12_535 rfl rfl (Nat.le_of_ble_eq_true rfl) c1 (Ci.mono h (fun x3 s3 h => ?_))
    refine K_goto (tgt := 22) (kdA dt_MX12_changed 10 rfl) rfl ?_
    exact K_ireturn (kdA dt_MX12_changed 12 rfl) rfl ⟨rfl, _, rfl, h⟩
theorem EX12_changed {d n : Nat} {Q : Int → kS → Prop} {a0 a1 : Int} {σ : kS} (h : (-2147483648 ≤ a1 ∧ a1 ≤ 2147483647) → kokw n σ → LX12_changed_0 d n Q a0 a1 σ) : Ci (d + 1) MX12_changed [(2, a0), (0, a1)] n σ Q := Tri_of (by decide +kernel) (Nat.le_of_ble_eq_true rfl) (fun hk hw => h (hk (0, a1) (List.mem_of_getElem? (i := 1) rfl)) hw)

def LX12_changedOf_0 (d n : Nat) (Q : Int → kS → Prop) (a0 : Int) (a1 : Int) (σ : kS) : Prop := K (d + 1) MX12_changedOf (kPi n Q) (0, 0) 0 [(0, (2, a0)), (1, (0, a1))] [] n σ
def LX12_changedOf_4 (d n : Nat) (Q : Int → kS → Prop) (a0 : Int) (a1 : Int) (a2 : Int) (a3 : Int) (σ : kS) : Prop := K (d + 1) MX12_changedOf (kPi n Q) (0, 0) 4 [(0, (2, a0)), (1, (0, a1)), (2, (0, a2)), (3, (0, a3))] [] n σ
def LX12_changedOf_16 (d n : Nat) (Q : Int → kS → Prop) (a0 : Int) (a1 : Int) (a2 : Int) (a3 : Int) (a4 : Int) (a5 : Int) (σ : kS) : Prop := K (d + 1) MX12_changedOf (kPi n Q) (0, 0) 16 [(0, (2, a0)), (1, (0, a1)), (2, (0, a2)), (3, (0, a3)), (4, (0, a4)), (5, (0, a5))] [] n σ
theorem SX12_changedOf_0 {d n : Nat} {Q : Int → kS → Prop} {a0 a1 : Int} {σ : kS} (h : LX12_changedOf_4 d n Q a0 a1 0 0 σ) : LX12_changedOf_0 d n Q a0 a1 σ := by
  unfold LX12_changedOf_0
  refine K_iconst (kdA dt_MX12_changedOf 0 rfl) (by decide) ?_
  refine K_istore_n (ls' := [(0, (2, a0)), (1, (0, a1)), (2, (0, 0))]) (kdA dt_MX12_changedOf 1 rfl) rfl (by decide) rfl ?_
  refine K_iconst (kdA dt_MX12_changedOf 2 rfl) (by decide) ?_
  refine K_istore_n (ls' := [(0, (2, a0)), (1, (0, a1)), (2, (0, 0)), (3, (0, 0))]) (kdA dt_MX12_changedOf 3 rfl) rfl (by decide) rfl ?_
  exact h
theorem SX12_changedOf_4 {d n : Nat} {Q : Int → kS → Prop} {a0 a1 a2 a3 : Int} {σ : kS} (h : (120 ≤ a3 → Q a2 σ) ∧ (¬ 120 ≤ a3 → LX12_changedOf_16 d n Q a0 a1 a2 a3 0 0 σ)) : LX12_changedOf_4 d n Q a0 a1 a2 a3 σ := by
  unfold LX12_changedOf_4
  refine K_iload_n 3 (kdA dt_MX12_changedOf 4 rfl) rfl rfl ?_
  refine K_bipush (kdA dt_MX12_changedOf 5 rfl) (by decide +kernel) ?_
  refine K_icmp_ge (tgt := 92) (kdA dt_MX12_changedOf 6 rfl) rfl (fun c => ?_) (fun c => ?_)
  · have h := h.1 c
    refine K_iload_n 2 (kdA dt_MX12_changedOf 53 rfl) rfl rfl ?_
    exact K_ireturn (kdA dt_MX12_changedOf 54 rfl) rfl ⟨rfl, _, rfl, h⟩
  · have h := h.2 c
    refine K_iconst (kdA dt_MX12_changedOf 7 rfl) (by decide) ?_
    refine K_istore (ls' := [(0, (2, a0)), (1, (0, a1)), (2, (0, a2)), (3, (0, a3)), (4, (0, 0))]) (kdA dt_MX12_changedOf 8 rfl) (by decide) rfl ?_
    refine K_iconst (kdA dt_MX12_changedOf 9 rfl) (by decide) ?_
    refine K_istore (ls' := [(0, (2, a0)), (1, (0, a1)), (2, (0, a2)), (3, (0, a3)), (4, (0, 0)), (5, (0, 0))]) (kdA dt_MX12_changedOf 10 rfl) (by decide) rfl ?_
    exact h
theorem SX12_changedOf_16 {d n : Nat} {Q : Int → kS → Prop} {a0 a1 a2 a3 a4 a5 : Int} {σ : kS} (h : (4 ≤ a5 → (a4 = 0 → (-2147483648 ≤ (a2 + 0) ∧ (a2 + 0) ≤ 2147483647) ∧ ((-2147483648 ≤ (a3 + 1) ∧ (a3 + 1) ≤ 2147483647) ∧ (LX12_changedOf_4 d n Q a0 a1 (a2 + 0) (a3 + 1) σ))) ∧ (¬ a4 = 0 → (-2147483648 ≤ (a2 + 1) ∧ (a2 + 1) ≤ 2147483647) ∧ ((-2147483648 ≤ (a3 + 1) ∧ (a3 + 1) ≤ 2147483647) ∧ (LX12_changedOf_4 d n Q a0 a1 (a2 + 1) (a3 + 1) σ)))) ∧ (¬ 4 ≤ a5 → (¬ a4 = 0 → (-2147483648 ≤ (a5 + 1) ∧ (a5 + 1) ≤ 2147483647) ∧ (LX12_changedOf_16 d n Q a0 a1 a2 a3 1 (a5 + 1) σ)) ∧ (¬ (¬ a4 = 0) → isO 12 n a0 ∧ ((-2147483648 ≤ (120 * a5) ∧ (120 * a5) ≤ 2147483647) ∧ ((-2147483648 ≤ ((120 * a5) + a3) ∧ ((120 * a5) + a3) ≤ 2147483647) ∧ (isA 20 n (σ a0 1) ∧ (((0 : Int) ≤ ((120 * a5) + a3) ∧ ((120 * a5) + a3) < klen (σ a0 1)) ∧ ((-2147483648 ≤ (480 * a1) ∧ (480 * a1) ≤ 2147483647) ∧ ((-2147483648 ≤ ((480 * a1) + (120 * a5)) ∧ ((480 * a1) + (120 * a5)) ≤ 2147483647) ∧ ((-2147483648 ≤ (((480 * a1) + (120 * a5)) + a3) ∧ (((480 * a1) + (120 * a5)) + a3) ≤ 2147483647) ∧ (isA 20 n (σ a0 65) ∧ (((0 : Int) ≤ (((480 * a1) + (120 * a5)) + a3) ∧ (((480 * a1) + (120 * a5)) + a3) < klen (σ a0 65)) ∧ (((σ (σ a0 1) ((120 * a5) + a3)) = (σ (σ a0 65) (((480 * a1) + (120 * a5)) + a3)) → (-2147483648 ≤ (a5 + 1) ∧ (a5 + 1) ≤ 2147483647) ∧ (LX12_changedOf_16 d n Q a0 a1 a2 a3 0 (a5 + 1) σ)) ∧ (¬ (σ (σ a0 1) ((120 * a5) + a3)) = (σ (σ a0 65) (((480 * a1) + (120 * a5)) + a3)) → (-2147483648 ≤ (a5 + 1) ∧ (a5 + 1) ≤ 2147483647) ∧ (LX12_changedOf_16 d n Q a0 a1 a2 a3 1 (a5 + 1) σ))))))))))))))) : LX12_changedOf_16 d n Q a0 a1 a2 a3 a4 a5 σ := by
  unfold LX12_changedOf_16
  refine K_iload 5 (kdA dt_MX12_changedOf 11 rfl) rfl ?_
  refine K_iconst (kdA dt_MX12_changedOf 12 rfl) (by decide) ?_
  refine K_icmp_ge (tgt := 73) (kdA dt_MX12_changedOf 13 rfl) rfl (fun c => ?_) (fun c => ?_)
  · have h := h.1 c
    refine K_iload_n 2 (kdA dt_MX12_changedOf 43 rfl) rfl rfl ?_
    refine K_iload 4 (kdA dt_MX12_changedOf 44 rfl) rfl ?_
    refine K_if_eq (tgt := 83) (kdA dt_MX12_changedOf 45 rfl) rfl (fun c => ?_) (fun c => ?_)
    · have h := h.1 c
      refine K_iconst (kdA dt_MX12_changedOf 48 rfl) (by decide) ?_
      obtain ⟨c1, h⟩ := h
      refine K_iadd (kdA dt_MX12_changedOf 49 rfl) c1 ?_
      refine K_istore_n (ls' := [(0, (2, a0)), (1, (0, a1)), (2, (0, (a2 + 0))), (3, (0, a3)), (4, (0, a4)), (5, (0, a5))]) (kdA dt_MX12_changedOf 50 rfl) rfl (by decide) rfl ?_
      obtain ⟨c2, h⟩ := h
      refine K_iinc (ls' := [(0, (2, a0)), (1, (0, a1)), (2, (0, (a2 + 0))), (3, (0, (a3 + 1))), (4, (0, a4)), (5, (0, a5))]) 3 (kdA dt_MX12_changedOf 51 rfl) rfl c2 (by decide) rfl ?_
      refine K_goto (tgt := 4) (kdA dt_MX12_changedOf 52 rfl) rfl ?_
      refine K_pick [0, 1, 2, 3] (ls' := [(0, (2, a0)), (1, (0, a1)), (2, (0, (a2 + 0))), (3, (0, (a3 + 1)))]) rfl ?_
      exact h
    · have h := h.2 c
      refine K_iconst (kdA dt_MX12_changedOf 46 rfl) (by decide) ?_
      refine K_goto (tgt := 84) (kdA dt_MX12_changedOf 47 rfl) rfl ?_
      obtain ⟨c1, h⟩ := h
      refine K_iadd (kdA dt_MX12_changedOf 49 rfl) c1 ?_
      refine K_istore_n (ls' := [(0, (2, a0)), (1, (0, a1)), (2, (0, (a2 + 1))), (3, (0, a3)), (4, (0, a4)), (5, (0, a5))]) (kdA dt_MX12_changedOf 50 rfl) rfl (by decide) rfl ?_
      obtain ⟨c2, h⟩ := h
      refine K_iinc (ls' := [(0, (2, a0)), (1, (0, a1)), (2, (0, (a2 + 1))), (3, (0, (a3 + 1))), (4, (0, a4)), (5, (0, a5))]) 3 (kdA dt_MX12_changedOf 51 rfl) rfl c2 (by decide) rfl ?_
      refine K_goto (tgt := 4) (kdA dt_MX12_changedOf 52 rfl) rfl ?_
      refine K_pick [0, 1, 2, 3] (ls' := [(0, (2, a0)), (1, (0, a1)), (2, (0, (a2 + 1))), (3, (0, (a3 + 1)))]) rfl ?_
      exact h
  · have h := h.2 c
    refine K_iload 4 (kdA dt_MX12_changedOf 14 rfl) rfl ?_
    refine K_if_ne (tgt := 60) (kdA dt_MX12_changedOf 15 rfl) rfl (fun c => ?_) (fun c => ?_)
    · have h := h.1 c
      refine K_iconst (kdA dt_MX12_changedOf 37 rfl) (by decide) ?_
      refine K_goto (tgt := 65) (kdA dt_MX12_changedOf 38 rfl) rfl ?_
      refine K_istore (ls' := [(0, (2, a0)), (1, (0, a1)), (2, (0, a2)), (3, (0, a3)), (4, (0, 1)), (5, (0, a5))]) (kdA dt_MX12_changedOf 40 rfl) (by decide) rfl ?_
      obtain ⟨c1, h⟩ := h
      refine K_iinc (ls' := [(0, (2, a0)), (1, (0, a1)), (2, (0, a2)), (3, (0, a3)), (4, (0, 1)), (5, (0, (a5 + 1)))]) 5 (kdA dt_MX12_changedOf 41 rfl) rfl c1 (by decide) rfl ?_
      refine K_goto (tgt := 16) (kdA dt_MX12_changedOf 42 rfl) rfl ?_
      exact h
    · have h := h.2 c
      refine K_aload_n 0 (kdA dt_MX12_changedOf 16 rfl) rfl rfl ?_
      obtain ⟨c1, h⟩ := h
      refine gf12_9 rfl (kdA dt_MX12_changedOf 17 rfl) c1 ?_
      refine K_bipush (kdA dt_MX12_changedOf 18 rfl) (by decide +kernel) ?_
      refine K_iload 5 (kdA dt_MX12_changedOf 19 rfl) rfl ?_
      obtain ⟨c2, h⟩ := h
      refine K_imul (kdA dt_MX12_changedOf 20 rfl) c2 ?_
      refine K_iload_n 3 (kdA dt_MX12_changedOf 21 rfl) rfl rfl ?_
      obtain ⟨c3, h⟩ := h
      refine K_iadd (kdA dt_MX12_changedOf 22 rfl) c3 ?_
      obtain ⟨c4, h⟩ := h
      obtain ⟨c5, h⟩ := h
      refine K_iaload (kdA dt_MX12_changedOf 23 rfl) c4 c5.1 c5.2 ?_
      refine K_aload_n 0 (kdA dt_MX12_changedOf 24 rfl) rfl rfl ?_
      refine gf12_139 rfl (kdA dt_MX12_changedOf 25 rfl) c1 ?_
      refine K_sipush (kdA dt_MX12_changedOf 26 rfl) (by decide +kernel) ?_
      refine K_iload_n 1 (kdA dt_MX12_changedOf 27 rfl) rfl rfl ?_
      obtain ⟨c6, h⟩ := h
      refine K_imul (kdA dt_MX12_changedOf 28 rfl) c6 ?_
      refine K_bipush (kdA dt_MX12_changedOf 29 rfl) (by decide +kernel) ?_
      refine K_iload 5 (kdA dt_MX12_changedOf 30 rfl) rfl ?_
      refine K_imul (kdA dt_MX12_changedOf 31 rfl) c2 ?_
      obtain ⟨c7, h⟩ := h
      refine K_iadd (kdA dt_MX12_changedOf 32 rfl) c7 ?_
      refine K_iload_n 3 (kdA dt_MX12_changedOf 33 rfl) rfl rfl ?_
      obtain ⟨c8, h⟩ := h
      refine K_iadd (kdA dt_MX12_changedOf 34 rfl) c8 ?_
      obtain ⟨c9, h⟩ := h
      obtain ⟨c10, h⟩ := h
      refine K_iaload (kdA dt_MX12_changedOf 35 rfl) c9 c10.1 c10.2 ?_
      refine K_icmp_eq (tgt := 64) (kdA dt_MX12_changedOf 36 rfl) rfl (fun c => ?_) (fun c => ?_)
      · have h := h.1 c
        refine K_iconst (kdA dt_MX12_changedOf 39 rfl) (by decide) ?_
        refine K_istore (ls' := [(0, (2, a0)), (1, (0, a1)), (2, (0, a2)), (3, (0, a3)), (4, (0, 0)), (5, (0, a5))]) (kdA dt_MX12_changedOf 40 rfl) (by decide) rfl ?_
        obtain ⟨c11, h⟩ := h
        refine K_iinc (ls' := [(0, (2, a0)), (1, (0, a1)), (2, (0, a2)), (3, (0, a3)), (4, (0, 0)), (5, (0, (a5 + 1)))]) 5 (kdA dt_MX12_changedOf 41 rfl) rfl c11 (by decide) rfl ?_
        refine K_goto (tgt := 16) (kdA dt_MX12_changedOf 42 rfl) rfl ?_
        exact h
      · have h := h.2 c
        refine K_iconst (kdA dt_MX12_changedOf 37 rfl) (by decide) ?_
        refine K_goto (tgt := 65) (kdA dt_MX12_changedOf 38 rfl) rfl ?_
        refine K_istore (ls' := [(0, (2, a0)), (1, (0, a1)), (2, (0, a2)), (3, (0, a3)), (4, (0, 1)), (5, (0, a5))]) (kdA dt_MX12_changedOf 40 rfl) (by decide) rfl ?_
        obtain ⟨c11, h⟩ := h
        refine K_iinc (ls' := [(0, (2, a0)), (1, (0, a1)), (2, (0, a2)), (3, (0, a3)), (4, (0, 1)), (5, (0, (a5 + 1)))]) 5 (kdA dt_MX12_changedOf 41 rfl) rfl c11 (by decide) rfl ?_
        refine K_goto (tgt := 16) (kdA dt_MX12_changedOf 42 rfl) rfl ?_
        exact h
theorem EX12_changedOf {d n : Nat} {Q : Int → kS → Prop} {a0 a1 : Int} {σ : kS} (h : (-2147483648 ≤ a1 ∧ a1 ≤ 2147483647) → kokw n σ → LX12_changedOf_0 d n Q a0 a1 σ) : Ci (d + 1) MX12_changedOf [(2, a0), (0, a1)] n σ Q := Tri_of (by decide +kernel) (Nat.le_of_ble_eq_true rfl) (fun hk hw => h (hk (0, a1) (List.mem_of_getElem? (i := 1) rfl)) hw)

def LX12_clause_0 (d n : Nat) (Q : kS → Prop) (a0 : Int) (σ : kS) : Prop := K (d + 1) MX12_clause (kPv n Q) (0, 0) 0 [(0, (2, a0))] [] n σ
theorem SX12_clause_0 {d n : Nat} {Q : kS → Prop} {a0 : Int} {σ : kS} (h : isO 12 n a0 ∧ (Ci d MX12_look [(2, a0)] n σ (fun x2 s1 => Ci d MX12_isAmong [(2, (-5)), (0, x2)] n s1 (fun x3 s2 => (¬ x3 = 0 → (-2147483648 ≤ ((s2 a0 18) + 1) ∧ ((s2 a0 18) + 1) ≤ 2147483647) ∧ (∀ s3, s3 = kst s2 a0 18 ((s2 a0 18) + 1) → Ci d MX12_takes [(2, a0), (0, 58)] n s3 (fun x5 s4 => (¬ x5 = 0 → Ci d MX12_look [(2, a0)] n s4 (fun x6 s5 => (x6 = 33 → Ci d MX12_condition [(2, a0), (0, 0), (0, 0)] n s5 (fun x7 s6 => Ci d MX12_takes [(2, a0), (0, 63)] n s6 (fun x8 s7 => (¬ x8 = 0 → Ci d MX12_sum [(2, a0)] n s7 (fun x9 s8 => (¬ (s8 a0 19) = (-1) → Q s8) ∧ (¬ (¬ (s8 a0 19) = (-1)) → (¬ (s8 a0 25) = 0 → Q s8) ∧ (¬ (¬ (s8 a0 25) = 0) → (¬ x2 = (s8 a0 21) → Q s8) ∧ (¬ (¬ x2 = (s8 a0 21)) → (¬ x7 = 0 → ∀ s9, s9 = kst s8 a0 25 1 → ∀ s10, s10 = kst s9 a0 22 x9 → Q s10) ∧ (¬ (¬ x7 = 0) → Q s8)))))) ∧ (¬ (¬ x8 = 0) → Q s7)))) ∧ (¬ x6 = 33 → (¬ x6 = 40 → Ci d MX12_sum [(2, a0)] n s5 (fun x7 s6 => (¬ (s6 a0 19) = (-1) → (¬ (s6 a0 19) = (-1) → Q s6) ∧ (¬ (¬ (s6 a0 19) = (-1)) → (¬ (s6 a0 25) = 0 → Q s6) ∧ (¬ (¬ (s6 a0 25) = 0) → (¬ x2 = (s6 a0 21) → Q s6) ∧ (¬ (¬ x2 = (s6 a0 21)) → ∀ s7, s7 = kst s6 a0 25 1 → ∀ s8, s8 = kst s7 a0 22 x7 → Q s8)))) ∧ (¬ (¬ (s6 a0 19) = (-1)) → Ci d MX12_look [(2, a0)] n s6 (fun x8 s7 => Ci d MX12_isSign [(0, x8)] n s7 (fun x9 s8 => (x9 = 0 → (¬ (s8 a0 19) = (-1) → Q s8) ∧ (¬ (¬ (s8 a0 19) = (-1)) → (¬ (s8 a0 25) = 0 → Q s8) ∧ (¬ (¬ (s8 a0 25) = 0) → (¬ x2 = (s8 a0 21) → Q s8) ∧ (¬ (¬ x2 = (s8 a0 21)) → ∀ s9, s9 = kst s8 a0 25 1 → ∀ s10, s10 = kst s9 a0 22 x7 → Q s10)))) ∧ (¬ x9 = 0 → Ci d MX12_condition [(2, a0), (0, 1), (0, x7)] n s8 (fun x10 s9 => Ci d MX12_takes [(2, a0), (0, 63)] n s9 (fun x11 s10 => (¬ x11 = 0 → Ci d MX12_sum [(2, a0)] n s10 (fun x12 s11 => (¬ (s11 a0 19) = (-1) → Q s11) ∧ (¬ (¬ (s11 a0 19) = (-1)) → (¬ (s11 a0 25) = 0 → Q s11) ∧ (¬ (¬ (s11 a0 25) = 0) → (¬ x2 = (s11 a0 21) → Q s11) ∧ (¬ (¬ x2 = (s11 a0 21)) → (¬ x10 = 0 → ∀ s12, s12 = kst s11 a0 25 1 → ∀ s13, s13 = kst s12 a0 22 x12 → Q s13) ∧ (¬ (¬ x10 = 0) → Q s11)))))) ∧ (¬ (¬ x11 = 0) → Q s10))))))))) ∧ (¬ (¬ x6 = 40) → Ci d MX12_condition [(2, a0), (0, 0), (0, 0)] n s5 (fun x7 s6 => Ci d MX12_takes [(2, a0), (0, 63)] n s6 (fun x8 s7 => (¬ x8 = 0 → Ci d MX12_sum [(2, a0)] n s7 (fun x9 s8 => (¬ (s8 a0 19) = (-1) → Q s8) ∧ (¬ (¬ (s8 a0 19) = (-1)) → (¬ (s8 a0 25) = 0 → Q s8) ∧ (¬ (¬ (s8 a0 25) = 0) → (¬ x2 = (s8 a0 21) → Q s8) ∧ (¬ (¬ x2 = (s8 a0 21)) → (¬ x7 = 0 → ∀ s9, s9 = kst s8 a0 25 1 → ∀ s10, s10 = kst s9 a0 22 x9 → Q s10) ∧ (¬ (¬ x7 = 0) → Q s8)))))) ∧ (¬ (¬ x8 = 0) → Q s7))))))) ∧ (¬ (¬ x5 = 0) → Q s4)))) ∧ (¬ (¬ x3 = 0) → Ci d MX12_fails [(2, a0)] n s2 (fun x4 s3 => Q s3)))))) : LX12_clause_0 d n Q a0 σ := by
  unfold LX12_clause_0
  refine K_aload_n 0 (kdA dt_MX12_clause 0 rfl) rfl rfl ?_
  obtain ⟨c1, h⟩ := h
  refine K_cVi (c := 12) (as := []) (st := []) (kdA dt_MX12_clause 1 rfl) rfl cl_MX12_look lk12_222 rfl rfl (Nat.le_of_ble_eq_true rfl) c1 (Ci.mono h (fun x2 s1 h => ?_))
  refine K_istore_n (ls' := [(0, (2, a0)), (1, (0, x2))]) (kdA dt_MX12_clause 2 rfl) rfl (by decide) rfl ?_
  refine K_ldcY (kdA dt_MX12_clause 3 rfl) rfl ?_
  refine K_iload_n 1 (kdA dt_MX12_clause 4 rfl) rfl rfl ?_
  refine K_cSi (as := [(2, (-5)), (0, x2)]) (st := []) (kdA dt_MX12_clause 5 rfl) cl_MX12_isAmong lk12_235 rfl rfl (Nat.le_of_ble_eq_true rfl) (Ci.mono h (fun x3 s2 h => ?_))
  refine K_if_ne (tgt := 20) (kdA dt_MX12_clause 6 rfl) rfl (fun c => ?_) (fun c => ?_)
  · have h := h.1 c
    refine K_aload_n 0 (kdA dt_MX12_clause 11 rfl) rfl rfl ?_
    refine K_dup (kdA dt_MX12_clause 12 rfl) rfl ?_
    refine gf12_203 rfl (kdA dt_MX12_clause 13 rfl) c1 ?_
    refine K_iconst (kdA dt_MX12_clause 14 rfl) (by decide) ?_
    obtain ⟨c4, h⟩ := h
    refine K_iadd (kdA dt_MX12_clause 15 rfl) c4 ?_
    refine pf12_203 rfl (kdA dt_MX12_clause 16 rfl) c1 (fun s3 es3 => ?_)
    have h := h s3 es3
    refine K_aload_n 0 (kdA dt_MX12_clause 17 rfl) rfl rfl ?_
    refine K_bipush (kdA dt_MX12_clause 18 rfl) (by decide +kernel) ?_
    refine K_cVi (c := 12) (as := [(0, 58)]) (st := []) (kdA dt_MX12_clause 19 rfl) rfl cl_MX12_takes lk12_245 rfl rfl (Nat.le_of_ble_eq_true rfl) c1 (Ci.mono h (fun x5 s4 h => ?_))
    refine K_if_ne (tgt := 40) (kdA dt_MX12_clause 20 rfl) rfl (fun c => ?_) (fun c => ?_)
    · have h := h.1 c
      refine K_iconst (kdA dt_MX12_clause 22 rfl) (by decide) ?_
      refine K_istore_n (ls' := [(0, (2, a0)), (1, (0, x2)), (2, (0, 1))]) (kdA dt_MX12_clause 23 rfl) rfl (by decide) rfl ?_
      refine K_iconst (kdA dt_MX12_clause 24 rfl) (by decide) ?_
      refine K_istore_n (ls' := [(0, (2, a0)), (1, (0, x2)), (2, (0, 1)), (3, (0, 0))]) (kdA dt_MX12_clause 25 rfl) rfl (by decide) rfl ?_
      refine K_aload_n 0 (kdA dt_MX12_clause 26 rfl) rfl rfl ?_
      refine K_cVi (c := 12) (as := []) (st := []) (kdA dt_MX12_clause 27 rfl) rfl cl_MX12_look lk12_222 rfl rfl (Nat.le_of_ble_eq_true rfl) c1 (Ci.mono h (fun x6 s5 h => ?_))
      refine K_istore (ls' := [(0, (2, a0)), (1, (0, x2)), (2, (0, 1)), (3, (0, 0)), (4, (0, x6))]) (kdA dt_MX12_clause 28 rfl) (by decide) rfl ?_
      refine K_iload 4 (kdA dt_MX12_clause 29 rfl) rfl ?_
      refine K_bipush (kdA dt_MX12_clause 30 rfl) (by decide +kernel) ?_
      refine K_icmp_eq (tgt := 64) (kdA dt_MX12_clause 31 rfl) rfl (fun c => ?_) (fun c => ?_)
      · have h := h.1 c
        refine K_aload_n 0 (kdA dt_MX12_clause 35 rfl) rfl rfl ?_
        refine K_iconst (kdA dt_MX12_clause 36 rfl) (by decide) ?_
        refine K_iconst (kdA dt_MX12_clause 37 rfl) (by decide) ?_
        refine K_cVi (c := 12) (as := [(0, 0), (0, 0)]) (st := []) (kdA dt_MX12_clause 38 rfl) rfl cl_MX12_condition lk12_267 rfl rfl (Nat.le_of_ble_eq_true rfl) c1 (Ci.mono h (fun x7 s6 h => ?_))
        refine K_istore_n (ls' := [(0, (2, a0)), (1, (0, x2)), (2, (0, x7)), (3, (0, 0)), (4, (0, x6))]) (kdA dt_MX12_clause 39 rfl) rfl (by decide) rfl ?_
        refine K_aload_n 0 (kdA dt_MX12_clause 40 rfl) rfl rfl ?_
        refine K_bipush (kdA dt_MX12_clause 41 rfl) (by decide +kernel) ?_
        refine K_cVi (c := 12) (as := [(0, 63)]) (st := []) (kdA dt_MX12_clause 42 rfl) rfl cl_MX12_takes lk12_245 rfl rfl (Nat.le_of_ble_eq_true rfl) c1 (Ci.mono h (fun x8 s7 h => ?_))
        refine K_if_ne (tgt := 81) (kdA dt_MX12_clause 43 rfl) rfl (fun c => ?_) (fun c => ?_)
        · have h := h.1 c
          refine K_aload_n 0 (kdA dt_MX12_clause 45 rfl) rfl rfl ?_
          refine K_cVi (c := 12) (as := []) (st := []) (kdA dt_MX12_clause 46 rfl) rfl cl_MX12_sum lk12_242 rfl rfl (Nat.le_of_ble_eq_true rfl) c1 (Ci.mono h (fun x9 s8 h => ?_))
          refine K_istore_n (ls' := [(0, (2, a0)), (1, (0, x2)), (2, (0, x7)), (3, (0, x9)), (4, (0, x6))]) (kdA dt_MX12_clause 47 rfl) rfl (by decide) rfl ?_
          refine K_goto (tgt := 134) (kdA dt_MX12_clause 48 rfl) rfl ?_
          refine K_aload_n 0 (kdA dt_MX12_clause 73 rfl) rfl rfl ?_
          refine gf12_212 rfl (kdA dt_MX12_clause 74 rfl) c1 ?_
          refine K_iconst (kdA dt_MX12_clause 75 rfl) (by decide) ?_
          refine K_icmp_ne (tgt := 161) (kdA dt_MX12_clause 76 rfl) rfl (fun c => ?_) (fun c => ?_)
          · have h := h.1 c
            exact K_return (kdA dt_MX12_clause 86 rfl) rfl ⟨rfl, rfl, h⟩
          · have h := h.2 c
            refine K_aload_n 0 (kdA dt_MX12_clause 77 rfl) rfl rfl ?_
            refine gf12_277 rfl (kdA dt_MX12_clause 78 rfl) c1 ?_
            refine K_if_ne (tgt := 161) (kdA dt_MX12_clause 79 rfl) rfl (fun c => ?_) (fun c => ?_)
            · have h := h.1 c
              exact K_return (kdA dt_MX12_clause 86 rfl) rfl ⟨rfl, rfl, h⟩
            · have h := h.2 c
              refine K_iload_n 1 (kdA dt_MX12_clause 80 rfl) rfl rfl ?_
              refine K_aload_n 0 (kdA dt_MX12_clause 81 rfl) rfl rfl ?_
              refine gf12_281 rfl (kdA dt_MX12_clause 82 rfl) c1 ?_
              refine K_icmp_ne (tgt := 161) (kdA dt_MX12_clause 83 rfl) rfl (fun c => ?_) (fun c => ?_)
              · have h := h.1 c
                exact K_return (kdA dt_MX12_clause 86 rfl) rfl ⟨rfl, rfl, h⟩
              · have h := h.2 c
                refine K_iload_n 2 (kdA dt_MX12_clause 84 rfl) rfl rfl ?_
                refine K_if_ne (tgt := 162) (kdA dt_MX12_clause 85 rfl) rfl (fun c => ?_) (fun c => ?_)
                · have h := h.1 c
                  refine K_aload_n 0 (kdA dt_MX12_clause 87 rfl) rfl rfl ?_
                  refine K_iconst (kdA dt_MX12_clause 88 rfl) (by decide) ?_
                  refine pf12_277 rfl (kdA dt_MX12_clause 89 rfl) c1 (by decide) (fun s9 es9 => ?_)
                  have h := h s9 es9
                  refine K_aload_n 0 (kdA dt_MX12_clause 90 rfl) rfl rfl ?_
                  refine K_iload_n 3 (kdA dt_MX12_clause 91 rfl) rfl rfl ?_
                  refine pf12_284 rfl (kdA dt_MX12_clause 92 rfl) c1 (fun s10 es10 => ?_)
                  have h := h s10 es10
                  exact K_return (kdA dt_MX12_clause 93 rfl) rfl ⟨rfl, rfl, h⟩
                · have h := h.2 c
                  exact K_return (kdA dt_MX12_clause 86 rfl) rfl ⟨rfl, rfl, h⟩
        · have h := h.2 c
          exact K_return (kdA dt_MX12_clause 44 rfl) rfl ⟨rfl, rfl, h⟩
      · have h := h.2 c
        refine K_iload 4 (kdA dt_MX12_clause 32 rfl) rfl ?_
        refine K_bipush (kdA dt_MX12_clause 33 rfl) (by decide +kernel) ?_
        refine K_icmp_ne (tgt := 89) (kdA dt_MX12_clause 34 rfl) rfl (fun c => ?_) (fun c => ?_)
        · have h := h.1 c
          refine K_aload_n 0 (kdA dt_MX12_clause 49 rfl) rfl rfl ?_
          refine K_cVi (c := 12) (as := []) (st := []) (kdA dt_MX12_clause 50 rfl) rfl cl_MX12_sum lk12_242 rfl rfl (Nat.le_of_ble_eq_true rfl) c1 (Ci.mono h (fun x7 s6 h => ?_))
          refine K_istore_n (ls' := [(0, (2, a0)), (1, (0, x2)), (2, (0, 1)), (3, (0, x7)), (4, (0, x6))]) (kdA dt_MX12_clause 51 rfl) rfl (by decide) rfl ?_
          refine K_aload_n 0 (kdA dt_MX12_clause 52 rfl) rfl rfl ?_
          refine gf12_212 rfl (kdA dt_MX12_clause 53 rfl) c1 ?_
          refine K_iconst (kdA dt_MX12_clause 54 rfl) (by decide) ?_
          refine K_icmp_ne (tgt := 134) (kdA dt_MX12_clause 55 rfl) rfl (fun c => ?_) (fun c => ?_)
          · have h := h.1 c
            refine K_aload_n 0 (kdA dt_MX12_clause 73 rfl) rfl rfl ?_
            refine gf12_212 rfl (kdA dt_MX12_clause 74 rfl) c1 ?_
            refine K_iconst (kdA dt_MX12_clause 75 rfl) (by decide) ?_
            refine K_icmp_ne (tgt := 161) (kdA dt_MX12_clause 76 rfl) rfl (fun c => ?_) (fun c => ?_)
            · have h := h.1 c
              exact K_return (kdA dt_MX12_clause 86 rfl) rfl ⟨rfl, rfl, h⟩
            · have h := h.2 c
              refine K_aload_n 0 (kdA dt_MX12_clause 77 rfl) rfl rfl ?_
              refine gf12_277 rfl (kdA dt_MX12_clause 78 rfl) c1 ?_
              refine K_if_ne (tgt := 161) (kdA dt_MX12_clause 79 rfl) rfl (fun c => ?_) (fun c => ?_)
              · have h := h.1 c
                exact K_return (kdA dt_MX12_clause 86 rfl) rfl ⟨rfl, rfl, h⟩
              · have h := h.2 c
                refine K_iload_n 1 (kdA dt_MX12_clause 80 rfl) rfl rfl ?_
                refine K_aload_n 0 (kdA dt_MX12_clause 81 rfl) rfl rfl ?_
                refine gf12_281 rfl (kdA dt_MX12_clause 82 rfl) c1 ?_
                refine K_icmp_ne (tgt := 161) (kdA dt_MX12_clause 83 rfl) rfl (fun c => ?_) (fun c => ?_)
                · have h := h.1 c
                  exact K_return (kdA dt_MX12_clause 86 rfl) rfl ⟨rfl, rfl, h⟩
                · have h := h.2 c
                  refine K_iload_n 2 (kdA dt_MX12_clause 84 rfl) rfl rfl ?_
                  refine K_if_ne (tgt := 162) (kdA dt_MX12_clause 85 rfl) rfl (fun _ => ?_) (fun c => absurd (by decide) c)
                  refine K_aload_n 0 (kdA dt_MX12_clause 87 rfl) rfl rfl ?_
                  refine K_iconst (kdA dt_MX12_clause 88 rfl) (by decide) ?_
                  refine pf12_277 rfl (kdA dt_MX12_clause 89 rfl) c1 (by decide) (fun s7 es7 => ?_)
                  have h := h s7 es7
                  refine K_aload_n 0 (kdA dt_MX12_clause 90 rfl) rfl rfl ?_
                  refine K_iload_n 3 (kdA dt_MX12_clause 91 rfl) rfl rfl ?_
                  refine pf12_284 rfl (kdA dt_MX12_clause 92 rfl) c1 (fun s8 es8 => ?_)
                  have h := h s8 es8
                  exact K_return (kdA dt_MX12_clause 93 rfl) rfl ⟨rfl, rfl, h⟩
          · have h := h.2 c
            refine K_aload_n 0 (kdA dt_MX12_clause 56 rfl) rfl rfl ?_
            refine K_cVi (c := 12) (as := []) (st := []) (kdA dt_MX12_clause 57 rfl) rfl cl_MX12_look lk12_222 rfl rfl (Nat.le_of_ble_eq_true rfl) c1 (Ci.mono h (fun x8 s7 h => ?_))
            refine K_cSi (as := [(0, x8)]) (st := []) (kdA dt_MX12_clause 58 rfl) cl_MX12_isSign lk12_261 rfl rfl (Nat.le_of_ble_eq_true rfl) (Ci.mono h (fun x9 s8 h => ?_))
            refine K_if_eq (tgt := 134) (kdA dt_MX12_clause 59 rfl) rfl (fun c => ?_) (fun c => ?_)
            · have h := h.1 c
              refine K_aload_n 0 (kdA dt_MX12_clause 73 rfl) rfl rfl ?_
              refine gf12_212 rfl (kdA dt_MX12_clause 74 rfl) c1 ?_
              refine K_iconst (kdA dt_MX12_clause 75 rfl) (by decide) ?_
              refine K_icmp_ne (tgt := 161) (kdA dt_MX12_clause 76 rfl) rfl (fun c => ?_) (fun c => ?_)
              · have h := h.1 c
                exact K_return (kdA dt_MX12_clause 86 rfl) rfl ⟨rfl, rfl, h⟩
              · have h := h.2 c
                refine K_aload_n 0 (kdA dt_MX12_clause 77 rfl) rfl rfl ?_
                refine gf12_277 rfl (kdA dt_MX12_clause 78 rfl) c1 ?_
                refine K_if_ne (tgt := 161) (kdA dt_MX12_clause 79 rfl) rfl (fun c => ?_) (fun c => ?_)
                · have h := h.1 c
                  exact K_return (kdA dt_MX12_clause 86 rfl) rfl ⟨rfl, rfl, h⟩
                · have h := h.2 c
                  refine K_iload_n 1 (kdA dt_MX12_clause 80 rfl) rfl rfl ?_
                  refine K_aload_n 0 (kdA dt_MX12_clause 81 rfl) rfl rfl ?_
                  refine gf12_281 rfl (kdA dt_MX12_clause 82 rfl) c1 ?_
                  refine K_icmp_ne (tgt := 161) (kdA dt_MX12_clause 83 rfl) rfl (fun c => ?_) (fun c => ?_)
                  · have h := h.1 c
                    exact K_return (kdA dt_MX12_clause 86 rfl) rfl ⟨rfl, rfl, h⟩
                  · have h := h.2 c
                    refine K_iload_n 2 (kdA dt_MX12_clause 84 rfl) rfl rfl ?_
                    refine K_if_ne (tgt := 162) (kdA dt_MX12_clause 85 rfl) rfl (fun _ => ?_) (fun c => absurd (by decide) c)
                    refine K_aload_n 0 (kdA dt_MX12_clause 87 rfl) rfl rfl ?_
                    refine K_iconst (kdA dt_MX12_clause 88 rfl) (by decide) ?_
                    refine pf12_277 rfl (kdA dt_MX12_clause 89 rfl) c1 (by decide) (fun s9 es9 => ?_)
                    have h := h s9 es9
                    refine K_aload_n 0 (kdA dt_MX12_clause 90 rfl) rfl rfl ?_
                    refine K_iload_n 3 (kdA dt_MX12_clause 91 rfl) rfl rfl ?_
                    refine pf12_284 rfl (kdA dt_MX12_clause 92 rfl) c1 (fun s10 es10 => ?_)
                    have h := h s10 es10
                    exact K_return (kdA dt_MX12_clause 93 rfl) rfl ⟨rfl, rfl, h⟩
            · have h := h.2 c
              refine K_aload_n 0 (kdA dt_MX12_clause 60 rfl) rfl rfl ?_
              refine K_iconst (kdA dt_MX12_clause 61 rfl) (by decide) ?_
              refine K_iload_n 3 (kdA dt_MX12_clause 62 rfl) rfl rfl ?_
              refine K_cVi (c := 12) (as := [(0, 1), (0, x7)]) (st := []) (kdA dt_MX12_clause 63 rfl) rfl cl_MX12_condition lk12_267 rfl rfl (Nat.le_of_ble_eq_true rfl) c1 (Ci.mono h (fun x10 s9 h => ?_))
              refine K_istore_n (ls' := [(0, (2, a0)), (1, (0, x2)), (2, (0, x10)), (3, (0, x7)), (4, (0, x6))]) (kdA dt_MX12_clause 64 rfl) rfl (by decide) rfl ?_
              refine K_aload_n 0 (kdA dt_MX12_clause 65 rfl) rfl rfl ?_
              refine K_bipush (kdA dt_MX12_clause 66 rfl) (by decide +kernel) ?_
              refine K_cVi (c := 12) (as := [(0, 63)]) (st := []) (kdA dt_MX12_clause 67 rfl) rfl cl_MX12_takes lk12_245 rfl rfl (Nat.le_of_ble_eq_true rfl) c1 (Ci.mono h (fun x11 s10 h => ?_))
              refine K_if_ne (tgt := 129) (kdA dt_MX12_clause 68 rfl) rfl (fun c => ?_) (fun c => ?_)
              · have h := h.1 c
                refine K_aload_n 0 (kdA dt_MX12_clause 70 rfl) rfl rfl ?_
                refine K_cVi (c := 12) (as := []) (st := []) (kdA dt_MX12_clause 71 rfl) rfl cl_MX12_sum lk12_242 rfl rfl (Nat.le_of_ble_eq_true rfl) c1 (Ci.mono h (fun x12 s11 h => ?_))
                refine K_istore_n (ls' := [(0, (2, a0)), (1, (0, x2)), (2, (0, x10)), (3, (0, x12)), (4, (0, x6))]) (kdA dt_MX12_clause 72 rfl) rfl (by decide) rfl ?_
                refine K_aload_n 0 (kdA dt_MX12_clause 73 rfl) rfl rfl ?_
                refine gf12_212 rfl (kdA dt_MX12_clause 74 rfl) c1 ?_
                refine K_iconst (kdA dt_MX12_clause 75 rfl) (by decide) ?_
                refine K_icmp_ne (tgt := 161) (kdA dt_MX12_clause 76 rfl) rfl (fun c => ?_) (fun c => ?_)
                · have h := h.1 c
                  exact K_return (kdA dt_MX12_clause 86 rfl) rfl ⟨rfl, rfl, h⟩
                · have h := h.2 c
                  refine K_aload_n 0 (kdA dt_MX12_clause 77 rfl) rfl rfl ?_
                  refine gf12_277 rfl (kdA dt_MX12_clause 78 rfl) c1 ?_
                  refine K_if_ne (tgt := 161) (kdA dt_MX12_clause 79 rfl) rfl (fun c => ?_) (fun c => ?_)
                  · have h := h.1 c
                    exact K_return (kdA dt_MX12_clause 86 rfl) rfl ⟨rfl, rfl, h⟩
                  · have h := h.2 c
                    refine K_iload_n 1 (kdA dt_MX12_clause 80 rfl) rfl rfl ?_
                    refine K_aload_n 0 (kdA dt_MX12_clause 81 rfl) rfl rfl ?_
                    refine gf12_281 rfl (kdA dt_MX12_clause 82 rfl) c1 ?_
                    refine K_icmp_ne (tgt := 161) (kdA dt_MX12_clause 83 rfl) rfl (fun c => ?_) (fun c => ?_)
                    · have h := h.1 c
                      exact K_return (kdA dt_MX12_clause 86 rfl) rfl ⟨rfl, rfl, h⟩
                    · have h := h.2 c
                      refine K_iload_n 2 (kdA dt_MX12_clause 84 rfl) rfl rfl ?_
                      refine K_if_ne (tgt := 162) (kdA dt_MX12_clause 85 rfl) rfl (fun c => ?_) (fun c => ?_)
                      · have h := h.1 c
                        refine K_aload_n 0 (kdA dt_MX12_clause 87 rfl) rfl rfl ?_
                        refine K_iconst (kdA dt_MX12_clause 88 rfl) (by decide) ?_
                        refine pf12_277 rfl (kdA dt_MX12_clause 89 rfl) c1 (by decide) (fun s12 es12 => ?_)
                        have h := h s12 es12
                        refine K_aload_n 0 (kdA dt_MX12_clause 90 rfl) rfl rfl ?_
                        refine K_iload_n 3 (kdA dt_MX12_clause 91 rfl) rfl rfl ?_
                        refine pf12_284 rfl (kdA dt_MX12_clause 92 rfl) c1 (fun s13 es13 => ?_)
                        have h := h s13 es13
                        exact K_return (kdA dt_MX12_clause 93 rfl) rfl ⟨rfl, rfl, h⟩
                      · have h := h.2 c
                        exact K_return (kdA dt_MX12_clause 86 rfl) rfl ⟨rfl, rfl, h⟩
              · have h := h.2 c
                exact K_return (kdA dt_MX12_clause 69 rfl) rfl ⟨rfl, rfl, h⟩
        · have h := h.2 c
          refine K_aload_n 0 (kdA dt_MX12_clause 35 rfl) rfl rfl ?_
          refine K_iconst (kdA dt_MX12_clause 36 rfl) (by decide) ?_
          refine K_iconst (kdA dt_MX12_clause 37 rfl) (by decide) ?_
          refine K_cVi (c := 12) (as := [(0, 0), (0, 0)]) (st := []) (kdA dt_MX12_clause 38 rfl) rfl cl_MX12_condition lk12_267 rfl rfl (Nat.le_of_ble_eq_true rfl) c1 (Ci.mono h (fun x7 s6 h => ?_))
          refine K_istore_n (ls' := [(0, (2, a0)), (1, (0, x2)), (2, (0, x7)), (3, (0, 0)), (4, (0, x6))]) (kdA dt_MX12_clause 39 rfl) rfl (by decide) rfl ?_
          refine K_aload_n 0 (kdA dt_MX12_clause 40 rfl) rfl rfl ?_
          refine K_bipush (kdA dt_MX12_clause 41 rfl) (by decide +kernel) ?_
          refine K_cVi (c := 12) (as := [(0, 63)]) (st := []) (kdA dt_MX12_clause 42 rfl) rfl cl_MX12_takes lk12_245 rfl rfl (Nat.le_of_ble_eq_true rfl) c1 (Ci.mono h (fun x8 s7 h => ?_))
          refine K_if_ne (tgt := 81) (kdA dt_MX12_clause 43 rfl) rfl (fun c => ?_) (fun c => ?_)
          · have h := h.1 c
            refine K_aload_n 0 (kdA dt_MX12_clause 45 rfl) rfl rfl ?_
            refine K_cVi (c := 12) (as := []) (st := []) (kdA dt_MX12_clause 46 rfl) rfl cl_MX12_sum lk12_242 rfl rfl (Nat.le_of_ble_eq_true rfl) c1 (Ci.mono h (fun x9 s8 h => ?_))
            refine K_istore_n (ls' := [(0, (2, a0)), (1, (0, x2)), (2, (0, x7)), (3, (0, x9)), (4, (0, x6))]) (kdA dt_MX12_clause 47 rfl) rfl (by decide) rfl ?_
            refine K_goto (tgt := 134) (kdA dt_MX12_clause 48 rfl) rfl ?_
            refine K_aload_n 0 (kdA dt_MX12_clause 73 rfl) rfl rfl ?_
            refine gf12_212 rfl (kdA dt_MX12_clause 74 rfl) c1 ?_
            refine K_iconst (kdA dt_MX12_clause 75 rfl) (by decide) ?_
            refine K_icmp_ne (tgt := 161) (kdA dt_MX12_clause 76 rfl) rfl (fun c => ?_) (fun c => ?_)
            · have h := h.1 c
              exact K_return (kdA dt_MX12_clause 86 rfl) rfl ⟨rfl, rfl, h⟩
            · have h := h.2 c
              refine K_aload_n 0 (kdA dt_MX12_clause 77 rfl) rfl rfl ?_
              refine gf12_277 rfl (kdA dt_MX12_clause 78 rfl) c1 ?_
              refine K_if_ne (tgt := 161) (kdA dt_MX12_clause 79 rfl) rfl (fun c => ?_) (fun c => ?_)
              · have h := h.1 c
                exact K_return (kdA dt_MX12_clause 86 rfl) rfl ⟨rfl, rfl, h⟩
              · have h := h.2 c
                refine K_iload_n 1 (kdA dt_MX12_clause 80 rfl) rfl rfl ?_
                refine K_aload_n 0 (kdA dt_MX12_clause 81 rfl) rfl rfl ?_
                refine gf12_281 rfl (kdA dt_MX12_clause 82 rfl) c1 ?_
                refine K_icmp_ne (tgt := 161) (kdA dt_MX12_clause 83 rfl) rfl (fun c => ?_) (fun c => ?_)
                · have h := h.1 c
                  exact K_return (kdA dt_MX12_clause 86 rfl) rfl ⟨rfl, rfl, h⟩
                · have h := h.2 c
                  refine K_iload_n 2 (kdA dt_MX12_clause 84 rfl) rfl rfl ?_
                  refine K_if_ne (tgt := 162) (kdA dt_MX12_clause 85 rfl) rfl (fun c => ?_) (fun c => ?_)
                  · have h := h.1 c
                    refine K_aload_n 0 (kdA dt_MX12_clause 87 rfl) rfl rfl ?_
                    refine K_iconst (kdA dt_MX12_clause 88 rfl) (by decide) ?_
                    refine pf12_277 rfl (kdA dt_MX12_clause 89 rfl) c1 (by decide) (fun s9 es9 => ?_)
                    have h := h s9 es9
                    refine K_aload_n 0 (kdA dt_MX12_clause 90 rfl) rfl rfl ?_
                    refine K_iload_n 3 (kdA dt_MX12_clause 91 rfl) rfl rfl ?_
                    refine pf12_284 rfl (kdA dt_MX12_clause 92 rfl) c1 (fun s10 es10 => ?_)
                    have h := h s10 es10
                    exact K_return (kdA dt_MX12_clause 93 rfl) rfl ⟨rfl, rfl, h⟩
                  · have h := h.2 c
                    exact K_return (kdA dt_MX12_clause 86 rfl) rfl ⟨rfl, rfl, h⟩
          · have h := h.2 c
            exact K_return (kdA dt_MX12_clause 44 rfl) rfl ⟨rfl, rfl, h⟩
    · have h := h.2 c
      exact K_return (kdA dt_MX12_clause 21 rfl) rfl ⟨rfl, rfl, h⟩
  · have h := h.2 c
    refine K_aload_n 0 (kdA dt_MX12_clause 7 rfl) rfl rfl ?_
    refine K_cVi (c := 12) (as := []) (st := []) (kdA dt_MX12_clause 8 rfl) rfl cl_MX12_fails lk12_218 rfl rfl (Nat.le_of_ble_eq_true rfl) c1 (Ci.mono h (fun x4 s3 h => ?_))
    refine K_pop (kdA dt_MX12_clause 9 rfl) rfl ?_
    exact K_return (kdA dt_MX12_clause 10 rfl) rfl ⟨rfl, rfl, h⟩
theorem EX12_clause {d n : Nat} {Q : kS → Prop} {a0 : Int} {σ : kS} (h : kokw n σ → LX12_clause_0 d n Q a0 σ) : Cv (d + 1) MX12_clause [(2, a0)] n σ Q := Tri_of (by decide +kernel) (Nat.le_of_ble_eq_true rfl) (fun hk hw => h hw)

def LX12_comeBack_0 (d n : Nat) (Q : kS → Prop) (a0 : Int) (σ : kS) : Prop := K (d + 1) MX12_comeBack (kPv n Q) (0, 0) 0 [(0, (2, a0))] [] n σ
def LX12_comeBack_2 (d n : Nat) (Q : kS → Prop) (a0 : Int) (a1 : Int) (σ : kS) : Prop := K (d + 1) MX12_comeBack (kPv n Q) (0, 0) 2 [(0, (2, a0)), (1, (0, a1))] [] n σ
theorem SX12_comeBack_0 {d n : Nat} {Q : kS → Prop} {a0 : Int} {σ : kS} (h : LX12_comeBack_2 d n Q a0 0 σ) : LX12_comeBack_0 d n Q a0 σ := by
  unfold LX12_comeBack_0
  refine K_iconst (kdA dt_MX12_comeBack 0 rfl) (by decide) ?_
  refine K_istore_n (ls' := [(0, (2, a0)), (1, (0, 0))]) (kdA dt_MX12_comeBack 1 rfl) rfl (by decide) rfl ?_
  exact h
theorem SX12_comeBack_2 {d n : Nat} {Q : kS → Prop} {a0 a1 : Int} {σ : kS} (h : (480 ≤ a1 → Q σ) ∧ (¬ 480 ≤ a1 → isO 12 n a0 ∧ (isA 20 n (σ a0 66) ∧ (((0 : Int) ≤ a1 ∧ a1 < klen (σ a0 66)) ∧ (isA 20 n (σ a0 1) ∧ (((0 : Int) ≤ a1 ∧ a1 < klen (σ a0 1)) ∧ (∀ s1, s1 = kst σ (σ a0 1) a1 (σ (σ a0 66) a1) → (-2147483648 ≤ (a1 + 1) ∧ (a1 + 1) ≤ 2147483647) ∧ (LX12_comeBack_2 d n Q a0 (a1 + 1) s1)))))))) : LX12_comeBack_2 d n Q a0 a1 σ := by
  unfold LX12_comeBack_2
  refine K_iload_n 1 (kdA dt_MX12_comeBack 2 rfl) rfl rfl ?_
  refine K_sipush (kdA dt_MX12_comeBack 3 rfl) (by decide +kernel) ?_
  refine K_icmp_ge (tgt := 27) (kdA dt_MX12_comeBack 4 rfl) rfl (fun c => ?_) (fun c => ?_)
  · have h := h.1 c
    exact K_return (kdA dt_MX12_comeBack 15 rfl) rfl ⟨rfl, rfl, h⟩
  · have h := h.2 c
    refine K_aload_n 0 (kdA dt_MX12_comeBack 5 rfl) rfl rfl ?_
    obtain ⟨c1, h⟩ := h
    refine gf12_9 rfl (kdA dt_MX12_comeBack 6 rfl) c1 ?_
    refine K_iload_n 1 (kdA dt_MX12_comeBack 7 rfl) rfl rfl ?_
    refine K_aload_n 0 (kdA dt_MX12_comeBack 8 rfl) rfl rfl ?_
    refine gf12_142 rfl (kdA dt_MX12_comeBack 9 rfl) c1 ?_
    refine K_iload_n 1 (kdA dt_MX12_comeBack 10 rfl) rfl rfl ?_
    obtain ⟨c2, h⟩ := h
    obtain ⟨c3, h⟩ := h
    refine K_iaload (kdA dt_MX12_comeBack 11 rfl) c2 c3.1 c3.2 ?_
    obtain ⟨c4, h⟩ := h
    obtain ⟨c5, h⟩ := h
    refine K_iastore' (kdA dt_MX12_comeBack 12 rfl) c4 c5.1 c5.2 (fun s1 es1 => ?_)
    have h := h s1 es1
    obtain ⟨c6, h⟩ := h
    refine K_iinc (ls' := [(0, (2, a0)), (1, (0, (a1 + 1)))]) 1 (kdA dt_MX12_comeBack 13 rfl) rfl c6 (by decide) rfl ?_
    refine K_goto (tgt := 2) (kdA dt_MX12_comeBack 14 rfl) rfl ?_
    exact h
theorem EX12_comeBack {d n : Nat} {Q : kS → Prop} {a0 : Int} {σ : kS} (h : kokw n σ → LX12_comeBack_0 d n Q a0 σ) : Cv (d + 1) MX12_comeBack [(2, a0)] n σ Q := Tri_of (by decide +kernel) (Nat.le_of_ble_eq_true rfl) (fun hk hw => h hw)

def LX12_compares_0 (d n : Nat) (Q : Int → kS → Prop) (a0 : Int) (a1 : Int) (a2 : Int) (σ : kS) : Prop := K (d + 1) MX12_compares (kPi n Q) (0, 0) 0 [(0, (2, a0)), (1, (0, a1)), (2, (0, a2))] [] n σ
theorem SX12_compares_0 {d n : Nat} {Q : Int → kS → Prop} {a0 a1 a2 : Int} {σ : kS} (h : (a1 = 0 → isO 12 n a0 ∧ (Ci d MX12_sum [(2, a0)] n σ (fun x2 s1 => ((s1 a0 19) = (-1) → Ci d MX12_look [(2, a0)] n s1 (fun x3 s2 => Ci d MX12_isSign [(0, x3)] n s2 (fun x4 s3 => (¬ x4 = 0 → (-2147483648 ≤ ((s3 a0 18) + 1) ∧ ((s3 a0 18) + 1) ≤ 2147483647) ∧ (∀ s4, s4 = kst s3 a0 18 ((s3 a0 18) + 1) → Ci d MX12_sum [(2, a0)] n s4 (fun x6 s5 => (¬ x3 = 61 → (¬ x3 = 60 → (x2 ≤ x6 → Q 0 s5) ∧ (¬ x2 ≤ x6 → Q 1 s5)) ∧ (¬ (¬ x3 = 60) → (x6 ≤ x2 → Q 0 s5) ∧ (¬ x6 ≤ x2 → Q 1 s5))) ∧ (¬ (¬ x3 = 61) → (¬ x2 = x6 → Q 0 s5) ∧ (¬ (¬ x2 = x6) → Q 1 s5))))) ∧ (¬ (¬ x4 = 0) → Ci d MX12_fails [(2, a0)] n s3 (fun x5 s4 => (x5 = 0 ∨ x5 = 1) ∧ (Q x5 s4)))))) ∧ (¬ (s1 a0 19) = (-1) → Q 0 s1)))) ∧ (¬ a1 = 0 → isO 12 n a0 ∧ (((σ a0 19) = (-1) → Ci d MX12_look [(2, a0)] n σ (fun x2 s1 => Ci d MX12_isSign [(0, x2)] n s1 (fun x3 s2 => (¬ x3 = 0 → (-2147483648 ≤ ((s2 a0 18) + 1) ∧ ((s2 a0 18) + 1) ≤ 2147483647) ∧ (∀ s3, s3 = kst s2 a0 18 ((s2 a0 18) + 1) → Ci d MX12_sum [(2, a0)] n s3 (fun x5 s4 => (¬ x2 = 61 → (¬ x2 = 60 → (a2 ≤ x5 → Q 0 s4) ∧ (¬ a2 ≤ x5 → Q 1 s4)) ∧ (¬ (¬ x2 = 60) → (x5 ≤ a2 → Q 0 s4) ∧ (¬ x5 ≤ a2 → Q 1 s4))) ∧ (¬ (¬ x2 = 61) → (¬ a2 = x5 → Q 0 s4) ∧ (¬ (¬ a2 = x5) → Q 1 s4))))) ∧ (¬ (¬ x3 = 0) → Ci d MX12_fails [(2, a0)] n s2 (fun x4 s3 => (x4 = 0 ∨ x4 = 1) ∧ (Q x4 s3)))))) ∧ (¬ (σ a0 19) = (-1) → Q 0 σ)))) : LX12_compares_0 d n Q a0 a1 a2 σ := by
  unfold LX12_compares_0
  refine K_iload_n 1 (kdA dt_MX12_compares 0 rfl) rfl rfl ?_
  refine K_if_eq (tgt := 8) (kdA dt_MX12_compares 1 rfl) rfl (fun c => ?_) (fun c => ?_)
  · have h := h.1 c
    refine K_aload_n 0 (kdA dt_MX12_compares 4 rfl) rfl rfl ?_
    obtain ⟨c1, h⟩ := h
    refine K_cVi (c := 12) (as := []) (st := []) (kdA dt_MX12_compares 5 rfl) rfl cl_MX12_sum lk12_242 rfl rfl (Nat.le_of_ble_eq_true rfl) c1 (Ci.mono h (fun x2 s1 h => ?_))
    refine K_istore_n (ls' := [(0, (2, a0)), (1, (0, a1)), (2, (0, a2)), (3, (0, x2))]) (kdA dt_MX12_compares 6 rfl) rfl (by decide) rfl ?_
    refine K_aload_n 0 (kdA dt_MX12_compares 7 rfl) rfl rfl ?_
    refine gf12_212 rfl (kdA dt_MX12_compares 8 rfl) c1 ?_
    refine K_iconst (kdA dt_MX12_compares 9 rfl) (by decide) ?_
    refine K_icmp_eq (tgt := 23) (kdA dt_MX12_compares 10 rfl) rfl (fun c => ?_) (fun c => ?_)
    · have h := h.1 c
      refine K_aload_n 0 (kdA dt_MX12_compares 13 rfl) rfl rfl ?_
      refine K_cVi (c := 12) (as := []) (st := []) (kdA dt_MX12_compares 14 rfl) rfl cl_MX12_look lk12_222 rfl rfl (Nat.le_of_ble_eq_true rfl) c1 (Ci.mono h (fun x3 s2 h => ?_))
      refine K_istore (ls' := [(0, (2, a0)), (1, (0, a1)), (2, (0, a2)), (3, (0, x2)), (4, (0, x3))]) (kdA dt_MX12_compares 15 rfl) (by decide) rfl ?_
      refine K_iload 4 (kdA dt_MX12_compares 16 rfl) rfl ?_
      refine K_cSi (as := [(0, x3)]) (st := []) (kdA dt_MX12_compares 17 rfl) cl_MX12_isSign lk12_261 rfl rfl (Nat.le_of_ble_eq_true rfl) (Ci.mono h (fun x4 s3 h => ?_))
      refine K_if_ne (tgt := 42) (kdA dt_MX12_compares 18 rfl) rfl (fun c => ?_) (fun c => ?_)
      · have h := h.1 c
        refine K_aload_n 0 (kdA dt_MX12_compares 22 rfl) rfl rfl ?_
        refine K_dup (kdA dt_MX12_compares 23 rfl) rfl ?_
        refine gf12_203 rfl (kdA dt_MX12_compares 24 rfl) c1 ?_
        refine K_iconst (kdA dt_MX12_compares 25 rfl) (by decide) ?_
        obtain ⟨c5, h⟩ := h
        refine K_iadd (kdA dt_MX12_compares 26 rfl) c5 ?_
        refine pf12_203 rfl (kdA dt_MX12_compares 27 rfl) c1 (fun s4 es4 => ?_)
        have h := h s4 es4
        refine K_aload_n 0 (kdA dt_MX12_compares 28 rfl) rfl rfl ?_
        refine K_cVi (c := 12) (as := []) (st := []) (kdA dt_MX12_compares 29 rfl) rfl cl_MX12_sum lk12_242 rfl rfl (Nat.le_of_ble_eq_true rfl) c1 (Ci.mono h (fun x6 s5 h => ?_))
        refine K_istore (ls' := [(0, (2, a0)), (1, (0, a1)), (2, (0, a2)), (3, (0, x2)), (4, (0, x3)), (5, (0, x6))]) (kdA dt_MX12_compares 30 rfl) (by decide) rfl ?_
        refine K_iload 4 (kdA dt_MX12_compares 31 rfl) rfl ?_
        refine K_bipush (kdA dt_MX12_compares 32 rfl) (by decide +kernel) ?_
        refine K_icmp_ne (tgt := 79) (kdA dt_MX12_compares 33 rfl) rfl (fun c => ?_) (fun c => ?_)
        · have h := h.1 c
          refine K_iload 4 (kdA dt_MX12_compares 41 rfl) rfl ?_
          refine K_bipush (kdA dt_MX12_compares 42 rfl) (by decide +kernel) ?_
          refine K_icmp_ne (tgt := 100) (kdA dt_MX12_compares 43 rfl) rfl (fun c => ?_) (fun c => ?_)
          · have h := h.1 c
            refine K_iload_n 3 (kdA dt_MX12_compares 51 rfl) rfl rfl ?_
            refine K_iload 5 (kdA dt_MX12_compares 52 rfl) rfl ?_
            refine K_icmp_le (tgt := 110) (kdA dt_MX12_compares 53 rfl) rfl (fun c => ?_) (fun c => ?_)
            · have h := h.1 c
              refine K_iconst (kdA dt_MX12_compares 56 rfl) (by decide) ?_
              exact K_zreturn (kdA dt_MX12_compares 57 rfl) rfl (Or.inl rfl) ⟨rfl, _, rfl, h⟩
            · have h := h.2 c
              refine K_iconst (kdA dt_MX12_compares 54 rfl) (by decide) ?_
              refine K_goto (tgt := 111) (kdA dt_MX12_compares 55 rfl) rfl ?_
              exact K_zreturn (kdA dt_MX12_compares 57 rfl) rfl (Or.inr rfl) ⟨rfl, _, rfl, h⟩
          · have h := h.2 c
            refine K_iload_n 3 (kdA dt_MX12_compares 44 rfl) rfl rfl ?_
            refine K_iload 5 (kdA dt_MX12_compares 45 rfl) rfl ?_
            refine K_icmp_ge (tgt := 96) (kdA dt_MX12_compares 46 rfl) rfl (fun c => ?_) (fun c => ?_)
            · have h := h.1 c
              refine K_iconst (kdA dt_MX12_compares 49 rfl) (by decide) ?_
              refine K_goto (tgt := 111) (kdA dt_MX12_compares 50 rfl) rfl ?_
              exact K_zreturn (kdA dt_MX12_compares 57 rfl) rfl (Or.inl rfl) ⟨rfl, _, rfl, h⟩
            · have h := h.2 c
              refine K_iconst (kdA dt_MX12_compares 47 rfl) (by decide) ?_
              refine K_goto (tgt := 111) (kdA dt_MX12_compares 48 rfl) rfl ?_
              exact K_zreturn (kdA dt_MX12_compares 57 rfl) rfl (Or.inr rfl) ⟨rfl, _, rfl, h⟩
        · have h := h.2 c
          refine K_iload_n 3 (kdA dt_MX12_compares 34 rfl) rfl rfl ?_
          refine K_iload 5 (kdA dt_MX12_compares 35 rfl) rfl ?_
          refine K_icmp_ne (tgt := 75) (kdA dt_MX12_compares 36 rfl) rfl (fun c => ?_) (fun c => ?_)
          · have h := h.1 c
            refine K_iconst (kdA dt_MX12_compares 39 rfl) (by decide) ?_
            refine K_goto (tgt := 111) (kdA dt_MX12_compares 40 rfl) rfl ?_
            exact K_zreturn (kdA dt_MX12_compares 57 rfl) rfl (Or.inl rfl) ⟨rfl, _, rfl, h⟩
          · have h := h.2 c
            refine K_iconst (kdA dt_MX12_compares 37 rfl) (by decide) ?_
            refine K_goto (tgt := 111) (kdA dt_MX12_compares 38 rfl) rfl ?_
            exact K_zreturn (kdA dt_MX12_compares 57 rfl) rfl (Or.inr rfl) ⟨rfl, _, rfl, h⟩
      · have h := h.2 c
        refine K_aload_n 0 (kdA dt_MX12_compares 19 rfl) rfl rfl ?_
        refine K_cVi (c := 12) (as := []) (st := []) (kdA dt_MX12_compares 20 rfl) rfl cl_MX12_fails lk12_218 rfl rfl (Nat.le_of_ble_eq_true rfl) c1 (Ci.mono h (fun x5 s4 h => ?_))
        obtain ⟨c6, h⟩ := h
        exact K_zreturn (kdA dt_MX12_compares 21 rfl) rfl c6 ⟨rfl, _, rfl, h⟩
    · have h := h.2 c
      refine K_iconst (kdA dt_MX12_compares 11 rfl) (by decide) ?_
      exact K_zreturn (kdA dt_MX12_compares 12 rfl) rfl (Or.inl rfl) ⟨rfl, _, rfl, h⟩
  · have h := h.2 c
    refine K_iload_n 2 (kdA dt_MX12_compares 2 rfl) rfl rfl ?_
    refine K_goto (tgt := 12) (kdA dt_MX12_compares 3 rfl) rfl ?_
    refine K_istore_n (ls' := [(0, (2, a0)), (1, (0, a1)), (2, (0, a2)), (3, (0, a2))]) (kdA dt_MX12_compares 6 rfl) rfl (by decide) rfl ?_
    refine K_aload_n 0 (kdA dt_MX12_compares 7 rfl) rfl rfl ?_
    obtain ⟨c1, h⟩ := h
    refine gf12_212 rfl (kdA dt_MX12_compares 8 rfl) c1 ?_
    refine K_iconst (kdA dt_MX12_compares 9 rfl) (by decide) ?_
    refine K_icmp_eq (tgt := 23) (kdA dt_MX12_compares 10 rfl) rfl (fun c => ?_) (fun c => ?_)
    · have h := h.1 c
      refine K_aload_n 0 (kdA dt_MX12_compares 13 rfl) rfl rfl ?_
      refine K_cVi (c := 12) (as := []) (st := []) (kdA dt_MX12_compares 14 rfl) rfl cl_MX12_look lk12_222 rfl rfl (Nat.le_of_ble_eq_true rfl) c1 (Ci.mono h (fun x2 s1 h => ?_))
      refine K_istore (ls' := [(0, (2, a0)), (1, (0, a1)), (2, (0, a2)), (3, (0, a2)), (4, (0, x2))]) (kdA dt_MX12_compares 15 rfl) (by decide) rfl ?_
      refine K_iload 4 (kdA dt_MX12_compares 16 rfl) rfl ?_
      refine K_cSi (as := [(0, x2)]) (st := []) (kdA dt_MX12_compares 17 rfl) cl_MX12_isSign lk12_261 rfl rfl (Nat.le_of_ble_eq_true rfl) (Ci.mono h (fun x3 s2 h => ?_))
      refine K_if_ne (tgt := 42) (kdA dt_MX12_compares 18 rfl) rfl (fun c => ?_) (fun c => ?_)
      · have h := h.1 c
        refine K_aload_n 0 (kdA dt_MX12_compares 22 rfl) rfl rfl ?_
        refine K_dup (kdA dt_MX12_compares 23 rfl) rfl ?_
        refine gf12_203 rfl (kdA dt_MX12_compares 24 rfl) c1 ?_
        refine K_iconst (kdA dt_MX12_compares 25 rfl) (by decide) ?_
        obtain ⟨c4, h⟩ := h
        refine K_iadd (kdA dt_MX12_compares 26 rfl) c4 ?_
        refine pf12_203 rfl (kdA dt_MX12_compares 27 rfl) c1 (fun s3 es3 => ?_)
        have h := h s3 es3
        refine K_aload_n 0 (kdA dt_MX12_compares 28 rfl) rfl rfl ?_
        refine K_cVi (c := 12) (as := []) (st := []) (kdA dt_MX12_compares 29 rfl) rfl cl_MX12_sum lk12_242 rfl rfl (Nat.le_of_ble_eq_true rfl) c1 (Ci.mono h (fun x5 s4 h => ?_))
        refine K_istore (ls' := [(0, (2, a0)), (1, (0, a1)), (2, (0, a2)), (3, (0, a2)), (4, (0, x2)), (5, (0, x5))]) (kdA dt_MX12_compares 30 rfl) (by decide) rfl ?_
        refine K_iload 4 (kdA dt_MX12_compares 31 rfl) rfl ?_
        refine K_bipush (kdA dt_MX12_compares 32 rfl) (by decide +kernel) ?_
        refine K_icmp_ne (tgt := 79) (kdA dt_MX12_compares 33 rfl) rfl (fun c => ?_) (fun c => ?_)
        · have h := h.1 c
          refine K_iload 4 (kdA dt_MX12_compares 41 rfl) rfl ?_
          refine K_bipush (kdA dt_MX12_compares 42 rfl) (by decide +kernel) ?_
          refine K_icmp_ne (tgt := 100) (kdA dt_MX12_compares 43 rfl) rfl (fun c => ?_) (fun c => ?_)
          · have h := h.1 c
            refine K_iload_n 3 (kdA dt_MX12_compares 51 rfl) rfl rfl ?_
            refine K_iload 5 (kdA dt_MX12_compares 52 rfl) rfl ?_
            refine K_icmp_le (tgt := 110) (kdA dt_MX12_compares 53 rfl) rfl (fun c => ?_) (fun c => ?_)
            · have h := h.1 c
              refine K_iconst (kdA dt_MX12_compares 56 rfl) (by decide) ?_
              exact K_zreturn (kdA dt_MX12_compares 57 rfl) rfl (Or.inl rfl) ⟨rfl, _, rfl, h⟩
            · have h := h.2 c
              refine K_iconst (kdA dt_MX12_compares 54 rfl) (by decide) ?_
              refine K_goto (tgt := 111) (kdA dt_MX12_compares 55 rfl) rfl ?_
              exact K_zreturn (kdA dt_MX12_compares 57 rfl) rfl (Or.inr rfl) ⟨rfl, _, rfl, h⟩
          · have h := h.2 c
            refine K_iload_n 3 (kdA dt_MX12_compares 44 rfl) rfl rfl ?_
            refine K_iload 5 (kdA dt_MX12_compares 45 rfl) rfl ?_
            refine K_icmp_ge (tgt := 96) (kdA dt_MX12_compares 46 rfl) rfl (fun c => ?_) (fun c => ?_)
            · have h := h.1 c
              refine K_iconst (kdA dt_MX12_compares 49 rfl) (by decide) ?_
              refine K_goto (tgt := 111) (kdA dt_MX12_compares 50 rfl) rfl ?_
              exact K_zreturn (kdA dt_MX12_compares 57 rfl) rfl (Or.inl rfl) ⟨rfl, _, rfl, h⟩
            · have h := h.2 c
              refine K_iconst (kdA dt_MX12_compares 47 rfl) (by decide) ?_
              refine K_goto (tgt := 111) (kdA dt_MX12_compares 48 rfl) rfl ?_
              exact K_zreturn (kdA dt_MX12_compares 57 rfl) rfl (Or.inr rfl) ⟨rfl, _, rfl, h⟩
        · have h := h.2 c
          refine K_iload_n 3 (kdA dt_MX12_compares 34 rfl) rfl rfl ?_
          refine K_iload 5 (kdA dt_MX12_compares 35 rfl) rfl ?_
          refine K_icmp_ne (tgt := 75) (kdA dt_MX12_compares 36 rfl) rfl (fun c => ?_) (fun c => ?_)
          · have h := h.1 c
            refine K_iconst (kdA dt_MX12_compares 39 rfl) (by decide) ?_
            refine K_goto (tgt := 111) (kdA dt_MX12_compares 40 rfl) rfl ?_
            exact K_zreturn (kdA dt_MX12_compares 57 rfl) rfl (Or.inl rfl) ⟨rfl, _, rfl, h⟩
          · have h := h.2 c
            refine K_iconst (kdA dt_MX12_compares 37 rfl) (by decide) ?_
            refine K_goto (tgt := 111) (kdA dt_MX12_compares 38 rfl) rfl ?_
            exact K_zreturn (kdA dt_MX12_compares 57 rfl) rfl (Or.inr rfl) ⟨rfl, _, rfl, h⟩
      · have h := h.2 c
        refine K_aload_n 0 (kdA dt_MX12_compares 19 rfl) rfl rfl ?_
        refine K_cVi (c := 12) (as := []) (st := []) (kdA dt_MX12_compares 20 rfl) rfl cl_MX12_fails lk12_218 rfl rfl (Nat.le_of_ble_eq_true rfl) c1 (Ci.mono h (fun x4 s3 h => ?_))
        obtain ⟨c5, h⟩ := h
        exact K_zreturn (kdA dt_MX12_compares 21 rfl) rfl c5 ⟨rfl, _, rfl, h⟩
    · have h := h.2 c
      refine K_iconst (kdA dt_MX12_compares 11 rfl) (by decide) ?_
      exact K_zreturn (kdA dt_MX12_compares 12 rfl) rfl (Or.inl rfl) ⟨rfl, _, rfl, h⟩
theorem EX12_compares {d n : Nat} {Q : Int → kS → Prop} {a0 a1 a2 : Int} {σ : kS} (h : (-2147483648 ≤ a1 ∧ a1 ≤ 2147483647) → (-2147483648 ≤ a2 ∧ a2 ≤ 2147483647) → kokw n σ → LX12_compares_0 d n Q a0 a1 a2 σ) : Ci (d + 1) MX12_compares [(2, a0), (0, a1), (0, a2)] n σ Q := Tri_of (by decide +kernel) (Nat.le_of_ble_eq_true rfl) (fun hk hw => h (hk (0, a1) (List.mem_of_getElem? (i := 1) rfl)) (hk (0, a2) (List.mem_of_getElem? (i := 2) rfl)) hw)

def LX12_condition_0 (d n : Nat) (Q : Int → kS → Prop) (a0 : Int) (a1 : Int) (a2 : Int) (σ : kS) : Prop := K (d + 1) MX12_condition (kPi n Q) (0, 0) 0 [(0, (2, a0)), (1, (0, a1)), (2, (0, a2))] [] n σ
def LX12_condition_7 (d n : Nat) (Q : Int → kS → Prop) (a0 : Int) (a3 : Int) (σ : kS) : Prop := K (d + 1) MX12_condition (kPi n Q) (0, 0) 7 [(0, (2, a0)), (3, (0, a3))] [] n σ
theorem SX12_condition_0 {d n : Nat} {Q : Int → kS → Prop} {a0 a1 a2 : Int} {σ : kS} (h : isO 12 n a0 ∧ (Ci d MX12_part [(2, a0), (0, a1), (0, a2)] n σ (fun x2 s1 => LX12_condition_7 d n Q a0 x2 s1))) : LX12_condition_0 d n Q a0 a1 a2 σ := by
  unfold LX12_condition_0
  refine K_aload_n 0 (kdA dt_MX12_condition 0 rfl) rfl rfl ?_
  refine K_iload_n 1 (kdA dt_MX12_condition 1 rfl) rfl rfl ?_
  refine K_iload_n 2 (kdA dt_MX12_condition 2 rfl) rfl rfl ?_
  obtain ⟨c1, h⟩ := h
  refine K_cVi (c := 12) (as := [(0, a1), (0, a2)]) (st := []) (kdA dt_MX12_condition 3 rfl) rfl cl_MX12_part lk12_274 rfl rfl (Nat.le_of_ble_eq_true rfl) c1 (Ci.mono h (fun x2 s1 h => ?_))
  refine K_istore_n (ls' := [(0, (2, a0)), (1, (0, a1)), (2, (0, a2)), (3, (0, x2))]) (kdA dt_MX12_condition 4 rfl) rfl (by decide) rfl ?_
  refine K_pick [0, 3] (ls' := [(0, (2, a0)), (3, (0, x2))]) rfl ?_
  exact h
theorem SX12_condition_7 {d n : Nat} {Q : Int → kS → Prop} {a0 a3 : Int} {σ : kS} (h : isO 12 n a0 ∧ ((¬ (σ a0 19) = (-1) → (a3 = 0 ∨ a3 = 1) ∧ (Q a3 σ)) ∧ (¬ (¬ (σ a0 19) = (-1)) → Ci d MX12_look [(2, a0)] n σ (fun x2 s1 => (¬ x2 = 124 → (a3 = 0 ∨ a3 = 1) ∧ (Q a3 s1)) ∧ (¬ (¬ x2 = 124) → (-2147483648 ≤ ((s1 a0 18) + 1) ∧ ((s1 a0 18) + 1) ≤ 2147483647) ∧ (∀ s2, s2 = kst s1 a0 18 ((s1 a0 18) + 1) → Ci d MX12_part [(2, a0), (0, 0), (0, 0)] n s2 (fun x4 s3 => (¬ a3 = 0 → LX12_condition_7 d n Q a0 1 s3) ∧ (¬ (¬ a3 = 0) → (x4 = 0 → LX12_condition_7 d n Q a0 0 s3) ∧ (¬ x4 = 0 → LX12_condition_7 d n Q a0 1 s3))))))))) : LX12_condition_7 d n Q a0 a3 σ := by
  unfold LX12_condition_7
  refine K_aload_n 0 (kdA dt_MX12_condition 5 rfl) rfl rfl ?_
  obtain ⟨c1, h⟩ := h
  refine gf12_212 rfl (kdA dt_MX12_condition 6 rfl) c1 ?_
  refine K_iconst (kdA dt_MX12_condition 7 rfl) (by decide) ?_
  refine K_icmp_ne (tgt := 60) (kdA dt_MX12_condition 8 rfl) rfl (fun c => ?_) (fun c => ?_)
  · have h := h.1 c
    refine K_iload_n 1 (kdA dt_MX12_condition 33 rfl) rfl rfl ?_
    obtain ⟨c2, h⟩ := h
    exact K_zreturn (kdA dt_MX12_condition 34 rfl) rfl c2 ⟨rfl, _, rfl, h⟩
  · have h := h.2 c
    refine K_aload_n 0 (kdA dt_MX12_condition 9 rfl) rfl rfl ?_
    refine K_cVi (c := 12) (as := []) (st := []) (kdA dt_MX12_condition 10 rfl) rfl cl_MX12_look lk12_222 rfl rfl (Nat.le_of_ble_eq_true rfl) c1 (Ci.mono h (fun x2 s1 h => ?_))
    refine K_bipush (kdA dt_MX12_condition 11 rfl) (by decide +kernel) ?_
    refine K_icmp_ne (tgt := 60) (kdA dt_MX12_condition 12 rfl) rfl (fun c => ?_) (fun c => ?_)
    · have h := h.1 c
      refine K_iload_n 1 (kdA dt_MX12_condition 33 rfl) rfl rfl ?_
      obtain ⟨c3, h⟩ := h
      exact K_zreturn (kdA dt_MX12_condition 34 rfl) rfl c3 ⟨rfl, _, rfl, h⟩
    · have h := h.2 c
      refine K_aload_n 0 (kdA dt_MX12_condition 13 rfl) rfl rfl ?_
      refine K_dup (kdA dt_MX12_condition 14 rfl) rfl ?_
      refine gf12_203 rfl (kdA dt_MX12_condition 15 rfl) c1 ?_
      refine K_iconst (kdA dt_MX12_condition 16 rfl) (by decide) ?_
      obtain ⟨c3, h⟩ := h
      refine K_iadd (kdA dt_MX12_condition 17 rfl) c3 ?_
      refine pf12_203 rfl (kdA dt_MX12_condition 18 rfl) c1 (fun s2 es2 => ?_)
      have h := h s2 es2
      refine K_aload_n 0 (kdA dt_MX12_condition 19 rfl) rfl rfl ?_
      refine K_iconst (kdA dt_MX12_condition 20 rfl) (by decide) ?_
      refine K_iconst (kdA dt_MX12_condition 21 rfl) (by decide) ?_
      refine K_cVi (c := 12) (as := [(0, 0), (0, 0)]) (st := []) (kdA dt_MX12_condition 22 rfl) rfl cl_MX12_part lk12_274 rfl rfl (Nat.le_of_ble_eq_true rfl) c1 (Ci.mono h (fun x4 s3 h => ?_))
      refine K_istore (ls' := [(0, (2, a0)), (3, (0, a3)), (4, (0, x4))]) (kdA dt_MX12_condition 23 rfl) (by decide) rfl ?_
      refine K_iload_n 1 (kdA dt_MX12_condition 24 rfl) rfl rfl ?_
      refine K_if_ne (tgt := 51) (kdA dt_MX12_condition 25 rfl) rfl (fun c => ?_) (fun c => ?_)
      · have h := h.1 c
        refine K_iconst (kdA dt_MX12_condition 28 rfl) (by decide) ?_
        refine K_goto (tgt := 56) (kdA dt_MX12_condition 29 rfl) rfl ?_
        refine K_istore_n (ls' := [(0, (2, a0)), (3, (0, 1)), (4, (0, x4))]) (kdA dt_MX12_condition 31 rfl) rfl (by decide) rfl ?_
        refine K_goto (tgt := 7) (kdA dt_MX12_condition 32 rfl) rfl ?_
        refine K_pick [0, 1] (ls' := [(0, (2, a0)), (3, (0, 1))]) rfl ?_
        exact h
      · have h := h.2 c
        refine K_iload 2 (kdA dt_MX12_condition 26 rfl) rfl ?_
        refine K_if_eq (tgt := 55) (kdA dt_MX12_condition 27 rfl) rfl (fun c => ?_) (fun c => ?_)
        · have h := h.1 c
          refine K_iconst (kdA dt_MX12_condition 30 rfl) (by decide) ?_
          refine K_istore_n (ls' := [(0, (2, a0)), (3, (0, 0)), (4, (0, x4))]) (kdA dt_MX12_condition 31 rfl) rfl (by decide) rfl ?_
          refine K_goto (tgt := 7) (kdA dt_MX12_condition 32 rfl) rfl ?_
          refine K_pick [0, 1] (ls' := [(0, (2, a0)), (3, (0, 0))]) rfl ?_
          exact h
        · have h := h.2 c
          refine K_iconst (kdA dt_MX12_condition 28 rfl) (by decide) ?_
          refine K_goto (tgt := 56) (kdA dt_MX12_condition 29 rfl) rfl ?_
          refine K_istore_n (ls' := [(0, (2, a0)), (3, (0, 1)), (4, (0, x4))]) (kdA dt_MX12_condition 31 rfl) rfl (by decide) rfl ?_
          refine K_goto (tgt := 7) (kdA dt_MX12_condition 32 rfl) rfl ?_
          refine K_pick [0, 1] (ls' := [(0, (2, a0)), (3, (0, 1))]) rfl ?_
          exact h
theorem EX12_condition {d n : Nat} {Q : Int → kS → Prop} {a0 a1 a2 : Int} {σ : kS} (h : (-2147483648 ≤ a1 ∧ a1 ≤ 2147483647) → (-2147483648 ≤ a2 ∧ a2 ≤ 2147483647) → kokw n σ → LX12_condition_0 d n Q a0 a1 a2 σ) : Ci (d + 1) MX12_condition [(2, a0), (0, a1), (0, a2)] n σ Q := Tri_of (by decide +kernel) (Nat.le_of_ble_eq_true rfl) (fun hk hw => h (hk (0, a1) (List.mem_of_getElem? (i := 1) rfl)) (hk (0, a2) (List.mem_of_getElem? (i := 2) rfl)) hw)

def LX12_costOfNet_0 (d n : Nat) (Q : Int → kS → Prop) (a0 : Int) (σ : kS) : Prop := K (d + 1) MX12_costOfNet (kPi n Q) (0, 0) 0 [(0, (2, a0))] [] n σ
def LX12_costOfNet_4 (d n : Nat) (Q : Int → kS → Prop) (a0 : Int) (a1 : Int) (a2 : Int) (σ : kS) : Prop := K (d + 1) MX12_costOfNet (kPi n Q) (0, 0) 4 [(0, (2, a0)), (1, (0, a1)), (2, (0, a2))] [] n σ
def LX12_costOfNet_21 (d n : Nat) (Q : Int → kS → Prop) (a0 : Int) (a1 : Int) (a2 : Int) (a3 : Int) (a4 : Int) (σ : kS) : Prop := K (d + 1) MX12_costOfNet (kPi n Q) (0, 0) 21 [(0, (2, a0)), (1, (0, a1)), (2, (0, a2)), (3, (0, a3)), (4, (0, a4))] [] n σ
theorem SX12_costOfNet_0 {d n : Nat} {Q : Int → kS → Prop} {a0 : Int} {σ : kS} (h : LX12_costOfNet_4 d n Q a0 1 0 σ) : LX12_costOfNet_0 d n Q a0 σ := by
  unfold LX12_costOfNet_0
  refine K_iconst (kdA dt_MX12_costOfNet 0 rfl) (by decide) ?_
  refine K_istore_n (ls' := [(0, (2, a0)), (1, (0, 1))]) (kdA dt_MX12_costOfNet 1 rfl) rfl (by decide) rfl ?_
  refine K_iconst (kdA dt_MX12_costOfNet 2 rfl) (by decide) ?_
  refine K_istore_n (ls' := [(0, (2, a0)), (1, (0, 1)), (2, (0, 0))]) (kdA dt_MX12_costOfNet 3 rfl) rfl (by decide) rfl ?_
  exact h
theorem SX12_costOfNet_4 {d n : Nat} {Q : Int → kS → Prop} {a0 a1 a2 : Int} {σ : kS} (h : isO 12 n a0 ∧ ((-2147483648 ≤ ((kishl 1 (σ a0 3)) - 1) ∧ ((kishl 1 (σ a0 3)) - 1) ≤ 2147483647) ∧ ((a1 = ((kishl 1 (σ a0 3)) - 1) → Q a2 σ) ∧ (¬ a1 = ((kishl 1 (σ a0 3)) - 1) → LX12_costOfNet_21 d n Q a0 a1 a2 (-1) 0 σ)))) : LX12_costOfNet_4 d n Q a0 a1 a2 σ := by
  unfold LX12_costOfNet_4
  refine K_iload_n 1 (kdA dt_MX12_costOfNet 4 rfl) rfl rfl ?_
  refine K_iconst (kdA dt_MX12_costOfNet 5 rfl) (by decide) ?_
  refine K_aload_n 0 (kdA dt_MX12_costOfNet 6 rfl) rfl rfl ?_
  obtain ⟨c1, h⟩ := h
  refine gf12_165 rfl (kdA dt_MX12_costOfNet 7 rfl) c1 ?_
  refine K_ishl (kdA dt_MX12_costOfNet 8 rfl) ?_
  refine K_iconst (kdA dt_MX12_costOfNet 9 rfl) (by decide) ?_
  obtain ⟨c2, h⟩ := h
  refine K_isub (kdA dt_MX12_costOfNet 10 rfl) c2 ?_
  refine K_icmp_eq (tgt := 117) (kdA dt_MX12_costOfNet 11 rfl) rfl (fun c => ?_) (fun c => ?_)
  · have h := h.1 c
    refine K_iload_n 2 (kdA dt_MX12_costOfNet 73 rfl) rfl rfl ?_
    exact K_ireturn (kdA dt_MX12_costOfNet 74 rfl) rfl ⟨rfl, _, rfl, h⟩
  · have h := h.2 c
    refine K_iconst (kdA dt_MX12_costOfNet 12 rfl) (by decide) ?_
    refine K_istore_n (ls' := [(0, (2, a0)), (1, (0, a1)), (2, (0, a2)), (3, (0, (-1)))]) (kdA dt_MX12_costOfNet 13 rfl) rfl (by decide) rfl ?_
    refine K_iconst (kdA dt_MX12_costOfNet 14 rfl) (by decide) ?_
    refine K_istore (ls' := [(0, (2, a0)), (1, (0, a1)), (2, (0, a2)), (3, (0, (-1))), (4, (0, 0))]) (kdA dt_MX12_costOfNet 15 rfl) (by decide) rfl ?_
    exact h
theorem SX12_costOfNet_21 {d n : Nat} {Q : Int → kS → Prop} {a0 a1 a2 a3 a4 : Int} {σ : kS} (h : isO 12 n a0 ∧ (((σ a0 58) ≤ a4 → isA 20 n (σ a0 55) ∧ (((0 : Int) ≤ a3 ∧ a3 < klen (σ a0 55)) ∧ ((-2147483648 ≤ (a2 + (σ (σ a0 55) a3)) ∧ (a2 + (σ (σ a0 55) a3)) ≤ 2147483647) ∧ (isA 20 n (σ a0 56) ∧ (((0 : Int) ≤ a3 ∧ a3 < klen (σ a0 56)) ∧ (isA 20 n (σ a0 57) ∧ (((0 : Int) ≤ a3 ∧ a3 < klen (σ a0 57)) ∧ (LX12_costOfNet_4 d n Q a0 (kor a1 (kor (kishl 1 (σ (σ a0 56) a3)) (kishl 1 (σ (σ a0 57) a3)))) (a2 + (σ (σ a0 55) a3)) σ)))))))) ∧ (¬ (σ a0 58) ≤ a4 → isA 20 n (σ a0 56) ∧ (((0 : Int) ≤ a4 ∧ a4 < klen (σ a0 56)) ∧ (Ci d MX12_has [(0, a1), (0, (σ (σ a0 56) a4))] n σ (fun x4 s1 => isA 20 n (s1 a0 57) ∧ (((0 : Int) ≤ a4 ∧ a4 < klen (s1 a0 57)) ∧ (Ci d MX12_has [(0, a1), (0, (s1 (s1 a0 57) a4))] n s1 (fun x7 s2 => (x4 = x7 → (-2147483648 ≤ (a4 + 1) ∧ (a4 + 1) ≤ 2147483647) ∧ (LX12_costOfNet_21 d n Q a0 a1 a2 a3 (a4 + 1) s2)) ∧ (¬ x4 = x7 → (a3 = (-1) → (-2147483648 ≤ (a4 + 1) ∧ (a4 + 1) ≤ 2147483647) ∧ (LX12_costOfNet_21 d n Q a0 a1 a2 a4 (a4 + 1) s2)) ∧ (¬ a3 = (-1) → isA 20 n (s2 a0 55) ∧ (((0 : Int) ≤ a4 ∧ a4 < klen (s2 a0 55)) ∧ (((0 : Int) ≤ a3 ∧ a3 < klen (s2 a0 55)) ∧ (((s2 (s2 a0 55) a3) ≤ (s2 (s2 a0 55) a4) → (-2147483648 ≤ (a4 + 1) ∧ (a4 + 1) ≤ 2147483647) ∧ (LX12_costOfNet_21 d n Q a0 a1 a2 a3 (a4 + 1) s2)) ∧ (¬ (s2 (s2 a0 55) a3) ≤ (s2 (s2 a0 55) a4) → (-2147483648 ≤ (a4 + 1) ∧ (a4 + 1) ≤ 2147483647) ∧ (LX12_costOfNet_21 d n Q a0 a1 a2 a4 (a4 + 1) s2)))))))))))))))) : LX12_costOfNet_21 d n Q a0 a1 a2 a3 a4 σ := by
  unfold LX12_costOfNet_21
  refine K_iload 4 (kdA dt_MX12_costOfNet 16 rfl) rfl ?_
  refine K_aload_n 0 (kdA dt_MX12_costOfNet 17 rfl) rfl rfl ?_
  obtain ⟨c1, h⟩ := h
  refine gf12_488 rfl (kdA dt_MX12_costOfNet 18 rfl) c1 ?_
  refine K_icmp_ge (tgt := 85) (kdA dt_MX12_costOfNet 19 rfl) rfl (fun c => ?_) (fun c => ?_)
  · have h := h.1 c
    refine K_iload_n 2 (kdA dt_MX12_costOfNet 49 rfl) rfl rfl ?_
    refine K_aload_n 0 (kdA dt_MX12_costOfNet 50 rfl) rfl rfl ?_
    refine gf12_124 rfl (kdA dt_MX12_costOfNet 51 rfl) c1 ?_
    refine K_iload_n 3 (kdA dt_MX12_costOfNet 52 rfl) rfl rfl ?_
    obtain ⟨c2, h⟩ := h
    obtain ⟨c3, h⟩ := h
    refine K_iaload (kdA dt_MX12_costOfNet 53 rfl) c2 c3.1 c3.2 ?_
    obtain ⟨c4, h⟩ := h
    refine K_iadd (kdA dt_MX12_costOfNet 54 rfl) c4 ?_
    refine K_istore_n (ls' := [(0, (2, a0)), (1, (0, a1)), (2, (0, (a2 + (σ (σ a0 55) a3)))), (3, (0, a3)), (4, (0, a4))]) (kdA dt_MX12_costOfNet 55 rfl) rfl (by decide) rfl ?_
    refine K_iload_n 1 (kdA dt_MX12_costOfNet 56 rfl) rfl rfl ?_
    refine K_iconst (kdA dt_MX12_costOfNet 57 rfl) (by decide) ?_
    refine K_aload_n 0 (kdA dt_MX12_costOfNet 58 rfl) rfl rfl ?_
    refine gf12_127 rfl (kdA dt_MX12_costOfNet 59 rfl) c1 ?_
    refine K_iload_n 3 (kdA dt_MX12_costOfNet 60 rfl) rfl rfl ?_
    obtain ⟨c5, h⟩ := h
    obtain ⟨c6, h⟩ := h
    refine K_iaload (kdA dt_MX12_costOfNet 61 rfl) c5 c6.1 c6.2 ?_
    refine K_ishl (kdA dt_MX12_costOfNet 62 rfl) ?_
    refine K_iconst (kdA dt_MX12_costOfNet 63 rfl) (by decide) ?_
    refine K_aload_n 0 (kdA dt_MX12_costOfNet 64 rfl) rfl rfl ?_
    refine gf12_130 rfl (kdA dt_MX12_costOfNet 65 rfl) c1 ?_
    refine K_iload_n 3 (kdA dt_MX12_costOfNet 66 rfl) rfl rfl ?_
    obtain ⟨c7, h⟩ := h
    obtain ⟨c8, h⟩ := h
    refine K_iaload (kdA dt_MX12_costOfNet 67 rfl) c7 c8.1 c8.2 ?_
    refine K_ishl (kdA dt_MX12_costOfNet 68 rfl) ?_
    refine K_ior (kdA dt_MX12_costOfNet 69 rfl) ?_
    refine K_ior (kdA dt_MX12_costOfNet 70 rfl) ?_
    refine K_istore_n (ls' := [(0, (2, a0)), (1, (0, (kor a1 (kor (kishl 1 (σ (σ a0 56) a3)) (kishl 1 (σ (σ a0 57) a3)))))), (2, (0, (a2 + (σ (σ a0 55) a3)))), (3, (0, a3)), (4, (0, a4))]) (kdA dt_MX12_costOfNet 71 rfl) rfl (by decide) rfl ?_
    refine K_goto (tgt := 4) (kdA dt_MX12_costOfNet 72 rfl) rfl ?_
    refine K_pick [0, 1, 2] (ls' := [(0, (2, a0)), (1, (0, (kor a1 (kor (kishl 1 (σ (σ a0 56) a3)) (kishl 1 (σ (σ a0 57) a3)))))), (2, (0, (a2 + (σ (σ a0 55) a3))))]) rfl ?_
    exact h
  · have h := h.2 c
    refine K_iload_n 1 (kdA dt_MX12_costOfNet 20 rfl) rfl rfl ?_
    refine K_aload_n 0 (kdA dt_MX12_costOfNet 21 rfl) rfl rfl ?_
    refine gf12_127 rfl (kdA dt_MX12_costOfNet 22 rfl) c1 ?_
    refine K_iload 4 (kdA dt_MX12_costOfNet 23 rfl) rfl ?_
    obtain ⟨c2, h⟩ := h
    obtain ⟨c3, h⟩ := h
    refine K_iaload (kdA dt_MX12_costOfNet 24 rfl) c2 c3.1 c3.2 ?_
    refine K_cSi (as := [(0, a1), (0, (σ (σ a0 56) a4))]) (st := []) (kdA dt_MX12_costOfNet 25 rfl) cl_MX12_has lk12_403 rfl rfl (Nat.le_of_ble_eq_true rfl) (Ci.mono h (fun x4 s1 h => ?_))
    refine K_iload_n 1 (kdA dt_MX12_costOfNet 26 rfl) rfl rfl ?_
    refine K_aload_n 0 (kdA dt_MX12_costOfNet 27 rfl) rfl rfl ?_
    refine gf12_130 rfl (kdA dt_MX12_costOfNet 28 rfl) c1 ?_
    refine K_iload 4 (kdA dt_MX12_costOfNet 29 rfl) rfl ?_
    obtain ⟨c5, h⟩ := h
    obtain ⟨c6, h⟩ := h
    refine K_iaload (kdA dt_MX12_costOfNet 30 rfl) c5 c6.1 c6.2 ?_
    refine K_cSi (as := [(0, a1), (0, (s1 (s1 a0 57) a4))]) (st := [(0, x4)]) (kdA dt_MX12_costOfNet 31 rfl) cl_MX12_has lk12_403 rfl rfl (Nat.le_of_ble_eq_true rfl) (Ci.mono h (fun x7 s2 h => ?_))
    refine K_icmp_eq (tgt := 79) (kdA dt_MX12_costOfNet 32 rfl) rfl (fun c => ?_) (fun c => ?_)
    · have h := h.1 c
      obtain ⟨c8, h⟩ := h
      refine K_iinc (ls' := [(0, (2, a0)), (1, (0, a1)), (2, (0, a2)), (3, (0, a3)), (4, (0, (a4 + 1)))]) 4 (kdA dt_MX12_costOfNet 47 rfl) rfl c8 (by decide) rfl ?_
      refine K_goto (tgt := 21) (kdA dt_MX12_costOfNet 48 rfl) rfl ?_
      exact h
    · have h := h.2 c
      refine K_iload_n 3 (kdA dt_MX12_costOfNet 33 rfl) rfl rfl ?_
      refine K_iconst (kdA dt_MX12_costOfNet 34 rfl) (by decide) ?_
      refine K_icmp_eq (tgt := 76) (kdA dt_MX12_costOfNet 35 rfl) rfl (fun c => ?_) (fun c => ?_)
      · have h := h.1 c
        refine K_iload 4 (kdA dt_MX12_costOfNet 45 rfl) rfl ?_
        refine K_istore_n (ls' := [(0, (2, a0)), (1, (0, a1)), (2, (0, a2)), (3, (0, a4)), (4, (0, a4))]) (kdA dt_MX12_costOfNet 46 rfl) rfl (by decide) rfl ?_
        obtain ⟨c8, h⟩ := h
        refine K_iinc (ls' := [(0, (2, a0)), (1, (0, a1)), (2, (0, a2)), (3, (0, a4)), (4, (0, (a4 + 1)))]) 4 (kdA dt_MX12_costOfNet 47 rfl) rfl c8 (by decide) rfl ?_
        refine K_goto (tgt := 21) (kdA dt_MX12_costOfNet 48 rfl) rfl ?_
        exact h
      · have h := h.2 c
        refine K_aload_n 0 (kdA dt_MX12_costOfNet 36 rfl) rfl rfl ?_
        refine gf12_124 rfl (kdA dt_MX12_costOfNet 37 rfl) c1 ?_
        refine K_iload 4 (kdA dt_MX12_costOfNet 38 rfl) rfl ?_
        obtain ⟨c8, h⟩ := h
        obtain ⟨c9, h⟩ := h
        refine K_iaload (kdA dt_MX12_costOfNet 39 rfl) c8 c9.1 c9.2 ?_
        refine K_aload_n 0 (kdA dt_MX12_costOfNet 40 rfl) rfl rfl ?_
        refine gf12_124 rfl (kdA dt_MX12_costOfNet 41 rfl) c1 ?_
        refine K_iload_n 3 (kdA dt_MX12_costOfNet 42 rfl) rfl rfl ?_
        obtain ⟨c10, h⟩ := h
        refine K_iaload (kdA dt_MX12_costOfNet 43 rfl) c8 c10.1 c10.2 ?_
        refine K_icmp_ge (tgt := 79) (kdA dt_MX12_costOfNet 44 rfl) rfl (fun c => ?_) (fun c => ?_)
        · have h := h.1 c
          obtain ⟨c11, h⟩ := h
          refine K_iinc (ls' := [(0, (2, a0)), (1, (0, a1)), (2, (0, a2)), (3, (0, a3)), (4, (0, (a4 + 1)))]) 4 (kdA dt_MX12_costOfNet 47 rfl) rfl c11 (by decide) rfl ?_
          refine K_goto (tgt := 21) (kdA dt_MX12_costOfNet 48 rfl) rfl ?_
          exact h
        · have h := h.2 c
          refine K_iload 4 (kdA dt_MX12_costOfNet 45 rfl) rfl ?_
          refine K_istore_n (ls' := [(0, (2, a0)), (1, (0, a1)), (2, (0, a2)), (3, (0, a4)), (4, (0, a4))]) (kdA dt_MX12_costOfNet 46 rfl) rfl (by decide) rfl ?_
          obtain ⟨c11, h⟩ := h
          refine K_iinc (ls' := [(0, (2, a0)), (1, (0, a1)), (2, (0, a2)), (3, (0, a4)), (4, (0, (a4 + 1)))]) 4 (kdA dt_MX12_costOfNet 47 rfl) rfl c11 (by decide) rfl ?_
          refine K_goto (tgt := 21) (kdA dt_MX12_costOfNet 48 rfl) rfl ?_
          exact h
theorem EX12_costOfNet {d n : Nat} {Q : Int → kS → Prop} {a0 : Int} {σ : kS} (h : kokw n σ → LX12_costOfNet_0 d n Q a0 σ) : Ci (d + 1) MX12_costOfNet [(2, a0)] n σ Q := Tri_of (by decide +kernel) (Nat.le_of_ble_eq_true rfl) (fun hk hw => h hw)

def LX12_count_0 (d n : Nat) (Q : Int → kS → Prop) (a0 : Int) (a1 : Int) (σ : kS) : Prop := K (d + 1) MX12_count (kPi n Q) (0, 0) 0 [(0, (2, a0)), (1, (0, a1))] [] n σ
theorem SX12_count_0 {d n : Nat} {Q : Int → kS → Prop} {a0 a1 : Int} {σ : kS} (h : isO 12 n a0 ∧ (∀ s1, s1 = kst σ a0 0 0 → (a1 < 0 ∨ 9 < a1 → Q (-1) s1) ∧ (a1 = 0 → Q (s1 a0 3) s1) ∧ (a1 = 1 → Q (s1 a0 14) s1) ∧ (a1 = 2 → Q (s1 a0 15) s1) ∧ (a1 = 3 → Q (s1 a0 34) s1) ∧ (a1 = 4 → Q (s1 a0 38) s1) ∧ (a1 = 5 → Q (s1 a0 41) s1) ∧ (a1 = 6 → Q (s1 a0 49) s1) ∧ (a1 = 7 → Q (s1 a0 54) s1) ∧ (a1 = 8 → Q (s1 a0 13) s1) ∧ (a1 = 9 → Q (s1 a0 68) s1))) : LX12_count_0 d n Q a0 a1 σ := by
  unfold LX12_count_0
  refine K_aload_n 0 (kdA dt_MX12_count 0 rfl) rfl rfl ?_
  refine K_iconst (kdA dt_MX12_count 1 rfl) (by decide) ?_
  obtain ⟨c1, h⟩ := h
  refine pf12_149 rfl (kdA dt_MX12_count 2 rfl) c1 (fun s1 es1 => ?_)
  have h := h s1 es1
  refine K_iload_n 1 (kdA dt_MX12_count 3 rfl) rfl rfl ?_
  by_cases hx : a1 < 0 ∨ 9 < a1
  · refine K_sw0 (tgt := 110) (kdA dt_MX12_count 4 rfl) hx rfl ?_
    have h := h.1 hx
    refine K_iconst (kdA dt_MX12_count 35 rfl) (by decide) ?_
    exact K_ireturn (kdA dt_MX12_count 36 rfl) rfl ⟨rfl, _, rfl, h⟩
  have h := h.2
  have l0 : (0 : Int) ≤ a1 := Int.not_lt.mp (fun q => hx (Or.inl q))
  by_cases e0 : a1 = 0
  · refine K_sw1 (tgt := 60) (kdA dt_MX12_count 4 rfl) e0 (by decide) rfl rfl ?_
    have h := h.1 e0
    refine K_aload_n 0 (kdA dt_MX12_count 5 rfl) rfl rfl ?_
    refine gf12_165 rfl (kdA dt_MX12_count 6 rfl) c1 ?_
    exact K_ireturn (kdA dt_MX12_count 7 rfl) rfl ⟨rfl, _, rfl, h⟩
  have h := h.2
  have l1 := k_sn l0 e0 (show (0 : Int) + 1 = 1 by decide)
  by_cases e1 : a1 = 1
  · refine K_sw1 (tgt := 65) (kdA dt_MX12_count 4 rfl) e1 (by decide) rfl rfl ?_
    have h := h.1 e1
    refine K_aload_n 0 (kdA dt_MX12_count 8 rfl) rfl rfl ?_
    refine gf12_306 rfl (kdA dt_MX12_count 9 rfl) c1 ?_
    exact K_ireturn (kdA dt_MX12_count 10 rfl) rfl ⟨rfl, _, rfl, h⟩
  have h := h.2
  have l2 := k_sn l1 e1 (show (1 : Int) + 1 = 2 by decide)
  by_cases e2 : a1 = 2
  · refine K_sw1 (tgt := 70) (kdA dt_MX12_count 4 rfl) e2 (by decide) rfl rfl ?_
    have h := h.1 e2
    refine K_aload_n 0 (kdA dt_MX12_count 11 rfl) rfl rfl ?_
    refine gf12_294 rfl (kdA dt_MX12_count 12 rfl) c1 ?_
    exact K_ireturn (kdA dt_MX12_count 13 rfl) rfl ⟨rfl, _, rfl, h⟩
  have h := h.2
  have l3 := k_sn l2 e2 (show (2 : Int) + 1 = 3 by decide)
  by_cases e3 : a1 = 3
  · refine K_sw1 (tgt := 75) (kdA dt_MX12_count 4 rfl) e3 (by decide) rfl rfl ?_
    have h := h.1 e3
    refine K_aload_n 0 (kdA dt_MX12_count 14 rfl) rfl rfl ?_
    refine gf12_371 rfl (kdA dt_MX12_count 15 rfl) c1 ?_
    exact K_ireturn (kdA dt_MX12_count 16 rfl) rfl ⟨rfl, _, rfl, h⟩
  have h := h.2
  have l4 := k_sn l3 e3 (show (3 : Int) + 1 = 4 by decide)
  by_cases e4 : a1 = 4
  · refine K_sw1 (tgt := 80) (kdA dt_MX12_count 4 rfl) e4 (by decide) rfl rfl ?_
    have h := h.1 e4
    refine K_aload_n 0 (kdA dt_MX12_count 17 rfl) rfl rfl ?_
    refine gf12_400 rfl (kdA dt_MX12_count 18 rfl) c1 ?_
    exact K_ireturn (kdA dt_MX12_count 19 rfl) rfl ⟨rfl, _, rfl, h⟩
  have h := h.2
  have l5 := k_sn l4 e4 (show (4 : Int) + 1 = 5 by decide)
  by_cases e5 : a1 = 5
  · refine K_sw1 (tgt := 85) (kdA dt_MX12_count 4 rfl) e5 (by decide) rfl rfl ?_
    have h := h.1 e5
    refine K_aload_n 0 (kdA dt_MX12_count 20 rfl) rfl rfl ?_
    refine gf12_420 rfl (kdA dt_MX12_count 21 rfl) c1 ?_
    exact K_ireturn (kdA dt_MX12_count 22 rfl) rfl ⟨rfl, _, rfl, h⟩
  have h := h.2
  have l6 := k_sn l5 e5 (show (5 : Int) + 1 = 6 by decide)
  by_cases e6 : a1 = 6
  · refine K_sw1 (tgt := 90) (kdA dt_MX12_count 4 rfl) e6 (by decide) rfl rfl ?_
    have h := h.1 e6
    refine K_aload_n 0 (kdA dt_MX12_count 23 rfl) rfl rfl ?_
    refine gf12_465 rfl (kdA dt_MX12_count 24 rfl) c1 ?_
    exact K_ireturn (kdA dt_MX12_count 25 rfl) rfl ⟨rfl, _, rfl, h⟩
  have h := h.2
  have l7 := k_sn l6 e6 (show (6 : Int) + 1 = 7 by decide)
  by_cases e7 : a1 = 7
  · refine K_sw1 (tgt := 95) (kdA dt_MX12_count 4 rfl) e7 (by decide) rfl rfl ?_
    have h := h.1 e7
    refine K_aload_n 0 (kdA dt_MX12_count 26 rfl) rfl rfl ?_
    refine gf12_479 rfl (kdA dt_MX12_count 27 rfl) c1 ?_
    exact K_ireturn (kdA dt_MX12_count 28 rfl) rfl ⟨rfl, _, rfl, h⟩
  have h := h.2
  have l8 := k_sn l7 e7 (show (7 : Int) + 1 = 8 by decide)
  by_cases e8 : a1 = 8
  · refine K_sw1 (tgt := 100) (kdA dt_MX12_count 4 rfl) e8 (by decide) rfl rfl ?_
    have h := h.1 e8
    refine K_aload_n 0 (kdA dt_MX12_count 29 rfl) rfl rfl ?_
    refine gf12_194 rfl (kdA dt_MX12_count 30 rfl) c1 ?_
    exact K_ireturn (kdA dt_MX12_count 31 rfl) rfl ⟨rfl, _, rfl, h⟩
  have h := h.2
  have l9 := k_sn l8 e8 (show (8 : Int) + 1 = 9 by decide)
  by_cases e9 : a1 = 9
  · refine K_sw1 (tgt := 105) (kdA dt_MX12_count 4 rfl) e9 (by decide) rfl rfl ?_
    have h := h e9
    refine K_aload_n 0 (kdA dt_MX12_count 32 rfl) rfl rfl ?_
    refine gf12_529 rfl (kdA dt_MX12_count 33 rfl) c1 ?_
    exact K_ireturn (kdA dt_MX12_count 34 rfl) rfl ⟨rfl, _, rfl, h⟩
  have l10 := k_sn l9 e9 (show (9 : Int) + 1 = 10 by decide)
  exact absurd (Or.inr (Int.lt_of_lt_of_le (show (9 : Int) < 10 by decide) l10)) hx
theorem EX12_count {d n : Nat} {Q : Int → kS → Prop} {a0 a1 : Int} {σ : kS} (h : (-2147483648 ≤ a1 ∧ a1 ≤ 2147483647) → kokw n σ → LX12_count_0 d n Q a0 a1 σ) : Ci (d + 1) MX12_count [(2, a0), (0, a1)] n σ Q := Tri_of (by decide +kernel) (Nat.le_of_ble_eq_true rfl) (fun hk hw => h (hk (0, a1) (List.mem_of_getElem? (i := 1) rfl)) hw)

def LX12_dig_0 (d n : Nat) (Q : Int → kS → Prop) (a0 : Int) (a1 : Int) (a2 : Int) (a3 : Int) (σ : kS) : Prop := K (d + 1) MX12_dig (kPi n Q) (0, 0) 0 [(0, (2, a0)), (1, (0, a1)), (2, (0, a2)), (3, (0, a3))] [] n σ
def LX12_dig_35 (d n : Nat) (Q : Int → kS → Prop) (a0 : Int) (a3 : Int) (a4 : Int) (σ : kS) : Prop := K (d + 1) MX12_dig (kPi n Q) (0, 0) 35 [(0, (2, a0)), (3, (0, a3)), (4, (0, a4))] [] n σ
def LX12_dig_55 (d n : Nat) (Q : Int → kS → Prop) (a0 : Int) (a3 : Int) (a4 : Int) (a5 : Int) (σ : kS) : Prop := K (d + 1) MX12_dig (kPi n Q) (0, 0) 55 [(0, (2, a0)), (3, (0, a3)), (4, (0, a4)), (5, (0, a5))] [] n σ
def LX12_dig_123 (d n : Nat) (Q : Int → kS → Prop) (a0 : Int) (a3 : Int) (a4 : Int) (a5 : Int) (a6 : Int) (σ : kS) : Prop := K (d + 1) MX12_dig (kPi n Q) (0, 0) 123 [(0, (2, a0)), (3, (0, a3)), (4, (0, a4)), (5, (0, a5)), (6, (0, a6))] [] n σ
theorem SX12_dig_0 {d n : Nat} {Q : Int → kS → Prop} {a0 a1 a2 a3 : Int} {σ : kS} (h : isO 12 n a0 ∧ (∀ s1, s1 = kst σ a0 0 0 → Ci d MX12_areTowns [(2, a0), (0, a1), (0, a2)] n s1 (fun x2 s2 => (x2 = 0 → Q (-1) s2) ∧ (¬ x2 = 0 → Ci d MX12_isIn [(0, a3), (0, 0), (0, 6)] n s2 (fun x3 s3 => (¬ x3 = 0 → Cv d MX12_layWorlds [(2, a0), (0, a1), (0, a2)] n s3 (fun s4 => LX12_dig_35 d n Q a0 a3 0 s4)) ∧ (¬ (¬ x3 = 0) → Q (-1) s3)))))) : LX12_dig_0 d n Q a0 a1 a2 a3 σ := by
  unfold LX12_dig_0
  refine K_aload_n 0 (kdA dt_MX12_dig 0 rfl) rfl rfl ?_
  refine K_iconst (kdA dt_MX12_dig 1 rfl) (by decide) ?_
  obtain ⟨c1, h⟩ := h
  refine pf12_149 rfl (kdA dt_MX12_dig 2 rfl) c1 (fun s1 es1 => ?_)
  have h := h s1 es1
  refine K_aload_n 0 (kdA dt_MX12_dig 3 rfl) rfl rfl ?_
  refine K_iload_n 1 (kdA dt_MX12_dig 4 rfl) rfl rfl ?_
  refine K_iload_n 2 (kdA dt_MX12_dig 5 rfl) rfl rfl ?_
  refine K_cVi (c := 12) (as := [(0, a1), (0, a2)]) (st := []) (kdA dt_MX12_dig 6 rfl) rfl cl_MX12_areTowns lk12_456 rfl rfl (Nat.le_of_ble_eq_true rfl) c1 (Ci.mono h (fun x2 s2 h => ?_))
  refine K_if_eq (tgt := 24) (kdA dt_MX12_dig 7 rfl) rfl (fun c => ?_) (fun c => ?_)
  · have h := h.1 c
    refine K_iconst (kdA dt_MX12_dig 13 rfl) (by decide) ?_
    exact K_ireturn (kdA dt_MX12_dig 14 rfl) rfl ⟨rfl, _, rfl, h⟩
  · have h := h.2 c
    refine K_iload_n 3 (kdA dt_MX12_dig 8 rfl) rfl rfl ?_
    refine K_iconst (kdA dt_MX12_dig 9 rfl) (by decide) ?_
    refine K_bipush (kdA dt_MX12_dig 10 rfl) (by decide +kernel) ?_
    refine K_cSi (as := [(0, a3), (0, 0), (0, 6)]) (st := []) (kdA dt_MX12_dig 11 rfl) cl_MX12_isIn lk12_153 rfl rfl (Nat.le_of_ble_eq_true rfl) (Ci.mono h (fun x3 s3 h => ?_))
    refine K_if_ne (tgt := 26) (kdA dt_MX12_dig 12 rfl) rfl (fun c => ?_) (fun c => ?_)
    · have h := h.1 c
      refine K_aload_n 0 (kdA dt_MX12_dig 15 rfl) rfl rfl ?_
      refine K_iload_n 1 (kdA dt_MX12_dig 16 rfl) rfl rfl ?_
      refine K_iload_n 2 (kdA dt_MX12_dig 17 rfl) rfl rfl ?_
      refine K_cVv (c := 12) (as := [(0, a1), (0, a2)]) (st := []) (kdA dt_MX12_dig 18 rfl) rfl cl_MX12_layWorlds lk12_459 rfl rfl (Nat.le_of_ble_eq_true rfl) c1 (Cv.mono h (fun s4 h => ?_))
      refine K_iconst (kdA dt_MX12_dig 19 rfl) (by decide) ?_
      refine K_istore (ls' := [(0, (2, a0)), (1, (0, a1)), (2, (0, a2)), (3, (0, a3)), (4, (0, 0))]) (kdA dt_MX12_dig 20 rfl) (by decide) rfl ?_
      refine K_pick [0, 3, 4] (ls' := [(0, (2, a0)), (3, (0, a3)), (4, (0, 0))]) rfl ?_
      exact h
    · have h := h.2 c
      refine K_iconst (kdA dt_MX12_dig 13 rfl) (by decide) ?_
      exact K_ireturn (kdA dt_MX12_dig 14 rfl) rfl ⟨rfl, _, rfl, h⟩
theorem SX12_dig_35 {d n : Nat} {Q : Int → kS → Prop} {a0 a3 a4 : Int} {σ : kS} (h : isO 12 n a0 ∧ (((σ a0 14) ≤ a4 → Ci d MX12_partedBy [(2, a0), (0, 0)] n σ (fun x2 s1 => LX12_dig_123 d n Q a0 a3 0 x2 1 s1)) ∧ (¬ (σ a0 14) ≤ a4 → isA 20 n (σ a0 48) ∧ (((0 : Int) ≤ a4 ∧ a4 < klen (σ a0 48)) ∧ (∀ s1, s1 = kst σ (σ a0 48) a4 0 → LX12_dig_55 d n Q a0 a3 a4 0 s1))))) : LX12_dig_35 d n Q a0 a3 a4 σ := by
  unfold LX12_dig_35
  refine K_iload 2 (kdA dt_MX12_dig 21 rfl) rfl ?_
  refine K_aload_n 0 (kdA dt_MX12_dig 22 rfl) rfl rfl ?_
  obtain ⟨c1, h⟩ := h
  refine gf12_306 rfl (kdA dt_MX12_dig 23 rfl) c1 ?_
  refine K_icmp_ge (tgt := 110) (kdA dt_MX12_dig 24 rfl) rfl (fun c => ?_) (fun c => ?_)
  · have h := h.1 c
    refine K_iconst (kdA dt_MX12_dig 60 rfl) (by decide) ?_
    refine K_istore (ls' := [(0, (2, a0)), (3, (0, a3)), (4, (0, 0))]) (kdA dt_MX12_dig 61 rfl) (by decide) rfl ?_
    refine K_aload_n 0 (kdA dt_MX12_dig 62 rfl) rfl rfl ?_
    refine K_iconst (kdA dt_MX12_dig 63 rfl) (by decide) ?_
    refine K_cVi (c := 12) (as := [(0, 0)]) (st := []) (kdA dt_MX12_dig 64 rfl) rfl cl_MX12_partedBy lk12_473 rfl rfl (Nat.le_of_ble_eq_true rfl) c1 (Ci.mono h (fun x2 s1 h => ?_))
    refine K_istore (ls' := [(0, (2, a0)), (3, (0, a3)), (4, (0, 0)), (5, (0, x2))]) (kdA dt_MX12_dig 65 rfl) (by decide) rfl ?_
    refine K_iconst (kdA dt_MX12_dig 66 rfl) (by decide) ?_
    refine K_istore (ls' := [(0, (2, a0)), (3, (0, a3)), (4, (0, 0)), (5, (0, x2)), (6, (0, 1))]) (kdA dt_MX12_dig 67 rfl) (by decide) rfl ?_
    exact h
  · have h := h.2 c
    refine K_aload_n 0 (kdA dt_MX12_dig 25 rfl) rfl rfl ?_
    refine gf12_109 rfl (kdA dt_MX12_dig 26 rfl) c1 ?_
    refine K_iload 2 (kdA dt_MX12_dig 27 rfl) rfl ?_
    refine K_iconst (kdA dt_MX12_dig 28 rfl) (by decide) ?_
    obtain ⟨c2, h⟩ := h
    obtain ⟨c3, h⟩ := h
    refine K_iastore' (kdA dt_MX12_dig 29 rfl) c2 c3.1 c3.2 (fun s1 es1 => ?_)
    have h := h s1 es1
    refine K_iconst (kdA dt_MX12_dig 30 rfl) (by decide) ?_
    refine K_istore (ls' := [(0, (2, a0)), (3, (0, a3)), (4, (0, a4)), (5, (0, 0))]) (kdA dt_MX12_dig 31 rfl) (by decide) rfl ?_
    exact h
theorem SX12_dig_123 {d n : Nat} {Q : Int → kS → Prop} {a0 a3 a4 a5 a6 : Int} {σ : kS} (h : isO 12 n a0 ∧ (((kishl 1 (σ a0 49)) ≤ a6 → Q a4 σ) ∧ (¬ (kishl 1 (σ a0 49)) ≤ a6 → Ci d MJm_bitCount [(0, a6)] n σ (fun x2 s1 => (x2 ≤ a3 → Ci d MX12_partedBy [(2, a0), (0, a6)] n s1 (fun x3 s2 => (a5 < x3 → (-2147483648 ≤ (a6 + 1) ∧ (a6 + 1) ≤ 2147483647) ∧ (LX12_dig_123 d n Q a0 a3 a4 a5 (a6 + 1) s2)) ∧ (¬ a5 < x3 → (¬ x3 = a5 → (-2147483648 ≤ (a6 + 1) ∧ (a6 + 1) ≤ 2147483647) ∧ (LX12_dig_123 d n Q a0 a3 a6 x3 (a6 + 1) s2)) ∧ (¬ (¬ x3 = a5) → Ci d MX12_isBefore [(0, a6), (0, a4)] n s2 (fun x4 s3 => (¬ x4 = 0 → (-2147483648 ≤ (a6 + 1) ∧ (a6 + 1) ≤ 2147483647) ∧ (LX12_dig_123 d n Q a0 a3 a6 x3 (a6 + 1) s3)) ∧ (¬ (¬ x4 = 0) → (-2147483648 ≤ (a6 + 1) ∧ (a6 + 1) ≤ 2147483647) ∧ (LX12_dig_123 d n Q a0 a3 a4 a5 (a6 + 1) s3))))))) ∧ (¬ x2 ≤ a3 → (-2147483648 ≤ (a6 + 1) ∧ (a6 + 1) ≤ 2147483647) ∧ (LX12_dig_123 d n Q a0 a3 a4 a5 (a6 + 1) s1)))))) : LX12_dig_123 d n Q a0 a3 a4 a5 a6 σ := by
  unfold LX12_dig_123
  refine K_iload 4 (kdA dt_MX12_dig 68 rfl) rfl ?_
  refine K_iconst (kdA dt_MX12_dig 69 rfl) (by decide) ?_
  refine K_aload_n 0 (kdA dt_MX12_dig 70 rfl) rfl rfl ?_
  obtain ⟨c1, h⟩ := h
  refine gf12_465 rfl (kdA dt_MX12_dig 71 rfl) c1 ?_
  refine K_ishl (kdA dt_MX12_dig 72 rfl) ?_
  refine K_icmp_ge (tgt := 195) (kdA dt_MX12_dig 73 rfl) rfl (fun c => ?_) (fun c => ?_)
  · have h := h.1 c
    refine K_iload 2 (kdA dt_MX12_dig 100 rfl) rfl ?_
    exact K_ireturn (kdA dt_MX12_dig 101 rfl) rfl ⟨rfl, _, rfl, h⟩
  · have h := h.2 c
    refine K_iload 4 (kdA dt_MX12_dig 74 rfl) rfl ?_
    refine K_cSi (as := [(0, a6)]) (st := []) (kdA dt_MX12_dig 75 rfl) cl_MJm_bitCount lk12_468 rfl rfl (Nat.le_of_ble_eq_true rfl) (Ci.mono h (fun x2 s1 h => ?_))
    refine K_iload_n 1 (kdA dt_MX12_dig 76 rfl) rfl rfl ?_
    refine K_icmp_le (tgt := 146) (kdA dt_MX12_dig 77 rfl) rfl (fun c => ?_) (fun c => ?_)
    · have h := h.1 c
      refine K_aload_n 0 (kdA dt_MX12_dig 79 rfl) rfl rfl ?_
      refine K_iload 4 (kdA dt_MX12_dig 80 rfl) rfl ?_
      refine K_cVi (c := 12) (as := [(0, a6)]) (st := []) (kdA dt_MX12_dig 81 rfl) rfl cl_MX12_partedBy lk12_473 rfl rfl (Nat.le_of_ble_eq_true rfl) c1 (Ci.mono h (fun x3 s2 h => ?_))
      refine K_istore (ls' := [(0, (2, a0)), (3, (0, a3)), (4, (0, a4)), (5, (0, a5)), (6, (0, a6)), (7, (0, x3))]) (kdA dt_MX12_dig 82 rfl) (by decide) rfl ?_
      refine K_iload 5 (kdA dt_MX12_dig 83 rfl) rfl ?_
      refine K_iload 3 (kdA dt_MX12_dig 84 rfl) rfl ?_
      refine K_icmp_gt (tgt := 189) (kdA dt_MX12_dig 85 rfl) rfl (fun c => ?_) (fun c => ?_)
      · have h := h.1 c
        obtain ⟨c4, h⟩ := h
        refine K_iinc (ls' := [(0, (2, a0)), (3, (0, a3)), (4, (0, a4)), (5, (0, a5)), (6, (0, (a6 + 1))), (7, (0, x3))]) 4 (kdA dt_MX12_dig 98 rfl) rfl c4 (by decide) rfl ?_
        refine K_goto (tgt := 123) (kdA dt_MX12_dig 99 rfl) rfl ?_
        refine K_pick [0, 1, 2, 3, 4] (ls' := [(0, (2, a0)), (3, (0, a3)), (4, (0, a4)), (5, (0, a5)), (6, (0, (a6 + 1)))]) rfl ?_
        exact h
      · have h := h.2 c
        refine K_iload 5 (kdA dt_MX12_dig 86 rfl) rfl ?_
        refine K_iload 3 (kdA dt_MX12_dig 87 rfl) rfl ?_
        refine K_icmp_ne (tgt := 181) (kdA dt_MX12_dig 88 rfl) rfl (fun c => ?_) (fun c => ?_)
        · have h := h.1 c
          refine K_iload 4 (kdA dt_MX12_dig 94 rfl) rfl ?_
          refine K_istore (ls' := [(0, (2, a0)), (3, (0, a3)), (4, (0, a6)), (5, (0, a5)), (6, (0, a6)), (7, (0, x3))]) (kdA dt_MX12_dig 95 rfl) (by decide) rfl ?_
          refine K_iload 5 (kdA dt_MX12_dig 96 rfl) rfl ?_
          refine K_istore (ls' := [(0, (2, a0)), (3, (0, a3)), (4, (0, a6)), (5, (0, x3)), (6, (0, a6)), (7, (0, x3))]) (kdA dt_MX12_dig 97 rfl) (by decide) rfl ?_
          obtain ⟨c4, h⟩ := h
          refine K_iinc (ls' := [(0, (2, a0)), (3, (0, a3)), (4, (0, a6)), (5, (0, x3)), (6, (0, (a6 + 1))), (7, (0, x3))]) 4 (kdA dt_MX12_dig 98 rfl) rfl c4 (by decide) rfl ?_
          refine K_goto (tgt := 123) (kdA dt_MX12_dig 99 rfl) rfl ?_
          refine K_pick [0, 1, 2, 3, 4] (ls' := [(0, (2, a0)), (3, (0, a3)), (4, (0, a6)), (5, (0, x3)), (6, (0, (a6 + 1)))]) rfl ?_
          exact h
        · have h := h.2 c
          refine K_iload 4 (kdA dt_MX12_dig 89 rfl) rfl ?_
          refine K_iload 2 (kdA dt_MX12_dig 90 rfl) rfl ?_
          refine K_cSi (as := [(0, a6), (0, a4)]) (st := []) (kdA dt_MX12_dig 91 rfl) cl_MX12_isBefore lk12_476 rfl rfl (Nat.le_of_ble_eq_true rfl) (Ci.mono h (fun x4 s3 h => ?_))
          refine K_if_ne (tgt := 181) (kdA dt_MX12_dig 92 rfl) rfl (fun c => ?_) (fun c => ?_)
          · have h := h.1 c
            refine K_iload 4 (kdA dt_MX12_dig 94 rfl) rfl ?_
            refine K_istore (ls' := [(0, (2, a0)), (3, (0, a3)), (4, (0, a6)), (5, (0, a5)), (6, (0, a6)), (7, (0, x3))]) (kdA dt_MX12_dig 95 rfl) (by decide) rfl ?_
            refine K_iload 5 (kdA dt_MX12_dig 96 rfl) rfl ?_
            refine K_istore (ls' := [(0, (2, a0)), (3, (0, a3)), (4, (0, a6)), (5, (0, x3)), (6, (0, a6)), (7, (0, x3))]) (kdA dt_MX12_dig 97 rfl) (by decide) rfl ?_
            obtain ⟨c5, h⟩ := h
            refine K_iinc (ls' := [(0, (2, a0)), (3, (0, a3)), (4, (0, a6)), (5, (0, x3)), (6, (0, (a6 + 1))), (7, (0, x3))]) 4 (kdA dt_MX12_dig 98 rfl) rfl c5 (by decide) rfl ?_
            refine K_goto (tgt := 123) (kdA dt_MX12_dig 99 rfl) rfl ?_
            refine K_pick [0, 1, 2, 3, 4] (ls' := [(0, (2, a0)), (3, (0, a3)), (4, (0, a6)), (5, (0, x3)), (6, (0, (a6 + 1)))]) rfl ?_
            exact h
          · have h := h.2 c
            refine K_goto (tgt := 189) (kdA dt_MX12_dig 93 rfl) rfl ?_
            obtain ⟨c5, h⟩ := h
            refine K_iinc (ls' := [(0, (2, a0)), (3, (0, a3)), (4, (0, a4)), (5, (0, a5)), (6, (0, (a6 + 1))), (7, (0, x3))]) 4 (kdA dt_MX12_dig 98 rfl) rfl c5 (by decide) rfl ?_
            refine K_goto (tgt := 123) (kdA dt_MX12_dig 99 rfl) rfl ?_
            refine K_pick [0, 1, 2, 3, 4] (ls' := [(0, (2, a0)), (3, (0, a3)), (4, (0, a4)), (5, (0, a5)), (6, (0, (a6 + 1)))]) rfl ?_
            exact h
    · have h := h.2 c
      refine K_goto (tgt := 189) (kdA dt_MX12_dig 78 rfl) rfl ?_
      obtain ⟨c3, h⟩ := h
      refine K_iinc (ls' := [(0, (2, a0)), (3, (0, a3)), (4, (0, a4)), (5, (0, a5)), (6, (0, (a6 + 1)))]) 4 (kdA dt_MX12_dig 98 rfl) rfl c3 (by decide) rfl ?_
      refine K_goto (tgt := 123) (kdA dt_MX12_dig 99 rfl) rfl ?_
      exact h
theorem SX12_dig_55 {d n : Nat} {Q : Int → kS → Prop} {a0 a3 a4 a5 : Int} {σ : kS} (h : isO 12 n a0 ∧ (((σ a0 49) ≤ a5 → (-2147483648 ≤ (a4 + 1) ∧ (a4 + 1) ≤ 2147483647) ∧ (LX12_dig_35 d n Q a0 a3 (a4 + 1) σ)) ∧ (¬ (σ a0 49) ≤ a5 → isA 20 n (σ a0 48) ∧ (((0 : Int) ≤ a4 ∧ a4 < klen (σ a0 48)) ∧ (isA 20 n (σ a0 47) ∧ (((0 : Int) ≤ a5 ∧ a5 < klen (σ a0 47)) ∧ (Ci d MX12_isOnWay [(2, a0), (0, a4), (0, (σ (σ a0 47) a5))] n σ (fun x6 s1 => (x6 = 0 → ∀ s2, s2 = kst s1 (σ a0 48) a4 (kor (σ (σ a0 48) a4) 0) → (-2147483648 ≤ (a5 + 1) ∧ (a5 + 1) ≤ 2147483647) ∧ (LX12_dig_55 d n Q a0 a3 a4 (a5 + 1) s2)) ∧ (¬ x6 = 0 → ∀ s2, s2 = kst s1 (σ a0 48) a4 (kor (σ (σ a0 48) a4) (kishl 1 a5)) → (-2147483648 ≤ (a5 + 1) ∧ (a5 + 1) ≤ 2147483647) ∧ (LX12_dig_55 d n Q a0 a3 a4 (a5 + 1) s2)))))))))) : LX12_dig_55 d n Q a0 a3 a4 a5 σ := by
  unfold LX12_dig_55
  refine K_iload 3 (kdA dt_MX12_dig 32 rfl) rfl ?_
  refine K_aload_n 0 (kdA dt_MX12_dig 33 rfl) rfl rfl ?_
  obtain ⟨c1, h⟩ := h
  refine gf12_465 rfl (kdA dt_MX12_dig 34 rfl) c1 ?_
  refine K_icmp_ge (tgt := 104) (kdA dt_MX12_dig 35 rfl) rfl (fun c => ?_) (fun c => ?_)
  · have h := h.1 c
    obtain ⟨c2, h⟩ := h
    refine K_iinc (ls' := [(0, (2, a0)), (3, (0, a3)), (4, (0, (a4 + 1))), (5, (0, a5))]) 2 (kdA dt_MX12_dig 58 rfl) rfl c2 (by decide) rfl ?_
    refine K_goto (tgt := 35) (kdA dt_MX12_dig 59 rfl) rfl ?_
    refine K_pick [0, 1, 2] (ls' := [(0, (2, a0)), (3, (0, a3)), (4, (0, (a4 + 1)))]) rfl ?_
    exact h
  · have h := h.2 c
    refine K_aload_n 0 (kdA dt_MX12_dig 36 rfl) rfl rfl ?_
    refine gf12_109 rfl (kdA dt_MX12_dig 37 rfl) c1 ?_
    refine K_iload 2 (kdA dt_MX12_dig 38 rfl) rfl ?_
    refine K_dup2 (kdA dt_MX12_dig 39 rfl) rfl rfl ?_
    obtain ⟨c2, h⟩ := h
    obtain ⟨c3, h⟩ := h
    refine K_iaload (kdA dt_MX12_dig 40 rfl) c2 c3.1 c3.2 ?_
    refine K_aload_n 0 (kdA dt_MX12_dig 41 rfl) rfl rfl ?_
    refine K_iload 2 (kdA dt_MX12_dig 42 rfl) rfl ?_
    refine K_aload_n 0 (kdA dt_MX12_dig 43 rfl) rfl rfl ?_
    refine gf12_106 rfl (kdA dt_MX12_dig 44 rfl) c1 ?_
    refine K_iload 3 (kdA dt_MX12_dig 45 rfl) rfl ?_
    obtain ⟨c4, h⟩ := h
    obtain ⟨c5, h⟩ := h
    refine K_iaload (kdA dt_MX12_dig 46 rfl) c4 c5.1 c5.2 ?_
    refine K_cVi (c := 12) (as := [(0, a4), (0, (σ (σ a0 47) a5))]) (st := [(0, (σ (σ a0 48) a4)), (0, a4), (2, (σ a0 48))]) (kdA dt_MX12_dig 47 rfl) rfl cl_MX12_isOnWay lk12_462 rfl rfl (Nat.le_of_ble_eq_true rfl) c1 (Ci.mono h (fun x6 s1 h => ?_))
    refine K_if_eq (tgt := 95) (kdA dt_MX12_dig 48 rfl) rfl (fun c => ?_) (fun c => ?_)
    · have h := h.1 c
      refine K_iconst (kdA dt_MX12_dig 53 rfl) (by decide) ?_
      refine K_ior (kdA dt_MX12_dig 54 rfl) ?_
      refine K_iastore' (kdA dt_MX12_dig 55 rfl) c2 c3.1 c3.2 (fun s2 es2 => ?_)
      have h := h s2 es2
      obtain ⟨c7, h⟩ := h
      refine K_iinc (ls' := [(0, (2, a0)), (3, (0, a3)), (4, (0, a4)), (5, (0, (a5 + 1)))]) 3 (kdA dt_MX12_dig 56 rfl) rfl c7 (by decide) rfl ?_
      refine K_goto (tgt := 55) (kdA dt_MX12_dig 57 rfl) rfl ?_
      exact h
    · have h := h.2 c
      refine K_iconst (kdA dt_MX12_dig 49 rfl) (by decide) ?_
      refine K_iload 3 (kdA dt_MX12_dig 50 rfl) rfl ?_
      refine K_ishl (kdA dt_MX12_dig 51 rfl) ?_
      refine K_goto (tgt := 96) (kdA dt_MX12_dig 52 rfl) rfl ?_
      refine K_ior (kdA dt_MX12_dig 54 rfl) ?_
      refine K_iastore' (kdA dt_MX12_dig 55 rfl) c2 c3.1 c3.2 (fun s2 es2 => ?_)
      have h := h s2 es2
      obtain ⟨c7, h⟩ := h
      refine K_iinc (ls' := [(0, (2, a0)), (3, (0, a3)), (4, (0, a4)), (5, (0, (a5 + 1)))]) 3 (kdA dt_MX12_dig 56 rfl) rfl c7 (by decide) rfl ?_
      refine K_goto (tgt := 55) (kdA dt_MX12_dig 57 rfl) rfl ?_
      exact h
theorem EX12_dig {d n : Nat} {Q : Int → kS → Prop} {a0 a1 a2 a3 : Int} {σ : kS} (h : (-2147483648 ≤ a1 ∧ a1 ≤ 2147483647) → (-2147483648 ≤ a2 ∧ a2 ≤ 2147483647) → (-2147483648 ≤ a3 ∧ a3 ≤ 2147483647) → kokw n σ → LX12_dig_0 d n Q a0 a1 a2 a3 σ) : Ci (d + 1) MX12_dig [(2, a0), (0, a1), (0, a2), (0, a3)] n σ Q := Tri_of (by decide +kernel) (Nat.le_of_ble_eq_true rfl) (fun hk hw => h (hk (0, a1) (List.mem_of_getElem? (i := 1) rfl)) (hk (0, a2) (List.mem_of_getElem? (i := 2) rfl)) (hk (0, a3) (List.mem_of_getElem? (i := 3) rfl)) hw)

def LX12_directionOf_0 (d n : Nat) (Q : Int → kS → Prop) (a0 : Int) (a1 : Int) (σ : kS) : Prop := K (d + 1) MX12_directionOf (kPi n Q) (0, 0) 0 [(0, (0, a0)), (1, (0, a1))] [] n σ
def LX12_directionOf_2 (d n : Nat) (Q : Int → kS → Prop) (a0 : Int) (a1 : Int) (a2 : Int) (σ : kS) : Prop := K (d + 1) MX12_directionOf (kPi n Q) (0, 0) 2 [(0, (0, a0)), (1, (0, a1)), (2, (0, a2))] [] n σ
theorem SX12_directionOf_0 {d n : Nat} {Q : Int → kS → Prop} {a0 a1 : Int} {σ : kS} (h : LX12_directionOf_2 d n Q a0 a1 0 σ) : LX12_directionOf_0 d n Q a0 a1 σ := by
  unfold LX12_directionOf_0
  refine K_iconst (kdA dt_MX12_directionOf 0 rfl) (by decide) ?_
  refine K_istore_n (ls' := [(0, (0, a0)), (1, (0, a1)), (2, (0, 0))]) (kdA dt_MX12_directionOf 1 rfl) rfl (by decide) rfl ?_
  exact h
theorem SX12_directionOf_2 {d n : Nat} {Q : Int → kS → Prop} {a0 a1 a2 : Int} {σ : kS} (h : Ci d MX12_step [(0, a0), (0, a2)] n σ (fun x1 s1 => (x1 = a1 → Q a2 s1) ∧ (¬ x1 = a1 → (-2147483648 ≤ (a2 + 1) ∧ (a2 + 1) ≤ 2147483647) ∧ (LX12_directionOf_2 d n Q a0 a1 (a2 + 1) s1)))) : LX12_directionOf_2 d n Q a0 a1 a2 σ := by
  unfold LX12_directionOf_2
  refine K_iload_n 0 (kdA dt_MX12_directionOf 2 rfl) rfl rfl ?_
  refine K_iload_n 2 (kdA dt_MX12_directionOf 3 rfl) rfl rfl ?_
  refine K_cSi (as := [(0, a0), (0, a2)]) (st := []) (kdA dt_MX12_directionOf 4 rfl) cl_MX12_step lk12_314 rfl rfl (Nat.le_of_ble_eq_true rfl) (Ci.mono h (fun x1 s1 h => ?_))
  refine K_iload_n 1 (kdA dt_MX12_directionOf 5 rfl) rfl rfl ?_
  refine K_icmp_eq (tgt := 17) (kdA dt_MX12_directionOf 6 rfl) rfl (fun c => ?_) (fun c => ?_)
  · have h := h.1 c
    refine K_iload_n 2 (kdA dt_MX12_directionOf 9 rfl) rfl rfl ?_
    exact K_ireturn (kdA dt_MX12_directionOf 10 rfl) rfl ⟨rfl, _, rfl, h⟩
  · have h := h.2 c
    obtain ⟨c2, h⟩ := h
    refine K_iinc (ls' := [(0, (0, a0)), (1, (0, a1)), (2, (0, (a2 + 1)))]) 2 (kdA dt_MX12_directionOf 7 rfl) rfl c2 (by decide) rfl ?_
    refine K_goto (tgt := 2) (kdA dt_MX12_directionOf 8 rfl) rfl ?_
    exact h
theorem EX12_directionOf {d n : Nat} {Q : Int → kS → Prop} {a0 a1 : Int} {σ : kS} (h : (-2147483648 ≤ a0 ∧ a0 ≤ 2147483647) → (-2147483648 ≤ a1 ∧ a1 ≤ 2147483647) → kokw n σ → LX12_directionOf_0 d n Q a0 a1 σ) : Ci (d + 1) MX12_directionOf [(0, a0), (0, a1)] n σ Q := Tri_of (by decide +kernel) (Nat.le_of_ble_eq_true rfl) (fun hk hw => h (hk (0, a0) (List.mem_of_getElem? (i := 0) rfl)) (hk (0, a1) (List.mem_of_getElem? (i := 1) rfl)) hw)

def LX12_draw_0 (d n : Nat) (Q : Int → kS → Prop) (a0 : Int) (a1 : Int) (a2 : Int) (a3 : Int) (a4 : Int) (a5 : Int) (a6 : Int) (σ : kS) : Prop := K (d + 1) MX12_draw (kPi n Q) (0, 0) 0 [(0, (2, a0)), (1, (0, a1)), (2, (0, a2)), (3, (0, a3)), (4, (0, a4)), (5, (0, a5)), (6, (0, a6))] [] n σ
def LX12_draw_68 (d n : Nat) (Q : Int → kS → Prop) (a0 : Int) (a2 : Int) (a3 : Int) (a4 : Int) (a5 : Int) (a6 : Int) (a7 : Int) (σ : kS) : Prop := K (d + 1) MX12_draw (kPi n Q) (0, 0) 68 [(0, (2, a0)), (2, (0, a2)), (3, (0, a3)), (4, (0, a4)), (5, (0, a5)), (6, (0, a6)), (7, (0, a7))] [] n σ
def LX12_draw_77 (d n : Nat) (Q : Int → kS → Prop) (a0 : Int) (a2 : Int) (a3 : Int) (a4 : Int) (a5 : Int) (a6 : Int) (a7 : Int) (a8 : Int) (σ : kS) : Prop := K (d + 1) MX12_draw (kPi n Q) (0, 0) 77 [(0, (2, a0)), (2, (0, a2)), (3, (0, a3)), (4, (0, a4)), (5, (0, a5)), (6, (0, a6)), (7, (0, a7)), (8, (0, a8))] [] n σ
theorem SX12_draw_0 {d n : Nat} {Q : Int → kS → Prop} {a0 a1 a2 a3 a4 a5 a6 : Int} {σ : kS} (h : isO 12 n a0 ∧ (∀ s1, s1 = kst σ a0 0 0 → Ci d MX12_isPlace [(0, a1), (0, a2)] n s1 (fun x2 s2 => (x2 = 0 → Q 0 s2) ∧ (¬ x2 = 0 → Ci d MX12_isPlace [(0, a3), (0, a4)] n s2 (fun x3 s3 => (x3 = 0 → Q 0 s3) ∧ (¬ x3 = 0 → (a3 < a1 → Q 0 s3) ∧ (¬ a3 < a1 → (a4 < a2 → Q 0 s3) ∧ (¬ a4 < a2 → Ci d MX12_isIn [(0, a5), (0, 0), (0, 3)] n s3 (fun x4 s4 => (x4 = 0 → Q 0 s4) ∧ (¬ x4 = 0 → (¬ a5 = 0 → Ci d MX12_isIn [(0, a6), (0, 0), (0, 1)] n s4 (fun x5 s5 => (¬ x5 = 0 → LX12_draw_68 d n Q a0 a2 a3 a4 a5 a6 a1 s5) ∧ (¬ (¬ x5 = 0) → Q 0 s5))) ∧ (¬ (¬ a5 = 0) → Ci d MX12_isIn [(0, a6), (0, 0), (0, 99)] n s4 (fun x5 s5 => (¬ x5 = 0 → LX12_draw_68 d n Q a0 a2 a3 a4 a5 a6 a1 s5) ∧ (¬ (¬ x5 = 0) → Q 0 s5))))))))))))) : LX12_draw_0 d n Q a0 a1 a2 a3 a4 a5 a6 σ := by
  unfold LX12_draw_0
  refine K_aload_n 0 (kdA dt_MX12_draw 0 rfl) rfl rfl ?_
  refine K_iconst (kdA dt_MX12_draw 1 rfl) (by decide) ?_
  obtain ⟨c1, h⟩ := h
  refine pf12_149 rfl (kdA dt_MX12_draw 2 rfl) c1 (fun s1 es1 => ?_)
  have h := h s1 es1
  refine K_iload_n 1 (kdA dt_MX12_draw 3 rfl) rfl rfl ?_
  refine K_iload_n 2 (kdA dt_MX12_draw 4 rfl) rfl rfl ?_
  refine K_cSi (as := [(0, a1), (0, a2)]) (st := []) (kdA dt_MX12_draw 5 rfl) cl_MX12_isPlace lk12_157 rfl rfl (Nat.le_of_ble_eq_true rfl) (Ci.mono h (fun x2 s2 h => ?_))
  refine K_if_eq (tgt := 63) (kdA dt_MX12_draw 6 rfl) rfl (fun c => ?_) (fun c => ?_)
  · have h := h.1 c
    refine K_iconst (kdA dt_MX12_draw 31 rfl) (by decide) ?_
    exact K_zreturn (kdA dt_MX12_draw 32 rfl) rfl (Or.inl rfl) ⟨rfl, _, rfl, h⟩
  · have h := h.2 c
    refine K_iload_n 3 (kdA dt_MX12_draw 7 rfl) rfl rfl ?_
    refine K_iload 4 (kdA dt_MX12_draw 8 rfl) rfl ?_
    refine K_cSi (as := [(0, a3), (0, a4)]) (st := []) (kdA dt_MX12_draw 9 rfl) cl_MX12_isPlace lk12_157 rfl rfl (Nat.le_of_ble_eq_true rfl) (Ci.mono h (fun x3 s3 h => ?_))
    refine K_if_eq (tgt := 63) (kdA dt_MX12_draw 10 rfl) rfl (fun c => ?_) (fun c => ?_)
    · have h := h.1 c
      refine K_iconst (kdA dt_MX12_draw 31 rfl) (by decide) ?_
      exact K_zreturn (kdA dt_MX12_draw 32 rfl) rfl (Or.inl rfl) ⟨rfl, _, rfl, h⟩
    · have h := h.2 c
      refine K_iload_n 3 (kdA dt_MX12_draw 11 rfl) rfl rfl ?_
      refine K_iload_n 1 (kdA dt_MX12_draw 12 rfl) rfl rfl ?_
      refine K_icmp_lt (tgt := 63) (kdA dt_MX12_draw 13 rfl) rfl (fun c => ?_) (fun c => ?_)
      · have h := h.1 c
        refine K_iconst (kdA dt_MX12_draw 31 rfl) (by decide) ?_
        exact K_zreturn (kdA dt_MX12_draw 32 rfl) rfl (Or.inl rfl) ⟨rfl, _, rfl, h⟩
      · have h := h.2 c
        refine K_iload 4 (kdA dt_MX12_draw 14 rfl) rfl ?_
        refine K_iload_n 2 (kdA dt_MX12_draw 15 rfl) rfl rfl ?_
        refine K_icmp_lt (tgt := 63) (kdA dt_MX12_draw 16 rfl) rfl (fun c => ?_) (fun c => ?_)
        · have h := h.1 c
          refine K_iconst (kdA dt_MX12_draw 31 rfl) (by decide) ?_
          exact K_zreturn (kdA dt_MX12_draw 32 rfl) rfl (Or.inl rfl) ⟨rfl, _, rfl, h⟩
        · have h := h.2 c
          refine K_iload 5 (kdA dt_MX12_draw 17 rfl) rfl ?_
          refine K_iconst (kdA dt_MX12_draw 18 rfl) (by decide) ?_
          refine K_iconst (kdA dt_MX12_draw 19 rfl) (by decide) ?_
          refine K_cSi (as := [(0, a5), (0, 0), (0, 3)]) (st := []) (kdA dt_MX12_draw 20 rfl) cl_MX12_isIn lk12_153 rfl rfl (Nat.le_of_ble_eq_true rfl) (Ci.mono h (fun x4 s4 h => ?_))
          refine K_if_eq (tgt := 63) (kdA dt_MX12_draw 21 rfl) rfl (fun c => ?_) (fun c => ?_)
          · have h := h.1 c
            refine K_iconst (kdA dt_MX12_draw 31 rfl) (by decide) ?_
            exact K_zreturn (kdA dt_MX12_draw 32 rfl) rfl (Or.inl rfl) ⟨rfl, _, rfl, h⟩
          · have h := h.2 c
            refine K_iload 6 (kdA dt_MX12_draw 22 rfl) rfl ?_
            refine K_iconst (kdA dt_MX12_draw 23 rfl) (by decide) ?_
            refine K_iload 5 (kdA dt_MX12_draw 24 rfl) rfl ?_
            refine K_if_ne (tgt := 56) (kdA dt_MX12_draw 25 rfl) rfl (fun c => ?_) (fun c => ?_)
            · have h := h.1 c
              refine K_iconst (kdA dt_MX12_draw 28 rfl) (by decide) ?_
              refine K_cSi (as := [(0, a6), (0, 0), (0, 1)]) (st := []) (kdA dt_MX12_draw 29 rfl) cl_MX12_isIn lk12_153 rfl rfl (Nat.le_of_ble_eq_true rfl) (Ci.mono h (fun x5 s5 h => ?_))
              refine K_if_ne (tgt := 65) (kdA dt_MX12_draw 30 rfl) rfl (fun c => ?_) (fun c => ?_)
              · have h := h.1 c
                refine K_iload_n 1 (kdA dt_MX12_draw 33 rfl) rfl rfl ?_
                refine K_istore (ls' := [(0, (2, a0)), (1, (0, a1)), (2, (0, a2)), (3, (0, a3)), (4, (0, a4)), (5, (0, a5)), (6, (0, a6)), (7, (0, a1))]) (kdA dt_MX12_draw 34 rfl) (by decide) rfl ?_
                refine K_pick [0, 2, 3, 4, 5, 6, 7] (ls' := [(0, (2, a0)), (2, (0, a2)), (3, (0, a3)), (4, (0, a4)), (5, (0, a5)), (6, (0, a6)), (7, (0, a1))]) rfl ?_
                exact h
              · have h := h.2 c
                refine K_iconst (kdA dt_MX12_draw 31 rfl) (by decide) ?_
                exact K_zreturn (kdA dt_MX12_draw 32 rfl) rfl (Or.inl rfl) ⟨rfl, _, rfl, h⟩
            · have h := h.2 c
              refine K_bipush (kdA dt_MX12_draw 26 rfl) (by decide +kernel) ?_
              refine K_goto (tgt := 57) (kdA dt_MX12_draw 27 rfl) rfl ?_
              refine K_cSi (as := [(0, a6), (0, 0), (0, 99)]) (st := []) (kdA dt_MX12_draw 29 rfl) cl_MX12_isIn lk12_153 rfl rfl (Nat.le_of_ble_eq_true rfl) (Ci.mono h (fun x5 s5 h => ?_))
              refine K_if_ne (tgt := 65) (kdA dt_MX12_draw 30 rfl) rfl (fun c => ?_) (fun c => ?_)
              · have h := h.1 c
                refine K_iload_n 1 (kdA dt_MX12_draw 33 rfl) rfl rfl ?_
                refine K_istore (ls' := [(0, (2, a0)), (1, (0, a1)), (2, (0, a2)), (3, (0, a3)), (4, (0, a4)), (5, (0, a5)), (6, (0, a6)), (7, (0, a1))]) (kdA dt_MX12_draw 34 rfl) (by decide) rfl ?_
                refine K_pick [0, 2, 3, 4, 5, 6, 7] (ls' := [(0, (2, a0)), (2, (0, a2)), (3, (0, a3)), (4, (0, a4)), (5, (0, a5)), (6, (0, a6)), (7, (0, a1))]) rfl ?_
                exact h
              · have h := h.2 c
                refine K_iconst (kdA dt_MX12_draw 31 rfl) (by decide) ?_
                exact K_zreturn (kdA dt_MX12_draw 32 rfl) rfl (Or.inl rfl) ⟨rfl, _, rfl, h⟩
theorem SX12_draw_68 {d n : Nat} {Q : Int → kS → Prop} {a0 a2 a3 a4 a5 a6 a7 : Int} {σ : kS} (h : (a3 < a7 → Q 1 σ) ∧ (¬ a3 < a7 → LX12_draw_77 d n Q a0 a2 a3 a4 a5 a6 a7 a2 σ)) : LX12_draw_68 d n Q a0 a2 a3 a4 a5 a6 a7 σ := by
  unfold LX12_draw_68
  refine K_iload 6 (kdA dt_MX12_draw 35 rfl) rfl ?_
  refine K_iload_n 2 (kdA dt_MX12_draw 36 rfl) rfl rfl ?_
  refine K_icmp_gt (tgt := 117) (kdA dt_MX12_draw 37 rfl) rfl (fun c => ?_) (fun c => ?_)
  · have h := h.1 c
    refine K_iconst (kdA dt_MX12_draw 60 rfl) (by decide) ?_
    exact K_zreturn (kdA dt_MX12_draw 61 rfl) rfl (Or.inr rfl) ⟨rfl, _, rfl, h⟩
  · have h := h.2 c
    refine K_iload_n 1 (kdA dt_MX12_draw 38 rfl) rfl rfl ?_
    refine K_istore (ls' := [(0, (2, a0)), (2, (0, a2)), (3, (0, a3)), (4, (0, a4)), (5, (0, a5)), (6, (0, a6)), (7, (0, a7)), (8, (0, a2))]) (kdA dt_MX12_draw 39 rfl) (by decide) rfl ?_
    exact h
theorem SX12_draw_77 {d n : Nat} {Q : Int → kS → Prop} {a0 a2 a3 a4 a5 a6 a7 a8 : Int} {σ : kS} (h : (a4 < a8 → (-2147483648 ≤ (a7 + 1) ∧ (a7 + 1) ≤ 2147483647) ∧ (LX12_draw_68 d n Q a0 a2 a3 a4 a5 a6 (a7 + 1) σ)) ∧ (¬ a4 < a8 → isO 12 n a0 ∧ ((-2147483648 ≤ (120 * a5) ∧ (120 * a5) ≤ 2147483647) ∧ ((-2147483648 ≤ (12 * a8) ∧ (12 * a8) ≤ 2147483647) ∧ ((-2147483648 ≤ ((120 * a5) + (12 * a8)) ∧ ((120 * a5) + (12 * a8)) ≤ 2147483647) ∧ ((-2147483648 ≤ (((120 * a5) + (12 * a8)) + a7) ∧ (((120 * a5) + (12 * a8)) + a7) ≤ 2147483647) ∧ (isA 20 n (σ a0 1) ∧ (((0 : Int) ≤ (((120 * a5) + (12 * a8)) + a7) ∧ (((120 * a5) + (12 * a8)) + a7) < klen (σ a0 1)) ∧ (∀ s1, s1 = kst σ (σ a0 1) (((120 * a5) + (12 * a8)) + a7) a6 → (-2147483648 ≤ (a8 + 1) ∧ (a8 + 1) ≤ 2147483647) ∧ (LX12_draw_77 d n Q a0 a2 a3 a4 a5 a6 a7 (a8 + 1) s1)))))))))) : LX12_draw_77 d n Q a0 a2 a3 a4 a5 a6 a7 a8 σ := by
  unfold LX12_draw_77
  refine K_iload 7 (kdA dt_MX12_draw 40 rfl) rfl ?_
  refine K_iload 3 (kdA dt_MX12_draw 41 rfl) rfl ?_
  refine K_icmp_gt (tgt := 111) (kdA dt_MX12_draw 42 rfl) rfl (fun c => ?_) (fun c => ?_)
  · have h := h.1 c
    obtain ⟨c1, h⟩ := h
    refine K_iinc (ls' := [(0, (2, a0)), (2, (0, a2)), (3, (0, a3)), (4, (0, a4)), (5, (0, a5)), (6, (0, a6)), (7, (0, (a7 + 1))), (8, (0, a8))]) 6 (kdA dt_MX12_draw 58 rfl) rfl c1 (by decide) rfl ?_
    refine K_goto (tgt := 68) (kdA dt_MX12_draw 59 rfl) rfl ?_
    refine K_pick [0, 1, 2, 3, 4, 5, 6] (ls' := [(0, (2, a0)), (2, (0, a2)), (3, (0, a3)), (4, (0, a4)), (5, (0, a5)), (6, (0, a6)), (7, (0, (a7 + 1)))]) rfl ?_
    exact h
  · have h := h.2 c
    refine K_aload_n 0 (kdA dt_MX12_draw 43 rfl) rfl rfl ?_
    obtain ⟨c1, h⟩ := h
    refine gf12_9 rfl (kdA dt_MX12_draw 44 rfl) c1 ?_
    refine K_bipush (kdA dt_MX12_draw 45 rfl) (by decide +kernel) ?_
    refine K_iload 4 (kdA dt_MX12_draw 46 rfl) rfl ?_
    obtain ⟨c2, h⟩ := h
    refine K_imul (kdA dt_MX12_draw 47 rfl) c2 ?_
    refine K_bipush (kdA dt_MX12_draw 48 rfl) (by decide +kernel) ?_
    refine K_iload 7 (kdA dt_MX12_draw 49 rfl) rfl ?_
    obtain ⟨c3, h⟩ := h
    refine K_imul (kdA dt_MX12_draw 50 rfl) c3 ?_
    obtain ⟨c4, h⟩ := h
    refine K_iadd (kdA dt_MX12_draw 51 rfl) c4 ?_
    refine K_iload 6 (kdA dt_MX12_draw 52 rfl) rfl ?_
    obtain ⟨c5, h⟩ := h
    refine K_iadd (kdA dt_MX12_draw 53 rfl) c5 ?_
    refine K_iload 5 (kdA dt_MX12_draw 54 rfl) rfl ?_
    obtain ⟨c6, h⟩ := h
    obtain ⟨c7, h⟩ := h
    refine K_iastore' (kdA dt_MX12_draw 55 rfl) c6 c7.1 c7.2 (fun s1 es1 => ?_)
    have h := h s1 es1
    obtain ⟨c8, h⟩ := h
    refine K_iinc (ls' := [(0, (2, a0)), (2, (0, a2)), (3, (0, a3)), (4, (0, a4)), (5, (0, a5)), (6, (0, a6)), (7, (0, a7)), (8, (0, (a8 + 1)))]) 7 (kdA dt_MX12_draw 56 rfl) rfl c8 (by decide) rfl ?_
    refine K_goto (tgt := 77) (kdA dt_MX12_draw 57 rfl) rfl ?_
    exact h
theorem EX12_draw {d n : Nat} {Q : Int → kS → Prop} {a0 a1 a2 a3 a4 a5 a6 : Int} {σ : kS} (h : (-2147483648 ≤ a1 ∧ a1 ≤ 2147483647) → (-2147483648 ≤ a2 ∧ a2 ≤ 2147483647) → (-2147483648 ≤ a3 ∧ a3 ≤ 2147483647) → (-2147483648 ≤ a4 ∧ a4 ≤ 2147483647) → (-2147483648 ≤ a5 ∧ a5 ≤ 2147483647) → (-2147483648 ≤ a6 ∧ a6 ≤ 2147483647) → kokw n σ → LX12_draw_0 d n Q a0 a1 a2 a3 a4 a5 a6 σ) : Ci (d + 1) MX12_draw [(2, a0), (0, a1), (0, a2), (0, a3), (0, a4), (0, a5), (0, a6)] n σ Q := Tri_of (by decide +kernel) (Nat.le_of_ble_eq_true rfl) (fun hk hw => h (hk (0, a1) (List.mem_of_getElem? (i := 1) rfl)) (hk (0, a2) (List.mem_of_getElem? (i := 2) rfl)) (hk (0, a3) (List.mem_of_getElem? (i := 3) rfl)) (hk (0, a4) (List.mem_of_getElem? (i := 4) rfl)) (hk (0, a5) (List.mem_of_getElem? (i := 5) rfl)) (hk (0, a6) (List.mem_of_getElem? (i := 6) rfl)) hw)

def LX12_draw__0 (d n : Nat) (Q : Int → kS → Prop) (a0 : Int) (a1 : Int) (σ : kS) : Prop := K (d + 1) MX12_draw_ (kPi n Q) (0, 0) 0 [(0, (2, a0)), (1, (0, a1))] [] n σ
theorem SX12_draw__0 {d n : Nat} {Q : Int → kS → Prop} {a0 a1 : Int} {σ : kS} (h : isO 12 n a0 ∧ (∀ s1, s1 = kst σ a0 64 (kladd (klmul (σ a0 64) 6364136223846793005) 1442695040888963407) → (a1 ≠ 0) ∧ ((-2147483648 ≤ (klrem (klushr (s1 a0 64) 33) a1) ∧ (klrem (klushr (s1 a0 64) 33) a1) ≤ 2147483647) ∧ (Q (klrem (klushr (s1 a0 64) 33) a1) s1)))) : LX12_draw__0 d n Q a0 a1 σ := by
  unfold LX12_draw__0
  refine K_aload_n 0 (kdA dt_MX12_draw_ 0 rfl) rfl rfl ?_
  refine K_aload_n 0 (kdA dt_MX12_draw_ 1 rfl) rfl rfl ?_
  obtain ⟨c1, h⟩ := h
  refine gf12_500 rfl (kdA dt_MX12_draw_ 2 rfl) c1 ?_
  refine K_ldc2 (x := 6364136223846793005) (kdA dt_MX12_draw_ 3 rfl) (tb8 237 rfl rfl) (by decide +kernel) ?_
  refine K_lmul (kdA dt_MX12_draw_ 4 rfl) ?_
  refine K_ldc2 (x := 1442695040888963407) (kdA dt_MX12_draw_ 5 rfl) (tb8 238 rfl rfl) (by decide +kernel) ?_
  refine K_ladd (kdA dt_MX12_draw_ 6 rfl) ?_
  refine pf12_500 rfl (kdA dt_MX12_draw_ 7 rfl) c1 (fun s1 es1 => ?_)
  have h := h s1 es1
  refine K_aload_n 0 (kdA dt_MX12_draw_ 8 rfl) rfl rfl ?_
  refine gf12_500 rfl (kdA dt_MX12_draw_ 9 rfl) c1 ?_
  refine K_bipush (kdA dt_MX12_draw_ 10 rfl) (by decide +kernel) ?_
  refine K_lushr (kdA dt_MX12_draw_ 11 rfl) ?_
  refine K_iload_n 1 (kdA dt_MX12_draw_ 12 rfl) rfl rfl ?_
  refine K_i2l (kdA dt_MX12_draw_ 13 rfl) ?_
  obtain ⟨c2, h⟩ := h
  refine K_lrem (kdA dt_MX12_draw_ 14 rfl) c2 ?_
  obtain ⟨c3, h⟩ := h
  refine K_l2i (kdA dt_MX12_draw_ 15 rfl) c3 ?_
  exact K_ireturn (kdA dt_MX12_draw_ 16 rfl) rfl ⟨rfl, _, rfl, h⟩
theorem EX12_draw_ {d n : Nat} {Q : Int → kS → Prop} {a0 a1 : Int} {σ : kS} (h : (-2147483648 ≤ a1 ∧ a1 ≤ 2147483647) → kokw n σ → LX12_draw__0 d n Q a0 a1 σ) : Ci (d + 1) MX12_draw_ [(2, a0), (0, a1)] n σ Q := Tri_of (by decide +kernel) (Nat.le_of_ble_eq_true rfl) (fun hk hw => h (hk (0, a1) (List.mem_of_getElem? (i := 1) rfl)) hw)

def LX12_drawn_0 (d n : Nat) (Q : Int → kS → Prop) (a0 : Int) (a1 : Int) (a2 : Int) (σ : kS) : Prop := K (d + 1) MX12_drawn (kPi n Q) (0, 0) 0 [(0, (2, a0)), (1, (0, a1)), (2, (0, a2))] [] n σ
theorem SX12_drawn_0 {d n : Nat} {Q : Int → kS → Prop} {a0 a1 a2 : Int} {σ : kS} (h : isO 12 n a0 ∧ (∀ s1, s1 = kst σ a0 0 0 → Ci d MX12_isCell [(0, a1)] n s1 (fun x2 s2 => (x2 = 0 → Q (-1) s2) ∧ (¬ x2 = 0 → Ci d MX12_isIn [(0, a2), (0, 0), (0, 3)] n s2 (fun x3 s3 => (x3 = 0 → Q (-1) s3) ∧ (¬ x3 = 0 → (-2147483648 ≤ (120 * a2) ∧ (120 * a2) ≤ 2147483647) ∧ ((-2147483648 ≤ ((120 * a2) + a1) ∧ ((120 * a2) + a1) ≤ 2147483647) ∧ (isA 20 n (s3 a0 1) ∧ (((0 : Int) ≤ ((120 * a2) + a1) ∧ ((120 * a2) + a1) < klen (s3 a0 1)) ∧ (Q (s3 (s3 a0 1) ((120 * a2) + a1)) s3)))))))))) : LX12_drawn_0 d n Q a0 a1 a2 σ := by
  unfold LX12_drawn_0
  refine K_aload_n 0 (kdA dt_MX12_drawn 0 rfl) rfl rfl ?_
  refine K_iconst (kdA dt_MX12_drawn 1 rfl) (by decide) ?_
  obtain ⟨c1, h⟩ := h
  refine pf12_149 rfl (kdA dt_MX12_drawn 2 rfl) c1 (fun s1 es1 => ?_)
  have h := h s1 es1
  refine K_iload_n 1 (kdA dt_MX12_drawn 3 rfl) rfl rfl ?_
  refine K_cSi (as := [(0, a1)]) (st := []) (kdA dt_MX12_drawn 4 rfl) cl_MX12_isCell lk12_161 rfl rfl (Nat.le_of_ble_eq_true rfl) (Ci.mono h (fun x2 s2 h => ?_))
  refine K_if_eq (tgt := 35) (kdA dt_MX12_drawn 5 rfl) rfl (fun c => ?_) (fun c => ?_)
  · have h := h.1 c
    refine K_iconst (kdA dt_MX12_drawn 20 rfl) (by decide) ?_
    exact K_ireturn (kdA dt_MX12_drawn 21 rfl) rfl ⟨rfl, _, rfl, h⟩
  · have h := h.2 c
    refine K_iload_n 2 (kdA dt_MX12_drawn 6 rfl) rfl rfl ?_
    refine K_iconst (kdA dt_MX12_drawn 7 rfl) (by decide) ?_
    refine K_iconst (kdA dt_MX12_drawn 8 rfl) (by decide) ?_
    refine K_cSi (as := [(0, a2), (0, 0), (0, 3)]) (st := []) (kdA dt_MX12_drawn 9 rfl) cl_MX12_isIn lk12_153 rfl rfl (Nat.le_of_ble_eq_true rfl) (Ci.mono h (fun x3 s3 h => ?_))
    refine K_if_eq (tgt := 35) (kdA dt_MX12_drawn 10 rfl) rfl (fun c => ?_) (fun c => ?_)
    · have h := h.1 c
      refine K_iconst (kdA dt_MX12_drawn 20 rfl) (by decide) ?_
      exact K_ireturn (kdA dt_MX12_drawn 21 rfl) rfl ⟨rfl, _, rfl, h⟩
    · have h := h.2 c
      refine K_aload_n 0 (kdA dt_MX12_drawn 11 rfl) rfl rfl ?_
      refine gf12_9 rfl (kdA dt_MX12_drawn 12 rfl) c1 ?_
      refine K_bipush (kdA dt_MX12_drawn 13 rfl) (by decide +kernel) ?_
      refine K_iload_n 2 (kdA dt_MX12_drawn 14 rfl) rfl rfl ?_
      obtain ⟨c4, h⟩ := h
      refine K_imul (kdA dt_MX12_drawn 15 rfl) c4 ?_
      refine K_iload_n 1 (kdA dt_MX12_drawn 16 rfl) rfl rfl ?_
      obtain ⟨c5, h⟩ := h
      refine K_iadd (kdA dt_MX12_drawn 17 rfl) c5 ?_
      obtain ⟨c6, h⟩ := h
      obtain ⟨c7, h⟩ := h
      refine K_iaload (kdA dt_MX12_drawn 18 rfl) c6 c7.1 c7.2 ?_
      refine K_goto (tgt := 36) (kdA dt_MX12_drawn 19 rfl) rfl ?_
      exact K_ireturn (kdA dt_MX12_drawn 21 rfl) rfl ⟨rfl, _, rfl, h⟩
theorem EX12_drawn {d n : Nat} {Q : Int → kS → Prop} {a0 a1 a2 : Int} {σ : kS} (h : (-2147483648 ≤ a1 ∧ a1 ≤ 2147483647) → (-2147483648 ≤ a2 ∧ a2 ≤ 2147483647) → kokw n σ → LX12_drawn_0 d n Q a0 a1 a2 σ) : Ci (d + 1) MX12_drawn [(2, a0), (0, a1), (0, a2)] n σ Q := Tri_of (by decide +kernel) (Nat.le_of_ble_eq_true rfl) (fun hk hw => h (hk (0, a1) (List.mem_of_getElem? (i := 1) rfl)) (hk (0, a2) (List.mem_of_getElem? (i := 2) rfl)) hw)

def LX12_easePains_0 (d n : Nat) (Q : kS → Prop) (a0 : Int) (a1 : Int) (σ : kS) : Prop := K (d + 1) MX12_easePains (kPv n Q) (0, 0) 0 [(0, (2, a0)), (1, (0, a1))] [] n σ
def LX12_easePains_2 (d n : Nat) (Q : kS → Prop) (a0 : Int) (a1 : Int) (a2 : Int) (σ : kS) : Prop := K (d + 1) MX12_easePains (kPv n Q) (0, 0) 2 [(0, (2, a0)), (1, (0, a1)), (2, (0, a2))] [] n σ
def LX12_easePains_10 (d n : Nat) (Q : kS → Prop) (a0 : Int) (a1 : Int) (a2 : Int) (a3 : Int) (σ : kS) : Prop := K (d + 1) MX12_easePains (kPv n Q) (0, 0) 10 [(0, (2, a0)), (1, (0, a1)), (2, (0, a2)), (3, (0, a3))] [] n σ
theorem SX12_easePains_0 {d n : Nat} {Q : kS → Prop} {a0 a1 : Int} {σ : kS} (h : LX12_easePains_2 d n Q a0 a1 0 σ) : LX12_easePains_0 d n Q a0 a1 σ := by
  unfold LX12_easePains_0
  refine K_iconst (kdA dt_MX12_easePains 0 rfl) (by decide) ?_
  refine K_istore_n (ls' := [(0, (2, a0)), (1, (0, a1)), (2, (0, 0))]) (kdA dt_MX12_easePains 1 rfl) rfl (by decide) rfl ?_
  exact h
theorem SX12_easePains_2 {d n : Nat} {Q : kS → Prop} {a0 a1 a2 : Int} {σ : kS} (h : (120 ≤ a2 → Q σ) ∧ (¬ 120 ≤ a2 → LX12_easePains_10 d n Q a0 a1 a2 0 σ)) : LX12_easePains_2 d n Q a0 a1 a2 σ := by
  unfold LX12_easePains_2
  refine K_iload_n 2 (kdA dt_MX12_easePains 2 rfl) rfl rfl ?_
  refine K_bipush (kdA dt_MX12_easePains 3 rfl) (by decide +kernel) ?_
  refine K_icmp_ge (tgt := 76) (kdA dt_MX12_easePains 4 rfl) rfl (fun c => ?_) (fun c => ?_)
  · have h := h.1 c
    exact K_return (kdA dt_MX12_easePains 46 rfl) rfl ⟨rfl, rfl, h⟩
  · have h := h.2 c
    refine K_iconst (kdA dt_MX12_easePains 5 rfl) (by decide) ?_
    refine K_istore_n (ls' := [(0, (2, a0)), (1, (0, a1)), (2, (0, a2)), (3, (0, 0))]) (kdA dt_MX12_easePains 6 rfl) rfl (by decide) rfl ?_
    exact h
theorem SX12_easePains_10 {d n : Nat} {Q : kS → Prop} {a0 a1 a2 a3 : Int} {σ : kS} (h : (8 ≤ a3 → (-2147483648 ≤ (a2 + 1) ∧ (a2 + 1) ≤ 2147483647) ∧ (LX12_easePains_2 d n Q a0 a1 (a2 + 1) σ)) ∧ (¬ 8 ≤ a3 → Ci d MX12_step [(0, a2), (0, a3)] n σ (fun x1 s1 => (x1 = (-1) → (-2147483648 ≤ (a3 + 1) ∧ (a3 + 1) ≤ 2147483647) ∧ (LX12_easePains_10 d n Q a0 a1 a2 (a3 + 1) s1)) ∧ (¬ x1 = (-1) → isO 12 n a0 ∧ ((-2147483648 ≤ (8 * a2) ∧ (8 * a2) ≤ 2147483647) ∧ ((-2147483648 ≤ ((8 * a2) + a3) ∧ ((8 * a2) + a3) ≤ 2147483647) ∧ (isA 20 n (s1 a0 60) ∧ (((0 : Int) ≤ ((8 * a2) + a3) ∧ ((8 * a2) + a3) < klen (s1 a0 60)) ∧ (Ci d MX12_step [(0, a2), (0, a3)] n s1 (fun x7 s2 => isA 20 n (s1 a0 59) ∧ (((0 : Int) ≤ x7 ∧ x7 < klen (s1 a0 59)) ∧ ((-2147483648 ≤ (a1 * (s2 (s1 a0 59) x7)) ∧ (a1 * (s2 (s1 a0 59) x7)) ≤ 2147483647) ∧ ((-2147483648 ≤ ((s1 (s1 a0 60) ((8 * a2) + a3)) - (a1 * (s2 (s1 a0 59) x7))) ∧ ((s1 (s1 a0 60) ((8 * a2) + a3)) - (a1 * (s2 (s1 a0 59) x7))) ≤ 2147483647) ∧ (Ci d MJm_max [(0, 1), (0, ((s1 (s1 a0 60) ((8 * a2) + a3)) - (a1 * (s2 (s1 a0 59) x7))))] n s2 (fun x12 s3 => isA 20 n (s1 a0 26) ∧ (((0 : Int) ≤ ((8 * a2) + a3) ∧ ((8 * a2) + a3) < klen (s1 a0 26)) ∧ (∀ s4, s4 = kst s3 (s1 a0 26) ((8 * a2) + a3) x12 → (-2147483648 ≤ (a3 + 1) ∧ (a3 + 1) ≤ 2147483647) ∧ (LX12_easePains_10 d n Q a0 a1 a2 (a3 + 1) s4)))))))))))))))))) : LX12_easePains_10 d n Q a0 a1 a2 a3 σ := by
  unfold LX12_easePains_10
  refine K_iload_n 3 (kdA dt_MX12_easePains 7 rfl) rfl rfl ?_
  refine K_bipush (kdA dt_MX12_easePains 8 rfl) (by decide +kernel) ?_
  refine K_icmp_ge (tgt := 70) (kdA dt_MX12_easePains 9 rfl) rfl (fun c => ?_) (fun c => ?_)
  · have h := h.1 c
    obtain ⟨c1, h⟩ := h
    refine K_iinc (ls' := [(0, (2, a0)), (1, (0, a1)), (2, (0, (a2 + 1))), (3, (0, a3))]) 2 (kdA dt_MX12_easePains 44 rfl) rfl c1 (by decide) rfl ?_
    refine K_goto (tgt := 2) (kdA dt_MX12_easePains 45 rfl) rfl ?_
    refine K_pick [0, 1, 2] (ls' := [(0, (2, a0)), (1, (0, a1)), (2, (0, (a2 + 1)))]) rfl ?_
    exact h
  · have h := h.2 c
    refine K_iload_n 2 (kdA dt_MX12_easePains 10 rfl) rfl rfl ?_
    refine K_iload_n 3 (kdA dt_MX12_easePains 11 rfl) rfl rfl ?_
    refine K_cSi (as := [(0, a2), (0, a3)]) (st := []) (kdA dt_MX12_easePains 12 rfl) cl_MX12_step lk12_314 rfl rfl (Nat.le_of_ble_eq_true rfl) (Ci.mono h (fun x1 s1 h => ?_))
    refine K_iconst (kdA dt_MX12_easePains 13 rfl) (by decide) ?_
    refine K_icmp_eq (tgt := 64) (kdA dt_MX12_easePains 14 rfl) rfl (fun c => ?_) (fun c => ?_)
    · have h := h.1 c
      obtain ⟨c2, h⟩ := h
      refine K_iinc (ls' := [(0, (2, a0)), (1, (0, a1)), (2, (0, a2)), (3, (0, (a3 + 1)))]) 3 (kdA dt_MX12_easePains 42 rfl) rfl c2 (by decide) rfl ?_
      refine K_goto (tgt := 10) (kdA dt_MX12_easePains 43 rfl) rfl ?_
      exact h
    · have h := h.2 c
      refine K_aload_n 0 (kdA dt_MX12_easePains 15 rfl) rfl rfl ?_
      obtain ⟨c2, h⟩ := h
      refine gf12_55 rfl (kdA dt_MX12_easePains 16 rfl) c2 ?_
      refine K_bipush (kdA dt_MX12_easePains 17 rfl) (by decide +kernel) ?_
      refine K_iload_n 2 (kdA dt_MX12_easePains 18 rfl) rfl rfl ?_
      obtain ⟨c3, h⟩ := h
      refine K_imul (kdA dt_MX12_easePains 19 rfl) c3 ?_
      refine K_iload_n 3 (kdA dt_MX12_easePains 20 rfl) rfl rfl ?_
      obtain ⟨c4, h⟩ := h
      refine K_iadd (kdA dt_MX12_easePains 21 rfl) c4 ?_
      refine K_iconst (kdA dt_MX12_easePains 22 rfl) (by decide) ?_
      refine K_aload_n 0 (kdA dt_MX12_easePains 23 rfl) rfl rfl ?_
      refine gf12_136 rfl (kdA dt_MX12_easePains 24 rfl) c2 ?_
      refine K_bipush (kdA dt_MX12_easePains 25 rfl) (by decide +kernel) ?_
      refine K_iload_n 2 (kdA dt_MX12_easePains 26 rfl) rfl rfl ?_
      refine K_imul (kdA dt_MX12_easePains 27 rfl) c3 ?_
      refine K_iload_n 3 (kdA dt_MX12_easePains 28 rfl) rfl rfl ?_
      refine K_iadd (kdA dt_MX12_easePains 29 rfl) c4 ?_
      obtain ⟨c5, h⟩ := h
      obtain ⟨c6, h⟩ := h
      refine K_iaload (kdA dt_MX12_easePains 30 rfl) c5 c6.1 c6.2 ?_
      refine K_iload_n 1 (kdA dt_MX12_easePains 31 rfl) rfl rfl ?_
      refine K_aload_n 0 (kdA dt_MX12_easePains 32 rfl) rfl rfl ?_
      refine gf12_133 rfl (kdA dt_MX12_easePains 33 rfl) c2 ?_
      refine K_iload_n 2 (kdA dt_MX12_easePains 34 rfl) rfl rfl ?_
      refine K_iload_n 3 (kdA dt_MX12_easePains 35 rfl) rfl rfl ?_
      refine K_cSi (as := [(0, a2), (0, a3)]) (st := [(2, (s1 a0 59)), (0, a1), (0, (s1 (s1 a0 60) ((8 * a2) + a3))), (0, 1), (0, ((8 * a2) + a3)), (2, (s1 a0 26))]) (kdA dt_MX12_easePains 36 rfl) cl_MX12_step lk12_314 rfl rfl (Nat.le_of_ble_eq_true rfl) (Ci.mono h (fun x7 s2 h => ?_))
      obtain ⟨c8, h⟩ := h
      obtain ⟨c9, h⟩ := h
      refine K_iaload (kdA dt_MX12_easePains 37 rfl) c8 c9.1 c9.2 ?_
      obtain ⟨c10, h⟩ := h
      refine K_imul (kdA dt_MX12_easePains 38 rfl) c10 ?_
      obtain ⟨c11, h⟩ := h
      refine K_isub (kdA dt_MX12_easePains 39 rfl) c11 ?_
      refine K_cSi (as := [(0, 1), (0, ((s1 (s1 a0 60) ((8 * a2) + a3)) - (a1 * (s2 (s1 a0 59) x7))))]) (st := [(0, ((8 * a2) + a3)), (2, (s1 a0 26))]) (kdA dt_MX12_easePains 40 rfl) cl_MJm_max lk12_180 rfl rfl (Nat.le_of_ble_eq_true rfl) (Ci.mono h (fun x12 s3 h => ?_))
      obtain ⟨c13, h⟩ := h
      obtain ⟨c14, h⟩ := h
      refine K_iastore' (kdA dt_MX12_easePains 41 rfl) c13 c14.1 c14.2 (fun s4 es4 => ?_)
      have h := h s4 es4
      obtain ⟨c15, h⟩ := h
      refine K_iinc (ls' := [(0, (2, a0)), (1, (0, a1)), (2, (0, a2)), (3, (0, (a3 + 1)))]) 3 (kdA dt_MX12_easePains 42 rfl) rfl c15 (by decide) rfl ?_
      refine K_goto (tgt := 10) (kdA dt_MX12_easePains 43 rfl) rfl ?_
      exact h
theorem EX12_easePains {d n : Nat} {Q : kS → Prop} {a0 a1 : Int} {σ : kS} (h : (-2147483648 ≤ a1 ∧ a1 ≤ 2147483647) → kokw n σ → LX12_easePains_0 d n Q a0 a1 σ) : Cv (d + 1) MX12_easePains [(2, a0), (0, a1)] n σ Q := Tri_of (by decide +kernel) (Nat.le_of_ble_eq_true rfl) (fun hk hw => h (hk (0, a1) (List.mem_of_getElem? (i := 1) rfl)) hw)

def LX12_east_0 (d n : Nat) (Q : Int → kS → Prop) (a0 : Int) (σ : kS) : Prop := K (d + 1) MX12_east (kPi n Q) (0, 0) 0 [(0, (0, a0))] [] n σ
theorem SX12_east_0 {d n : Nat} {Q : Int → kS → Prop} {a0 : Int} {σ : kS} (h : (a0 ≤ 0 → (a0 ≤ 4 → Q 0 σ) ∧ (¬ a0 ≤ 4 → Q (-1) σ)) ∧ (¬ a0 ≤ 0 → (4 ≤ a0 → (a0 ≤ 4 → Q 0 σ) ∧ (¬ a0 ≤ 4 → Q (-1) σ)) ∧ (¬ 4 ≤ a0 → Q 1 σ))) : LX12_east_0 d n Q a0 σ := by
  unfold LX12_east_0
  refine K_iload_n 0 (kdA dt_MX12_east 0 rfl) rfl rfl ?_
  refine K_if_le (tgt := 13) (kdA dt_MX12_east 1 rfl) rfl (fun c => ?_) (fun c => ?_)
  · have h := h.1 c
    refine K_iload_n 0 (kdA dt_MX12_east 7 rfl) rfl rfl ?_
    refine K_iconst (kdA dt_MX12_east 8 rfl) (by decide) ?_
    refine K_icmp_le (tgt := 22) (kdA dt_MX12_east 9 rfl) rfl (fun c => ?_) (fun c => ?_)
    · have h := h.1 c
      refine K_iconst (kdA dt_MX12_east 12 rfl) (by decide) ?_
      exact K_ireturn (kdA dt_MX12_east 13 rfl) rfl ⟨rfl, _, rfl, h⟩
    · have h := h.2 c
      refine K_iconst (kdA dt_MX12_east 10 rfl) (by decide) ?_
      refine K_goto (tgt := 23) (kdA dt_MX12_east 11 rfl) rfl ?_
      exact K_ireturn (kdA dt_MX12_east 13 rfl) rfl ⟨rfl, _, rfl, h⟩
  · have h := h.2 c
    refine K_iload_n 0 (kdA dt_MX12_east 2 rfl) rfl rfl ?_
    refine K_iconst (kdA dt_MX12_east 3 rfl) (by decide) ?_
    refine K_icmp_ge (tgt := 13) (kdA dt_MX12_east 4 rfl) rfl (fun c => ?_) (fun c => ?_)
    · have h := h.1 c
      refine K_iload_n 0 (kdA dt_MX12_east 7 rfl) rfl rfl ?_
      refine K_iconst (kdA dt_MX12_east 8 rfl) (by decide) ?_
      refine K_icmp_le (tgt := 22) (kdA dt_MX12_east 9 rfl) rfl (fun c => ?_) (fun c => ?_)
      · have h := h.1 c
        refine K_iconst (kdA dt_MX12_east 12 rfl) (by decide) ?_
        exact K_ireturn (kdA dt_MX12_east 13 rfl) rfl ⟨rfl, _, rfl, h⟩
      · have h := h.2 c
        refine K_iconst (kdA dt_MX12_east 10 rfl) (by decide) ?_
        refine K_goto (tgt := 23) (kdA dt_MX12_east 11 rfl) rfl ?_
        exact K_ireturn (kdA dt_MX12_east 13 rfl) rfl ⟨rfl, _, rfl, h⟩
    · have h := h.2 c
      refine K_iconst (kdA dt_MX12_east 5 rfl) (by decide) ?_
      refine K_goto (tgt := 23) (kdA dt_MX12_east 6 rfl) rfl ?_
      exact K_ireturn (kdA dt_MX12_east 13 rfl) rfl ⟨rfl, _, rfl, h⟩
theorem EX12_east {d n : Nat} {Q : Int → kS → Prop} {a0 : Int} {σ : kS} (h : (-2147483648 ≤ a0 ∧ a0 ≤ 2147483647) → kokw n σ → LX12_east_0 d n Q a0 σ) : Ci (d + 1) MX12_east [(0, a0)] n σ Q := Tri_of (by decide +kernel) (Nat.le_of_ble_eq_true rfl) (fun hk hw => h (hk (0, a0) (List.mem_of_getElem? (i := 0) rfl)) hw)

def LX12_end_0 (d n : Nat) (Q : Int → kS → Prop) (a0 : Int) (a1 : Int) (σ : kS) : Prop := K (d + 1) MX12_end (kPi n Q) (0, 0) 0 [(0, (2, a0)), (1, (0, a1))] [] n σ
theorem SX12_end_0 {d n : Nat} {Q : Int → kS → Prop} {a0 a1 : Int} {σ : kS} (h : isO 12 n a0 ∧ (∀ s1, s1 = kst σ a0 0 0 → (a1 < 0 → Q 0 s1) ∧ (¬ a1 < 0 → (a1 ≤ (s1 a0 13) → ∀ s2, s2 = kst s1 a0 13 a1 → Q 1 s2) ∧ (¬ a1 ≤ (s1 a0 13) → Q 0 s1)))) : LX12_end_0 d n Q a0 a1 σ := by
  unfold LX12_end_0
  refine K_aload_n 0 (kdA dt_MX12_end 0 rfl) rfl rfl ?_
  refine K_iconst (kdA dt_MX12_end 1 rfl) (by decide) ?_
  obtain ⟨c1, h⟩ := h
  refine pf12_149 rfl (kdA dt_MX12_end 2 rfl) c1 (fun s1 es1 => ?_)
  have h := h s1 es1
  refine K_iload_n 1 (kdA dt_MX12_end 3 rfl) rfl rfl ?_
  refine K_if_lt (tgt := 17) (kdA dt_MX12_end 4 rfl) rfl (fun c => ?_) (fun c => ?_)
  · have h := h.1 c
    refine K_iconst (kdA dt_MX12_end 9 rfl) (by decide) ?_
    exact K_zreturn (kdA dt_MX12_end 10 rfl) rfl (Or.inl rfl) ⟨rfl, _, rfl, h⟩
  · have h := h.2 c
    refine K_iload_n 1 (kdA dt_MX12_end 5 rfl) rfl rfl ?_
    refine K_aload_n 0 (kdA dt_MX12_end 6 rfl) rfl rfl ?_
    refine gf12_194 rfl (kdA dt_MX12_end 7 rfl) c1 ?_
    refine K_icmp_le (tgt := 19) (kdA dt_MX12_end 8 rfl) rfl (fun c => ?_) (fun c => ?_)
    · have h := h.1 c
      refine K_aload_n 0 (kdA dt_MX12_end 11 rfl) rfl rfl ?_
      refine K_iload_n 1 (kdA dt_MX12_end 12 rfl) rfl rfl ?_
      refine pf12_194 rfl (kdA dt_MX12_end 13 rfl) c1 (fun s2 es2 => ?_)
      have h := h s2 es2
      refine K_iconst (kdA dt_MX12_end 14 rfl) (by decide) ?_
      exact K_zreturn (kdA dt_MX12_end 15 rfl) rfl (Or.inr rfl) ⟨rfl, _, rfl, h⟩
    · have h := h.2 c
      refine K_iconst (kdA dt_MX12_end 9 rfl) (by decide) ?_
      exact K_zreturn (kdA dt_MX12_end 10 rfl) rfl (Or.inl rfl) ⟨rfl, _, rfl, h⟩
theorem EX12_end {d n : Nat} {Q : Int → kS → Prop} {a0 a1 : Int} {σ : kS} (h : (-2147483648 ≤ a1 ∧ a1 ≤ 2147483647) → kokw n σ → LX12_end_0 d n Q a0 a1 σ) : Ci (d + 1) MX12_end [(2, a0), (0, a1)] n σ Q := Tri_of (by decide +kernel) (Nat.le_of_ble_eq_true rfl) (fun hk hw => h (hk (0, a1) (List.mem_of_getElem? (i := 1) rfl)) hw)

def LX12_era_0 (d n : Nat) (Q : Int → kS → Prop) (a0 : Int) (σ : kS) : Prop := K (d + 1) MX12_era (kPi n Q) (0, 0) 0 [(0, (2, a0))] [] n σ
def LX12_era_17 (d n : Nat) (Q : Int → kS → Prop) (a0 : Int) (a1 : Int) (σ : kS) : Prop := K (d + 1) MX12_era (kPi n Q) (0, 0) 17 [(0, (2, a0)), (1, (0, a1))] [] n σ
theorem SX12_era_0 {d n : Nat} {Q : Int → kS → Prop} {a0 : Int} {σ : kS} (h : isO 12 n a0 ∧ (∀ s1, s1 = kst σ a0 0 0 → (¬ (s1 a0 68) = 4 → LX12_era_17 d n Q a0 0 s1) ∧ (¬ (¬ (s1 a0 68) = 4) → Q (-1) s1))) : LX12_era_0 d n Q a0 σ := by
  unfold LX12_era_0
  refine K_aload_n 0 (kdA dt_MX12_era 0 rfl) rfl rfl ?_
  refine K_iconst (kdA dt_MX12_era 1 rfl) (by decide) ?_
  obtain ⟨c1, h⟩ := h
  refine pf12_149 rfl (kdA dt_MX12_era 2 rfl) c1 (fun s1 es1 => ?_)
  have h := h s1 es1
  refine K_aload_n 0 (kdA dt_MX12_era 3 rfl) rfl rfl ?_
  refine gf12_529 rfl (kdA dt_MX12_era 4 rfl) c1 ?_
  refine K_iconst (kdA dt_MX12_era 5 rfl) (by decide) ?_
  refine K_icmp_ne (tgt := 15) (kdA dt_MX12_era 6 rfl) rfl (fun c => ?_) (fun c => ?_)
  · have h := h.1 c
    refine K_iconst (kdA dt_MX12_era 9 rfl) (by decide) ?_
    refine K_istore_n (ls' := [(0, (2, a0)), (1, (0, 0))]) (kdA dt_MX12_era 10 rfl) rfl (by decide) rfl ?_
    exact h
  · have h := h.2 c
    refine K_iconst (kdA dt_MX12_era 7 rfl) (by decide) ?_
    exact K_ireturn (kdA dt_MX12_era 8 rfl) rfl ⟨rfl, _, rfl, h⟩
theorem SX12_era_17 {d n : Nat} {Q : Int → kS → Prop} {a0 a1 : Int} {σ : kS} (h : (480 ≤ a1 → isO 12 n a0 ∧ ((-2147483648 ≤ ((σ a0 68) + 1) ∧ ((σ a0 68) + 1) ≤ 2147483647) ∧ (∀ s1, s1 = kst σ a0 68 ((σ a0 68) + 1) → (-2147483648 ≤ ((s1 a0 68) - 1) ∧ ((s1 a0 68) - 1) ≤ 2147483647) ∧ (Q ((s1 a0 68) - 1) s1)))) ∧ (¬ 480 ≤ a1 → isO 12 n a0 ∧ ((-2147483648 ≤ (480 * (σ a0 68)) ∧ (480 * (σ a0 68)) ≤ 2147483647) ∧ ((-2147483648 ≤ ((480 * (σ a0 68)) + a1) ∧ ((480 * (σ a0 68)) + a1) ≤ 2147483647) ∧ (isA 20 n (σ a0 1) ∧ (((0 : Int) ≤ a1 ∧ a1 < klen (σ a0 1)) ∧ (isA 20 n (σ a0 65) ∧ (((0 : Int) ≤ ((480 * (σ a0 68)) + a1) ∧ ((480 * (σ a0 68)) + a1) < klen (σ a0 65)) ∧ (∀ s1, s1 = kst σ (σ a0 65) ((480 * (σ a0 68)) + a1) (σ (σ a0 1) a1) → (-2147483648 ≤ (a1 + 1) ∧ (a1 + 1) ≤ 2147483647) ∧ (LX12_era_17 d n Q a0 (a1 + 1) s1)))))))))) : LX12_era_17 d n Q a0 a1 σ := by
  unfold LX12_era_17
  refine K_iload_n 1 (kdA dt_MX12_era 11 rfl) rfl rfl ?_
  refine K_sipush (kdA dt_MX12_era 12 rfl) (by decide +kernel) ?_
  refine K_icmp_ge (tgt := 51) (kdA dt_MX12_era 13 rfl) rfl (fun c => ?_) (fun c => ?_)
  · have h := h.1 c
    refine K_aload_n 0 (kdA dt_MX12_era 29 rfl) rfl rfl ?_
    refine K_dup (kdA dt_MX12_era 30 rfl) rfl ?_
    obtain ⟨c1, h⟩ := h
    refine gf12_529 rfl (kdA dt_MX12_era 31 rfl) c1 ?_
    refine K_iconst (kdA dt_MX12_era 32 rfl) (by decide) ?_
    obtain ⟨c2, h⟩ := h
    refine K_iadd (kdA dt_MX12_era 33 rfl) c2 ?_
    refine pf12_529 rfl (kdA dt_MX12_era 34 rfl) c1 (fun s1 es1 => ?_)
    have h := h s1 es1
    refine K_aload_n 0 (kdA dt_MX12_era 35 rfl) rfl rfl ?_
    refine gf12_529 rfl (kdA dt_MX12_era 36 rfl) c1 ?_
    refine K_iconst (kdA dt_MX12_era 37 rfl) (by decide) ?_
    obtain ⟨c3, h⟩ := h
    refine K_isub (kdA dt_MX12_era 38 rfl) c3 ?_
    exact K_ireturn (kdA dt_MX12_era 39 rfl) rfl ⟨rfl, _, rfl, h⟩
  · have h := h.2 c
    refine K_aload_n 0 (kdA dt_MX12_era 14 rfl) rfl rfl ?_
    obtain ⟨c1, h⟩ := h
    refine gf12_139 rfl (kdA dt_MX12_era 15 rfl) c1 ?_
    refine K_sipush (kdA dt_MX12_era 16 rfl) (by decide +kernel) ?_
    refine K_aload_n 0 (kdA dt_MX12_era 17 rfl) rfl rfl ?_
    refine gf12_529 rfl (kdA dt_MX12_era 18 rfl) c1 ?_
    obtain ⟨c2, h⟩ := h
    refine K_imul (kdA dt_MX12_era 19 rfl) c2 ?_
    refine K_iload_n 1 (kdA dt_MX12_era 20 rfl) rfl rfl ?_
    obtain ⟨c3, h⟩ := h
    refine K_iadd (kdA dt_MX12_era 21 rfl) c3 ?_
    refine K_aload_n 0 (kdA dt_MX12_era 22 rfl) rfl rfl ?_
    refine gf12_9 rfl (kdA dt_MX12_era 23 rfl) c1 ?_
    refine K_iload_n 1 (kdA dt_MX12_era 24 rfl) rfl rfl ?_
    obtain ⟨c4, h⟩ := h
    obtain ⟨c5, h⟩ := h
    refine K_iaload (kdA dt_MX12_era 25 rfl) c4 c5.1 c5.2 ?_
    obtain ⟨c6, h⟩ := h
    obtain ⟨c7, h⟩ := h
    refine K_iastore' (kdA dt_MX12_era 26 rfl) c6 c7.1 c7.2 (fun s1 es1 => ?_)
    have h := h s1 es1
    obtain ⟨c8, h⟩ := h
    refine K_iinc (ls' := [(0, (2, a0)), (1, (0, (a1 + 1)))]) 1 (kdA dt_MX12_era 27 rfl) rfl c8 (by decide) rfl ?_
    refine K_goto (tgt := 17) (kdA dt_MX12_era 28 rfl) rfl ?_
    exact h
theorem EX12_era {d n : Nat} {Q : Int → kS → Prop} {a0 : Int} {σ : kS} (h : kokw n σ → LX12_era_0 d n Q a0 σ) : Ci (d + 1) MX12_era [(2, a0)] n σ Q := Tri_of (by decide +kernel) (Nat.le_of_ble_eq_true rfl) (fun hk hw => h hw)

def LX12_evidence_0 (d n : Nat) (Q : Int → kS → Prop) (a0 : Int) (a1 : Int) (a2 : Int) (a3 : Int) (σ : kS) : Prop := K (d + 1) MX12_evidence (kPi n Q) (0, 0) 0 [(0, (2, a0)), (1, (0, a1)), (2, (0, a2)), (3, (0, a3))] [] n σ
theorem SX12_evidence_0 {d n : Nat} {Q : Int → kS → Prop} {a0 a1 a2 a3 : Int} {σ : kS} (h : isO 12 n a0 ∧ (∀ s1, s1 = kst σ a0 0 0 → Ci d MX12_isGoer [(2, a0), (0, a1)] n s1 (fun x2 s2 => (x2 = 0 → Q (-1) s2) ∧ (¬ x2 = 0 → Ci d MX12_areTowns [(2, a0), (0, a2), (0, a3)] n s2 (fun x3 s3 => (¬ x3 = 0 → Cv d MX12_layWorld [(2, a0), (0, a1), (0, a2), (0, a3)] n s3 (fun s4 => isA 20 n (s4 a0 45) ∧ (((0 : Int) ≤ a1 ∧ a1 < klen (s4 a0 45)) ∧ (Q (s4 (s4 a0 45) a1) s4)))) ∧ (¬ (¬ x3 = 0) → Q (-1) s3)))))) : LX12_evidence_0 d n Q a0 a1 a2 a3 σ := by
  unfold LX12_evidence_0
  refine K_aload_n 0 (kdA dt_MX12_evidence 0 rfl) rfl rfl ?_
  refine K_iconst (kdA dt_MX12_evidence 1 rfl) (by decide) ?_
  obtain ⟨c1, h⟩ := h
  refine pf12_149 rfl (kdA dt_MX12_evidence 2 rfl) c1 (fun s1 es1 => ?_)
  have h := h s1 es1
  refine K_aload_n 0 (kdA dt_MX12_evidence 3 rfl) rfl rfl ?_
  refine K_iload_n 1 (kdA dt_MX12_evidence 4 rfl) rfl rfl ?_
  refine K_cVi (c := 12) (as := [(0, a1)]) (st := []) (kdA dt_MX12_evidence 5 rfl) rfl cl_MX12_isGoer lk12_311 rfl rfl (Nat.le_of_ble_eq_true rfl) c1 (Ci.mono h (fun x2 s2 h => ?_))
  refine K_if_eq (tgt := 22) (kdA dt_MX12_evidence 6 rfl) rfl (fun c => ?_) (fun c => ?_)
  · have h := h.1 c
    refine K_iconst (kdA dt_MX12_evidence 12 rfl) (by decide) ?_
    exact K_ireturn (kdA dt_MX12_evidence 13 rfl) rfl ⟨rfl, _, rfl, h⟩
  · have h := h.2 c
    refine K_aload_n 0 (kdA dt_MX12_evidence 7 rfl) rfl rfl ?_
    refine K_iload_n 2 (kdA dt_MX12_evidence 8 rfl) rfl rfl ?_
    refine K_iload_n 3 (kdA dt_MX12_evidence 9 rfl) rfl rfl ?_
    refine K_cVi (c := 12) (as := [(0, a2), (0, a3)]) (st := []) (kdA dt_MX12_evidence 10 rfl) rfl cl_MX12_areTowns lk12_456 rfl rfl (Nat.le_of_ble_eq_true rfl) c1 (Ci.mono h (fun x3 s3 h => ?_))
    refine K_if_ne (tgt := 24) (kdA dt_MX12_evidence 11 rfl) rfl (fun c => ?_) (fun c => ?_)
    · have h := h.1 c
      refine K_aload_n 0 (kdA dt_MX12_evidence 14 rfl) rfl rfl ?_
      refine K_iload_n 1 (kdA dt_MX12_evidence 15 rfl) rfl rfl ?_
      refine K_iload_n 2 (kdA dt_MX12_evidence 16 rfl) rfl rfl ?_
      refine K_iload_n 3 (kdA dt_MX12_evidence 17 rfl) rfl rfl ?_
      refine K_cVv (c := 12) (as := [(0, a1), (0, a2), (0, a3)]) (st := []) (kdA dt_MX12_evidence 18 rfl) rfl cl_MX12_layWorld lk12_452 rfl rfl (Nat.le_of_ble_eq_true rfl) c1 (Cv.mono h (fun s4 h => ?_))
      refine K_aload_n 0 (kdA dt_MX12_evidence 19 rfl) rfl rfl ?_
      refine gf12_100 rfl (kdA dt_MX12_evidence 20 rfl) c1 ?_
      refine K_iload_n 1 (kdA dt_MX12_evidence 21 rfl) rfl rfl ?_
      obtain ⟨c5, h⟩ := h
      obtain ⟨c6, h⟩ := h
      refine K_iaload (kdA dt_MX12_evidence 22 rfl) c5 c6.1 c6.2 ?_
      exact K_ireturn (kdA dt_MX12_evidence 23 rfl) rfl ⟨rfl, _, rfl, h⟩
    · have h := h.2 c
      refine K_iconst (kdA dt_MX12_evidence 12 rfl) (by decide) ?_
      exact K_ireturn (kdA dt_MX12_evidence 13 rfl) rfl ⟨rfl, _, rfl, h⟩
theorem EX12_evidence {d n : Nat} {Q : Int → kS → Prop} {a0 a1 a2 a3 : Int} {σ : kS} (h : (-2147483648 ≤ a1 ∧ a1 ≤ 2147483647) → (-2147483648 ≤ a2 ∧ a2 ≤ 2147483647) → (-2147483648 ≤ a3 ∧ a3 ≤ 2147483647) → kokw n σ → LX12_evidence_0 d n Q a0 a1 a2 a3 σ) : Ci (d + 1) MX12_evidence [(2, a0), (0, a1), (0, a2), (0, a3)] n σ Q := Tri_of (by decide +kernel) (Nat.le_of_ble_eq_true rfl) (fun hk hw => h (hk (0, a1) (List.mem_of_getElem? (i := 1) rfl)) (hk (0, a2) (List.mem_of_getElem? (i := 2) rfl)) (hk (0, a3) (List.mem_of_getElem? (i := 3) rfl)) hw)

def LX12_fails_0 (d n : Nat) (Q : Int → kS → Prop) (a0 : Int) (σ : kS) : Prop := K (d + 1) MX12_fails (kPi n Q) (0, 0) 0 [(0, (2, a0))] [] n σ
theorem SX12_fails_0 {d n : Nat} {Q : Int → kS → Prop} {a0 : Int} {σ : kS} (h : isO 12 n a0 ∧ ((¬ (σ a0 19) = (-1) → Q 0 σ) ∧ (¬ (¬ (σ a0 19) = (-1)) → ∀ s1, s1 = kst σ a0 19 (σ a0 18) → Q 0 s1))) : LX12_fails_0 d n Q a0 σ := by
  unfold LX12_fails_0
  refine K_aload_n 0 (kdA dt_MX12_fails 0 rfl) rfl rfl ?_
  obtain ⟨c1, h⟩ := h
  refine gf12_212 rfl (kdA dt_MX12_fails 1 rfl) c1 ?_
  refine K_iconst (kdA dt_MX12_fails 2 rfl) (by decide) ?_
  refine K_icmp_ne (tgt := 16) (kdA dt_MX12_fails 3 rfl) rfl (fun c => ?_) (fun c => ?_)
  · have h := h.1 c
    refine K_iconst (kdA dt_MX12_fails 8 rfl) (by decide) ?_
    exact K_zreturn (kdA dt_MX12_fails 9 rfl) rfl (Or.inl rfl) ⟨rfl, _, rfl, h⟩
  · have h := h.2 c
    refine K_aload_n 0 (kdA dt_MX12_fails 4 rfl) rfl rfl ?_
    refine K_aload_n 0 (kdA dt_MX12_fails 5 rfl) rfl rfl ?_
    refine gf12_203 rfl (kdA dt_MX12_fails 6 rfl) c1 ?_
    refine pf12_212 rfl (kdA dt_MX12_fails 7 rfl) c1 (fun s1 es1 => ?_)
    have h := h s1 es1
    refine K_iconst (kdA dt_MX12_fails 8 rfl) (by decide) ?_
    exact K_zreturn (kdA dt_MX12_fails 9 rfl) rfl (Or.inl rfl) ⟨rfl, _, rfl, h⟩
theorem EX12_fails {d n : Nat} {Q : Int → kS → Prop} {a0 : Int} {σ : kS} (h : kokw n σ → LX12_fails_0 d n Q a0 σ) : Ci (d + 1) MX12_fails [(2, a0)] n σ Q := Tri_of (by decide +kernel) (Nat.le_of_ble_eq_true rfl) (fun hk hw => h hw)

def LX12_farFrom_0 (d n : Nat) (Q : Int → kS → Prop) (a0 : Int) (a1 : Int) (a2 : Int) (a3 : Int) (a4 : Int) (σ : kS) : Prop := K (d + 1) MX12_farFrom (kPi n Q) (0, 0) 0 [(0, (2, a0)), (1, (0, a1)), (2, (0, a2)), (3, (0, a3)), (4, (0, a4))] [] n σ
def LX12_farFrom_7 (d n : Nat) (Q : Int → kS → Prop) (a0 : Int) (a1 : Int) (a2 : Int) (a3 : Int) (a4 : Int) (a5 : Int) (a6 : Int) (σ : kS) : Prop := K (d + 1) MX12_farFrom (kPi n Q) (0, 0) 7 [(0, (2, a0)), (1, (0, a1)), (2, (0, a2)), (3, (0, a3)), (4, (0, a4)), (5, (0, a5)), (6, (0, a6))] [] n σ
theorem SX12_farFrom_0 {d n : Nat} {Q : Int → kS → Prop} {a0 a1 a2 a3 a4 : Int} {σ : kS} (h : LX12_farFrom_7 d n Q a0 a1 a2 a3 a4 120 0 σ) : LX12_farFrom_0 d n Q a0 a1 a2 a3 a4 σ := by
  unfold LX12_farFrom_0
  refine K_bipush (kdA dt_MX12_farFrom 0 rfl) (by decide +kernel) ?_
  refine K_istore (ls' := [(0, (2, a0)), (1, (0, a1)), (2, (0, a2)), (3, (0, a3)), (4, (0, a4)), (5, (0, 120))]) (kdA dt_MX12_farFrom 1 rfl) (by decide) rfl ?_
  refine K_iconst (kdA dt_MX12_farFrom 2 rfl) (by decide) ?_
  refine K_istore (ls' := [(0, (2, a0)), (1, (0, a1)), (2, (0, a2)), (3, (0, a3)), (4, (0, a4)), (5, (0, 120)), (6, (0, 0))]) (kdA dt_MX12_farFrom 3 rfl) (by decide) rfl ?_
  exact h
theorem SX12_farFrom_7 {d n : Nat} {Q : Int → kS → Prop} {a0 a1 a2 a3 a4 a5 a6 : Int} {σ : kS} (h : isO 12 n a0 ∧ (isA 20 n (σ a0 32) ∧ (((0 : Int) ≤ a1 ∧ a1 < klen (σ a0 32)) ∧ (((σ (σ a0 32) a1) ≤ a6 → Q a5 σ) ∧ (¬ (σ (σ a0 32) a1) ≤ a6 → Ci d MX12_cellOf [(2, a0), (0, a1), (0, a6)] n σ (fun x4 s1 => (-2147483648 ≤ (x4 + a2) ∧ (x4 + a2) ≤ 2147483647) ∧ ((-2147483648 ≤ (12 * a3) ∧ (12 * a3) ≤ 2147483647) ∧ ((-2147483648 ≤ ((x4 + a2) + (12 * a3)) ∧ ((x4 + a2) + (12 * a3)) ≤ 2147483647) ∧ (Ci d MX12_apart [(0, ((x4 + a2) + (12 * a3))), (0, a4)] n s1 (fun x8 s2 => Ci d MJm_min [(0, a5), (0, x8)] n s2 (fun x9 s3 => (-2147483648 ≤ (a6 + 1) ∧ (a6 + 1) ≤ 2147483647) ∧ (LX12_farFrom_7 d n Q a0 a1 a2 a3 a4 x9 (a6 + 1) s3)))))))))))) : LX12_farFrom_7 d n Q a0 a1 a2 a3 a4 a5 a6 σ := by
  unfold LX12_farFrom_7
  refine K_iload 6 (kdA dt_MX12_farFrom 4 rfl) rfl ?_
  refine K_aload_n 0 (kdA dt_MX12_farFrom 5 rfl) rfl rfl ?_
  obtain ⟨c1, h⟩ := h
  refine gf12_70 rfl (kdA dt_MX12_farFrom 6 rfl) c1 ?_
  refine K_iload_n 1 (kdA dt_MX12_farFrom 7 rfl) rfl rfl ?_
  obtain ⟨c2, h⟩ := h
  obtain ⟨c3, h⟩ := h
  refine K_iaload (kdA dt_MX12_farFrom 8 rfl) c2 c3.1 c3.2 ?_
  refine K_icmp_ge (tgt := 50) (kdA dt_MX12_farFrom 9 rfl) rfl (fun c => ?_) (fun c => ?_)
  · have h := h.1 c
    refine K_iload 5 (kdA dt_MX12_farFrom 27 rfl) rfl ?_
    exact K_ireturn (kdA dt_MX12_farFrom 28 rfl) rfl ⟨rfl, _, rfl, h⟩
  · have h := h.2 c
    refine K_iload 5 (kdA dt_MX12_farFrom 10 rfl) rfl ?_
    refine K_aload_n 0 (kdA dt_MX12_farFrom 11 rfl) rfl rfl ?_
    refine K_iload_n 1 (kdA dt_MX12_farFrom 12 rfl) rfl rfl ?_
    refine K_iload 6 (kdA dt_MX12_farFrom 13 rfl) rfl ?_
    refine K_cVi (c := 12) (as := [(0, a1), (0, a6)]) (st := [(0, a5)]) (kdA dt_MX12_farFrom 14 rfl) rfl cl_MX12_cellOf lk12_386 rfl rfl (Nat.le_of_ble_eq_true rfl) c1 (Ci.mono h (fun x4 s1 h => ?_))
    refine K_iload_n 2 (kdA dt_MX12_farFrom 15 rfl) rfl rfl ?_
    obtain ⟨c5, h⟩ := h
    refine K_iadd (kdA dt_MX12_farFrom 16 rfl) c5 ?_
    refine K_bipush (kdA dt_MX12_farFrom 17 rfl) (by decide +kernel) ?_
    refine K_iload_n 3 (kdA dt_MX12_farFrom 18 rfl) rfl rfl ?_
    obtain ⟨c6, h⟩ := h
    refine K_imul (kdA dt_MX12_farFrom 19 rfl) c6 ?_
    obtain ⟨c7, h⟩ := h
    refine K_iadd (kdA dt_MX12_farFrom 20 rfl) c7 ?_
    refine K_iload 4 (kdA dt_MX12_farFrom 21 rfl) rfl ?_
    refine K_cSi (as := [(0, ((x4 + a2) + (12 * a3))), (0, a4)]) (st := [(0, a5)]) (kdA dt_MX12_farFrom 22 rfl) cl_MX12_apart lk12_352 rfl rfl (Nat.le_of_ble_eq_true rfl) (Ci.mono h (fun x8 s2 h => ?_))
    refine K_cSi (as := [(0, a5), (0, x8)]) (st := []) (kdA dt_MX12_farFrom 23 rfl) cl_MJm_min lk12_317 rfl rfl (Nat.le_of_ble_eq_true rfl) (Ci.mono h (fun x9 s3 h => ?_))
    refine K_istore (ls' := [(0, (2, a0)), (1, (0, a1)), (2, (0, a2)), (3, (0, a3)), (4, (0, a4)), (5, (0, x9)), (6, (0, a6))]) (kdA dt_MX12_farFrom 24 rfl) (by decide) rfl ?_
    obtain ⟨c10, h⟩ := h
    refine K_iinc (ls' := [(0, (2, a0)), (1, (0, a1)), (2, (0, a2)), (3, (0, a3)), (4, (0, a4)), (5, (0, x9)), (6, (0, (a6 + 1)))]) 6 (kdA dt_MX12_farFrom 25 rfl) rfl c10 (by decide) rfl ?_
    refine K_goto (tgt := 7) (kdA dt_MX12_farFrom 26 rfl) rfl ?_
    exact h
theorem EX12_farFrom {d n : Nat} {Q : Int → kS → Prop} {a0 a1 a2 a3 a4 : Int} {σ : kS} (h : (-2147483648 ≤ a1 ∧ a1 ≤ 2147483647) → (-2147483648 ≤ a2 ∧ a2 ≤ 2147483647) → (-2147483648 ≤ a3 ∧ a3 ≤ 2147483647) → (-2147483648 ≤ a4 ∧ a4 ≤ 2147483647) → kokw n σ → LX12_farFrom_0 d n Q a0 a1 a2 a3 a4 σ) : Ci (d + 1) MX12_farFrom [(2, a0), (0, a1), (0, a2), (0, a3), (0, a4)] n σ Q := Tri_of (by decide +kernel) (Nat.le_of_ble_eq_true rfl) (fun hk hw => h (hk (0, a1) (List.mem_of_getElem? (i := 1) rfl)) (hk (0, a2) (List.mem_of_getElem? (i := 2) rfl)) (hk (0, a3) (List.mem_of_getElem? (i := 3) rfl)) (hk (0, a4) (List.mem_of_getElem? (i := 4) rfl)) hw)

def LX12_fault_0 (d n : Nat) (Q : Int → kS → Prop) (a0 : Int) (a1 : Int) (σ : kS) : Prop := K (d + 1) MX12_fault (kPi n Q) (0, 0) 0 [(0, (2, a0)), (1, (0, a1))] [] n σ
theorem SX12_fault_0 {d n : Nat} {Q : Int → kS → Prop} {a0 a1 : Int} {σ : kS} (h : isO 12 n a0 ∧ (∀ s1, s1 = kst σ a0 0 0 → Ci d MX12_isIn [(0, a1), (0, 0), (0, 1)] n s1 (fun x2 s2 => (¬ x2 = 0 → (¬ a1 = 0 → Cv d MX12_readBook [(2, a0)] n s2 (fun s3 => Q (s3 a0 19) s3)) ∧ (¬ (¬ a1 = 0) → Cv d MX12_goThrough [(2, a0), (2, (s2 a0 4)), (0, 0), (0, (s2 a0 13))] n s2 (fun s3 => Q (s3 a0 19) s3))) ∧ (¬ (¬ x2 = 0) → Q (-2) s2)))) : LX12_fault_0 d n Q a0 a1 σ := by
  unfold LX12_fault_0
  refine K_aload_n 0 (kdA dt_MX12_fault 0 rfl) rfl rfl ?_
  refine K_iconst (kdA dt_MX12_fault 1 rfl) (by decide) ?_
  obtain ⟨c1, h⟩ := h
  refine pf12_149 rfl (kdA dt_MX12_fault 2 rfl) c1 (fun s1 es1 => ?_)
  have h := h s1 es1
  refine K_iload_n 1 (kdA dt_MX12_fault 3 rfl) rfl rfl ?_
  refine K_iconst (kdA dt_MX12_fault 4 rfl) (by decide) ?_
  refine K_iconst (kdA dt_MX12_fault 5 rfl) (by decide) ?_
  refine K_cSi (as := [(0, a1), (0, 0), (0, 1)]) (st := []) (kdA dt_MX12_fault 6 rfl) cl_MX12_isIn lk12_153 rfl rfl (Nat.le_of_ble_eq_true rfl) (Ci.mono h (fun x2 s2 h => ?_))
  refine K_if_ne (tgt := 17) (kdA dt_MX12_fault 7 rfl) rfl (fun c => ?_) (fun c => ?_)
  · have h := h.1 c
    refine K_iload_n 1 (kdA dt_MX12_fault 10 rfl) rfl rfl ?_
    refine K_if_ne (tgt := 37) (kdA dt_MX12_fault 11 rfl) rfl (fun c => ?_) (fun c => ?_)
    · have h := h.1 c
      refine K_aload_n 0 (kdA dt_MX12_fault 20 rfl) rfl rfl ?_
      refine K_cVv (c := 12) (as := []) (st := []) (kdA dt_MX12_fault 21 rfl) rfl cl_MX12_readBook lk12_303 rfl rfl (Nat.le_of_ble_eq_true rfl) c1 (Cv.mono h (fun s3 h => ?_))
      refine K_aload_n 0 (kdA dt_MX12_fault 22 rfl) rfl rfl ?_
      refine gf12_212 rfl (kdA dt_MX12_fault 23 rfl) c1 ?_
      exact K_ireturn (kdA dt_MX12_fault 24 rfl) rfl ⟨rfl, _, rfl, h⟩
    · have h := h.2 c
      refine K_aload_n 0 (kdA dt_MX12_fault 12 rfl) rfl rfl ?_
      refine K_aload_n 0 (kdA dt_MX12_fault 13 rfl) rfl rfl ?_
      refine gf12_16 rfl (kdA dt_MX12_fault 14 rfl) c1 ?_
      refine K_iconst (kdA dt_MX12_fault 15 rfl) (by decide) ?_
      refine K_aload_n 0 (kdA dt_MX12_fault 16 rfl) rfl rfl ?_
      refine gf12_194 rfl (kdA dt_MX12_fault 17 rfl) c1 ?_
      refine K_cVv (c := 12) (as := [(2, (s2 a0 4)), (0, 0), (0, (s2 a0 13))]) (st := []) (kdA dt_MX12_fault 18 rfl) rfl cl_MX12_goThrough lk12_300 rfl rfl (Nat.le_of_ble_eq_true rfl) c1 (Cv.mono h (fun s3 h => ?_))
      refine K_goto (tgt := 41) (kdA dt_MX12_fault 19 rfl) rfl ?_
      refine K_aload_n 0 (kdA dt_MX12_fault 22 rfl) rfl rfl ?_
      refine gf12_212 rfl (kdA dt_MX12_fault 23 rfl) c1 ?_
      exact K_ireturn (kdA dt_MX12_fault 24 rfl) rfl ⟨rfl, _, rfl, h⟩
  · have h := h.2 c
    refine K_bipush (kdA dt_MX12_fault 8 rfl) (by decide +kernel) ?_
    exact K_ireturn (kdA dt_MX12_fault 9 rfl) rfl ⟨rfl, _, rfl, h⟩
theorem EX12_fault {d n : Nat} {Q : Int → kS → Prop} {a0 a1 : Int} {σ : kS} (h : (-2147483648 ≤ a1 ∧ a1 ≤ 2147483647) → kokw n σ → LX12_fault_0 d n Q a0 a1 σ) : Ci (d + 1) MX12_fault [(2, a0), (0, a1)] n σ Q := Tri_of (by decide +kernel) (Nat.le_of_ble_eq_true rfl) (fun hk hw => h (hk (0, a1) (List.mem_of_getElem? (i := 1) rfl)) hw)

def LX12_feed_0 (d n : Nat) (Q : Int → kS → Prop) (a0 : Int) (a1 : Int) (a2 : Int) (a3 : Int) (a4 : Int) (a5 : Int) (σ : kS) : Prop := K (d + 1) MX12_feed (kPi n Q) (0, 0) 0 [(0, (2, a0)), (1, (0, a1)), (2, (0, a2)), (3, (0, a3)), (4, (0, a4)), (5, (0, a5))] [] n σ
theorem SX12_feed_0 {d n : Nat} {Q : Int → kS → Prop} {a0 a1 a2 a3 a4 a5 : Int} {σ : kS} (h : isO 12 n a0 ∧ (∀ s1, s1 = kst σ a0 0 0 → Ci d MX12_bytesIn [(0, a1)] n s1 (fun x2 s2 => (-2147483648 ≤ ((s1 a0 13) + x2) ∧ ((s1 a0 13) + x2) ≤ 2147483647) ∧ (Ci d MX12_bytesIn [(0, a2)] n s2 (fun x4 s3 => (-2147483648 ≤ (((s1 a0 13) + x2) + x4) ∧ (((s1 a0 13) + x2) + x4) ≤ 2147483647) ∧ (Ci d MX12_bytesIn [(0, a3)] n s3 (fun x6 s4 => (-2147483648 ≤ ((((s1 a0 13) + x2) + x4) + x6) ∧ ((((s1 a0 13) + x2) + x4) + x6) ≤ 2147483647) ∧ (Ci d MX12_bytesIn [(0, a4)] n s4 (fun x8 s5 => (-2147483648 ≤ (((((s1 a0 13) + x2) + x4) + x6) + x8) ∧ (((((s1 a0 13) + x2) + x4) + x6) + x8) ≤ 2147483647) ∧ (Ci d MX12_bytesIn [(0, a5)] n s5 (fun x10 s6 => (-2147483648 ≤ ((((((s1 a0 13) + x2) + x4) + x6) + x8) + x10) ∧ ((((((s1 a0 13) + x2) + x4) + x6) + x8) + x10) ≤ 2147483647) ∧ ((((((((s1 a0 13) + x2) + x4) + x6) + x8) + x10) ≤ 120 → Cv d MX12_put [(2, a0), (0, a1)] n s6 (fun s7 => Cv d MX12_put [(2, a0), (0, a2)] n s7 (fun s8 => Cv d MX12_put [(2, a0), (0, a3)] n s8 (fun s9 => Cv d MX12_put [(2, a0), (0, a4)] n s9 (fun s10 => Cv d MX12_put [(2, a0), (0, a5)] n s10 (fun s11 => Q (s11 a0 13) s11)))))) ∧ (¬ ((((((s1 a0 13) + x2) + x4) + x6) + x8) + x10) ≤ 120 → Q (-1) s6))))))))))))) : LX12_feed_0 d n Q a0 a1 a2 a3 a4 a5 σ := by
  unfold LX12_feed_0
  refine K_aload_n 0 (kdA dt_MX12_feed 0 rfl) rfl rfl ?_
  refine K_iconst (kdA dt_MX12_feed 1 rfl) (by decide) ?_
  obtain ⟨c1, h⟩ := h
  refine pf12_149 rfl (kdA dt_MX12_feed 2 rfl) c1 (fun s1 es1 => ?_)
  have h := h s1 es1
  refine K_aload_n 0 (kdA dt_MX12_feed 3 rfl) rfl rfl ?_
  refine gf12_194 rfl (kdA dt_MX12_feed 4 rfl) c1 ?_
  refine K_iload_n 1 (kdA dt_MX12_feed 5 rfl) rfl rfl ?_
  refine K_cSi (as := [(0, a1)]) (st := [(0, (s1 a0 13))]) (kdA dt_MX12_feed 6 rfl) cl_MX12_bytesIn lk12_196 rfl rfl (Nat.le_of_ble_eq_true rfl) (Ci.mono h (fun x2 s2 h => ?_))
  obtain ⟨c3, h⟩ := h
  refine K_iadd (kdA dt_MX12_feed 7 rfl) c3 ?_
  refine K_iload_n 2 (kdA dt_MX12_feed 8 rfl) rfl rfl ?_
  refine K_cSi (as := [(0, a2)]) (st := [(0, ((s1 a0 13) + x2))]) (kdA dt_MX12_feed 9 rfl) cl_MX12_bytesIn lk12_196 rfl rfl (Nat.le_of_ble_eq_true rfl) (Ci.mono h (fun x4 s3 h => ?_))
  obtain ⟨c5, h⟩ := h
  refine K_iadd (kdA dt_MX12_feed 10 rfl) c5 ?_
  refine K_iload_n 3 (kdA dt_MX12_feed 11 rfl) rfl rfl ?_
  refine K_cSi (as := [(0, a3)]) (st := [(0, (((s1 a0 13) + x2) + x4))]) (kdA dt_MX12_feed 12 rfl) cl_MX12_bytesIn lk12_196 rfl rfl (Nat.le_of_ble_eq_true rfl) (Ci.mono h (fun x6 s4 h => ?_))
  obtain ⟨c7, h⟩ := h
  refine K_iadd (kdA dt_MX12_feed 13 rfl) c7 ?_
  refine K_iload 4 (kdA dt_MX12_feed 14 rfl) rfl ?_
  refine K_cSi (as := [(0, a4)]) (st := [(0, ((((s1 a0 13) + x2) + x4) + x6))]) (kdA dt_MX12_feed 15 rfl) cl_MX12_bytesIn lk12_196 rfl rfl (Nat.le_of_ble_eq_true rfl) (Ci.mono h (fun x8 s5 h => ?_))
  obtain ⟨c9, h⟩ := h
  refine K_iadd (kdA dt_MX12_feed 16 rfl) c9 ?_
  refine K_iload 5 (kdA dt_MX12_feed 17 rfl) rfl ?_
  refine K_cSi (as := [(0, a5)]) (st := [(0, (((((s1 a0 13) + x2) + x4) + x6) + x8))]) (kdA dt_MX12_feed 18 rfl) cl_MX12_bytesIn lk12_196 rfl rfl (Nat.le_of_ble_eq_true rfl) (Ci.mono h (fun x10 s6 h => ?_))
  obtain ⟨c11, h⟩ := h
  refine K_iadd (kdA dt_MX12_feed 19 rfl) c11 ?_
  refine K_bipush (kdA dt_MX12_feed 20 rfl) (by decide +kernel) ?_
  refine K_icmp_le (tgt := 43) (kdA dt_MX12_feed 21 rfl) rfl (fun c => ?_) (fun c => ?_)
  · have h := h.1 c
    refine K_aload_n 0 (kdA dt_MX12_feed 24 rfl) rfl rfl ?_
    refine K_iload_n 1 (kdA dt_MX12_feed 25 rfl) rfl rfl ?_
    refine K_cVv (c := 12) (as := [(0, a1)]) (st := []) (kdA dt_MX12_feed 26 rfl) rfl cl_MX12_put lk12_199 rfl rfl (Nat.le_of_ble_eq_true rfl) c1 (Cv.mono h (fun s7 h => ?_))
    refine K_aload_n 0 (kdA dt_MX12_feed 27 rfl) rfl rfl ?_
    refine K_iload_n 2 (kdA dt_MX12_feed 28 rfl) rfl rfl ?_
    refine K_cVv (c := 12) (as := [(0, a2)]) (st := []) (kdA dt_MX12_feed 29 rfl) rfl cl_MX12_put lk12_199 rfl rfl (Nat.le_of_ble_eq_true rfl) c1 (Cv.mono h (fun s8 h => ?_))
    refine K_aload_n 0 (kdA dt_MX12_feed 30 rfl) rfl rfl ?_
    refine K_iload_n 3 (kdA dt_MX12_feed 31 rfl) rfl rfl ?_
    refine K_cVv (c := 12) (as := [(0, a3)]) (st := []) (kdA dt_MX12_feed 32 rfl) rfl cl_MX12_put lk12_199 rfl rfl (Nat.le_of_ble_eq_true rfl) c1 (Cv.mono h (fun s9 h => ?_))
    refine K_aload_n 0 (kdA dt_MX12_feed 33 rfl) rfl rfl ?_
    refine K_iload 4 (kdA dt_MX12_feed 34 rfl) rfl ?_
    refine K_cVv (c := 12) (as := [(0, a4)]) (st := []) (kdA dt_MX12_feed 35 rfl) rfl cl_MX12_put lk12_199 rfl rfl (Nat.le_of_ble_eq_true rfl) c1 (Cv.mono h (fun s10 h => ?_))
    refine K_aload_n 0 (kdA dt_MX12_feed 36 rfl) rfl rfl ?_
    refine K_iload 5 (kdA dt_MX12_feed 37 rfl) rfl ?_
    refine K_cVv (c := 12) (as := [(0, a5)]) (st := []) (kdA dt_MX12_feed 38 rfl) rfl cl_MX12_put lk12_199 rfl rfl (Nat.le_of_ble_eq_true rfl) c1 (Cv.mono h (fun s11 h => ?_))
    refine K_aload_n 0 (kdA dt_MX12_feed 39 rfl) rfl rfl ?_
    refine gf12_194 rfl (kdA dt_MX12_feed 40 rfl) c1 ?_
    exact K_ireturn (kdA dt_MX12_feed 41 rfl) rfl ⟨rfl, _, rfl, h⟩
  · have h := h.2 c
    refine K_iconst (kdA dt_MX12_feed 22 rfl) (by decide) ?_
    exact K_ireturn (kdA dt_MX12_feed 23 rfl) rfl ⟨rfl, _, rfl, h⟩
theorem EX12_feed {d n : Nat} {Q : Int → kS → Prop} {a0 a1 a2 a3 a4 a5 : Int} {σ : kS} (h : (-2147483648 ≤ a1 ∧ a1 ≤ 2147483647) → (-2147483648 ≤ a2 ∧ a2 ≤ 2147483647) → (-2147483648 ≤ a3 ∧ a3 ≤ 2147483647) → (-2147483648 ≤ a4 ∧ a4 ≤ 2147483647) → (-2147483648 ≤ a5 ∧ a5 ≤ 2147483647) → kokw n σ → LX12_feed_0 d n Q a0 a1 a2 a3 a4 a5 σ) : Ci (d + 1) MX12_feed [(2, a0), (0, a1), (0, a2), (0, a3), (0, a4), (0, a5)] n σ Q := Tri_of (by decide +kernel) (Nat.le_of_ble_eq_true rfl) (fun hk hw => h (hk (0, a1) (List.mem_of_getElem? (i := 1) rfl)) (hk (0, a2) (List.mem_of_getElem? (i := 2) rfl)) (hk (0, a3) (List.mem_of_getElem? (i := 3) rfl)) (hk (0, a4) (List.mem_of_getElem? (i := 4) rfl)) (hk (0, a5) (List.mem_of_getElem? (i := 5) rfl)) hw)

def LX12_feet_0 (d n : Nat) (Q : Int → kS → Prop) (a0 : Int) (a1 : Int) (a2 : Int) (a3 : Int) (a4 : Int) (a6 : Int) (a7 : Int) (σ : kS) : Prop := K (d + 1) MX12_feet (kPi n Q) (0, 0) 0 [(0, (2, a0)), (1, (0, a1)), (2, (0, a2)), (3, (0, a3)), (4, (1, a4)), (6, (0, a6)), (7, (0, a7))] [] n σ
def LX12_feet_56 (d n : Nat) (Q : Int → kS → Prop) (a0 : Int) (a4 : Int) (a6 : Int) (a7 : Int) (a8 : Int) (σ : kS) : Prop := K (d + 1) MX12_feet (kPi n Q) (0, 0) 56 [(0, (2, a0)), (4, (1, a4)), (6, (0, a6)), (7, (0, a7)), (8, (0, a8))] [] n σ
def LX12_feet_87 (d n : Nat) (Q : Int → kS → Prop) (a0 : Int) (a4 : Int) (a6 : Int) (a7 : Int) (a8 : Int) (σ : kS) : Prop := K (d + 1) MX12_feet (kPi n Q) (0, 0) 87 [(0, (2, a0)), (4, (1, a4)), (6, (0, a6)), (7, (0, a7)), (8, (0, a8))] [] n σ
def LX12_feet_132 (d n : Nat) (Q : Int → kS → Prop) (a0 : Int) (a6 : Int) (a7 : Int) (a8 : Int) (σ : kS) : Prop := K (d + 1) MX12_feet (kPi n Q) (0, 0) 132 [(0, (2, a0)), (6, (0, a6)), (7, (0, a7)), (8, (0, a8))] [] n σ
theorem SX12_feet_0 {d n : Nat} {Q : Int → kS → Prop} {a0 a1 a2 a3 a4 a6 a7 : Int} {σ : kS} (h : isO 12 n a0 ∧ (∀ s1, s1 = kst σ a0 0 0 → ((s1 a0 3) < 2 → Q (-1) s1) ∧ (¬ (s1 a0 3) < 2 → Ci d MX12_isManner [(2, a0), (0, a1), (0, a2)] n s1 (fun x2 s2 => (x2 = 0 → Q (-1) s2) ∧ (¬ x2 = 0 → Ci d MX12_isIn [(0, a6), (0, 1), (0, 40)] n s2 (fun x3 s3 => (x3 = 0 → Q (-1) s3) ∧ (¬ x3 = 0 → Ci d MX12_isIn [(0, a7), (0, 0), (0, 9)] n s3 (fun x4 s4 => (¬ x4 = 0 → Cv d MX12_layPains [(2, a0), (0, a1), (0, a2), (0, a3)] n s4 (fun s5 => LX12_feet_56 d n Q a0 a4 a6 a7 0 s5)) ∧ (¬ (¬ x4 = 0) → Q (-1) s4))))))))) : LX12_feet_0 d n Q a0 a1 a2 a3 a4 a6 a7 σ := by
  unfold LX12_feet_0
  refine K_aload_n 0 (kdA dt_MX12_feet 0 rfl) rfl rfl ?_
  refine K_iconst (kdA dt_MX12_feet 1 rfl) (by decide) ?_
  obtain ⟨c1, h⟩ := h
  refine pf12_149 rfl (kdA dt_MX12_feet 2 rfl) c1 (fun s1 es1 => ?_)
  have h := h s1 es1
  refine K_aload_n 0 (kdA dt_MX12_feet 3 rfl) rfl rfl ?_
  refine gf12_165 rfl (kdA dt_MX12_feet 4 rfl) c1 ?_
  refine K_iconst (kdA dt_MX12_feet 5 rfl) (by decide) ?_
  refine K_icmp_lt (tgt := 44) (kdA dt_MX12_feet 6 rfl) rfl (fun c => ?_) (fun c => ?_)
  · have h := h.1 c
    refine K_iconst (kdA dt_MX12_feet 22 rfl) (by decide) ?_
    exact K_ireturn (kdA dt_MX12_feet 23 rfl) rfl ⟨rfl, _, rfl, h⟩
  · have h := h.2 c
    refine K_aload_n 0 (kdA dt_MX12_feet 7 rfl) rfl rfl ?_
    refine K_iload_n 1 (kdA dt_MX12_feet 8 rfl) rfl rfl ?_
    refine K_iload_n 2 (kdA dt_MX12_feet 9 rfl) rfl rfl ?_
    refine K_cVi (c := 12) (as := [(0, a1), (0, a2)]) (st := []) (kdA dt_MX12_feet 10 rfl) rfl cl_MX12_isManner lk12_319 rfl rfl (Nat.le_of_ble_eq_true rfl) c1 (Ci.mono h (fun x2 s2 h => ?_))
    refine K_if_eq (tgt := 44) (kdA dt_MX12_feet 11 rfl) rfl (fun c => ?_) (fun c => ?_)
    · have h := h.1 c
      refine K_iconst (kdA dt_MX12_feet 22 rfl) (by decide) ?_
      exact K_ireturn (kdA dt_MX12_feet 23 rfl) rfl ⟨rfl, _, rfl, h⟩
    · have h := h.2 c
      refine K_iload 5 (kdA dt_MX12_feet 12 rfl) rfl ?_
      refine K_iconst (kdA dt_MX12_feet 13 rfl) (by decide) ?_
      refine K_bipush (kdA dt_MX12_feet 14 rfl) (by decide +kernel) ?_
      refine K_cSi (as := [(0, a6), (0, 1), (0, 40)]) (st := []) (kdA dt_MX12_feet 15 rfl) cl_MX12_isIn lk12_153 rfl rfl (Nat.le_of_ble_eq_true rfl) (Ci.mono h (fun x3 s3 h => ?_))
      refine K_if_eq (tgt := 44) (kdA dt_MX12_feet 16 rfl) rfl (fun c => ?_) (fun c => ?_)
      · have h := h.1 c
        refine K_iconst (kdA dt_MX12_feet 22 rfl) (by decide) ?_
        exact K_ireturn (kdA dt_MX12_feet 23 rfl) rfl ⟨rfl, _, rfl, h⟩
      · have h := h.2 c
        refine K_iload 6 (kdA dt_MX12_feet 17 rfl) rfl ?_
        refine K_iconst (kdA dt_MX12_feet 18 rfl) (by decide) ?_
        refine K_bipush (kdA dt_MX12_feet 19 rfl) (by decide +kernel) ?_
        refine K_cSi (as := [(0, a7), (0, 0), (0, 9)]) (st := []) (kdA dt_MX12_feet 20 rfl) cl_MX12_isIn lk12_153 rfl rfl (Nat.le_of_ble_eq_true rfl) (Ci.mono h (fun x4 s4 h => ?_))
        refine K_if_ne (tgt := 46) (kdA dt_MX12_feet 21 rfl) rfl (fun c => ?_) (fun c => ?_)
        · have h := h.1 c
          refine K_aload_n 0 (kdA dt_MX12_feet 24 rfl) rfl rfl ?_
          refine K_iload_n 1 (kdA dt_MX12_feet 25 rfl) rfl rfl ?_
          refine K_iload_n 2 (kdA dt_MX12_feet 26 rfl) rfl rfl ?_
          refine K_iload_n 3 (kdA dt_MX12_feet 27 rfl) rfl rfl ?_
          refine K_cVv (c := 12) (as := [(0, a1), (0, a2), (0, a3)]) (st := []) (kdA dt_MX12_feet 28 rfl) rfl cl_MX12_layPains lk12_333 rfl rfl (Nat.le_of_ble_eq_true rfl) c1 (Cv.mono h (fun s5 h => ?_))
          refine K_iconst (kdA dt_MX12_feet 29 rfl) (by decide) ?_
          refine K_istore (ls' := [(0, (2, a0)), (1, (0, a1)), (2, (0, a2)), (3, (0, a3)), (4, (1, a4)), (6, (0, a6)), (7, (0, a7)), (8, (0, 0))]) (kdA dt_MX12_feet 30 rfl) (by decide) rfl ?_
          refine K_pick [0, 4, 5, 6, 7] (ls' := [(0, (2, a0)), (4, (1, a4)), (6, (0, a6)), (7, (0, a7)), (8, (0, 0))]) rfl ?_
          exact h
        · have h := h.2 c
          refine K_iconst (kdA dt_MX12_feet 22 rfl) (by decide) ?_
          exact K_ireturn (kdA dt_MX12_feet 23 rfl) rfl ⟨rfl, _, rfl, h⟩
theorem SX12_feet_56 {d n : Nat} {Q : Int → kS → Prop} {a0 a4 a6 a7 a8 : Int} {σ : kS} (h : (960 ≤ a8 → LX12_feet_87 d n Q a0 a4 a6 a7 0 σ) ∧ (¬ 960 ≤ a8 → isO 12 n a0 ∧ (isA 20 n (σ a0 26) ∧ (((0 : Int) ≤ a8 ∧ a8 < klen (σ a0 26)) ∧ (isA 20 n (σ a0 60) ∧ (((0 : Int) ≤ a8 ∧ a8 < klen (σ a0 60)) ∧ (∀ s1, s1 = kst σ (σ a0 60) a8 (σ (σ a0 26) a8) → (-2147483648 ≤ (a8 + 1) ∧ (a8 + 1) ≤ 2147483647) ∧ (LX12_feet_56 d n Q a0 a4 a6 a7 (a8 + 1) s1)))))))) : LX12_feet_56 d n Q a0 a4 a6 a7 a8 σ := by
  unfold LX12_feet_56
  refine K_iload 4 (kdA dt_MX12_feet 31 rfl) rfl ?_
  refine K_sipush (kdA dt_MX12_feet 32 rfl) (by decide +kernel) ?_
  refine K_icmp_ge (tgt := 84) (kdA dt_MX12_feet 33 rfl) rfl (fun c => ?_) (fun c => ?_)
  · have h := h.1 c
    refine K_iconst (kdA dt_MX12_feet 44 rfl) (by decide) ?_
    refine K_istore (ls' := [(0, (2, a0)), (4, (1, a4)), (6, (0, a6)), (7, (0, a7)), (8, (0, 0))]) (kdA dt_MX12_feet 45 rfl) (by decide) rfl ?_
    exact h
  · have h := h.2 c
    refine K_aload_n 0 (kdA dt_MX12_feet 34 rfl) rfl rfl ?_
    obtain ⟨c1, h⟩ := h
    refine gf12_136 rfl (kdA dt_MX12_feet 35 rfl) c1 ?_
    refine K_iload 4 (kdA dt_MX12_feet 36 rfl) rfl ?_
    refine K_aload_n 0 (kdA dt_MX12_feet 37 rfl) rfl rfl ?_
    refine gf12_55 rfl (kdA dt_MX12_feet 38 rfl) c1 ?_
    refine K_iload 4 (kdA dt_MX12_feet 39 rfl) rfl ?_
    obtain ⟨c2, h⟩ := h
    obtain ⟨c3, h⟩ := h
    refine K_iaload (kdA dt_MX12_feet 40 rfl) c2 c3.1 c3.2 ?_
    obtain ⟨c4, h⟩ := h
    obtain ⟨c5, h⟩ := h
    refine K_iastore' (kdA dt_MX12_feet 41 rfl) c4 c5.1 c5.2 (fun s1 es1 => ?_)
    have h := h s1 es1
    obtain ⟨c6, h⟩ := h
    refine K_iinc (ls' := [(0, (2, a0)), (4, (1, a4)), (6, (0, a6)), (7, (0, a7)), (8, (0, (a8 + 1)))]) 4 (kdA dt_MX12_feet 42 rfl) rfl c6 (by decide) rfl ?_
    refine K_goto (tgt := 56) (kdA dt_MX12_feet 43 rfl) rfl ?_
    exact h
theorem SX12_feet_87 {d n : Nat} {Q : Int → kS → Prop} {a0 a4 a6 a7 a8 : Int} {σ : kS} (h : (120 ≤ a8 → isO 12 n a0 ∧ (∀ s1, s1 = kst σ a0 61 0 → ∀ s2, s2 = kst s1 a0 62 0 → ∀ s3, s3 = kst s2 a0 63 1 → ∀ s4, s4 = kst s3 a0 64 a4 → LX12_feet_132 d n Q a0 a6 a7 1 s4)) ∧ (¬ 120 ≤ a8 → isO 12 n a0 ∧ (isA 20 n (σ a0 59) ∧ (((0 : Int) ≤ a8 ∧ a8 < klen (σ a0 59)) ∧ (∀ s1, s1 = kst σ (σ a0 59) a8 0 → (-2147483648 ≤ (a8 + 1) ∧ (a8 + 1) ≤ 2147483647) ∧ (LX12_feet_87 d n Q a0 a4 a6 a7 (a8 + 1) s1)))))) : LX12_feet_87 d n Q a0 a4 a6 a7 a8 σ := by
  unfold LX12_feet_87
  refine K_iload 4 (kdA dt_MX12_feet 46 rfl) rfl ?_
  refine K_bipush (kdA dt_MX12_feet 47 rfl) (by decide +kernel) ?_
  refine K_icmp_ge (tgt := 108) (kdA dt_MX12_feet 48 rfl) rfl (fun c => ?_) (fun c => ?_)
  · have h := h.1 c
    refine K_aload_n 0 (kdA dt_MX12_feet 56 rfl) rfl rfl ?_
    refine K_iconst (kdA dt_MX12_feet 57 rfl) (by decide) ?_
    obtain ⟨c1, h⟩ := h
    refine pf12_514 rfl (kdA dt_MX12_feet 58 rfl) c1 (fun s1 es1 => ?_)
    have h := h s1 es1
    refine K_aload_n 0 (kdA dt_MX12_feet 59 rfl) rfl rfl ?_
    refine K_iconst (kdA dt_MX12_feet 60 rfl) (by decide) ?_
    refine pf12_517 rfl (kdA dt_MX12_feet 61 rfl) c1 (fun s2 es2 => ?_)
    have h := h s2 es2
    refine K_aload_n 0 (kdA dt_MX12_feet 62 rfl) rfl rfl ?_
    refine K_iconst (kdA dt_MX12_feet 63 rfl) (by decide) ?_
    refine pf12_520 rfl (kdA dt_MX12_feet 64 rfl) c1 (by decide) (fun s3 es3 => ?_)
    have h := h s3 es3
    refine K_aload_n 0 (kdA dt_MX12_feet 65 rfl) rfl rfl ?_
    refine K_lload 1 (kdA dt_MX12_feet 66 rfl) rfl ?_
    refine pf12_500 rfl (kdA dt_MX12_feet 67 rfl) c1 (fun s4 es4 => ?_)
    have h := h s4 es4
    refine K_iconst (kdA dt_MX12_feet 68 rfl) (by decide) ?_
    refine K_istore (ls' := [(0, (2, a0)), (4, (1, a4)), (6, (0, a6)), (7, (0, a7)), (8, (0, 1))]) (kdA dt_MX12_feet 69 rfl) (by decide) rfl ?_
    refine K_pick [0, 2, 3, 4] (ls' := [(0, (2, a0)), (6, (0, a6)), (7, (0, a7)), (8, (0, 1))]) rfl ?_
    exact h
  · have h := h.2 c
    refine K_aload_n 0 (kdA dt_MX12_feet 49 rfl) rfl rfl ?_
    obtain ⟨c1, h⟩ := h
    refine gf12_133 rfl (kdA dt_MX12_feet 50 rfl) c1 ?_
    refine K_iload 4 (kdA dt_MX12_feet 51 rfl) rfl ?_
    refine K_iconst (kdA dt_MX12_feet 52 rfl) (by decide) ?_
    obtain ⟨c2, h⟩ := h
    obtain ⟨c3, h⟩ := h
    refine K_iastore' (kdA dt_MX12_feet 53 rfl) c2 c3.1 c3.2 (fun s1 es1 => ?_)
    have h := h s1 es1
    obtain ⟨c4, h⟩ := h
    refine K_iinc (ls' := [(0, (2, a0)), (4, (1, a4)), (6, (0, a6)), (7, (0, a7)), (8, (0, (a8 + 1)))]) 4 (kdA dt_MX12_feet 54 rfl) rfl c4 (by decide) rfl ?_
    refine K_goto (tgt := 87) (kdA dt_MX12_feet 55 rfl) rfl ?_
    exact h
theorem SX12_feet_132 {d n : Nat} {Q : Int → kS → Prop} {a0 a6 a7 a8 : Int} {σ : kS} (h : (a6 < a8 → isO 12 n a0 ∧ (Ci d MX12_troddenMany [(2, a0), (0, 1)] n σ (fun x2 s1 => Q x2 s1))) ∧ (¬ a6 < a8 → isO 12 n a0 ∧ (Ci d MX12_goTrip [(2, a0), (0, a7)] n σ (fun x2 s1 => (¬ x2 = 0 → (-2147483648 ≤ ((s1 a0 61) + 1) ∧ ((s1 a0 61) + 1) ≤ 2147483647) ∧ (∀ s2, s2 = kst s1 a0 61 ((s1 a0 61) + 1) → ∀ s3, s3 = kst s2 a0 62 a8 → (-2147483648 ≤ (a8 + 1) ∧ (a8 + 1) ≤ 2147483647) ∧ (LX12_feet_132 d n Q a0 a6 a7 (a8 + 1) s3))) ∧ (¬ (¬ x2 = 0) → (-2147483648 ≤ (a8 + 1) ∧ (a8 + 1) ≤ 2147483647) ∧ (LX12_feet_132 d n Q a0 a6 a7 (a8 + 1) s1)))))) : LX12_feet_132 d n Q a0 a6 a7 a8 σ := by
  unfold LX12_feet_132
  refine K_iload 3 (kdA dt_MX12_feet 70 rfl) rfl ?_
  refine K_iload 1 (kdA dt_MX12_feet 71 rfl) rfl ?_
  refine K_icmp_gt (tgt := 173) (kdA dt_MX12_feet 72 rfl) rfl (fun c => ?_) (fun c => ?_)
  · have h := h.1 c
    refine K_aload_n 0 (kdA dt_MX12_feet 89 rfl) rfl rfl ?_
    refine K_iconst (kdA dt_MX12_feet 90 rfl) (by decide) ?_
    obtain ⟨c1, h⟩ := h
    refine K_cVi (c := 12) (as := [(0, 1)]) (st := []) (kdA dt_MX12_feet 91 rfl) rfl cl_MX12_troddenMany lk12_526 rfl rfl (Nat.le_of_ble_eq_true rfl) c1 (Ci.mono h (fun x2 s1 h => ?_))
    exact K_ireturn (kdA dt_MX12_feet 92 rfl) rfl ⟨rfl, _, rfl, h⟩
  · have h := h.2 c
    refine K_aload_n 0 (kdA dt_MX12_feet 73 rfl) rfl rfl ?_
    refine K_iload 2 (kdA dt_MX12_feet 74 rfl) rfl ?_
    obtain ⟨c1, h⟩ := h
    refine K_cVi (c := 12) (as := [(0, a7)]) (st := []) (kdA dt_MX12_feet 75 rfl) rfl cl_MX12_goTrip lk12_523 rfl rfl (Nat.le_of_ble_eq_true rfl) c1 (Ci.mono h (fun x2 s1 h => ?_))
    refine K_if_ne (tgt := 151) (kdA dt_MX12_feet 76 rfl) rfl (fun c => ?_) (fun c => ?_)
    · have h := h.1 c
      refine K_aload_n 0 (kdA dt_MX12_feet 78 rfl) rfl rfl ?_
      refine K_dup (kdA dt_MX12_feet 79 rfl) rfl ?_
      refine gf12_514 rfl (kdA dt_MX12_feet 80 rfl) c1 ?_
      refine K_iconst (kdA dt_MX12_feet 81 rfl) (by decide) ?_
      obtain ⟨c3, h⟩ := h
      refine K_iadd (kdA dt_MX12_feet 82 rfl) c3 ?_
      refine pf12_514 rfl (kdA dt_MX12_feet 83 rfl) c1 (fun s2 es2 => ?_)
      have h := h s2 es2
      refine K_aload_n 0 (kdA dt_MX12_feet 84 rfl) rfl rfl ?_
      refine K_iload 3 (kdA dt_MX12_feet 85 rfl) rfl ?_
      refine pf12_517 rfl (kdA dt_MX12_feet 86 rfl) c1 (fun s3 es3 => ?_)
      have h := h s3 es3
      obtain ⟨c4, h⟩ := h
      refine K_iinc (ls' := [(0, (2, a0)), (6, (0, a6)), (7, (0, a7)), (8, (0, (a8 + 1)))]) 3 (kdA dt_MX12_feet 87 rfl) rfl c4 (by decide) rfl ?_
      refine K_goto (tgt := 132) (kdA dt_MX12_feet 88 rfl) rfl ?_
      exact h
    · have h := h.2 c
      refine K_goto (tgt := 167) (kdA dt_MX12_feet 77 rfl) rfl ?_
      obtain ⟨c3, h⟩ := h
      refine K_iinc (ls' := [(0, (2, a0)), (6, (0, a6)), (7, (0, a7)), (8, (0, (a8 + 1)))]) 3 (kdA dt_MX12_feet 87 rfl) rfl c3 (by decide) rfl ?_
      refine K_goto (tgt := 132) (kdA dt_MX12_feet 88 rfl) rfl ?_
      exact h
theorem EX12_feet {d n : Nat} {Q : Int → kS → Prop} {a0 a1 a2 a3 a4 a6 a7 : Int} {σ : kS} (h : (-2147483648 ≤ a1 ∧ a1 ≤ 2147483647) → (-2147483648 ≤ a2 ∧ a2 ≤ 2147483647) → (-2147483648 ≤ a3 ∧ a3 ≤ 2147483647) → (-9223372036854775808 ≤ a4 ∧ a4 ≤ 9223372036854775807) → (-2147483648 ≤ a6 ∧ a6 ≤ 2147483647) → (-2147483648 ≤ a7 ∧ a7 ≤ 2147483647) → kokw n σ → LX12_feet_0 d n Q a0 a1 a2 a3 a4 a6 a7 σ) : Ci (d + 1) MX12_feet [(2, a0), (0, a1), (0, a2), (0, a3), (1, a4), (0, a6), (0, a7)] n σ Q := Tri_of (by decide +kernel) (Nat.le_of_ble_eq_true rfl) (fun hk hw => h (hk (0, a1) (List.mem_of_getElem? (i := 1) rfl)) (hk (0, a2) (List.mem_of_getElem? (i := 2) rfl)) (hk (0, a3) (List.mem_of_getElem? (i := 3) rfl)) (hk (1, a4) (List.mem_of_getElem? (i := 4) rfl)) (hk (0, a6) (List.mem_of_getElem? (i := 5) rfl)) (hk (0, a7) (List.mem_of_getElem? (i := 6) rfl)) hw)

def LX12_field_0 (d n : Nat) (Q : Int → kS → Prop) (a0 : Int) (a1 : Int) (a2 : Int) (a3 : Int) (a4 : Int) (σ : kS) : Prop := K (d + 1) MX12_field (kPi n Q) (0, 0) 0 [(0, (2, a0)), (1, (0, a1)), (2, (0, a2)), (3, (0, a3)), (4, (0, a4))] [] n σ
theorem SX12_field_0 {d n : Nat} {Q : Int → kS → Prop} {a0 a1 a2 a3 a4 : Int} {σ : kS} (h : isO 12 n a0 ∧ (∀ s1, s1 = kst σ a0 0 0 → ((s1 a0 54) = 8 → Q (-1) s1) ∧ (¬ (s1 a0 54) = 8 → Ci d MX12_isPlace [(0, a1), (0, a2)] n s1 (fun x2 s2 => (x2 = 0 → Q (-1) s2) ∧ (¬ x2 = 0 → Ci d MX12_isPlace [(0, a3), (0, a4)] n s2 (fun x3 s3 => (x3 = 0 → Q (-1) s3) ∧ (¬ x3 = 0 → (a3 < a1 → Q (-1) s3) ∧ (¬ a3 < a1 → (a2 ≤ a4 → isA 20 n (s3 a0 50) ∧ (((0 : Int) ≤ (s3 a0 54) ∧ (s3 a0 54) < klen (s3 a0 50)) ∧ (∀ s4, s4 = kst s3 (s3 a0 50) (s3 a0 54) a1 → isA 20 n (s4 a0 51) ∧ (((0 : Int) ≤ (s4 a0 54) ∧ (s4 a0 54) < klen (s4 a0 51)) ∧ (∀ s5, s5 = kst s4 (s4 a0 51) (s4 a0 54) a2 → isA 20 n (s5 a0 52) ∧ (((0 : Int) ≤ (s5 a0 54) ∧ (s5 a0 54) < klen (s5 a0 52)) ∧ (∀ s6, s6 = kst s5 (s5 a0 52) (s5 a0 54) a3 → isA 20 n (s6 a0 53) ∧ (((0 : Int) ≤ (s6 a0 54) ∧ (s6 a0 54) < klen (s6 a0 53)) ∧ (∀ s7, s7 = kst s6 (s6 a0 53) (s6 a0 54) a4 → (-2147483648 ≤ ((s7 a0 54) + 1) ∧ ((s7 a0 54) + 1) ≤ 2147483647) ∧ (∀ s8, s8 = kst s7 a0 54 ((s7 a0 54) + 1) → (-2147483648 ≤ ((s8 a0 54) - 1) ∧ ((s8 a0 54) - 1) ≤ 2147483647) ∧ (Q ((s8 a0 54) - 1) s8))))))))))) ∧ (¬ a2 ≤ a4 → Q (-1) s3))))))))) : LX12_field_0 d n Q a0 a1 a2 a3 a4 σ := by
  unfold LX12_field_0
  refine K_aload_n 0 (kdA dt_MX12_field 0 rfl) rfl rfl ?_
  refine K_iconst (kdA dt_MX12_field 1 rfl) (by decide) ?_
  obtain ⟨c1, h⟩ := h
  refine pf12_149 rfl (kdA dt_MX12_field 2 rfl) c1 (fun s1 es1 => ?_)
  have h := h s1 es1
  refine K_aload_n 0 (kdA dt_MX12_field 3 rfl) rfl rfl ?_
  refine gf12_479 rfl (kdA dt_MX12_field 4 rfl) c1 ?_
  refine K_bipush (kdA dt_MX12_field 5 rfl) (by decide +kernel) ?_
  refine K_icmp_eq (tgt := 42) (kdA dt_MX12_field 6 rfl) rfl (fun c => ?_) (fun c => ?_)
  · have h := h.1 c
    refine K_iconst (kdA dt_MX12_field 21 rfl) (by decide) ?_
    exact K_ireturn (kdA dt_MX12_field 22 rfl) rfl ⟨rfl, _, rfl, h⟩
  · have h := h.2 c
    refine K_iload_n 1 (kdA dt_MX12_field 7 rfl) rfl rfl ?_
    refine K_iload_n 2 (kdA dt_MX12_field 8 rfl) rfl rfl ?_
    refine K_cSi (as := [(0, a1), (0, a2)]) (st := []) (kdA dt_MX12_field 9 rfl) cl_MX12_isPlace lk12_157 rfl rfl (Nat.le_of_ble_eq_true rfl) (Ci.mono h (fun x2 s2 h => ?_))
    refine K_if_eq (tgt := 42) (kdA dt_MX12_field 10 rfl) rfl (fun c => ?_) (fun c => ?_)
    · have h := h.1 c
      refine K_iconst (kdA dt_MX12_field 21 rfl) (by decide) ?_
      exact K_ireturn (kdA dt_MX12_field 22 rfl) rfl ⟨rfl, _, rfl, h⟩
    · have h := h.2 c
      refine K_iload_n 3 (kdA dt_MX12_field 11 rfl) rfl rfl ?_
      refine K_iload 4 (kdA dt_MX12_field 12 rfl) rfl ?_
      refine K_cSi (as := [(0, a3), (0, a4)]) (st := []) (kdA dt_MX12_field 13 rfl) cl_MX12_isPlace lk12_157 rfl rfl (Nat.le_of_ble_eq_true rfl) (Ci.mono h (fun x3 s3 h => ?_))
      refine K_if_eq (tgt := 42) (kdA dt_MX12_field 14 rfl) rfl (fun c => ?_) (fun c => ?_)
      · have h := h.1 c
        refine K_iconst (kdA dt_MX12_field 21 rfl) (by decide) ?_
        exact K_ireturn (kdA dt_MX12_field 22 rfl) rfl ⟨rfl, _, rfl, h⟩
      · have h := h.2 c
        refine K_iload_n 3 (kdA dt_MX12_field 15 rfl) rfl rfl ?_
        refine K_iload_n 1 (kdA dt_MX12_field 16 rfl) rfl rfl ?_
        refine K_icmp_lt (tgt := 42) (kdA dt_MX12_field 17 rfl) rfl (fun c => ?_) (fun c => ?_)
        · have h := h.1 c
          refine K_iconst (kdA dt_MX12_field 21 rfl) (by decide) ?_
          exact K_ireturn (kdA dt_MX12_field 22 rfl) rfl ⟨rfl, _, rfl, h⟩
        · have h := h.2 c
          refine K_iload 4 (kdA dt_MX12_field 18 rfl) rfl ?_
          refine K_iload_n 2 (kdA dt_MX12_field 19 rfl) rfl rfl ?_
          refine K_icmp_ge (tgt := 44) (kdA dt_MX12_field 20 rfl) rfl (fun c => ?_) (fun c => ?_)
          · have h := h.1 c
            refine K_aload_n 0 (kdA dt_MX12_field 23 rfl) rfl rfl ?_
            refine gf12_112 rfl (kdA dt_MX12_field 24 rfl) c1 ?_
            refine K_aload_n 0 (kdA dt_MX12_field 25 rfl) rfl rfl ?_
            refine gf12_479 rfl (kdA dt_MX12_field 26 rfl) c1 ?_
            refine K_iload_n 1 (kdA dt_MX12_field 27 rfl) rfl rfl ?_
            obtain ⟨c4, h⟩ := h
            obtain ⟨c5, h⟩ := h
            refine K_iastore' (kdA dt_MX12_field 28 rfl) c4 c5.1 c5.2 (fun s4 es4 => ?_)
            have h := h s4 es4
            refine K_aload_n 0 (kdA dt_MX12_field 29 rfl) rfl rfl ?_
            refine gf12_115 rfl (kdA dt_MX12_field 30 rfl) c1 ?_
            refine K_aload_n 0 (kdA dt_MX12_field 31 rfl) rfl rfl ?_
            refine gf12_479 rfl (kdA dt_MX12_field 32 rfl) c1 ?_
            refine K_iload_n 2 (kdA dt_MX12_field 33 rfl) rfl rfl ?_
            obtain ⟨c6, h⟩ := h
            obtain ⟨c7, h⟩ := h
            refine K_iastore' (kdA dt_MX12_field 34 rfl) c6 c7.1 c7.2 (fun s5 es5 => ?_)
            have h := h s5 es5
            refine K_aload_n 0 (kdA dt_MX12_field 35 rfl) rfl rfl ?_
            refine gf12_118 rfl (kdA dt_MX12_field 36 rfl) c1 ?_
            refine K_aload_n 0 (kdA dt_MX12_field 37 rfl) rfl rfl ?_
            refine gf12_479 rfl (kdA dt_MX12_field 38 rfl) c1 ?_
            refine K_iload_n 3 (kdA dt_MX12_field 39 rfl) rfl rfl ?_
            obtain ⟨c8, h⟩ := h
            obtain ⟨c9, h⟩ := h
            refine K_iastore' (kdA dt_MX12_field 40 rfl) c8 c9.1 c9.2 (fun s6 es6 => ?_)
            have h := h s6 es6
            refine K_aload_n 0 (kdA dt_MX12_field 41 rfl) rfl rfl ?_
            refine gf12_121 rfl (kdA dt_MX12_field 42 rfl) c1 ?_
            refine K_aload_n 0 (kdA dt_MX12_field 43 rfl) rfl rfl ?_
            refine gf12_479 rfl (kdA dt_MX12_field 44 rfl) c1 ?_
            refine K_iload 4 (kdA dt_MX12_field 45 rfl) rfl ?_
            obtain ⟨c10, h⟩ := h
            obtain ⟨c11, h⟩ := h
            refine K_iastore' (kdA dt_MX12_field 46 rfl) c10 c11.1 c11.2 (fun s7 es7 => ?_)
            have h := h s7 es7
            refine K_aload_n 0 (kdA dt_MX12_field 47 rfl) rfl rfl ?_
            refine K_dup (kdA dt_MX12_field 48 rfl) rfl ?_
            refine gf12_479 rfl (kdA dt_MX12_field 49 rfl) c1 ?_
            refine K_iconst (kdA dt_MX12_field 50 rfl) (by decide) ?_
            obtain ⟨c12, h⟩ := h
            refine K_iadd (kdA dt_MX12_field 51 rfl) c12 ?_
            refine pf12_479 rfl (kdA dt_MX12_field 52 rfl) c1 (fun s8 es8 => ?_)
            have h := h s8 es8
            refine K_aload_n 0 (kdA dt_MX12_field 53 rfl) rfl rfl ?_
            refine gf12_479 rfl (kdA dt_MX12_field 54 rfl) c1 ?_
            refine K_iconst (kdA dt_MX12_field 55 rfl) (by decide) ?_
            obtain ⟨c13, h⟩ := h
            refine K_isub (kdA dt_MX12_field 56 rfl) c13 ?_
            exact K_ireturn (kdA dt_MX12_field 57 rfl) rfl ⟨rfl, _, rfl, h⟩
          · have h := h.2 c
            refine K_iconst (kdA dt_MX12_field 21 rfl) (by decide) ?_
            exact K_ireturn (kdA dt_MX12_field 22 rfl) rfl ⟨rfl, _, rfl, h⟩
theorem EX12_field {d n : Nat} {Q : Int → kS → Prop} {a0 a1 a2 a3 a4 : Int} {σ : kS} (h : (-2147483648 ≤ a1 ∧ a1 ≤ 2147483647) → (-2147483648 ≤ a2 ∧ a2 ≤ 2147483647) → (-2147483648 ≤ a3 ∧ a3 ≤ 2147483647) → (-2147483648 ≤ a4 ∧ a4 ≤ 2147483647) → kokw n σ → LX12_field_0 d n Q a0 a1 a2 a3 a4 σ) : Ci (d + 1) MX12_field [(2, a0), (0, a1), (0, a2), (0, a3), (0, a4)] n σ Q := Tri_of (by decide +kernel) (Nat.le_of_ble_eq_true rfl) (fun hk hw => h (hk (0, a1) (List.mem_of_getElem? (i := 1) rfl)) (hk (0, a2) (List.mem_of_getElem? (i := 2) rfl)) (hk (0, a3) (List.mem_of_getElem? (i := 3) rfl)) (hk (0, a4) (List.mem_of_getElem? (i := 4) rfl)) hw)

def LX12_find_0 (d n : Nat) (Q : Int → kS → Prop) (a0 : Int) (a1 : Int) (a2 : Int) (a3 : Int) (σ : kS) : Prop := K (d + 1) MX12_find (kPi n Q) (0, 0) 0 [(0, (2, a0)), (1, (0, a1)), (2, (0, a2)), (3, (0, a3))] [] n σ
theorem SX12_find_0 {d n : Nat} {Q : Int → kS → Prop} {a0 a1 a2 a3 : Int} {σ : kS} (h : isO 12 n a0 ∧ (∀ s1, s1 = kst σ a0 0 0 → ((s1 a0 38) = 30 → Q (-1) s1) ∧ (¬ (s1 a0 38) = 30 → Ci d MX12_isCell [(0, a1)] n s1 (fun x2 s2 => (x2 = 0 → Q (-1) s2) ∧ (¬ x2 = 0 → Ci d MX12_isIn [(0, a2), (0, 0), (0, 3)] n s2 (fun x3 s3 => (x3 = 0 → Q (-1) s3) ∧ (¬ x3 = 0 → Ci d MX12_isIn [(0, a3), (0, 1), (0, 9)] n s3 (fun x4 s4 => (¬ x4 = 0 → isA 20 n (s4 a0 35) ∧ (((0 : Int) ≤ (s4 a0 38) ∧ (s4 a0 38) < klen (s4 a0 35)) ∧ (∀ s5, s5 = kst s4 (s4 a0 35) (s4 a0 38) a1 → isA 20 n (s5 a0 36) ∧ (((0 : Int) ≤ (s5 a0 38) ∧ (s5 a0 38) < klen (s5 a0 36)) ∧ (∀ s6, s6 = kst s5 (s5 a0 36) (s5 a0 38) a2 → isA 20 n (s6 a0 37) ∧ (((0 : Int) ≤ (s6 a0 38) ∧ (s6 a0 38) < klen (s6 a0 37)) ∧ (∀ s7, s7 = kst s6 (s6 a0 37) (s6 a0 38) a3 → (-2147483648 ≤ ((s7 a0 38) + 1) ∧ ((s7 a0 38) + 1) ≤ 2147483647) ∧ (∀ s8, s8 = kst s7 a0 38 ((s7 a0 38) + 1) → (-2147483648 ≤ ((s8 a0 38) - 1) ∧ ((s8 a0 38) - 1) ≤ 2147483647) ∧ (Q ((s8 a0 38) - 1) s8))))))))) ∧ (¬ (¬ x4 = 0) → Q (-1) s4))))))))) : LX12_find_0 d n Q a0 a1 a2 a3 σ := by
  unfold LX12_find_0
  refine K_aload_n 0 (kdA dt_MX12_find 0 rfl) rfl rfl ?_
  refine K_iconst (kdA dt_MX12_find 1 rfl) (by decide) ?_
  obtain ⟨c1, h⟩ := h
  refine pf12_149 rfl (kdA dt_MX12_find 2 rfl) c1 (fun s1 es1 => ?_)
  have h := h s1 es1
  refine K_aload_n 0 (kdA dt_MX12_find 3 rfl) rfl rfl ?_
  refine gf12_400 rfl (kdA dt_MX12_find 4 rfl) c1 ?_
  refine K_bipush (kdA dt_MX12_find 5 rfl) (by decide +kernel) ?_
  refine K_icmp_eq (tgt := 40) (kdA dt_MX12_find 6 rfl) rfl (fun c => ?_) (fun c => ?_)
  · have h := h.1 c
    refine K_iconst (kdA dt_MX12_find 20 rfl) (by decide) ?_
    exact K_ireturn (kdA dt_MX12_find 21 rfl) rfl ⟨rfl, _, rfl, h⟩
  · have h := h.2 c
    refine K_iload_n 1 (kdA dt_MX12_find 7 rfl) rfl rfl ?_
    refine K_cSi (as := [(0, a1)]) (st := []) (kdA dt_MX12_find 8 rfl) cl_MX12_isCell lk12_161 rfl rfl (Nat.le_of_ble_eq_true rfl) (Ci.mono h (fun x2 s2 h => ?_))
    refine K_if_eq (tgt := 40) (kdA dt_MX12_find 9 rfl) rfl (fun c => ?_) (fun c => ?_)
    · have h := h.1 c
      refine K_iconst (kdA dt_MX12_find 20 rfl) (by decide) ?_
      exact K_ireturn (kdA dt_MX12_find 21 rfl) rfl ⟨rfl, _, rfl, h⟩
    · have h := h.2 c
      refine K_iload_n 2 (kdA dt_MX12_find 10 rfl) rfl rfl ?_
      refine K_iconst (kdA dt_MX12_find 11 rfl) (by decide) ?_
      refine K_iconst (kdA dt_MX12_find 12 rfl) (by decide) ?_
      refine K_cSi (as := [(0, a2), (0, 0), (0, 3)]) (st := []) (kdA dt_MX12_find 13 rfl) cl_MX12_isIn lk12_153 rfl rfl (Nat.le_of_ble_eq_true rfl) (Ci.mono h (fun x3 s3 h => ?_))
      refine K_if_eq (tgt := 40) (kdA dt_MX12_find 14 rfl) rfl (fun c => ?_) (fun c => ?_)
      · have h := h.1 c
        refine K_iconst (kdA dt_MX12_find 20 rfl) (by decide) ?_
        exact K_ireturn (kdA dt_MX12_find 21 rfl) rfl ⟨rfl, _, rfl, h⟩
      · have h := h.2 c
        refine K_iload_n 3 (kdA dt_MX12_find 15 rfl) rfl rfl ?_
        refine K_iconst (kdA dt_MX12_find 16 rfl) (by decide) ?_
        refine K_bipush (kdA dt_MX12_find 17 rfl) (by decide +kernel) ?_
        refine K_cSi (as := [(0, a3), (0, 1), (0, 9)]) (st := []) (kdA dt_MX12_find 18 rfl) cl_MX12_isIn lk12_153 rfl rfl (Nat.le_of_ble_eq_true rfl) (Ci.mono h (fun x4 s4 h => ?_))
        refine K_if_ne (tgt := 42) (kdA dt_MX12_find 19 rfl) rfl (fun c => ?_) (fun c => ?_)
        · have h := h.1 c
          refine K_aload_n 0 (kdA dt_MX12_find 22 rfl) rfl rfl ?_
          refine gf12_76 rfl (kdA dt_MX12_find 23 rfl) c1 ?_
          refine K_aload_n 0 (kdA dt_MX12_find 24 rfl) rfl rfl ?_
          refine gf12_400 rfl (kdA dt_MX12_find 25 rfl) c1 ?_
          refine K_iload_n 1 (kdA dt_MX12_find 26 rfl) rfl rfl ?_
          obtain ⟨c5, h⟩ := h
          obtain ⟨c6, h⟩ := h
          refine K_iastore' (kdA dt_MX12_find 27 rfl) c5 c6.1 c6.2 (fun s5 es5 => ?_)
          have h := h s5 es5
          refine K_aload_n 0 (kdA dt_MX12_find 28 rfl) rfl rfl ?_
          refine gf12_79 rfl (kdA dt_MX12_find 29 rfl) c1 ?_
          refine K_aload_n 0 (kdA dt_MX12_find 30 rfl) rfl rfl ?_
          refine gf12_400 rfl (kdA dt_MX12_find 31 rfl) c1 ?_
          refine K_iload_n 2 (kdA dt_MX12_find 32 rfl) rfl rfl ?_
          obtain ⟨c7, h⟩ := h
          obtain ⟨c8, h⟩ := h
          refine K_iastore' (kdA dt_MX12_find 33 rfl) c7 c8.1 c8.2 (fun s6 es6 => ?_)
          have h := h s6 es6
          refine K_aload_n 0 (kdA dt_MX12_find 34 rfl) rfl rfl ?_
          refine gf12_82 rfl (kdA dt_MX12_find 35 rfl) c1 ?_
          refine K_aload_n 0 (kdA dt_MX12_find 36 rfl) rfl rfl ?_
          refine gf12_400 rfl (kdA dt_MX12_find 37 rfl) c1 ?_
          refine K_iload_n 3 (kdA dt_MX12_find 38 rfl) rfl rfl ?_
          obtain ⟨c9, h⟩ := h
          obtain ⟨c10, h⟩ := h
          refine K_iastore' (kdA dt_MX12_find 39 rfl) c9 c10.1 c10.2 (fun s7 es7 => ?_)
          have h := h s7 es7
          refine K_aload_n 0 (kdA dt_MX12_find 40 rfl) rfl rfl ?_
          refine K_dup (kdA dt_MX12_find 41 rfl) rfl ?_
          refine gf12_400 rfl (kdA dt_MX12_find 42 rfl) c1 ?_
          refine K_iconst (kdA dt_MX12_find 43 rfl) (by decide) ?_
          obtain ⟨c11, h⟩ := h
          refine K_iadd (kdA dt_MX12_find 44 rfl) c11 ?_
          refine pf12_400 rfl (kdA dt_MX12_find 45 rfl) c1 (fun s8 es8 => ?_)
          have h := h s8 es8
          refine K_aload_n 0 (kdA dt_MX12_find 46 rfl) rfl rfl ?_
          refine gf12_400 rfl (kdA dt_MX12_find 47 rfl) c1 ?_
          refine K_iconst (kdA dt_MX12_find 48 rfl) (by decide) ?_
          obtain ⟨c12, h⟩ := h
          refine K_isub (kdA dt_MX12_find 49 rfl) c12 ?_
          exact K_ireturn (kdA dt_MX12_find 50 rfl) rfl ⟨rfl, _, rfl, h⟩
        · have h := h.2 c
          refine K_iconst (kdA dt_MX12_find 20 rfl) (by decide) ?_
          exact K_ireturn (kdA dt_MX12_find 21 rfl) rfl ⟨rfl, _, rfl, h⟩
theorem EX12_find {d n : Nat} {Q : Int → kS → Prop} {a0 a1 a2 a3 : Int} {σ : kS} (h : (-2147483648 ≤ a1 ∧ a1 ≤ 2147483647) → (-2147483648 ≤ a2 ∧ a2 ≤ 2147483647) → (-2147483648 ≤ a3 ∧ a3 ≤ 2147483647) → kokw n σ → LX12_find_0 d n Q a0 a1 a2 a3 σ) : Ci (d + 1) MX12_find [(2, a0), (0, a1), (0, a2), (0, a3)] n σ Q := Tri_of (by decide +kernel) (Nat.le_of_ble_eq_true rfl) (fun hk hw => h (hk (0, a1) (List.mem_of_getElem? (i := 1) rfl)) (hk (0, a2) (List.mem_of_getElem? (i := 2) rfl)) (hk (0, a3) (List.mem_of_getElem? (i := 3) rfl)) hw)

def LX12_fitOf_0 (d n : Nat) (Q : Int → kS → Prop) (a0 : Int) (a1 : Int) (a2 : Int) (σ : kS) : Prop := K (d + 1) MX12_fitOf (kPi n Q) (0, 0) 0 [(0, (2, a0)), (1, (0, a1)), (2, (0, a2))] [] n σ
def LX12_fitOf_5 (d n : Nat) (Q : Int → kS → Prop) (a0 : Int) (a1 : Int) (a2 : Int) (a3 : Int) (a4 : Int) (σ : kS) : Prop := K (d + 1) MX12_fitOf (kPi n Q) (0, 0) 5 [(0, (2, a0)), (1, (0, a1)), (2, (0, a2)), (3, (0, a3)), (4, (0, a4))] [] n σ
theorem SX12_fitOf_0 {d n : Nat} {Q : Int → kS → Prop} {a0 a1 a2 : Int} {σ : kS} (h : LX12_fitOf_5 d n Q a0 a1 a2 0 0 σ) : LX12_fitOf_0 d n Q a0 a1 a2 σ := by
  unfold LX12_fitOf_0
  refine K_iconst (kdA dt_MX12_fitOf 0 rfl) (by decide) ?_
  refine K_istore_n (ls' := [(0, (2, a0)), (1, (0, a1)), (2, (0, a2)), (3, (0, 0))]) (kdA dt_MX12_fitOf 1 rfl) rfl (by decide) rfl ?_
  refine K_iconst (kdA dt_MX12_fitOf 2 rfl) (by decide) ?_
  refine K_istore (ls' := [(0, (2, a0)), (1, (0, a1)), (2, (0, a2)), (3, (0, 0)), (4, (0, 0))]) (kdA dt_MX12_fitOf 3 rfl) (by decide) rfl ?_
  exact h
theorem SX12_fitOf_5 {d n : Nat} {Q : Int → kS → Prop} {a0 a1 a2 a3 a4 : Int} {σ : kS} (h : isO 12 n a0 ∧ (((σ a0 41) ≤ a4 → Q a3 σ) ∧ (¬ (σ a0 41) ≤ a4 → (¬ a4 = a2 → (-2147483648 ≤ (6 * a1) ∧ (6 * a1) ≤ 2147483647) ∧ ((-2147483648 ≤ ((6 * a1) + a4) ∧ ((6 * a1) + a4) ≤ 2147483647) ∧ (isA 20 n (σ a0 40) ∧ (((0 : Int) ≤ ((6 * a1) + a4) ∧ ((6 * a1) + a4) < klen (σ a0 40)) ∧ ((-2147483648 ≤ (a3 + (σ (σ a0 40) ((6 * a1) + a4))) ∧ (a3 + (σ (σ a0 40) ((6 * a1) + a4))) ≤ 2147483647) ∧ ((-2147483648 ≤ (a4 + 1) ∧ (a4 + 1) ≤ 2147483647) ∧ (LX12_fitOf_5 d n Q a0 a1 a2 (a3 + (σ (σ a0 40) ((6 * a1) + a4))) (a4 + 1) σ))))))) ∧ (¬ (¬ a4 = a2) → (-2147483648 ≤ (a3 + 0) ∧ (a3 + 0) ≤ 2147483647) ∧ ((-2147483648 ≤ (a4 + 1) ∧ (a4 + 1) ≤ 2147483647) ∧ (LX12_fitOf_5 d n Q a0 a1 a2 (a3 + 0) (a4 + 1) σ)))))) : LX12_fitOf_5 d n Q a0 a1 a2 a3 a4 σ := by
  unfold LX12_fitOf_5
  refine K_iload 4 (kdA dt_MX12_fitOf 4 rfl) rfl ?_
  refine K_aload_n 0 (kdA dt_MX12_fitOf 5 rfl) rfl rfl ?_
  obtain ⟨c1, h⟩ := h
  refine gf12_420 rfl (kdA dt_MX12_fitOf 6 rfl) c1 ?_
  refine K_icmp_ge (tgt := 45) (kdA dt_MX12_fitOf 7 rfl) rfl (fun c => ?_) (fun c => ?_)
  · have h := h.1 c
    refine K_iload_n 3 (kdA dt_MX12_fitOf 26 rfl) rfl rfl ?_
    exact K_ireturn (kdA dt_MX12_fitOf 27 rfl) rfl ⟨rfl, _, rfl, h⟩
  · have h := h.2 c
    refine K_iload_n 3 (kdA dt_MX12_fitOf 8 rfl) rfl rfl ?_
    refine K_iload 4 (kdA dt_MX12_fitOf 9 rfl) rfl ?_
    refine K_iload_n 2 (kdA dt_MX12_fitOf 10 rfl) rfl rfl ?_
    refine K_icmp_ne (tgt := 25) (kdA dt_MX12_fitOf 11 rfl) rfl (fun c => ?_) (fun c => ?_)
    · have h := h.1 c
      refine K_aload_n 0 (kdA dt_MX12_fitOf 14 rfl) rfl rfl ?_
      refine gf12_88 rfl (kdA dt_MX12_fitOf 15 rfl) c1 ?_
      refine K_bipush (kdA dt_MX12_fitOf 16 rfl) (by decide +kernel) ?_
      refine K_iload_n 1 (kdA dt_MX12_fitOf 17 rfl) rfl rfl ?_
      obtain ⟨c2, h⟩ := h
      refine K_imul (kdA dt_MX12_fitOf 18 rfl) c2 ?_
      refine K_iload 4 (kdA dt_MX12_fitOf 19 rfl) rfl ?_
      obtain ⟨c3, h⟩ := h
      refine K_iadd (kdA dt_MX12_fitOf 20 rfl) c3 ?_
      obtain ⟨c4, h⟩ := h
      obtain ⟨c5, h⟩ := h
      refine K_iaload (kdA dt_MX12_fitOf 21 rfl) c4 c5.1 c5.2 ?_
      obtain ⟨c6, h⟩ := h
      refine K_iadd (kdA dt_MX12_fitOf 22 rfl) c6 ?_
      refine K_istore_n (ls' := [(0, (2, a0)), (1, (0, a1)), (2, (0, a2)), (3, (0, (a3 + (σ (σ a0 40) ((6 * a1) + a4))))), (4, (0, a4))]) (kdA dt_MX12_fitOf 23 rfl) rfl (by decide) rfl ?_
      obtain ⟨c7, h⟩ := h
      refine K_iinc (ls' := [(0, (2, a0)), (1, (0, a1)), (2, (0, a2)), (3, (0, (a3 + (σ (σ a0 40) ((6 * a1) + a4))))), (4, (0, (a4 + 1)))]) 4 (kdA dt_MX12_fitOf 24 rfl) rfl c7 (by decide) rfl ?_
      refine K_goto (tgt := 5) (kdA dt_MX12_fitOf 25 rfl) rfl ?_
      exact h
    · have h := h.2 c
      refine K_iconst (kdA dt_MX12_fitOf 12 rfl) (by decide) ?_
      refine K_goto (tgt := 37) (kdA dt_MX12_fitOf 13 rfl) rfl ?_
      obtain ⟨c2, h⟩ := h
      refine K_iadd (kdA dt_MX12_fitOf 22 rfl) c2 ?_
      refine K_istore_n (ls' := [(0, (2, a0)), (1, (0, a1)), (2, (0, a2)), (3, (0, (a3 + 0))), (4, (0, a4))]) (kdA dt_MX12_fitOf 23 rfl) rfl (by decide) rfl ?_
      obtain ⟨c3, h⟩ := h
      refine K_iinc (ls' := [(0, (2, a0)), (1, (0, a1)), (2, (0, a2)), (3, (0, (a3 + 0))), (4, (0, (a4 + 1)))]) 4 (kdA dt_MX12_fitOf 24 rfl) rfl c3 (by decide) rfl ?_
      refine K_goto (tgt := 5) (kdA dt_MX12_fitOf 25 rfl) rfl ?_
      exact h
theorem EX12_fitOf {d n : Nat} {Q : Int → kS → Prop} {a0 a1 a2 : Int} {σ : kS} (h : (-2147483648 ≤ a1 ∧ a1 ≤ 2147483647) → (-2147483648 ≤ a2 ∧ a2 ≤ 2147483647) → kokw n σ → LX12_fitOf_0 d n Q a0 a1 a2 σ) : Ci (d + 1) MX12_fitOf [(2, a0), (0, a1), (0, a2)] n σ Q := Tri_of (by decide +kernel) (Nat.le_of_ble_eq_true rfl) (fun hk hw => h (hk (0, a1) (List.mem_of_getElem? (i := 1) rfl)) (hk (0, a2) (List.mem_of_getElem? (i := 2) rfl)) hw)

def LX12_goOn_0 (d n : Nat) (Q : Int → kS → Prop) (a0 : Int) (a1 : Int) (σ : kS) : Prop := K (d + 1) MX12_goOn (kPi n Q) (0, 0) 0 [(0, (2, a0)), (1, (0, a1))] [] n σ
theorem SX12_goOn_0 {d n : Nat} {Q : Int → kS → Prop} {a0 a1 : Int} {σ : kS} (h : isO 12 n a0 ∧ (∀ s1, s1 = kst σ a0 0 0 → ((s1 a0 34) = 0 → Q (-1) s1) ∧ (¬ (s1 a0 34) = 0 → Ci d MX12_isIn [(0, a1), (0, 0), (0, 7)] n s1 (fun x2 s2 => (x2 = 0 → Q (-1) s2) ∧ (¬ x2 = 0 → (-2147483648 ≤ ((s2 a0 34) - 1) ∧ ((s2 a0 34) - 1) ≤ 2147483647) ∧ (isA 20 n (s2 a0 32) ∧ (((0 : Int) ≤ ((s2 a0 34) - 1) ∧ ((s2 a0 34) - 1) < klen (s2 a0 32)) ∧ (((s2 (s2 a0 32) ((s2 a0 34) - 1)) < 60 → (-2147483648 ≤ (140 * ((s2 a0 34) - 1)) ∧ (140 * ((s2 a0 34) - 1)) ≤ 2147483647) ∧ ((-2147483648 ≤ ((140 * ((s2 a0 34) - 1)) + (s2 (s2 a0 32) ((s2 a0 34) - 1))) ∧ ((140 * ((s2 a0 34) - 1)) + (s2 (s2 a0 32) ((s2 a0 34) - 1))) ≤ 2147483647) ∧ ((-2147483648 ≤ (((140 * ((s2 a0 34) - 1)) + (s2 (s2 a0 32) ((s2 a0 34) - 1))) - 1) ∧ (((140 * ((s2 a0 34) - 1)) + (s2 (s2 a0 32) ((s2 a0 34) - 1))) - 1) ≤ 2147483647) ∧ (isA 20 n (s2 a0 33) ∧ (((0 : Int) ≤ (((140 * ((s2 a0 34) - 1)) + (s2 (s2 a0 32) ((s2 a0 34) - 1))) - 1) ∧ (((140 * ((s2 a0 34) - 1)) + (s2 (s2 a0 32) ((s2 a0 34) - 1))) - 1) < klen (s2 a0 33)) ∧ (Ci d MX12_step [(0, (s2 (s2 a0 33) (((140 * ((s2 a0 34) - 1)) + (s2 (s2 a0 32) ((s2 a0 34) - 1))) - 1))), (0, a1)] n s2 (fun x11 s3 => (¬ x11 = (-1) → isA 20 n (s3 a0 33) ∧ (((0 : Int) ≤ ((140 * ((s2 a0 34) - 1)) + (s2 (s2 a0 32) ((s2 a0 34) - 1))) ∧ ((140 * ((s2 a0 34) - 1)) + (s2 (s2 a0 32) ((s2 a0 34) - 1))) < klen (s3 a0 33)) ∧ (∀ s4, s4 = kst s3 (s3 a0 33) ((140 * ((s2 a0 34) - 1)) + (s2 (s2 a0 32) ((s2 a0 34) - 1))) x11 → (-2147483648 ≤ ((s4 a0 34) - 1) ∧ ((s4 a0 34) - 1) ≤ 2147483647) ∧ (isA 20 n (s4 a0 32) ∧ (((0 : Int) ≤ ((s4 a0 34) - 1) ∧ ((s4 a0 34) - 1) < klen (s4 a0 32)) ∧ ((-2147483648 ≤ ((s4 (s4 a0 32) ((s4 a0 34) - 1)) + 1) ∧ ((s4 (s4 a0 32) ((s4 a0 34) - 1)) + 1) ≤ 2147483647) ∧ (∀ s5, s5 = kst s4 (s4 a0 32) ((s4 a0 34) - 1) ((s4 (s4 a0 32) ((s4 a0 34) - 1)) + 1) → (-2147483648 ≤ ((s5 a0 34) - 1) ∧ ((s5 a0 34) - 1) ≤ 2147483647) ∧ (isA 20 n (s5 a0 32) ∧ (((0 : Int) ≤ ((s5 a0 34) - 1) ∧ ((s5 a0 34) - 1) < klen (s5 a0 32)) ∧ (Q (s5 (s5 a0 32) ((s5 a0 34) - 1)) s5)))))))))) ∧ (¬ (¬ x11 = (-1)) → Q (-1) s3)))))))) ∧ (¬ (s2 (s2 a0 32) ((s2 a0 34) - 1)) < 60 → Q (-1) s2))))))))) : LX12_goOn_0 d n Q a0 a1 σ := by
  unfold LX12_goOn_0
  refine K_aload_n 0 (kdA dt_MX12_goOn 0 rfl) rfl rfl ?_
  refine K_iconst (kdA dt_MX12_goOn 1 rfl) (by decide) ?_
  obtain ⟨c1, h⟩ := h
  refine pf12_149 rfl (kdA dt_MX12_goOn 2 rfl) c1 (fun s1 es1 => ?_)
  have h := h s1 es1
  refine K_aload_n 0 (kdA dt_MX12_goOn 3 rfl) rfl rfl ?_
  refine gf12_371 rfl (kdA dt_MX12_goOn 4 rfl) c1 ?_
  refine K_if_eq (tgt := 38) (kdA dt_MX12_goOn 5 rfl) rfl (fun c => ?_) (fun c => ?_)
  · have h := h.1 c
    refine K_iconst (kdA dt_MX12_goOn 20 rfl) (by decide) ?_
    exact K_ireturn (kdA dt_MX12_goOn 21 rfl) rfl ⟨rfl, _, rfl, h⟩
  · have h := h.2 c
    refine K_iload_n 1 (kdA dt_MX12_goOn 6 rfl) rfl rfl ?_
    refine K_iconst (kdA dt_MX12_goOn 7 rfl) (by decide) ?_
    refine K_bipush (kdA dt_MX12_goOn 8 rfl) (by decide +kernel) ?_
    refine K_cSi (as := [(0, a1), (0, 0), (0, 7)]) (st := []) (kdA dt_MX12_goOn 9 rfl) cl_MX12_isIn lk12_153 rfl rfl (Nat.le_of_ble_eq_true rfl) (Ci.mono h (fun x2 s2 h => ?_))
    refine K_if_eq (tgt := 38) (kdA dt_MX12_goOn 10 rfl) rfl (fun c => ?_) (fun c => ?_)
    · have h := h.1 c
      refine K_iconst (kdA dt_MX12_goOn 20 rfl) (by decide) ?_
      exact K_ireturn (kdA dt_MX12_goOn 21 rfl) rfl ⟨rfl, _, rfl, h⟩
    · have h := h.2 c
      refine K_aload_n 0 (kdA dt_MX12_goOn 11 rfl) rfl rfl ?_
      refine gf12_70 rfl (kdA dt_MX12_goOn 12 rfl) c1 ?_
      refine K_aload_n 0 (kdA dt_MX12_goOn 13 rfl) rfl rfl ?_
      refine gf12_371 rfl (kdA dt_MX12_goOn 14 rfl) c1 ?_
      refine K_iconst (kdA dt_MX12_goOn 15 rfl) (by decide) ?_
      obtain ⟨c3, h⟩ := h
      refine K_isub (kdA dt_MX12_goOn 16 rfl) c3 ?_
      obtain ⟨c4, h⟩ := h
      obtain ⟨c5, h⟩ := h
      refine K_iaload (kdA dt_MX12_goOn 17 rfl) c4 c5.1 c5.2 ?_
      refine K_bipush (kdA dt_MX12_goOn 18 rfl) (by decide +kernel) ?_
      refine K_icmp_lt (tgt := 40) (kdA dt_MX12_goOn 19 rfl) rfl (fun c => ?_) (fun c => ?_)
      · have h := h.1 c
        refine K_sipush (kdA dt_MX12_goOn 22 rfl) (by decide +kernel) ?_
        refine K_aload_n 0 (kdA dt_MX12_goOn 23 rfl) rfl rfl ?_
        refine gf12_371 rfl (kdA dt_MX12_goOn 24 rfl) c1 ?_
        refine K_iconst (kdA dt_MX12_goOn 25 rfl) (by decide) ?_
        refine K_isub (kdA dt_MX12_goOn 26 rfl) c3 ?_
        obtain ⟨c6, h⟩ := h
        refine K_imul (kdA dt_MX12_goOn 27 rfl) c6 ?_
        refine K_aload_n 0 (kdA dt_MX12_goOn 28 rfl) rfl rfl ?_
        refine gf12_70 rfl (kdA dt_MX12_goOn 29 rfl) c1 ?_
        refine K_aload_n 0 (kdA dt_MX12_goOn 30 rfl) rfl rfl ?_
        refine gf12_371 rfl (kdA dt_MX12_goOn 31 rfl) c1 ?_
        refine K_iconst (kdA dt_MX12_goOn 32 rfl) (by decide) ?_
        refine K_isub (kdA dt_MX12_goOn 33 rfl) c3 ?_
        refine K_iaload (kdA dt_MX12_goOn 34 rfl) c4 c5.1 c5.2 ?_
        obtain ⟨c7, h⟩ := h
        refine K_iadd (kdA dt_MX12_goOn 35 rfl) c7 ?_
        refine K_istore_n (ls' := [(0, (2, a0)), (1, (0, a1)), (2, (0, ((140 * ((s2 a0 34) - 1)) + (s2 (s2 a0 32) ((s2 a0 34) - 1)))))]) (kdA dt_MX12_goOn 36 rfl) rfl (by decide) rfl ?_
        refine K_aload_n 0 (kdA dt_MX12_goOn 37 rfl) rfl rfl ?_
        refine gf12_73 rfl (kdA dt_MX12_goOn 38 rfl) c1 ?_
        refine K_iload_n 2 (kdA dt_MX12_goOn 39 rfl) rfl rfl ?_
        refine K_iconst (kdA dt_MX12_goOn 40 rfl) (by decide) ?_
        obtain ⟨c8, h⟩ := h
        refine K_isub (kdA dt_MX12_goOn 41 rfl) c8 ?_
        obtain ⟨c9, h⟩ := h
        obtain ⟨c10, h⟩ := h
        refine K_iaload (kdA dt_MX12_goOn 42 rfl) c9 c10.1 c10.2 ?_
        refine K_iload_n 1 (kdA dt_MX12_goOn 43 rfl) rfl rfl ?_
        refine K_cSi (as := [(0, (s2 (s2 a0 33) (((140 * ((s2 a0 34) - 1)) + (s2 (s2 a0 32) ((s2 a0 34) - 1))) - 1))), (0, a1)]) (st := []) (kdA dt_MX12_goOn 44 rfl) cl_MX12_step lk12_314 rfl rfl (Nat.le_of_ble_eq_true rfl) (Ci.mono h (fun x11 s3 h => ?_))
        refine K_istore_n (ls' := [(0, (2, a0)), (1, (0, a1)), (2, (0, ((140 * ((s2 a0 34) - 1)) + (s2 (s2 a0 32) ((s2 a0 34) - 1))))), (3, (0, x11))]) (kdA dt_MX12_goOn 45 rfl) rfl (by decide) rfl ?_
        refine K_iload_n 3 (kdA dt_MX12_goOn 46 rfl) rfl rfl ?_
        refine K_iconst (kdA dt_MX12_goOn 47 rfl) (by decide) ?_
        refine K_icmp_ne (tgt := 83) (kdA dt_MX12_goOn 48 rfl) rfl (fun c => ?_) (fun c => ?_)
        · have h := h.1 c
          refine K_aload_n 0 (kdA dt_MX12_goOn 51 rfl) rfl rfl ?_
          refine gf12_73 rfl (kdA dt_MX12_goOn 52 rfl) c1 ?_
          refine K_iload_n 2 (kdA dt_MX12_goOn 53 rfl) rfl rfl ?_
          refine K_iload_n 3 (kdA dt_MX12_goOn 54 rfl) rfl rfl ?_
          obtain ⟨c12, h⟩ := h
          obtain ⟨c13, h⟩ := h
          refine K_iastore' (kdA dt_MX12_goOn 55 rfl) c12 c13.1 c13.2 (fun s4 es4 => ?_)
          have h := h s4 es4
          refine K_aload_n 0 (kdA dt_MX12_goOn 56 rfl) rfl rfl ?_
          refine gf12_70 rfl (kdA dt_MX12_goOn 57 rfl) c1 ?_
          refine K_aload_n 0 (kdA dt_MX12_goOn 58 rfl) rfl rfl ?_
          refine gf12_371 rfl (kdA dt_MX12_goOn 59 rfl) c1 ?_
          refine K_iconst (kdA dt_MX12_goOn 60 rfl) (by decide) ?_
          obtain ⟨c14, h⟩ := h
          refine K_isub (kdA dt_MX12_goOn 61 rfl) c14 ?_
          refine K_dup2 (kdA dt_MX12_goOn 62 rfl) rfl rfl ?_
          obtain ⟨c15, h⟩ := h
          obtain ⟨c16, h⟩ := h
          refine K_iaload (kdA dt_MX12_goOn 63 rfl) c15 c16.1 c16.2 ?_
          refine K_iconst (kdA dt_MX12_goOn 64 rfl) (by decide) ?_
          obtain ⟨c17, h⟩ := h
          refine K_iadd (kdA dt_MX12_goOn 65 rfl) c17 ?_
          refine K_iastore' (kdA dt_MX12_goOn 66 rfl) c15 c16.1 c16.2 (fun s5 es5 => ?_)
          have h := h s5 es5
          refine K_aload_n 0 (kdA dt_MX12_goOn 67 rfl) rfl rfl ?_
          refine gf12_70 rfl (kdA dt_MX12_goOn 68 rfl) c1 ?_
          refine K_aload_n 0 (kdA dt_MX12_goOn 69 rfl) rfl rfl ?_
          refine gf12_371 rfl (kdA dt_MX12_goOn 70 rfl) c1 ?_
          refine K_iconst (kdA dt_MX12_goOn 71 rfl) (by decide) ?_
          obtain ⟨c18, h⟩ := h
          refine K_isub (kdA dt_MX12_goOn 72 rfl) c18 ?_
          obtain ⟨c19, h⟩ := h
          obtain ⟨c20, h⟩ := h
          refine K_iaload (kdA dt_MX12_goOn 73 rfl) c19 c20.1 c20.2 ?_
          exact K_ireturn (kdA dt_MX12_goOn 74 rfl) rfl ⟨rfl, _, rfl, h⟩
        · have h := h.2 c
          refine K_iconst (kdA dt_MX12_goOn 49 rfl) (by decide) ?_
          exact K_ireturn (kdA dt_MX12_goOn 50 rfl) rfl ⟨rfl, _, rfl, h⟩
      · have h := h.2 c
        refine K_iconst (kdA dt_MX12_goOn 20 rfl) (by decide) ?_
        exact K_ireturn (kdA dt_MX12_goOn 21 rfl) rfl ⟨rfl, _, rfl, h⟩
theorem EX12_goOn {d n : Nat} {Q : Int → kS → Prop} {a0 a1 : Int} {σ : kS} (h : (-2147483648 ≤ a1 ∧ a1 ≤ 2147483647) → kokw n σ → LX12_goOn_0 d n Q a0 a1 σ) : Ci (d + 1) MX12_goOn [(2, a0), (0, a1)] n σ Q := Tri_of (by decide +kernel) (Nat.le_of_ble_eq_true rfl) (fun hk hw => h (hk (0, a1) (List.mem_of_getElem? (i := 1) rfl)) hw)

def LX12_goThrough_0 (d n : Nat) (Q : kS → Prop) (a0 : Int) (a1 : Int) (a2 : Int) (a3 : Int) (σ : kS) : Prop := K (d + 1) MX12_goThrough (kPv n Q) (0, 0) 0 [(0, (2, a0)), (1, (2, a1)), (2, (0, a2)), (3, (0, a3))] [] n σ
def LX12_goThrough_32 (d n : Nat) (Q : kS → Prop) (a0 : Int) (σ : kS) : Prop := K (d + 1) MX12_goThrough (kPv n Q) (0, 0) 32 [(0, (2, a0))] [] n σ
theorem SX12_goThrough_0 {d n : Nat} {Q : kS → Prop} {a0 a1 a2 a3 : Int} {σ : kS} (h : isO 12 n a0 ∧ (Cv d MX12_begin [(2, a0), (2, a1), (0, a2), (0, a3)] n σ (fun s1 => ∀ s2, s2 = kst s1 a0 21 121 → ∀ s3, s3 = kst s2 a0 20 0 → ∀ s4, s4 = kst s3 a0 25 0 → ∀ s5, s5 = kst s4 a0 22 0 → Cv d MX12_clause [(2, a0)] n s5 (fun s6 => LX12_goThrough_32 d n Q a0 s6)))) : LX12_goThrough_0 d n Q a0 a1 a2 a3 σ := by
  unfold LX12_goThrough_0
  refine K_aload_n 0 (kdA dt_MX12_goThrough 0 rfl) rfl rfl ?_
  refine K_aload_n 1 (kdA dt_MX12_goThrough 1 rfl) rfl rfl ?_
  refine K_iload_n 2 (kdA dt_MX12_goThrough 2 rfl) rfl rfl ?_
  refine K_iload_n 3 (kdA dt_MX12_goThrough 3 rfl) rfl rfl ?_
  obtain ⟨c1, h⟩ := h
  refine K_cVv (c := 12) (as := [(2, a1), (0, a2), (0, a3)]) (st := []) (kdA dt_MX12_goThrough 4 rfl) rfl cl_MX12_begin lk12_287 rfl rfl (Nat.le_of_ble_eq_true rfl) c1 (Cv.mono h (fun s1 h => ?_))
  refine K_aload_n 0 (kdA dt_MX12_goThrough 5 rfl) rfl rfl ?_
  refine K_bipush (kdA dt_MX12_goThrough 6 rfl) (by decide +kernel) ?_
  refine pf12_281 rfl (kdA dt_MX12_goThrough 7 rfl) c1 (fun s2 es2 => ?_)
  have h := h s2 es2
  refine K_aload_n 0 (kdA dt_MX12_goThrough 8 rfl) rfl rfl ?_
  refine K_iconst (kdA dt_MX12_goThrough 9 rfl) (by decide) ?_
  refine pf12_215 rfl (kdA dt_MX12_goThrough 10 rfl) c1 (fun s3 es3 => ?_)
  have h := h s3 es3
  refine K_aload_n 0 (kdA dt_MX12_goThrough 11 rfl) rfl rfl ?_
  refine K_iconst (kdA dt_MX12_goThrough 12 rfl) (by decide) ?_
  refine pf12_277 rfl (kdA dt_MX12_goThrough 13 rfl) c1 (by decide) (fun s4 es4 => ?_)
  have h := h s4 es4
  refine K_aload_n 0 (kdA dt_MX12_goThrough 14 rfl) rfl rfl ?_
  refine K_iconst (kdA dt_MX12_goThrough 15 rfl) (by decide) ?_
  refine pf12_284 rfl (kdA dt_MX12_goThrough 16 rfl) c1 (fun s5 es5 => ?_)
  have h := h s5 es5
  refine K_aload_n 0 (kdA dt_MX12_goThrough 17 rfl) rfl rfl ?_
  refine K_cVv (c := 12) (as := []) (st := []) (kdA dt_MX12_goThrough 18 rfl) rfl cl_MX12_clause lk12_291 rfl rfl (Nat.le_of_ble_eq_true rfl) c1 (Cv.mono h (fun s6 h => ?_))
  refine K_pick [0] (ls' := [(0, (2, a0))]) rfl ?_
  exact h
theorem SX12_goThrough_32 {d n : Nat} {Q : kS → Prop} {a0 : Int} {σ : kS} (h : isO 12 n a0 ∧ ((¬ (σ a0 19) = (-1) → (¬ (σ a0 19) = (-1) → Q σ) ∧ (¬ (¬ (σ a0 19) = (-1)) → Ci d MX12_look [(2, a0)] n σ (fun x2 s1 => (x2 = (-1) → Q s1) ∧ (¬ x2 = (-1) → Ci d MX12_fails [(2, a0)] n s1 (fun x3 s2 => Q s2))))) ∧ (¬ (¬ (σ a0 19) = (-1)) → Ci d MX12_look [(2, a0)] n σ (fun x2 s1 => (¬ x2 = 59 → (¬ (s1 a0 19) = (-1) → Q s1) ∧ (¬ (¬ (s1 a0 19) = (-1)) → Ci d MX12_look [(2, a0)] n s1 (fun x3 s2 => (x3 = (-1) → Q s2) ∧ (¬ x3 = (-1) → Ci d MX12_fails [(2, a0)] n s2 (fun x4 s3 => Q s3))))) ∧ (¬ (¬ x2 = 59) → (-2147483648 ≤ ((s1 a0 18) + 1) ∧ ((s1 a0 18) + 1) ≤ 2147483647) ∧ (∀ s2, s2 = kst s1 a0 18 ((s1 a0 18) + 1) → Cv d MX12_clause [(2, a0)] n s2 (fun s3 => LX12_goThrough_32 d n Q a0 s3))))))) : LX12_goThrough_32 d n Q a0 σ := by
  unfold LX12_goThrough_32
  refine K_aload_n 0 (kdA dt_MX12_goThrough 19 rfl) rfl rfl ?_
  obtain ⟨c1, h⟩ := h
  refine gf12_212 rfl (kdA dt_MX12_goThrough 20 rfl) c1 ?_
  refine K_iconst (kdA dt_MX12_goThrough 21 rfl) (by decide) ?_
  refine K_icmp_ne (tgt := 66) (kdA dt_MX12_goThrough 22 rfl) rfl (fun c => ?_) (fun c => ?_)
  · have h := h.1 c
    refine K_aload_n 0 (kdA dt_MX12_goThrough 36 rfl) rfl rfl ?_
    refine gf12_212 rfl (kdA dt_MX12_goThrough 37 rfl) c1 ?_
    refine K_iconst (kdA dt_MX12_goThrough 38 rfl) (by decide) ?_
    refine K_icmp_ne (tgt := 87) (kdA dt_MX12_goThrough 39 rfl) rfl (fun c => ?_) (fun c => ?_)
    · have h := h.1 c
      exact K_return (kdA dt_MX12_goThrough 47 rfl) rfl ⟨rfl, rfl, h⟩
    · have h := h.2 c
      refine K_aload_n 0 (kdA dt_MX12_goThrough 40 rfl) rfl rfl ?_
      refine K_cVi (c := 12) (as := []) (st := []) (kdA dt_MX12_goThrough 41 rfl) rfl cl_MX12_look lk12_222 rfl rfl (Nat.le_of_ble_eq_true rfl) c1 (Ci.mono h (fun x2 s1 h => ?_))
      refine K_iconst (kdA dt_MX12_goThrough 42 rfl) (by decide) ?_
      refine K_icmp_eq (tgt := 87) (kdA dt_MX12_goThrough 43 rfl) rfl (fun c => ?_) (fun c => ?_)
      · have h := h.1 c
        exact K_return (kdA dt_MX12_goThrough 47 rfl) rfl ⟨rfl, rfl, h⟩
      · have h := h.2 c
        refine K_aload_n 0 (kdA dt_MX12_goThrough 44 rfl) rfl rfl ?_
        refine K_cVi (c := 12) (as := []) (st := []) (kdA dt_MX12_goThrough 45 rfl) rfl cl_MX12_fails lk12_218 rfl rfl (Nat.le_of_ble_eq_true rfl) c1 (Ci.mono h (fun x3 s2 h => ?_))
        refine K_pop (kdA dt_MX12_goThrough 46 rfl) rfl ?_
        exact K_return (kdA dt_MX12_goThrough 47 rfl) rfl ⟨rfl, rfl, h⟩
  · have h := h.2 c
    refine K_aload_n 0 (kdA dt_MX12_goThrough 23 rfl) rfl rfl ?_
    refine K_cVi (c := 12) (as := []) (st := []) (kdA dt_MX12_goThrough 24 rfl) rfl cl_MX12_look lk12_222 rfl rfl (Nat.le_of_ble_eq_true rfl) c1 (Ci.mono h (fun x2 s1 h => ?_))
    refine K_bipush (kdA dt_MX12_goThrough 25 rfl) (by decide +kernel) ?_
    refine K_icmp_ne (tgt := 66) (kdA dt_MX12_goThrough 26 rfl) rfl (fun c => ?_) (fun c => ?_)
    · have h := h.1 c
      refine K_aload_n 0 (kdA dt_MX12_goThrough 36 rfl) rfl rfl ?_
      refine gf12_212 rfl (kdA dt_MX12_goThrough 37 rfl) c1 ?_
      refine K_iconst (kdA dt_MX12_goThrough 38 rfl) (by decide) ?_
      refine K_icmp_ne (tgt := 87) (kdA dt_MX12_goThrough 39 rfl) rfl (fun c => ?_) (fun c => ?_)
      · have h := h.1 c
        exact K_return (kdA dt_MX12_goThrough 47 rfl) rfl ⟨rfl, rfl, h⟩
      · have h := h.2 c
        refine K_aload_n 0 (kdA dt_MX12_goThrough 40 rfl) rfl rfl ?_
        refine K_cVi (c := 12) (as := []) (st := []) (kdA dt_MX12_goThrough 41 rfl) rfl cl_MX12_look lk12_222 rfl rfl (Nat.le_of_ble_eq_true rfl) c1 (Ci.mono h (fun x3 s2 h => ?_))
        refine K_iconst (kdA dt_MX12_goThrough 42 rfl) (by decide) ?_
        refine K_icmp_eq (tgt := 87) (kdA dt_MX12_goThrough 43 rfl) rfl (fun c => ?_) (fun c => ?_)
        · have h := h.1 c
          exact K_return (kdA dt_MX12_goThrough 47 rfl) rfl ⟨rfl, rfl, h⟩
        · have h := h.2 c
          refine K_aload_n 0 (kdA dt_MX12_goThrough 44 rfl) rfl rfl ?_
          refine K_cVi (c := 12) (as := []) (st := []) (kdA dt_MX12_goThrough 45 rfl) rfl cl_MX12_fails lk12_218 rfl rfl (Nat.le_of_ble_eq_true rfl) c1 (Ci.mono h (fun x4 s3 h => ?_))
          refine K_pop (kdA dt_MX12_goThrough 46 rfl) rfl ?_
          exact K_return (kdA dt_MX12_goThrough 47 rfl) rfl ⟨rfl, rfl, h⟩
    · have h := h.2 c
      refine K_aload_n 0 (kdA dt_MX12_goThrough 27 rfl) rfl rfl ?_
      refine K_dup (kdA dt_MX12_goThrough 28 rfl) rfl ?_
      refine gf12_203 rfl (kdA dt_MX12_goThrough 29 rfl) c1 ?_
      refine K_iconst (kdA dt_MX12_goThrough 30 rfl) (by decide) ?_
      obtain ⟨c3, h⟩ := h
      refine K_iadd (kdA dt_MX12_goThrough 31 rfl) c3 ?_
      refine pf12_203 rfl (kdA dt_MX12_goThrough 32 rfl) c1 (fun s2 es2 => ?_)
      have h := h s2 es2
      refine K_aload_n 0 (kdA dt_MX12_goThrough 33 rfl) rfl rfl ?_
      refine K_cVv (c := 12) (as := []) (st := []) (kdA dt_MX12_goThrough 34 rfl) rfl cl_MX12_clause lk12_291 rfl rfl (Nat.le_of_ble_eq_true rfl) c1 (Cv.mono h (fun s3 h => ?_))
      refine K_goto (tgt := 32) (kdA dt_MX12_goThrough 35 rfl) rfl ?_
      exact h
theorem EX12_goThrough {d n : Nat} {Q : kS → Prop} {a0 a1 a2 a3 : Int} {σ : kS} (h : (-2147483648 ≤ a2 ∧ a2 ≤ 2147483647) → (-2147483648 ≤ a3 ∧ a3 ≤ 2147483647) → kokw n σ → LX12_goThrough_0 d n Q a0 a1 a2 a3 σ) : Cv (d + 1) MX12_goThrough [(2, a0), (2, a1), (0, a2), (0, a3)] n σ Q := Tri_of (by decide +kernel) (Nat.le_of_ble_eq_true rfl) (fun hk hw => h (hk (0, a2) (List.mem_of_getElem? (i := 2) rfl)) (hk (0, a3) (List.mem_of_getElem? (i := 3) rfl)) hw)

def LX12_goTo_0 (d n : Nat) (Q : kS → Prop) (a0 : Int) (a1 : Int) (σ : kS) : Prop := K (d + 1) MX12_goTo (kPv n Q) (0, 0) 0 [(0, (2, a0)), (1, (0, a1))] [] n σ
def LX12_goTo_2 (d n : Nat) (Q : kS → Prop) (a0 : Int) (a1 : Int) (a2 : Int) (σ : kS) : Prop := K (d + 1) MX12_goTo (kPv n Q) (0, 0) 2 [(0, (2, a0)), (1, (0, a1)), (2, (0, a2))] [] n σ
theorem SX12_goTo_0 {d n : Nat} {Q : kS → Prop} {a0 a1 : Int} {σ : kS} (h : LX12_goTo_2 d n Q a0 a1 0 σ) : LX12_goTo_0 d n Q a0 a1 σ := by
  unfold LX12_goTo_0
  refine K_iconst (kdA dt_MX12_goTo 0 rfl) (by decide) ?_
  refine K_istore_n (ls' := [(0, (2, a0)), (1, (0, a1)), (2, (0, 0))]) (kdA dt_MX12_goTo 1 rfl) rfl (by decide) rfl ?_
  exact h
theorem SX12_goTo_2 {d n : Nat} {Q : kS → Prop} {a0 a1 a2 : Int} {σ : kS} (h : (480 ≤ a2 → Q σ) ∧ (¬ 480 ≤ a2 → isO 12 n a0 ∧ ((-2147483648 ≤ (480 * a1) ∧ (480 * a1) ≤ 2147483647) ∧ ((-2147483648 ≤ ((480 * a1) + a2) ∧ ((480 * a1) + a2) ≤ 2147483647) ∧ (isA 20 n (σ a0 65) ∧ (((0 : Int) ≤ ((480 * a1) + a2) ∧ ((480 * a1) + a2) < klen (σ a0 65)) ∧ (isA 20 n (σ a0 1) ∧ (((0 : Int) ≤ a2 ∧ a2 < klen (σ a0 1)) ∧ (∀ s1, s1 = kst σ (σ a0 1) a2 (σ (σ a0 65) ((480 * a1) + a2)) → (-2147483648 ≤ (a2 + 1) ∧ (a2 + 1) ≤ 2147483647) ∧ (LX12_goTo_2 d n Q a0 a1 (a2 + 1) s1)))))))))) : LX12_goTo_2 d n Q a0 a1 a2 σ := by
  unfold LX12_goTo_2
  refine K_iload_n 2 (kdA dt_MX12_goTo 2 rfl) rfl rfl ?_
  refine K_sipush (kdA dt_MX12_goTo 3 rfl) (by decide +kernel) ?_
  refine K_icmp_ge (tgt := 33) (kdA dt_MX12_goTo 4 rfl) rfl (fun c => ?_) (fun c => ?_)
  · have h := h.1 c
    exact K_return (kdA dt_MX12_goTo 19 rfl) rfl ⟨rfl, rfl, h⟩
  · have h := h.2 c
    refine K_aload_n 0 (kdA dt_MX12_goTo 5 rfl) rfl rfl ?_
    obtain ⟨c1, h⟩ := h
    refine gf12_9 rfl (kdA dt_MX12_goTo 6 rfl) c1 ?_
    refine K_iload_n 2 (kdA dt_MX12_goTo 7 rfl) rfl rfl ?_
    refine K_aload_n 0 (kdA dt_MX12_goTo 8 rfl) rfl rfl ?_
    refine gf12_139 rfl (kdA dt_MX12_goTo 9 rfl) c1 ?_
    refine K_sipush (kdA dt_MX12_goTo 10 rfl) (by decide +kernel) ?_
    refine K_iload_n 1 (kdA dt_MX12_goTo 11 rfl) rfl rfl ?_
    obtain ⟨c2, h⟩ := h
    refine K_imul (kdA dt_MX12_goTo 12 rfl) c2 ?_
    refine K_iload_n 2 (kdA dt_MX12_goTo 13 rfl) rfl rfl ?_
    obtain ⟨c3, h⟩ := h
    refine K_iadd (kdA dt_MX12_goTo 14 rfl) c3 ?_
    obtain ⟨c4, h⟩ := h
    obtain ⟨c5, h⟩ := h
    refine K_iaload (kdA dt_MX12_goTo 15 rfl) c4 c5.1 c5.2 ?_
    obtain ⟨c6, h⟩ := h
    obtain ⟨c7, h⟩ := h
    refine K_iastore' (kdA dt_MX12_goTo 16 rfl) c6 c7.1 c7.2 (fun s1 es1 => ?_)
    have h := h s1 es1
    obtain ⟨c8, h⟩ := h
    refine K_iinc (ls' := [(0, (2, a0)), (1, (0, a1)), (2, (0, (a2 + 1)))]) 2 (kdA dt_MX12_goTo 17 rfl) rfl c8 (by decide) rfl ?_
    refine K_goto (tgt := 2) (kdA dt_MX12_goTo 18 rfl) rfl ?_
    exact h
theorem EX12_goTo {d n : Nat} {Q : kS → Prop} {a0 a1 : Int} {σ : kS} (h : (-2147483648 ≤ a1 ∧ a1 ≤ 2147483647) → kokw n σ → LX12_goTo_0 d n Q a0 a1 σ) : Cv (d + 1) MX12_goTo [(2, a0), (0, a1)] n σ Q := Tri_of (by decide +kernel) (Nat.le_of_ble_eq_true rfl) (fun hk hw => h (hk (0, a1) (List.mem_of_getElem? (i := 1) rfl)) hw)

def LX12_goTrip_0 (d n : Nat) (Q : Int → kS → Prop) (a0 : Int) (a1 : Int) (σ : kS) : Prop := K (d + 1) MX12_goTrip (kPi n Q) (0, 0) 0 [(0, (2, a0)), (1, (0, a1))] [] n σ
def LX12_goTrip_60 (d n : Nat) (Q : Int → kS → Prop) (a0 : Int) (a4 : Int) (a5 : Int) (σ : kS) : Prop := K (d + 1) MX12_goTrip (kPi n Q) (0, 0) 60 [(0, (2, a0)), (4, (0, a4)), (5, (0, a5))] [] n σ
theorem SX12_goTrip_0 {d n : Nat} {Q : Int → kS → Prop} {a0 a1 : Int} {σ : kS} (h : isO 12 n a0 ∧ (Ci d MX12_draw_ [(2, a0), (0, (σ a0 3))] n σ (fun x2 s1 => (-2147483648 ≤ ((s1 a0 3) - 1) ∧ ((s1 a0 3) - 1) ≤ 2147483647) ∧ (Ci d MX12_draw_ [(2, a0), (0, ((s1 a0 3) - 1))] n s1 (fun x4 s2 => (x4 < x2 → (-2147483648 ≤ (x4 + 0) ∧ (x4 + 0) ≤ 2147483647) ∧ (Cv d MX12_easePains [(2, a0), (0, a1)] n s2 (fun s3 => isA 20 n (s3 a0 2) ∧ (((0 : Int) ≤ x2 ∧ x2 < klen (s3 a0 2)) ∧ (((0 : Int) ≤ (x4 + 0) ∧ (x4 + 0) < klen (s3 a0 2)) ∧ (Cv d MX12_goWay [(2, a0), (0, (s3 (s3 a0 2) x2)), (0, (s3 (s3 a0 2) (x4 + 0)))] n s3 (fun s4 => LX12_goTrip_60 d n Q a0 0 0 s4))))))) ∧ (¬ x4 < x2 → (-2147483648 ≤ (x4 + 1) ∧ (x4 + 1) ≤ 2147483647) ∧ (Cv d MX12_easePains [(2, a0), (0, a1)] n s2 (fun s3 => isA 20 n (s3 a0 2) ∧ (((0 : Int) ≤ x2 ∧ x2 < klen (s3 a0 2)) ∧ (((0 : Int) ≤ (x4 + 1) ∧ (x4 + 1) < klen (s3 a0 2)) ∧ (Cv d MX12_goWay [(2, a0), (0, (s3 (s3 a0 2) x2)), (0, (s3 (s3 a0 2) (x4 + 1)))] n s3 (fun s4 => LX12_goTrip_60 d n Q a0 0 0 s4)))))))))))) : LX12_goTrip_0 d n Q a0 a1 σ := by
  unfold LX12_goTrip_0
  refine K_aload_n 0 (kdA dt_MX12_goTrip 0 rfl) rfl rfl ?_
  refine K_aload_n 0 (kdA dt_MX12_goTrip 1 rfl) rfl rfl ?_
  obtain ⟨c1, h⟩ := h
  refine gf12_165 rfl (kdA dt_MX12_goTrip 2 rfl) c1 ?_
  refine K_cVi (c := 12) (as := [(0, (σ a0 3))]) (st := []) (kdA dt_MX12_goTrip 3 rfl) rfl cl_MX12_draw_ lk12_508 rfl rfl (Nat.le_of_ble_eq_true rfl) c1 (Ci.mono h (fun x2 s1 h => ?_))
  refine K_istore_n (ls' := [(0, (2, a0)), (1, (0, a1)), (2, (0, x2))]) (kdA dt_MX12_goTrip 4 rfl) rfl (by decide) rfl ?_
  refine K_aload_n 0 (kdA dt_MX12_goTrip 5 rfl) rfl rfl ?_
  refine K_aload_n 0 (kdA dt_MX12_goTrip 6 rfl) rfl rfl ?_
  refine gf12_165 rfl (kdA dt_MX12_goTrip 7 rfl) c1 ?_
  refine K_iconst (kdA dt_MX12_goTrip 8 rfl) (by decide) ?_
  obtain ⟨c3, h⟩ := h
  refine K_isub (kdA dt_MX12_goTrip 9 rfl) c3 ?_
  refine K_cVi (c := 12) (as := [(0, ((s1 a0 3) - 1))]) (st := []) (kdA dt_MX12_goTrip 10 rfl) rfl cl_MX12_draw_ lk12_508 rfl rfl (Nat.le_of_ble_eq_true rfl) c1 (Ci.mono h (fun x4 s2 h => ?_))
  refine K_istore_n (ls' := [(0, (2, a0)), (1, (0, a1)), (2, (0, x2)), (3, (0, x4))]) (kdA dt_MX12_goTrip 11 rfl) rfl (by decide) rfl ?_
  refine K_iload_n 3 (kdA dt_MX12_goTrip 12 rfl) rfl rfl ?_
  refine K_iload_n 3 (kdA dt_MX12_goTrip 13 rfl) rfl rfl ?_
  refine K_iload_n 2 (kdA dt_MX12_goTrip 14 rfl) rfl rfl ?_
  refine K_icmp_lt (tgt := 30) (kdA dt_MX12_goTrip 15 rfl) rfl (fun c => ?_) (fun c => ?_)
  · have h := h.1 c
    refine K_iconst (kdA dt_MX12_goTrip 18 rfl) (by decide) ?_
    obtain ⟨c5, h⟩ := h
    refine K_iadd (kdA dt_MX12_goTrip 19 rfl) c5 ?_
    refine K_istore_n (ls' := [(0, (2, a0)), (1, (0, a1)), (2, (0, x2)), (3, (0, (x4 + 0)))]) (kdA dt_MX12_goTrip 20 rfl) rfl (by decide) rfl ?_
    refine K_aload_n 0 (kdA dt_MX12_goTrip 21 rfl) rfl rfl ?_
    refine K_iload_n 1 (kdA dt_MX12_goTrip 22 rfl) rfl rfl ?_
    refine K_cVv (c := 12) (as := [(0, a1)]) (st := []) (kdA dt_MX12_goTrip 23 rfl) rfl cl_MX12_easePains lk12_511 rfl rfl (Nat.le_of_ble_eq_true rfl) c1 (Cv.mono h (fun s3 h => ?_))
    refine K_aload_n 0 (kdA dt_MX12_goTrip 24 rfl) rfl rfl ?_
    refine K_aload_n 0 (kdA dt_MX12_goTrip 25 rfl) rfl rfl ?_
    refine gf12_13 rfl (kdA dt_MX12_goTrip 26 rfl) c1 ?_
    refine K_iload_n 2 (kdA dt_MX12_goTrip 27 rfl) rfl rfl ?_
    obtain ⟨c7, h⟩ := h
    obtain ⟨c8, h⟩ := h
    refine K_iaload (kdA dt_MX12_goTrip 28 rfl) c7 c8.1 c8.2 ?_
    refine K_aload_n 0 (kdA dt_MX12_goTrip 29 rfl) rfl rfl ?_
    refine gf12_13 rfl (kdA dt_MX12_goTrip 30 rfl) c1 ?_
    refine K_iload_n 3 (kdA dt_MX12_goTrip 31 rfl) rfl rfl ?_
    obtain ⟨c9, h⟩ := h
    refine K_iaload (kdA dt_MX12_goTrip 32 rfl) c7 c9.1 c9.2 ?_
    refine K_cVv (c := 12) (as := [(0, (s3 (s3 a0 2) x2)), (0, (s3 (s3 a0 2) (x4 + 0)))]) (st := []) (kdA dt_MX12_goTrip 33 rfl) rfl cl_MX12_goWay lk12_337 rfl rfl (Nat.le_of_ble_eq_true rfl) c1 (Cv.mono h (fun s4 h => ?_))
    refine K_iconst (kdA dt_MX12_goTrip 34 rfl) (by decide) ?_
    refine K_istore (ls' := [(0, (2, a0)), (1, (0, a1)), (2, (0, x2)), (3, (0, (x4 + 0))), (4, (0, 0))]) (kdA dt_MX12_goTrip 35 rfl) (by decide) rfl ?_
    refine K_iconst (kdA dt_MX12_goTrip 36 rfl) (by decide) ?_
    refine K_istore (ls' := [(0, (2, a0)), (1, (0, a1)), (2, (0, x2)), (3, (0, (x4 + 0))), (4, (0, 0)), (5, (0, 0))]) (kdA dt_MX12_goTrip 37 rfl) (by decide) rfl ?_
    refine K_pick [0, 4, 5] (ls' := [(0, (2, a0)), (4, (0, 0)), (5, (0, 0))]) rfl ?_
    exact h
  · have h := h.2 c
    refine K_iconst (kdA dt_MX12_goTrip 16 rfl) (by decide) ?_
    refine K_goto (tgt := 31) (kdA dt_MX12_goTrip 17 rfl) rfl ?_
    obtain ⟨c5, h⟩ := h
    refine K_iadd (kdA dt_MX12_goTrip 19 rfl) c5 ?_
    refine K_istore_n (ls' := [(0, (2, a0)), (1, (0, a1)), (2, (0, x2)), (3, (0, (x4 + 1)))]) (kdA dt_MX12_goTrip 20 rfl) rfl (by decide) rfl ?_
    refine K_aload_n 0 (kdA dt_MX12_goTrip 21 rfl) rfl rfl ?_
    refine K_iload_n 1 (kdA dt_MX12_goTrip 22 rfl) rfl rfl ?_
    refine K_cVv (c := 12) (as := [(0, a1)]) (st := []) (kdA dt_MX12_goTrip 23 rfl) rfl cl_MX12_easePains lk12_511 rfl rfl (Nat.le_of_ble_eq_true rfl) c1 (Cv.mono h (fun s3 h => ?_))
    refine K_aload_n 0 (kdA dt_MX12_goTrip 24 rfl) rfl rfl ?_
    refine K_aload_n 0 (kdA dt_MX12_goTrip 25 rfl) rfl rfl ?_
    refine gf12_13 rfl (kdA dt_MX12_goTrip 26 rfl) c1 ?_
    refine K_iload_n 2 (kdA dt_MX12_goTrip 27 rfl) rfl rfl ?_
    obtain ⟨c7, h⟩ := h
    obtain ⟨c8, h⟩ := h
    refine K_iaload (kdA dt_MX12_goTrip 28 rfl) c7 c8.1 c8.2 ?_
    refine K_aload_n 0 (kdA dt_MX12_goTrip 29 rfl) rfl rfl ?_
    refine gf12_13 rfl (kdA dt_MX12_goTrip 30 rfl) c1 ?_
    refine K_iload_n 3 (kdA dt_MX12_goTrip 31 rfl) rfl rfl ?_
    obtain ⟨c9, h⟩ := h
    refine K_iaload (kdA dt_MX12_goTrip 32 rfl) c7 c9.1 c9.2 ?_
    refine K_cVv (c := 12) (as := [(0, (s3 (s3 a0 2) x2)), (0, (s3 (s3 a0 2) (x4 + 1)))]) (st := []) (kdA dt_MX12_goTrip 33 rfl) rfl cl_MX12_goWay lk12_337 rfl rfl (Nat.le_of_ble_eq_true rfl) c1 (Cv.mono h (fun s4 h => ?_))
    refine K_iconst (kdA dt_MX12_goTrip 34 rfl) (by decide) ?_
    refine K_istore (ls' := [(0, (2, a0)), (1, (0, a1)), (2, (0, x2)), (3, (0, (x4 + 1))), (4, (0, 0))]) (kdA dt_MX12_goTrip 35 rfl) (by decide) rfl ?_
    refine K_iconst (kdA dt_MX12_goTrip 36 rfl) (by decide) ?_
    refine K_istore (ls' := [(0, (2, a0)), (1, (0, a1)), (2, (0, x2)), (3, (0, (x4 + 1))), (4, (0, 0)), (5, (0, 0))]) (kdA dt_MX12_goTrip 37 rfl) (by decide) rfl ?_
    refine K_pick [0, 4, 5] (ls' := [(0, (2, a0)), (4, (0, 0)), (5, (0, 0))]) rfl ?_
    exact h
theorem SX12_goTrip_60 {d n : Nat} {Q : Int → kS → Prop} {a0 a4 a5 : Int} {σ : kS} (h : isO 12 n a0 ∧ (((σ a0 30) ≤ a5 → (a4 = 0 ∨ a4 = 1) ∧ (Q a4 σ)) ∧ (¬ (σ a0 30) ≤ a5 → (¬ a4 = 0 → isA 20 n (σ a0 29) ∧ (((0 : Int) ≤ a5 ∧ a5 < klen (σ a0 29)) ∧ (isA 20 n (σ a0 59) ∧ (((0 : Int) ≤ (σ (σ a0 29) a5) ∧ (σ (σ a0 29) a5) < klen (σ a0 59)) ∧ ((-2147483648 ≤ ((σ (σ a0 59) (σ (σ a0 29) a5)) + 1) ∧ ((σ (σ a0 59) (σ (σ a0 29) a5)) + 1) ≤ 2147483647) ∧ (Ci d MJm_min [(0, 99), (0, ((σ (σ a0 59) (σ (σ a0 29) a5)) + 1))] n σ (fun x7 s1 => ∀ s2, s2 = kst s1 (σ a0 59) (σ (σ a0 29) a5) x7 → (-2147483648 ≤ (a5 + 1) ∧ (a5 + 1) ≤ 2147483647) ∧ (LX12_goTrip_60 d n Q a0 1 (a5 + 1) s2)))))))) ∧ (¬ (¬ a4 = 0) → isA 20 n (σ a0 29) ∧ (((0 : Int) ≤ a5 ∧ a5 < klen (σ a0 29)) ∧ (isA 20 n (σ a0 59) ∧ (((0 : Int) ≤ (σ (σ a0 29) a5) ∧ (σ (σ a0 29) a5) < klen (σ a0 59)) ∧ ((¬ (σ (σ a0 59) (σ (σ a0 29) a5)) = 0 → (-2147483648 ≤ ((σ (σ a0 59) (σ (σ a0 29) a5)) + 1) ∧ ((σ (σ a0 59) (σ (σ a0 29) a5)) + 1) ≤ 2147483647) ∧ (Ci d MJm_min [(0, 99), (0, ((σ (σ a0 59) (σ (σ a0 29) a5)) + 1))] n σ (fun x7 s1 => ∀ s2, s2 = kst s1 (σ a0 59) (σ (σ a0 29) a5) x7 → (-2147483648 ≤ (a5 + 1) ∧ (a5 + 1) ≤ 2147483647) ∧ (LX12_goTrip_60 d n Q a0 0 (a5 + 1) s2)))) ∧ (¬ (¬ (σ (σ a0 59) (σ (σ a0 29) a5)) = 0) → (-2147483648 ≤ ((σ (σ a0 59) (σ (σ a0 29) a5)) + 1) ∧ ((σ (σ a0 59) (σ (σ a0 29) a5)) + 1) ≤ 2147483647) ∧ (Ci d MJm_min [(0, 99), (0, ((σ (σ a0 59) (σ (σ a0 29) a5)) + 1))] n σ (fun x7 s1 => ∀ s2, s2 = kst s1 (σ a0 59) (σ (σ a0 29) a5) x7 → (-2147483648 ≤ (a5 + 1) ∧ (a5 + 1) ≤ 2147483647) ∧ (LX12_goTrip_60 d n Q a0 1 (a5 + 1) s2)))))))))))) : LX12_goTrip_60 d n Q a0 a4 a5 σ := by
  unfold LX12_goTrip_60
  refine K_iload 2 (kdA dt_MX12_goTrip 38 rfl) rfl ?_
  refine K_aload_n 0 (kdA dt_MX12_goTrip 39 rfl) rfl rfl ?_
  obtain ⟨c1, h⟩ := h
  refine gf12_330 rfl (kdA dt_MX12_goTrip 40 rfl) c1 ?_
  refine K_icmp_ge (tgt := 133) (kdA dt_MX12_goTrip 41 rfl) rfl (fun c => ?_) (fun c => ?_)
  · have h := h.1 c
    refine K_iload 1 (kdA dt_MX12_goTrip 76 rfl) rfl ?_
    obtain ⟨c2, h⟩ := h
    exact K_zreturn (kdA dt_MX12_goTrip 77 rfl) rfl c2 ⟨rfl, _, rfl, h⟩
  · have h := h.2 c
    refine K_iload 1 (kdA dt_MX12_goTrip 42 rfl) rfl ?_
    refine K_if_ne (tgt := 89) (kdA dt_MX12_goTrip 43 rfl) rfl (fun c => ?_) (fun c => ?_)
    · have h := h.1 c
      refine K_iconst (kdA dt_MX12_goTrip 52 rfl) (by decide) ?_
      refine K_goto (tgt := 94) (kdA dt_MX12_goTrip 53 rfl) rfl ?_
      refine K_istore (ls' := [(0, (2, a0)), (4, (0, 1)), (5, (0, a5))]) (kdA dt_MX12_goTrip 55 rfl) (by decide) rfl ?_
      refine K_aload_n 0 (kdA dt_MX12_goTrip 56 rfl) rfl rfl ?_
      refine gf12_133 rfl (kdA dt_MX12_goTrip 57 rfl) c1 ?_
      refine K_aload_n 0 (kdA dt_MX12_goTrip 58 rfl) rfl rfl ?_
      refine gf12_64 rfl (kdA dt_MX12_goTrip 59 rfl) c1 ?_
      refine K_iload 2 (kdA dt_MX12_goTrip 60 rfl) rfl ?_
      obtain ⟨c2, h⟩ := h
      obtain ⟨c3, h⟩ := h
      refine K_iaload (kdA dt_MX12_goTrip 61 rfl) c2 c3.1 c3.2 ?_
      refine K_bipush (kdA dt_MX12_goTrip 62 rfl) (by decide +kernel) ?_
      refine K_aload_n 0 (kdA dt_MX12_goTrip 63 rfl) rfl rfl ?_
      refine gf12_133 rfl (kdA dt_MX12_goTrip 64 rfl) c1 ?_
      refine K_aload_n 0 (kdA dt_MX12_goTrip 65 rfl) rfl rfl ?_
      refine gf12_64 rfl (kdA dt_MX12_goTrip 66 rfl) c1 ?_
      refine K_iload 2 (kdA dt_MX12_goTrip 67 rfl) rfl ?_
      refine K_iaload (kdA dt_MX12_goTrip 68 rfl) c2 c3.1 c3.2 ?_
      obtain ⟨c4, h⟩ := h
      obtain ⟨c5, h⟩ := h
      refine K_iaload (kdA dt_MX12_goTrip 69 rfl) c4 c5.1 c5.2 ?_
      refine K_iconst (kdA dt_MX12_goTrip 70 rfl) (by decide) ?_
      obtain ⟨c6, h⟩ := h
      refine K_iadd (kdA dt_MX12_goTrip 71 rfl) c6 ?_
      refine K_cSi (as := [(0, 99), (0, ((σ (σ a0 59) (σ (σ a0 29) a5)) + 1))]) (st := [(0, (σ (σ a0 29) a5)), (2, (σ a0 59))]) (kdA dt_MX12_goTrip 72 rfl) cl_MJm_min lk12_317 rfl rfl (Nat.le_of_ble_eq_true rfl) (Ci.mono h (fun x7 s1 h => ?_))
      refine K_iastore' (kdA dt_MX12_goTrip 73 rfl) c4 c5.1 c5.2 (fun s2 es2 => ?_)
      have h := h s2 es2
      obtain ⟨c8, h⟩ := h
      refine K_iinc (ls' := [(0, (2, a0)), (4, (0, 1)), (5, (0, (a5 + 1)))]) 2 (kdA dt_MX12_goTrip 74 rfl) rfl c8 (by decide) rfl ?_
      refine K_goto (tgt := 60) (kdA dt_MX12_goTrip 75 rfl) rfl ?_
      exact h
    · have h := h.2 c
      refine K_aload_n 0 (kdA dt_MX12_goTrip 44 rfl) rfl rfl ?_
      refine gf12_133 rfl (kdA dt_MX12_goTrip 45 rfl) c1 ?_
      refine K_aload_n 0 (kdA dt_MX12_goTrip 46 rfl) rfl rfl ?_
      refine gf12_64 rfl (kdA dt_MX12_goTrip 47 rfl) c1 ?_
      refine K_iload 2 (kdA dt_MX12_goTrip 48 rfl) rfl ?_
      obtain ⟨c2, h⟩ := h
      obtain ⟨c3, h⟩ := h
      refine K_iaload (kdA dt_MX12_goTrip 49 rfl) c2 c3.1 c3.2 ?_
      obtain ⟨c4, h⟩ := h
      obtain ⟨c5, h⟩ := h
      refine K_iaload (kdA dt_MX12_goTrip 50 rfl) c4 c5.1 c5.2 ?_
      refine K_if_ne (tgt := 93) (kdA dt_MX12_goTrip 51 rfl) rfl (fun c => ?_) (fun c => ?_)
      · have h := h.1 c
        refine K_iconst (kdA dt_MX12_goTrip 54 rfl) (by decide) ?_
        refine K_istore (ls' := [(0, (2, a0)), (4, (0, 0)), (5, (0, a5))]) (kdA dt_MX12_goTrip 55 rfl) (by decide) rfl ?_
        refine K_aload_n 0 (kdA dt_MX12_goTrip 56 rfl) rfl rfl ?_
        refine gf12_133 rfl (kdA dt_MX12_goTrip 57 rfl) c1 ?_
        refine K_aload_n 0 (kdA dt_MX12_goTrip 58 rfl) rfl rfl ?_
        refine gf12_64 rfl (kdA dt_MX12_goTrip 59 rfl) c1 ?_
        refine K_iload 2 (kdA dt_MX12_goTrip 60 rfl) rfl ?_
        refine K_iaload (kdA dt_MX12_goTrip 61 rfl) c2 c3.1 c3.2 ?_
        refine K_bipush (kdA dt_MX12_goTrip 62 rfl) (by decide +kernel) ?_
        refine K_aload_n 0 (kdA dt_MX12_goTrip 63 rfl) rfl rfl ?_
        refine gf12_133 rfl (kdA dt_MX12_goTrip 64 rfl) c1 ?_
        refine K_aload_n 0 (kdA dt_MX12_goTrip 65 rfl) rfl rfl ?_
        refine gf12_64 rfl (kdA dt_MX12_goTrip 66 rfl) c1 ?_
        refine K_iload 2 (kdA dt_MX12_goTrip 67 rfl) rfl ?_
        refine K_iaload (kdA dt_MX12_goTrip 68 rfl) c2 c3.1 c3.2 ?_
        refine K_iaload (kdA dt_MX12_goTrip 69 rfl) c4 c5.1 c5.2 ?_
        refine K_iconst (kdA dt_MX12_goTrip 70 rfl) (by decide) ?_
        obtain ⟨c6, h⟩ := h
        refine K_iadd (kdA dt_MX12_goTrip 71 rfl) c6 ?_
        refine K_cSi (as := [(0, 99), (0, ((σ (σ a0 59) (σ (σ a0 29) a5)) + 1))]) (st := [(0, (σ (σ a0 29) a5)), (2, (σ a0 59))]) (kdA dt_MX12_goTrip 72 rfl) cl_MJm_min lk12_317 rfl rfl (Nat.le_of_ble_eq_true rfl) (Ci.mono h (fun x7 s1 h => ?_))
        refine K_iastore' (kdA dt_MX12_goTrip 73 rfl) c4 c5.1 c5.2 (fun s2 es2 => ?_)
        have h := h s2 es2
        obtain ⟨c8, h⟩ := h
        refine K_iinc (ls' := [(0, (2, a0)), (4, (0, 0)), (5, (0, (a5 + 1)))]) 2 (kdA dt_MX12_goTrip 74 rfl) rfl c8 (by decide) rfl ?_
        refine K_goto (tgt := 60) (kdA dt_MX12_goTrip 75 rfl) rfl ?_
        exact h
      · have h := h.2 c
        refine K_iconst (kdA dt_MX12_goTrip 52 rfl) (by decide) ?_
        refine K_goto (tgt := 94) (kdA dt_MX12_goTrip 53 rfl) rfl ?_
        refine K_istore (ls' := [(0, (2, a0)), (4, (0, 1)), (5, (0, a5))]) (kdA dt_MX12_goTrip 55 rfl) (by decide) rfl ?_
        refine K_aload_n 0 (kdA dt_MX12_goTrip 56 rfl) rfl rfl ?_
        refine gf12_133 rfl (kdA dt_MX12_goTrip 57 rfl) c1 ?_
        refine K_aload_n 0 (kdA dt_MX12_goTrip 58 rfl) rfl rfl ?_
        refine gf12_64 rfl (kdA dt_MX12_goTrip 59 rfl) c1 ?_
        refine K_iload 2 (kdA dt_MX12_goTrip 60 rfl) rfl ?_
        refine K_iaload (kdA dt_MX12_goTrip 61 rfl) c2 c3.1 c3.2 ?_
        refine K_bipush (kdA dt_MX12_goTrip 62 rfl) (by decide +kernel) ?_
        refine K_aload_n 0 (kdA dt_MX12_goTrip 63 rfl) rfl rfl ?_
        refine gf12_133 rfl (kdA dt_MX12_goTrip 64 rfl) c1 ?_
        refine K_aload_n 0 (kdA dt_MX12_goTrip 65 rfl) rfl rfl ?_
        refine gf12_64 rfl (kdA dt_MX12_goTrip 66 rfl) c1 ?_
        refine K_iload 2 (kdA dt_MX12_goTrip 67 rfl) rfl ?_
        refine K_iaload (kdA dt_MX12_goTrip 68 rfl) c2 c3.1 c3.2 ?_
        refine K_iaload (kdA dt_MX12_goTrip 69 rfl) c4 c5.1 c5.2 ?_
        refine K_iconst (kdA dt_MX12_goTrip 70 rfl) (by decide) ?_
        obtain ⟨c6, h⟩ := h
        refine K_iadd (kdA dt_MX12_goTrip 71 rfl) c6 ?_
        refine K_cSi (as := [(0, 99), (0, ((σ (σ a0 59) (σ (σ a0 29) a5)) + 1))]) (st := [(0, (σ (σ a0 29) a5)), (2, (σ a0 59))]) (kdA dt_MX12_goTrip 72 rfl) cl_MJm_min lk12_317 rfl rfl (Nat.le_of_ble_eq_true rfl) (Ci.mono h (fun x7 s1 h => ?_))
        refine K_iastore' (kdA dt_MX12_goTrip 73 rfl) c4 c5.1 c5.2 (fun s2 es2 => ?_)
        have h := h s2 es2
        obtain ⟨c8, h⟩ := h
        refine K_iinc (ls' := [(0, (2, a0)), (4, (0, 1)), (5, (0, (a5 + 1)))]) 2 (kdA dt_MX12_goTrip 74 rfl) rfl c8 (by decide) rfl ?_
        refine K_goto (tgt := 60) (kdA dt_MX12_goTrip 75 rfl) rfl ?_
        exact h
theorem EX12_goTrip {d n : Nat} {Q : Int → kS → Prop} {a0 a1 : Int} {σ : kS} (h : (-2147483648 ≤ a1 ∧ a1 ≤ 2147483647) → kokw n σ → LX12_goTrip_0 d n Q a0 a1 σ) : Ci (d + 1) MX12_goTrip [(2, a0), (0, a1)] n σ Q := Tri_of (by decide +kernel) (Nat.le_of_ble_eq_true rfl) (fun hk hw => h (hk (0, a1) (List.mem_of_getElem? (i := 1) rfl)) hw)

def LX12_goWay_0 (d n : Nat) (Q : kS → Prop) (a0 : Int) (a1 : Int) (a2 : Int) (σ : kS) : Prop := K (d + 1) MX12_goWay (kPv n Q) (0, 0) 0 [(0, (2, a0)), (1, (0, a1)), (2, (0, a2))] [] n σ
def LX12_goWay_19 (d n : Nat) (Q : kS → Prop) (a0 : Int) (a2 : Int) (a3 : Int) (σ : kS) : Prop := K (d + 1) MX12_goWay (kPv n Q) (0, 0) 19 [(0, (2, a0)), (2, (0, a2)), (3, (0, a3))] [] n σ
def LX12_goWay_27 (d n : Nat) (Q : kS → Prop) (a0 : Int) (a2 : Int) (a3 : Int) (a4 : Int) (σ : kS) : Prop := K (d + 1) MX12_goWay (kPv n Q) (0, 0) 27 [(0, (2, a0)), (2, (0, a2)), (3, (0, a3)), (4, (0, a4))] [] n σ
theorem SX12_goWay_0 {d n : Nat} {Q : kS → Prop} {a0 a1 a2 : Int} {σ : kS} (h : isO 12 n a0 ∧ (Cv d MX12_layLeft [(2, a0), (0, a2)] n σ (fun s1 => ∀ s2, s2 = kst s1 a0 30 1 → isA 20 n (s2 a0 29) ∧ (((0 : Int) ≤ 0 ∧ 0 < klen (s2 a0 29)) ∧ (∀ s3, s3 = kst s2 (s2 a0 29) 0 a1 → LX12_goWay_19 d n Q a0 a2 a1 s3))))) : LX12_goWay_0 d n Q a0 a1 a2 σ := by
  unfold LX12_goWay_0
  refine K_aload_n 0 (kdA dt_MX12_goWay 0 rfl) rfl rfl ?_
  refine K_iload_n 2 (kdA dt_MX12_goWay 1 rfl) rfl rfl ?_
  obtain ⟨c1, h⟩ := h
  refine K_cVv (c := 12) (as := [(0, a2)]) (st := []) (kdA dt_MX12_goWay 2 rfl) rfl cl_MX12_layLeft lk12_327 rfl rfl (Nat.le_of_ble_eq_true rfl) c1 (Cv.mono h (fun s1 h => ?_))
  refine K_aload_n 0 (kdA dt_MX12_goWay 3 rfl) rfl rfl ?_
  refine K_iconst (kdA dt_MX12_goWay 4 rfl) (by decide) ?_
  refine pf12_330 rfl (kdA dt_MX12_goWay 5 rfl) c1 (fun s2 es2 => ?_)
  have h := h s2 es2
  refine K_aload_n 0 (kdA dt_MX12_goWay 6 rfl) rfl rfl ?_
  refine gf12_64 rfl (kdA dt_MX12_goWay 7 rfl) c1 ?_
  refine K_iconst (kdA dt_MX12_goWay 8 rfl) (by decide) ?_
  refine K_iload_n 1 (kdA dt_MX12_goWay 9 rfl) rfl rfl ?_
  obtain ⟨c3, h⟩ := h
  obtain ⟨c4, h⟩ := h
  refine K_iastore' (kdA dt_MX12_goWay 10 rfl) c3 c4.1 c4.2 (fun s3 es3 => ?_)
  have h := h s3 es3
  refine K_iload_n 1 (kdA dt_MX12_goWay 11 rfl) rfl rfl ?_
  refine K_istore_n (ls' := [(0, (2, a0)), (1, (0, a1)), (2, (0, a2)), (3, (0, a1))]) (kdA dt_MX12_goWay 12 rfl) rfl (by decide) rfl ?_
  refine K_pick [0, 2, 3] (ls' := [(0, (2, a0)), (2, (0, a2)), (3, (0, a1))]) rfl ?_
  exact h
theorem SX12_goWay_19 {d n : Nat} {Q : kS → Prop} {a0 a2 a3 : Int} {σ : kS} (h : (a3 = a2 → Q σ) ∧ (¬ a3 = a2 → LX12_goWay_27 d n Q a0 a2 a3 0 σ)) : LX12_goWay_19 d n Q a0 a2 a3 σ := by
  unfold LX12_goWay_19
  refine K_iload_n 2 (kdA dt_MX12_goWay 13 rfl) rfl rfl ?_
  refine K_iload_n 1 (kdA dt_MX12_goWay 14 rfl) rfl rfl ?_
  refine K_icmp_eq (tgt := 112) (kdA dt_MX12_goWay 15 rfl) rfl (fun c => ?_) (fun c => ?_)
  · have h := h.1 c
    exact K_return (kdA dt_MX12_goWay 66 rfl) rfl ⟨rfl, rfl, h⟩
  · have h := h.2 c
    refine K_iconst (kdA dt_MX12_goWay 16 rfl) (by decide) ?_
    refine K_istore (ls' := [(0, (2, a0)), (2, (0, a2)), (3, (0, a3)), (4, (0, 0))]) (kdA dt_MX12_goWay 17 rfl) (by decide) rfl ?_
    exact h
theorem SX12_goWay_27 {d n : Nat} {Q : kS → Prop} {a0 a2 a3 a4 : Int} {σ : kS} (h : Ci d MX12_step [(0, a3), (0, a4)] n σ (fun x1 s1 => (x1 = (-1) → (-2147483648 ≤ (a4 + 1) ∧ (a4 + 1) ≤ 2147483647) ∧ (LX12_goWay_27 d n Q a0 a2 a3 (a4 + 1) s1)) ∧ (¬ x1 = (-1) → isO 12 n a0 ∧ (Ci d MX12_step [(0, a3), (0, a4)] n s1 (fun x3 s2 => isA 20 n (s1 a0 27) ∧ (((0 : Int) ≤ x3 ∧ x3 < klen (s1 a0 27)) ∧ ((-2147483648 ≤ (8 * a3) ∧ (8 * a3) ≤ 2147483647) ∧ ((-2147483648 ≤ ((8 * a3) + a4) ∧ ((8 * a3) + a4) ≤ 2147483647) ∧ (isA 20 n (s2 a0 26) ∧ (((0 : Int) ≤ ((8 * a3) + a4) ∧ ((8 * a3) + a4) < klen (s2 a0 26)) ∧ ((-2147483648 ≤ (1000 * (s2 (s2 a0 26) ((8 * a3) + a4))) ∧ (1000 * (s2 (s2 a0 26) ((8 * a3) + a4))) ≤ 2147483647) ∧ ((-2147483648 ≤ ((s2 (s1 a0 27) x3) + (1000 * (s2 (s2 a0 26) ((8 * a3) + a4)))) ∧ ((s2 (s1 a0 27) x3) + (1000 * (s2 (s2 a0 26) ((8 * a3) + a4)))) ≤ 2147483647) ∧ ((-2147483648 ≤ (((s2 (s1 a0 27) x3) + (1000 * (s2 (s2 a0 26) ((8 * a3) + a4)))) + 1) ∧ (((s2 (s1 a0 27) x3) + (1000 * (s2 (s2 a0 26) ((8 * a3) + a4)))) + 1) ≤ 2147483647) ∧ (isA 20 n (s2 a0 27) ∧ (((0 : Int) ≤ a3 ∧ a3 < klen (s2 a0 27)) ∧ (((((s2 (s1 a0 27) x3) + (1000 * (s2 (s2 a0 26) ((8 * a3) + a4)))) + 1) = (s2 (s2 a0 27) a3) → Ci d MX12_step [(0, a3), (0, a4)] n s2 (fun x15 s3 => isA 20 n (s3 a0 29) ∧ (((0 : Int) ≤ (s3 a0 30) ∧ (s3 a0 30) < klen (s3 a0 29)) ∧ (∀ s4, s4 = kst s3 (s3 a0 29) (s3 a0 30) x15 → (-2147483648 ≤ ((s4 a0 30) + 1) ∧ ((s4 a0 30) + 1) ≤ 2147483647) ∧ (∀ s5, s5 = kst s4 a0 30 ((s4 a0 30) + 1) → LX12_goWay_19 d n Q a0 a2 x15 s5))))) ∧ (¬ (((s2 (s1 a0 27) x3) + (1000 * (s2 (s2 a0 26) ((8 * a3) + a4)))) + 1) = (s2 (s2 a0 27) a3) → (-2147483648 ≤ (a4 + 1) ∧ (a4 + 1) ≤ 2147483647) ∧ (LX12_goWay_27 d n Q a0 a2 a3 (a4 + 1) s2)))))))))))))))))) : LX12_goWay_27 d n Q a0 a2 a3 a4 σ := by
  unfold LX12_goWay_27
  refine K_iload_n 2 (kdA dt_MX12_goWay 18 rfl) rfl rfl ?_
  refine K_iload 3 (kdA dt_MX12_goWay 19 rfl) rfl ?_
  refine K_cSi (as := [(0, a3), (0, a4)]) (st := []) (kdA dt_MX12_goWay 20 rfl) cl_MX12_step lk12_314 rfl rfl (Nat.le_of_ble_eq_true rfl) (Ci.mono h (fun x1 s1 h => ?_))
  refine K_iconst (kdA dt_MX12_goWay 21 rfl) (by decide) ?_
  refine K_icmp_eq (tgt := 76) (kdA dt_MX12_goWay 22 rfl) rfl (fun c => ?_) (fun c => ?_)
  · have h := h.1 c
    obtain ⟨c2, h⟩ := h
    refine K_iinc (ls' := [(0, (2, a0)), (2, (0, a2)), (3, (0, a3)), (4, (0, (a4 + 1)))]) 3 (kdA dt_MX12_goWay 47 rfl) rfl c2 (by decide) rfl ?_
    refine K_goto (tgt := 27) (kdA dt_MX12_goWay 48 rfl) rfl ?_
    exact h
  · have h := h.2 c
    refine K_aload_n 0 (kdA dt_MX12_goWay 23 rfl) rfl rfl ?_
    obtain ⟨c2, h⟩ := h
    refine gf12_58 rfl (kdA dt_MX12_goWay 24 rfl) c2 ?_
    refine K_iload_n 2 (kdA dt_MX12_goWay 25 rfl) rfl rfl ?_
    refine K_iload 3 (kdA dt_MX12_goWay 26 rfl) rfl ?_
    refine K_cSi (as := [(0, a3), (0, a4)]) (st := [(2, (s1 a0 27))]) (kdA dt_MX12_goWay 27 rfl) cl_MX12_step lk12_314 rfl rfl (Nat.le_of_ble_eq_true rfl) (Ci.mono h (fun x3 s2 h => ?_))
    obtain ⟨c4, h⟩ := h
    obtain ⟨c5, h⟩ := h
    refine K_iaload (kdA dt_MX12_goWay 28 rfl) c4 c5.1 c5.2 ?_
    refine K_sipush (kdA dt_MX12_goWay 29 rfl) (by decide +kernel) ?_
    refine K_aload_n 0 (kdA dt_MX12_goWay 30 rfl) rfl rfl ?_
    refine gf12_55 rfl (kdA dt_MX12_goWay 31 rfl) c2 ?_
    refine K_bipush (kdA dt_MX12_goWay 32 rfl) (by decide +kernel) ?_
    refine K_iload_n 2 (kdA dt_MX12_goWay 33 rfl) rfl rfl ?_
    obtain ⟨c6, h⟩ := h
    refine K_imul (kdA dt_MX12_goWay 34 rfl) c6 ?_
    refine K_iload 3 (kdA dt_MX12_goWay 35 rfl) rfl ?_
    obtain ⟨c7, h⟩ := h
    refine K_iadd (kdA dt_MX12_goWay 36 rfl) c7 ?_
    obtain ⟨c8, h⟩ := h
    obtain ⟨c9, h⟩ := h
    refine K_iaload (kdA dt_MX12_goWay 37 rfl) c8 c9.1 c9.2 ?_
    obtain ⟨c10, h⟩ := h
    refine K_imul (kdA dt_MX12_goWay 38 rfl) c10 ?_
    obtain ⟨c11, h⟩ := h
    refine K_iadd (kdA dt_MX12_goWay 39 rfl) c11 ?_
    refine K_iconst (kdA dt_MX12_goWay 40 rfl) (by decide) ?_
    obtain ⟨c12, h⟩ := h
    refine K_iadd (kdA dt_MX12_goWay 41 rfl) c12 ?_
    refine K_aload_n 0 (kdA dt_MX12_goWay 42 rfl) rfl rfl ?_
    refine gf12_58 rfl (kdA dt_MX12_goWay 43 rfl) c2 ?_
    refine K_iload_n 2 (kdA dt_MX12_goWay 44 rfl) rfl rfl ?_
    obtain ⟨c13, h⟩ := h
    obtain ⟨c14, h⟩ := h
    refine K_iaload (kdA dt_MX12_goWay 45 rfl) c13 c14.1 c14.2 ?_
    refine K_icmp_eq (tgt := 82) (kdA dt_MX12_goWay 46 rfl) rfl (fun c => ?_) (fun c => ?_)
    · have h := h.1 c
      refine K_iload_n 2 (kdA dt_MX12_goWay 49 rfl) rfl rfl ?_
      refine K_iload 3 (kdA dt_MX12_goWay 50 rfl) rfl ?_
      refine K_cSi (as := [(0, a3), (0, a4)]) (st := []) (kdA dt_MX12_goWay 51 rfl) cl_MX12_step lk12_314 rfl rfl (Nat.le_of_ble_eq_true rfl) (Ci.mono h (fun x15 s3 h => ?_))
      refine K_istore_n (ls' := [(0, (2, a0)), (2, (0, a2)), (3, (0, x15)), (4, (0, a4))]) (kdA dt_MX12_goWay 52 rfl) rfl (by decide) rfl ?_
      refine K_aload_n 0 (kdA dt_MX12_goWay 53 rfl) rfl rfl ?_
      refine gf12_64 rfl (kdA dt_MX12_goWay 54 rfl) c2 ?_
      refine K_aload_n 0 (kdA dt_MX12_goWay 55 rfl) rfl rfl ?_
      refine gf12_330 rfl (kdA dt_MX12_goWay 56 rfl) c2 ?_
      refine K_iload_n 2 (kdA dt_MX12_goWay 57 rfl) rfl rfl ?_
      obtain ⟨c16, h⟩ := h
      obtain ⟨c17, h⟩ := h
      refine K_iastore' (kdA dt_MX12_goWay 58 rfl) c16 c17.1 c17.2 (fun s4 es4 => ?_)
      have h := h s4 es4
      refine K_aload_n 0 (kdA dt_MX12_goWay 59 rfl) rfl rfl ?_
      refine K_dup (kdA dt_MX12_goWay 60 rfl) rfl ?_
      refine gf12_330 rfl (kdA dt_MX12_goWay 61 rfl) c2 ?_
      refine K_iconst (kdA dt_MX12_goWay 62 rfl) (by decide) ?_
      obtain ⟨c18, h⟩ := h
      refine K_iadd (kdA dt_MX12_goWay 63 rfl) c18 ?_
      refine pf12_330 rfl (kdA dt_MX12_goWay 64 rfl) c2 (fun s5 es5 => ?_)
      have h := h s5 es5
      refine K_goto (tgt := 19) (kdA dt_MX12_goWay 65 rfl) rfl ?_
      refine K_pick [0, 1, 2] (ls' := [(0, (2, a0)), (2, (0, a2)), (3, (0, x15))]) rfl ?_
      exact h
    · have h := h.2 c
      obtain ⟨c15, h⟩ := h
      refine K_iinc (ls' := [(0, (2, a0)), (2, (0, a2)), (3, (0, a3)), (4, (0, (a4 + 1)))]) 3 (kdA dt_MX12_goWay 47 rfl) rfl c15 (by decide) rfl ?_
      refine K_goto (tgt := 27) (kdA dt_MX12_goWay 48 rfl) rfl ?_
      exact h
theorem EX12_goWay {d n : Nat} {Q : kS → Prop} {a0 a1 a2 : Int} {σ : kS} (h : (-2147483648 ≤ a1 ∧ a1 ≤ 2147483647) → (-2147483648 ≤ a2 ∧ a2 ≤ 2147483647) → kokw n σ → LX12_goWay_0 d n Q a0 a1 a2 σ) : Cv (d + 1) MX12_goWay [(2, a0), (0, a1), (0, a2)] n σ Q := Tri_of (by decide +kernel) (Nat.le_of_ble_eq_true rfl) (fun hk hw => h (hk (0, a1) (List.mem_of_getElem? (i := 1) rfl)) (hk (0, a2) (List.mem_of_getElem? (i := 2) rfl)) hw)

def LX12_goesIn_0 (d n : Nat) (Q : Int → kS → Prop) (a0 : Int) (σ : kS) : Prop := K (d + 1) MX12_goesIn (kPi n Q) (0, 0) 0 [(0, (2, a0))] [] n σ
theorem SX12_goesIn_0 {d n : Nat} {Q : Int → kS → Prop} {a0 : Int} {σ : kS} (h : isO 12 n a0 ∧ ((¬ (σ a0 20) = 6 → (-2147483648 ≤ ((σ a0 20) + 1) ∧ ((σ a0 20) + 1) ≤ 2147483647) ∧ (∀ s1, s1 = kst σ a0 20 ((σ a0 20) + 1) → (-2147483648 ≤ ((s1 a0 18) + 1) ∧ ((s1 a0 18) + 1) ≤ 2147483647) ∧ (∀ s2, s2 = kst s1 a0 18 ((s1 a0 18) + 1) → Q 1 s2))) ∧ (¬ (¬ (σ a0 20) = 6) → Ci d MX12_fails [(2, a0)] n σ (fun x2 s1 => (x2 = 0 ∨ x2 = 1) ∧ (Q x2 s1))))) : LX12_goesIn_0 d n Q a0 σ := by
  unfold LX12_goesIn_0
  refine K_aload_n 0 (kdA dt_MX12_goesIn 0 rfl) rfl rfl ?_
  obtain ⟨c1, h⟩ := h
  refine gf12_215 rfl (kdA dt_MX12_goesIn 1 rfl) c1 ?_
  refine K_bipush (kdA dt_MX12_goesIn 2 rfl) (by decide +kernel) ?_
  refine K_icmp_ne (tgt := 14) (kdA dt_MX12_goesIn 3 rfl) rfl (fun c => ?_) (fun c => ?_)
  · have h := h.1 c
    refine K_aload_n 0 (kdA dt_MX12_goesIn 7 rfl) rfl rfl ?_
    refine K_dup (kdA dt_MX12_goesIn 8 rfl) rfl ?_
    refine gf12_215 rfl (kdA dt_MX12_goesIn 9 rfl) c1 ?_
    refine K_iconst (kdA dt_MX12_goesIn 10 rfl) (by decide) ?_
    obtain ⟨c2, h⟩ := h
    refine K_iadd (kdA dt_MX12_goesIn 11 rfl) c2 ?_
    refine pf12_215 rfl (kdA dt_MX12_goesIn 12 rfl) c1 (fun s1 es1 => ?_)
    have h := h s1 es1
    refine K_aload_n 0 (kdA dt_MX12_goesIn 13 rfl) rfl rfl ?_
    refine K_dup (kdA dt_MX12_goesIn 14 rfl) rfl ?_
    refine gf12_203 rfl (kdA dt_MX12_goesIn 15 rfl) c1 ?_
    refine K_iconst (kdA dt_MX12_goesIn 16 rfl) (by decide) ?_
    obtain ⟨c3, h⟩ := h
    refine K_iadd (kdA dt_MX12_goesIn 17 rfl) c3 ?_
    refine pf12_203 rfl (kdA dt_MX12_goesIn 18 rfl) c1 (fun s2 es2 => ?_)
    have h := h s2 es2
    refine K_iconst (kdA dt_MX12_goesIn 19 rfl) (by decide) ?_
    exact K_zreturn (kdA dt_MX12_goesIn 20 rfl) rfl (Or.inr rfl) ⟨rfl, _, rfl, h⟩
  · have h := h.2 c
    refine K_aload_n 0 (kdA dt_MX12_goesIn 4 rfl) rfl rfl ?_
    refine K_cVi (c := 12) (as := []) (st := []) (kdA dt_MX12_goesIn 5 rfl) rfl cl_MX12_fails lk12_218 rfl rfl (Nat.le_of_ble_eq_true rfl) c1 (Ci.mono h (fun x2 s1 h => ?_))
    obtain ⟨c3, h⟩ := h
    exact K_zreturn (kdA dt_MX12_goesIn 6 rfl) rfl c3 ⟨rfl, _, rfl, h⟩
theorem EX12_goesIn {d n : Nat} {Q : Int → kS → Prop} {a0 : Int} {σ : kS} (h : kokw n σ → LX12_goesIn_0 d n Q a0 σ) : Ci (d + 1) MX12_goesIn [(2, a0)] n σ Q := Tri_of (by decide +kernel) (Nat.le_of_ble_eq_true rfl) (fun hk hw => h hw)

def LX12_has_0 (d n : Nat) (Q : Int → kS → Prop) (a0 : Int) (a1 : Int) (σ : kS) : Prop := K (d + 1) MX12_has (kPi n Q) (0, 0) 0 [(0, (0, a0)), (1, (0, a1))] [] n σ
theorem SX12_has_0 {d n : Nat} {Q : Int → kS → Prop} {a0 a1 : Int} {σ : kS} (h : (¬ (kand (kishr a0 a1) 1) = 1 → Q 0 σ) ∧ (¬ (¬ (kand (kishr a0 a1) 1) = 1) → Q 1 σ)) : LX12_has_0 d n Q a0 a1 σ := by
  unfold LX12_has_0
  refine K_iload_n 0 (kdA dt_MX12_has 0 rfl) rfl rfl ?_
  refine K_iload_n 1 (kdA dt_MX12_has 1 rfl) rfl rfl ?_
  refine K_ishr (kdA dt_MX12_has 2 rfl) ?_
  refine K_iconst (kdA dt_MX12_has 3 rfl) (by decide) ?_
  refine K_iand (kdA dt_MX12_has 4 rfl) ?_
  refine K_iconst (kdA dt_MX12_has 5 rfl) (by decide) ?_
  refine K_icmp_ne (tgt := 13) (kdA dt_MX12_has 6 rfl) rfl (fun c => ?_) (fun c => ?_)
  · have h := h.1 c
    refine K_iconst (kdA dt_MX12_has 9 rfl) (by decide) ?_
    exact K_zreturn (kdA dt_MX12_has 10 rfl) rfl (Or.inl rfl) ⟨rfl, _, rfl, h⟩
  · have h := h.2 c
    refine K_iconst (kdA dt_MX12_has 7 rfl) (by decide) ?_
    refine K_goto (tgt := 14) (kdA dt_MX12_has 8 rfl) rfl ?_
    exact K_zreturn (kdA dt_MX12_has 10 rfl) rfl (Or.inr rfl) ⟨rfl, _, rfl, h⟩
theorem EX12_has {d n : Nat} {Q : Int → kS → Prop} {a0 a1 : Int} {σ : kS} (h : (-2147483648 ≤ a0 ∧ a0 ≤ 2147483647) → (-2147483648 ≤ a1 ∧ a1 ≤ 2147483647) → kokw n σ → LX12_has_0 d n Q a0 a1 σ) : Ci (d + 1) MX12_has [(0, a0), (0, a1)] n σ Q := Tri_of (by decide +kernel) (Nat.le_of_ble_eq_true rfl) (fun hk hw => h (hk (0, a0) (List.mem_of_getElem? (i := 0) rfl)) (hk (0, a1) (List.mem_of_getElem? (i := 1) rfl)) hw)

def LX12_hedge_0 (d n : Nat) (Q : Int → kS → Prop) (a0 : Int) (a1 : Int) (a2 : Int) (a3 : Int) (σ : kS) : Prop := K (d + 1) MX12_hedge (kPi n Q) (0, 0) 0 [(0, (2, a0)), (1, (0, a1)), (2, (0, a2)), (3, (0, a3))] [] n σ
def LX12_hedge_43 (d n : Nat) (Q : Int → kS → Prop) (a0 : Int) (a1 : Int) (a2 : Int) (a3 : Int) (a4 : Int) (a5 : Int) (a6 : Int) (σ : kS) : Prop := K (d + 1) MX12_hedge (kPi n Q) (0, 0) 43 [(0, (2, a0)), (1, (0, a1)), (2, (0, a2)), (3, (0, a3)), (4, (0, a4)), (5, (0, a5)), (6, (0, a6))] [] n σ
def LX12_hedge_53 (d n : Nat) (Q : Int → kS → Prop) (a0 : Int) (a1 : Int) (a2 : Int) (a3 : Int) (a4 : Int) (a5 : Int) (a6 : Int) (a7 : Int) (σ : kS) : Prop := K (d + 1) MX12_hedge (kPi n Q) (0, 0) 53 [(0, (2, a0)), (1, (0, a1)), (2, (0, a2)), (3, (0, a3)), (4, (0, a4)), (5, (0, a5)), (6, (0, a6)), (7, (0, a7))] [] n σ
def LX12_hedge_86 (d n : Nat) (Q : Int → kS → Prop) (a0 : Int) (a1 : Int) (a2 : Int) (a3 : Int) (a4 : Int) (a5 : Int) (a6 : Int) (a7 : Int) (a8 : Int) (a9 : Int) (a10 : Int) (σ : kS) : Prop := K (d + 1) MX12_hedge (kPi n Q) (0, 0) 86 [(0, (2, a0)), (1, (0, a1)), (2, (0, a2)), (3, (0, a3)), (4, (0, a4)), (5, (0, a5)), (6, (0, a6)), (7, (0, a7)), (8, (0, a8)), (9, (0, a9)), (10, (0, a10))] [] n σ
theorem SX12_hedge_0 {d n : Nat} {Q : Int → kS → Prop} {a0 a1 a2 a3 : Int} {σ : kS} (h : isO 12 n a0 ∧ (∀ s1, s1 = kst σ a0 0 0 → Ci d MX12_isLine [(2, a0), (0, a1)] n s1 (fun x2 s2 => (x2 = 0 → Q (-1) s2) ∧ (¬ x2 = 0 → Ci d MX12_isIn [(0, a2), (0, 2), (0, 12)] n s2 (fun x3 s3 => (x3 = 0 → Q (-1) s3) ∧ (¬ x3 = 0 → Ci d MX12_isIn [(0, a3), (0, 0), (0, 1)] n s3 (fun x4 s4 => (¬ x4 = 0 → LX12_hedge_43 d n Q a0 a1 a2 a3 0 0 0 s4) ∧ (¬ (¬ x4 = 0) → Q (-1) s4)))))))) : LX12_hedge_0 d n Q a0 a1 a2 a3 σ := by
  unfold LX12_hedge_0
  refine K_aload_n 0 (kdA dt_MX12_hedge 0 rfl) rfl rfl ?_
  refine K_iconst (kdA dt_MX12_hedge 1 rfl) (by decide) ?_
  obtain ⟨c1, h⟩ := h
  refine pf12_149 rfl (kdA dt_MX12_hedge 2 rfl) c1 (fun s1 es1 => ?_)
  have h := h s1 es1
  refine K_aload_n 0 (kdA dt_MX12_hedge 3 rfl) rfl rfl ?_
  refine K_iload_n 1 (kdA dt_MX12_hedge 4 rfl) rfl rfl ?_
  refine K_cVi (c := 12) (as := [(0, a1)]) (st := []) (kdA dt_MX12_hedge 5 rfl) rfl cl_MX12_isLine lk12_383 rfl rfl (Nat.le_of_ble_eq_true rfl) c1 (Ci.mono h (fun x2 s2 h => ?_))
  refine K_if_eq (tgt := 32) (kdA dt_MX12_hedge 6 rfl) rfl (fun c => ?_) (fun c => ?_)
  · have h := h.1 c
    refine K_iconst (kdA dt_MX12_hedge 17 rfl) (by decide) ?_
    exact K_ireturn (kdA dt_MX12_hedge 18 rfl) rfl ⟨rfl, _, rfl, h⟩
  · have h := h.2 c
    refine K_iload_n 2 (kdA dt_MX12_hedge 7 rfl) rfl rfl ?_
    refine K_iconst (kdA dt_MX12_hedge 8 rfl) (by decide) ?_
    refine K_bipush (kdA dt_MX12_hedge 9 rfl) (by decide +kernel) ?_
    refine K_cSi (as := [(0, a2), (0, 2), (0, 12)]) (st := []) (kdA dt_MX12_hedge 10 rfl) cl_MX12_isIn lk12_153 rfl rfl (Nat.le_of_ble_eq_true rfl) (Ci.mono h (fun x3 s3 h => ?_))
    refine K_if_eq (tgt := 32) (kdA dt_MX12_hedge 11 rfl) rfl (fun c => ?_) (fun c => ?_)
    · have h := h.1 c
      refine K_iconst (kdA dt_MX12_hedge 17 rfl) (by decide) ?_
      exact K_ireturn (kdA dt_MX12_hedge 18 rfl) rfl ⟨rfl, _, rfl, h⟩
    · have h := h.2 c
      refine K_iload_n 3 (kdA dt_MX12_hedge 12 rfl) rfl rfl ?_
      refine K_iconst (kdA dt_MX12_hedge 13 rfl) (by decide) ?_
      refine K_iconst (kdA dt_MX12_hedge 14 rfl) (by decide) ?_
      refine K_cSi (as := [(0, a3), (0, 0), (0, 1)]) (st := []) (kdA dt_MX12_hedge 15 rfl) cl_MX12_isIn lk12_153 rfl rfl (Nat.le_of_ble_eq_true rfl) (Ci.mono h (fun x4 s4 h => ?_))
      refine K_if_ne (tgt := 34) (kdA dt_MX12_hedge 16 rfl) rfl (fun c => ?_) (fun c => ?_)
      · have h := h.1 c
        refine K_iconst (kdA dt_MX12_hedge 19 rfl) (by decide) ?_
        refine K_istore (ls' := [(0, (2, a0)), (1, (0, a1)), (2, (0, a2)), (3, (0, a3)), (4, (0, 0))]) (kdA dt_MX12_hedge 20 rfl) (by decide) rfl ?_
        refine K_iconst (kdA dt_MX12_hedge 21 rfl) (by decide) ?_
        refine K_istore (ls' := [(0, (2, a0)), (1, (0, a1)), (2, (0, a2)), (3, (0, a3)), (4, (0, 0)), (5, (0, 0))]) (kdA dt_MX12_hedge 22 rfl) (by decide) rfl ?_
        refine K_iconst (kdA dt_MX12_hedge 23 rfl) (by decide) ?_
        refine K_istore (ls' := [(0, (2, a0)), (1, (0, a1)), (2, (0, a2)), (3, (0, a3)), (4, (0, 0)), (5, (0, 0)), (6, (0, 0))]) (kdA dt_MX12_hedge 24 rfl) (by decide) rfl ?_
        exact h
      · have h := h.2 c
        refine K_iconst (kdA dt_MX12_hedge 17 rfl) (by decide) ?_
        exact K_ireturn (kdA dt_MX12_hedge 18 rfl) rfl ⟨rfl, _, rfl, h⟩
theorem SX12_hedge_43 {d n : Nat} {Q : Int → kS → Prop} {a0 a1 a2 a3 a4 a5 a6 : Int} {σ : kS} (h : (120 ≤ a6 → (¬ a3 = 0 → Q a5 σ) ∧ (¬ (¬ a3 = 0) → Q a4 σ)) ∧ (¬ 120 ≤ a6 → LX12_hedge_53 d n Q a0 a1 a2 a3 a4 a5 a6 2 σ)) : LX12_hedge_43 d n Q a0 a1 a2 a3 a4 a5 a6 σ := by
  unfold LX12_hedge_43
  refine K_iload 6 (kdA dt_MX12_hedge 25 rfl) rfl ?_
  refine K_bipush (kdA dt_MX12_hedge 26 rfl) (by decide +kernel) ?_
  refine K_icmp_ge (tgt := 192) (kdA dt_MX12_hedge 27 rfl) rfl (fun c => ?_) (fun c => ?_)
  · have h := h.1 c
    refine K_iload_n 3 (kdA dt_MX12_hedge 100 rfl) rfl rfl ?_
    refine K_if_ne (tgt := 201) (kdA dt_MX12_hedge 101 rfl) rfl (fun c => ?_) (fun c => ?_)
    · have h := h.1 c
      refine K_iload 5 (kdA dt_MX12_hedge 104 rfl) rfl ?_
      exact K_ireturn (kdA dt_MX12_hedge 105 rfl) rfl ⟨rfl, _, rfl, h⟩
    · have h := h.2 c
      refine K_iload 4 (kdA dt_MX12_hedge 102 rfl) rfl ?_
      refine K_goto (tgt := 203) (kdA dt_MX12_hedge 103 rfl) rfl ?_
      exact K_ireturn (kdA dt_MX12_hedge 105 rfl) rfl ⟨rfl, _, rfl, h⟩
  · have h := h.2 c
    refine K_iconst (kdA dt_MX12_hedge 28 rfl) (by decide) ?_
    refine K_istore (ls' := [(0, (2, a0)), (1, (0, a1)), (2, (0, a2)), (3, (0, a3)), (4, (0, a4)), (5, (0, a5)), (6, (0, a6)), (7, (0, 2))]) (kdA dt_MX12_hedge 29 rfl) (by decide) rfl ?_
    exact h
theorem SX12_hedge_53 {d n : Nat} {Q : Int → kS → Prop} {a0 a1 a2 a3 a4 a5 a6 a7 : Int} {σ : kS} (h : (6 ≤ a7 → (-2147483648 ≤ (a6 + 1) ∧ (a6 + 1) ≤ 2147483647) ∧ (LX12_hedge_43 d n Q a0 a1 a2 a3 a4 a5 (a6 + 1) σ)) ∧ (¬ 6 ≤ a7 → isO 12 n a0 ∧ (Ci d MX12_farFrom [(2, a0), (0, a1), (0, 0), (0, 0), (0, a6)] n σ (fun x2 s1 => (¬ x2 = 0 → LX12_hedge_86 d n Q a0 a1 a2 a3 a4 a5 a6 a7 a6 0 1 s1) ∧ (¬ (¬ x2 = 0) → LX12_hedge_86 d n Q a0 a1 a2 a3 a4 a5 a6 a7 a6 1 1 s1))))) : LX12_hedge_53 d n Q a0 a1 a2 a3 a4 a5 a6 a7 σ := by
  unfold LX12_hedge_53
  refine K_iload 7 (kdA dt_MX12_hedge 30 rfl) rfl ?_
  refine K_bipush (kdA dt_MX12_hedge 31 rfl) (by decide +kernel) ?_
  refine K_icmp_ge (tgt := 186) (kdA dt_MX12_hedge 32 rfl) rfl (fun c => ?_) (fun c => ?_)
  · have h := h.1 c
    obtain ⟨c1, h⟩ := h
    refine K_iinc (ls' := [(0, (2, a0)), (1, (0, a1)), (2, (0, a2)), (3, (0, a3)), (4, (0, a4)), (5, (0, a5)), (6, (0, (a6 + 1))), (7, (0, a7))]) 6 (kdA dt_MX12_hedge 98 rfl) rfl c1 (by decide) rfl ?_
    refine K_goto (tgt := 43) (kdA dt_MX12_hedge 99 rfl) rfl ?_
    refine K_pick [0, 1, 2, 3, 4, 5, 6] (ls' := [(0, (2, a0)), (1, (0, a1)), (2, (0, a2)), (3, (0, a3)), (4, (0, a4)), (5, (0, a5)), (6, (0, (a6 + 1)))]) rfl ?_
    exact h
  · have h := h.2 c
    refine K_iload 6 (kdA dt_MX12_hedge 33 rfl) rfl ?_
    refine K_istore (ls' := [(0, (2, a0)), (1, (0, a1)), (2, (0, a2)), (3, (0, a3)), (4, (0, a4)), (5, (0, a5)), (6, (0, a6)), (7, (0, a7)), (8, (0, a6))]) (kdA dt_MX12_hedge 34 rfl) (by decide) rfl ?_
    refine K_aload_n 0 (kdA dt_MX12_hedge 35 rfl) rfl rfl ?_
    refine K_iload_n 1 (kdA dt_MX12_hedge 36 rfl) rfl rfl ?_
    refine K_iconst (kdA dt_MX12_hedge 37 rfl) (by decide) ?_
    refine K_iconst (kdA dt_MX12_hedge 38 rfl) (by decide) ?_
    refine K_iload 6 (kdA dt_MX12_hedge 39 rfl) rfl ?_
    obtain ⟨c1, h⟩ := h
    refine K_cVi (c := 12) (as := [(0, a1), (0, 0), (0, 0), (0, a6)]) (st := []) (kdA dt_MX12_hedge 40 rfl) rfl cl_MX12_farFrom lk12_406 rfl rfl (Nat.le_of_ble_eq_true rfl) c1 (Ci.mono h (fun x2 s1 h => ?_))
    refine K_if_ne (tgt := 80) (kdA dt_MX12_hedge 41 rfl) rfl (fun c => ?_) (fun c => ?_)
    · have h := h.1 c
      refine K_iconst (kdA dt_MX12_hedge 44 rfl) (by decide) ?_
      refine K_istore (ls' := [(0, (2, a0)), (1, (0, a1)), (2, (0, a2)), (3, (0, a3)), (4, (0, a4)), (5, (0, a5)), (6, (0, a6)), (7, (0, a7)), (8, (0, a6)), (9, (0, 0))]) (kdA dt_MX12_hedge 45 rfl) (by decide) rfl ?_
      refine K_iconst (kdA dt_MX12_hedge 46 rfl) (by decide) ?_
      refine K_istore (ls' := [(0, (2, a0)), (1, (0, a1)), (2, (0, a2)), (3, (0, a3)), (4, (0, a4)), (5, (0, a5)), (6, (0, a6)), (7, (0, a7)), (8, (0, a6)), (9, (0, 0)), (10, (0, 1))]) (kdA dt_MX12_hedge 47 rfl) (by decide) rfl ?_
      exact h
    · have h := h.2 c
      refine K_iconst (kdA dt_MX12_hedge 42 rfl) (by decide) ?_
      refine K_goto (tgt := 81) (kdA dt_MX12_hedge 43 rfl) rfl ?_
      refine K_istore (ls' := [(0, (2, a0)), (1, (0, a1)), (2, (0, a2)), (3, (0, a3)), (4, (0, a4)), (5, (0, a5)), (6, (0, a6)), (7, (0, a7)), (8, (0, a6)), (9, (0, 1))]) (kdA dt_MX12_hedge 45 rfl) (by decide) rfl ?_
      refine K_iconst (kdA dt_MX12_hedge 46 rfl) (by decide) ?_
      refine K_istore (ls' := [(0, (2, a0)), (1, (0, a1)), (2, (0, a2)), (3, (0, a3)), (4, (0, a4)), (5, (0, a5)), (6, (0, a6)), (7, (0, a7)), (8, (0, a6)), (9, (0, 1)), (10, (0, 1))]) (kdA dt_MX12_hedge 47 rfl) (by decide) rfl ?_
      exact h
theorem SX12_hedge_86 {d n : Nat} {Q : Int → kS → Prop} {a0 a1 a2 a3 a4 a5 a6 a7 a8 a9 a10 : Int} {σ : kS} (h : (a2 ≤ a10 → (a8 = (-1) → (-2147483648 ≤ (a5 + 0) ∧ (a5 + 0) ≤ 2147483647) ∧ ((a8 = (-1) → (-2147483648 ≤ (a4 + 0) ∧ (a4 + 0) ≤ 2147483647) ∧ ((-2147483648 ≤ (a7 + 1) ∧ (a7 + 1) ≤ 2147483647) ∧ (LX12_hedge_53 d n Q a0 a1 a2 a3 (a4 + 0) (a5 + 0) a6 (a7 + 1) σ))) ∧ (¬ a8 = (-1) → (a9 = 0 → (-2147483648 ≤ (a4 + 0) ∧ (a4 + 0) ≤ 2147483647) ∧ ((-2147483648 ≤ (a7 + 1) ∧ (a7 + 1) ≤ 2147483647) ∧ (LX12_hedge_53 d n Q a0 a1 a2 a3 (a4 + 0) (a5 + 0) a6 (a7 + 1) σ))) ∧ (¬ a9 = 0 → (-2147483648 ≤ (a4 + 1) ∧ (a4 + 1) ≤ 2147483647) ∧ ((-2147483648 ≤ (a7 + 1) ∧ (a7 + 1) ≤ 2147483647) ∧ (LX12_hedge_53 d n Q a0 a1 a2 a3 (a4 + 1) (a5 + 0) a6 (a7 + 1) σ)))))) ∧ (¬ a8 = (-1) → (-2147483648 ≤ (a5 + 1) ∧ (a5 + 1) ≤ 2147483647) ∧ ((a8 = (-1) → (-2147483648 ≤ (a4 + 0) ∧ (a4 + 0) ≤ 2147483647) ∧ ((-2147483648 ≤ (a7 + 1) ∧ (a7 + 1) ≤ 2147483647) ∧ (LX12_hedge_53 d n Q a0 a1 a2 a3 (a4 + 0) (a5 + 1) a6 (a7 + 1) σ))) ∧ (¬ a8 = (-1) → (a9 = 0 → (-2147483648 ≤ (a4 + 0) ∧ (a4 + 0) ≤ 2147483647) ∧ ((-2147483648 ≤ (a7 + 1) ∧ (a7 + 1) ≤ 2147483647) ∧ (LX12_hedge_53 d n Q a0 a1 a2 a3 (a4 + 0) (a5 + 1) a6 (a7 + 1) σ))) ∧ (¬ a9 = 0 → (-2147483648 ≤ (a4 + 1) ∧ (a4 + 1) ≤ 2147483647) ∧ ((-2147483648 ≤ (a7 + 1) ∧ (a7 + 1) ≤ 2147483647) ∧ (LX12_hedge_53 d n Q a0 a1 a2 a3 (a4 + 1) (a5 + 1) a6 (a7 + 1) σ))))))) ∧ (¬ a2 ≤ a10 → (a8 = (-1) → (a8 = (-1) → (-2147483648 ≤ (a5 + 0) ∧ (a5 + 0) ≤ 2147483647) ∧ ((a8 = (-1) → (-2147483648 ≤ (a4 + 0) ∧ (a4 + 0) ≤ 2147483647) ∧ ((-2147483648 ≤ (a7 + 1) ∧ (a7 + 1) ≤ 2147483647) ∧ (LX12_hedge_53 d n Q a0 a1 a2 a3 (a4 + 0) (a5 + 0) a6 (a7 + 1) σ))) ∧ (¬ a8 = (-1) → (a9 = 0 → (-2147483648 ≤ (a4 + 0) ∧ (a4 + 0) ≤ 2147483647) ∧ ((-2147483648 ≤ (a7 + 1) ∧ (a7 + 1) ≤ 2147483647) ∧ (LX12_hedge_53 d n Q a0 a1 a2 a3 (a4 + 0) (a5 + 0) a6 (a7 + 1) σ))) ∧ (¬ a9 = 0 → (-2147483648 ≤ (a4 + 1) ∧ (a4 + 1) ≤ 2147483647) ∧ ((-2147483648 ≤ (a7 + 1) ∧ (a7 + 1) ≤ 2147483647) ∧ (LX12_hedge_53 d n Q a0 a1 a2 a3 (a4 + 1) (a5 + 0) a6 (a7 + 1) σ)))))) ∧ (¬ a8 = (-1) → (-2147483648 ≤ (a5 + 1) ∧ (a5 + 1) ≤ 2147483647) ∧ ((a8 = (-1) → (-2147483648 ≤ (a4 + 0) ∧ (a4 + 0) ≤ 2147483647) ∧ ((-2147483648 ≤ (a7 + 1) ∧ (a7 + 1) ≤ 2147483647) ∧ (LX12_hedge_53 d n Q a0 a1 a2 a3 (a4 + 0) (a5 + 1) a6 (a7 + 1) σ))) ∧ (¬ a8 = (-1) → (a9 = 0 → (-2147483648 ≤ (a4 + 0) ∧ (a4 + 0) ≤ 2147483647) ∧ ((-2147483648 ≤ (a7 + 1) ∧ (a7 + 1) ≤ 2147483647) ∧ (LX12_hedge_53 d n Q a0 a1 a2 a3 (a4 + 0) (a5 + 1) a6 (a7 + 1) σ))) ∧ (¬ a9 = 0 → (-2147483648 ≤ (a4 + 1) ∧ (a4 + 1) ≤ 2147483647) ∧ ((-2147483648 ≤ (a7 + 1) ∧ (a7 + 1) ≤ 2147483647) ∧ (LX12_hedge_53 d n Q a0 a1 a2 a3 (a4 + 1) (a5 + 1) a6 (a7 + 1) σ))))))) ∧ (¬ a8 = (-1) → Ci d MX12_step [(0, a8), (0, a7)] n σ (fun x1 s1 => (a9 = 0 → (-2147483648 ≤ (a10 + 1) ∧ (a10 + 1) ≤ 2147483647) ∧ (LX12_hedge_86 d n Q a0 a1 a2 a3 a4 a5 a6 a7 x1 0 (a10 + 1) s1)) ∧ (¬ a9 = 0 → (x1 = (-1) → (-2147483648 ≤ (a10 + 1) ∧ (a10 + 1) ≤ 2147483647) ∧ (LX12_hedge_86 d n Q a0 a1 a2 a3 a4 a5 a6 a7 x1 0 (a10 + 1) s1)) ∧ (¬ x1 = (-1) → isO 12 n a0 ∧ (Ci d MX12_farFrom [(2, a0), (0, a1), (0, 0), (0, 0), (0, x1)] n s1 (fun x3 s2 => (¬ x3 = 0 → (-2147483648 ≤ (a10 + 1) ∧ (a10 + 1) ≤ 2147483647) ∧ (LX12_hedge_86 d n Q a0 a1 a2 a3 a4 a5 a6 a7 x1 0 (a10 + 1) s2)) ∧ (¬ (¬ x3 = 0) → (-2147483648 ≤ (a10 + 1) ∧ (a10 + 1) ≤ 2147483647) ∧ (LX12_hedge_86 d n Q a0 a1 a2 a3 a4 a5 a6 a7 x1 1 (a10 + 1) s2)))))))))) : LX12_hedge_86 d n Q a0 a1 a2 a3 a4 a5 a6 a7 a8 a9 a10 σ := by
  unfold LX12_hedge_86
  refine K_iload 10 (kdA dt_MX12_hedge 48 rfl) rfl ?_
  refine K_iload_n 2 (kdA dt_MX12_hedge 49 rfl) rfl rfl ?_
  refine K_icmp_ge (tgt := 143) (kdA dt_MX12_hedge 50 rfl) rfl (fun c => ?_) (fun c => ?_)
  · have h := h.1 c
    refine K_iload 5 (kdA dt_MX12_hedge 76 rfl) rfl ?_
    refine K_iload 8 (kdA dt_MX12_hedge 77 rfl) rfl ?_
    refine K_iconst (kdA dt_MX12_hedge 78 rfl) (by decide) ?_
    refine K_icmp_eq (tgt := 155) (kdA dt_MX12_hedge 79 rfl) rfl (fun c => ?_) (fun c => ?_)
    · have h := h.1 c
      refine K_iconst (kdA dt_MX12_hedge 82 rfl) (by decide) ?_
      obtain ⟨c1, h⟩ := h
      refine K_iadd (kdA dt_MX12_hedge 83 rfl) c1 ?_
      refine K_istore (ls' := [(0, (2, a0)), (1, (0, a1)), (2, (0, a2)), (3, (0, a3)), (4, (0, a4)), (5, (0, (a5 + 0))), (6, (0, a6)), (7, (0, a7)), (8, (0, a8)), (9, (0, a9)), (10, (0, a10))]) (kdA dt_MX12_hedge 84 rfl) (by decide) rfl ?_
      refine K_iload 4 (kdA dt_MX12_hedge 85 rfl) rfl ?_
      refine K_iload 8 (kdA dt_MX12_hedge 86 rfl) rfl ?_
      refine K_iconst (kdA dt_MX12_hedge 87 rfl) (by decide) ?_
      refine K_icmp_eq (tgt := 176) (kdA dt_MX12_hedge 88 rfl) rfl (fun c => ?_) (fun c => ?_)
      · have h := h.1 c
        refine K_iconst (kdA dt_MX12_hedge 93 rfl) (by decide) ?_
        obtain ⟨c2, h⟩ := h
        refine K_iadd (kdA dt_MX12_hedge 94 rfl) c2 ?_
        refine K_istore (ls' := [(0, (2, a0)), (1, (0, a1)), (2, (0, a2)), (3, (0, a3)), (4, (0, (a4 + 0))), (5, (0, (a5 + 0))), (6, (0, a6)), (7, (0, a7)), (8, (0, a8)), (9, (0, a9)), (10, (0, a10))]) (kdA dt_MX12_hedge 95 rfl) (by decide) rfl ?_
        obtain ⟨c3, h⟩ := h
        refine K_iinc (ls' := [(0, (2, a0)), (1, (0, a1)), (2, (0, a2)), (3, (0, a3)), (4, (0, (a4 + 0))), (5, (0, (a5 + 0))), (6, (0, a6)), (7, (0, (a7 + 1))), (8, (0, a8)), (9, (0, a9)), (10, (0, a10))]) 7 (kdA dt_MX12_hedge 96 rfl) rfl c3 (by decide) rfl ?_
        refine K_goto (tgt := 53) (kdA dt_MX12_hedge 97 rfl) rfl ?_
        refine K_pick [0, 1, 2, 3, 4, 5, 6, 7] (ls' := [(0, (2, a0)), (1, (0, a1)), (2, (0, a2)), (3, (0, a3)), (4, (0, (a4 + 0))), (5, (0, (a5 + 0))), (6, (0, a6)), (7, (0, (a7 + 1)))]) rfl ?_
        exact h
      · have h := h.2 c
        refine K_iload 9 (kdA dt_MX12_hedge 89 rfl) rfl ?_
        refine K_if_eq (tgt := 176) (kdA dt_MX12_hedge 90 rfl) rfl (fun c => ?_) (fun c => ?_)
        · have h := h.1 c
          refine K_iconst (kdA dt_MX12_hedge 93 rfl) (by decide) ?_
          obtain ⟨c2, h⟩ := h
          refine K_iadd (kdA dt_MX12_hedge 94 rfl) c2 ?_
          refine K_istore (ls' := [(0, (2, a0)), (1, (0, a1)), (2, (0, a2)), (3, (0, a3)), (4, (0, (a4 + 0))), (5, (0, (a5 + 0))), (6, (0, a6)), (7, (0, a7)), (8, (0, a8)), (9, (0, a9)), (10, (0, a10))]) (kdA dt_MX12_hedge 95 rfl) (by decide) rfl ?_
          obtain ⟨c3, h⟩ := h
          refine K_iinc (ls' := [(0, (2, a0)), (1, (0, a1)), (2, (0, a2)), (3, (0, a3)), (4, (0, (a4 + 0))), (5, (0, (a5 + 0))), (6, (0, a6)), (7, (0, (a7 + 1))), (8, (0, a8)), (9, (0, a9)), (10, (0, a10))]) 7 (kdA dt_MX12_hedge 96 rfl) rfl c3 (by decide) rfl ?_
          refine K_goto (tgt := 53) (kdA dt_MX12_hedge 97 rfl) rfl ?_
          refine K_pick [0, 1, 2, 3, 4, 5, 6, 7] (ls' := [(0, (2, a0)), (1, (0, a1)), (2, (0, a2)), (3, (0, a3)), (4, (0, (a4 + 0))), (5, (0, (a5 + 0))), (6, (0, a6)), (7, (0, (a7 + 1)))]) rfl ?_
          exact h
        · have h := h.2 c
          refine K_iconst (kdA dt_MX12_hedge 91 rfl) (by decide) ?_
          refine K_goto (tgt := 177) (kdA dt_MX12_hedge 92 rfl) rfl ?_
          obtain ⟨c2, h⟩ := h
          refine K_iadd (kdA dt_MX12_hedge 94 rfl) c2 ?_
          refine K_istore (ls' := [(0, (2, a0)), (1, (0, a1)), (2, (0, a2)), (3, (0, a3)), (4, (0, (a4 + 1))), (5, (0, (a5 + 0))), (6, (0, a6)), (7, (0, a7)), (8, (0, a8)), (9, (0, a9)), (10, (0, a10))]) (kdA dt_MX12_hedge 95 rfl) (by decide) rfl ?_
          obtain ⟨c3, h⟩ := h
          refine K_iinc (ls' := [(0, (2, a0)), (1, (0, a1)), (2, (0, a2)), (3, (0, a3)), (4, (0, (a4 + 1))), (5, (0, (a5 + 0))), (6, (0, a6)), (7, (0, (a7 + 1))), (8, (0, a8)), (9, (0, a9)), (10, (0, a10))]) 7 (kdA dt_MX12_hedge 96 rfl) rfl c3 (by decide) rfl ?_
          refine K_goto (tgt := 53) (kdA dt_MX12_hedge 97 rfl) rfl ?_
          refine K_pick [0, 1, 2, 3, 4, 5, 6, 7] (ls' := [(0, (2, a0)), (1, (0, a1)), (2, (0, a2)), (3, (0, a3)), (4, (0, (a4 + 1))), (5, (0, (a5 + 0))), (6, (0, a6)), (7, (0, (a7 + 1)))]) rfl ?_
          exact h
    · have h := h.2 c
      refine K_iconst (kdA dt_MX12_hedge 80 rfl) (by decide) ?_
      refine K_goto (tgt := 156) (kdA dt_MX12_hedge 81 rfl) rfl ?_
      obtain ⟨c1, h⟩ := h
      refine K_iadd (kdA dt_MX12_hedge 83 rfl) c1 ?_
      refine K_istore (ls' := [(0, (2, a0)), (1, (0, a1)), (2, (0, a2)), (3, (0, a3)), (4, (0, a4)), (5, (0, (a5 + 1))), (6, (0, a6)), (7, (0, a7)), (8, (0, a8)), (9, (0, a9)), (10, (0, a10))]) (kdA dt_MX12_hedge 84 rfl) (by decide) rfl ?_
      refine K_iload 4 (kdA dt_MX12_hedge 85 rfl) rfl ?_
      refine K_iload 8 (kdA dt_MX12_hedge 86 rfl) rfl ?_
      refine K_iconst (kdA dt_MX12_hedge 87 rfl) (by decide) ?_
      refine K_icmp_eq (tgt := 176) (kdA dt_MX12_hedge 88 rfl) rfl (fun c => ?_) (fun c => ?_)
      · have h := h.1 c
        refine K_iconst (kdA dt_MX12_hedge 93 rfl) (by decide) ?_
        obtain ⟨c2, h⟩ := h
        refine K_iadd (kdA dt_MX12_hedge 94 rfl) c2 ?_
        refine K_istore (ls' := [(0, (2, a0)), (1, (0, a1)), (2, (0, a2)), (3, (0, a3)), (4, (0, (a4 + 0))), (5, (0, (a5 + 1))), (6, (0, a6)), (7, (0, a7)), (8, (0, a8)), (9, (0, a9)), (10, (0, a10))]) (kdA dt_MX12_hedge 95 rfl) (by decide) rfl ?_
        obtain ⟨c3, h⟩ := h
        refine K_iinc (ls' := [(0, (2, a0)), (1, (0, a1)), (2, (0, a2)), (3, (0, a3)), (4, (0, (a4 + 0))), (5, (0, (a5 + 1))), (6, (0, a6)), (7, (0, (a7 + 1))), (8, (0, a8)), (9, (0, a9)), (10, (0, a10))]) 7 (kdA dt_MX12_hedge 96 rfl) rfl c3 (by decide) rfl ?_
        refine K_goto (tgt := 53) (kdA dt_MX12_hedge 97 rfl) rfl ?_
        refine K_pick [0, 1, 2, 3, 4, 5, 6, 7] (ls' := [(0, (2, a0)), (1, (0, a1)), (2, (0, a2)), (3, (0, a3)), (4, (0, (a4 + 0))), (5, (0, (a5 + 1))), (6, (0, a6)), (7, (0, (a7 + 1)))]) rfl ?_
        exact h
      · have h := h.2 c
        refine K_iload 9 (kdA dt_MX12_hedge 89 rfl) rfl ?_
        refine K_if_eq (tgt := 176) (kdA dt_MX12_hedge 90 rfl) rfl (fun c => ?_) (fun c => ?_)
        · have h := h.1 c
          refine K_iconst (kdA dt_MX12_hedge 93 rfl) (by decide) ?_
          obtain ⟨c2, h⟩ := h
          refine K_iadd (kdA dt_MX12_hedge 94 rfl) c2 ?_
          refine K_istore (ls' := [(0, (2, a0)), (1, (0, a1)), (2, (0, a2)), (3, (0, a3)), (4, (0, (a4 + 0))), (5, (0, (a5 + 1))), (6, (0, a6)), (7, (0, a7)), (8, (0, a8)), (9, (0, a9)), (10, (0, a10))]) (kdA dt_MX12_hedge 95 rfl) (by decide) rfl ?_
          obtain ⟨c3, h⟩ := h
          refine K_iinc (ls' := [(0, (2, a0)), (1, (0, a1)), (2, (0, a2)), (3, (0, a3)), (4, (0, (a4 + 0))), (5, (0, (a5 + 1))), (6, (0, a6)), (7, (0, (a7 + 1))), (8, (0, a8)), (9, (0, a9)), (10, (0, a10))]) 7 (kdA dt_MX12_hedge 96 rfl) rfl c3 (by decide) rfl ?_
          refine K_goto (tgt := 53) (kdA dt_MX12_hedge 97 rfl) rfl ?_
          refine K_pick [0, 1, 2, 3, 4, 5, 6, 7] (ls' := [(0, (2, a0)), (1, (0, a1)), (2, (0, a2)), (3, (0, a3)), (4, (0, (a4 + 0))), (5, (0, (a5 + 1))), (6, (0, a6)), (7, (0, (a7 + 1)))]) rfl ?_
          exact h
        · have h := h.2 c
          refine K_iconst (kdA dt_MX12_hedge 91 rfl) (by decide) ?_
          refine K_goto (tgt := 177) (kdA dt_MX12_hedge 92 rfl) rfl ?_
          obtain ⟨c2, h⟩ := h
          refine K_iadd (kdA dt_MX12_hedge 94 rfl) c2 ?_
          refine K_istore (ls' := [(0, (2, a0)), (1, (0, a1)), (2, (0, a2)), (3, (0, a3)), (4, (0, (a4 + 1))), (5, (0, (a5 + 1))), (6, (0, a6)), (7, (0, a7)), (8, (0, a8)), (9, (0, a9)), (10, (0, a10))]) (kdA dt_MX12_hedge 95 rfl) (by decide) rfl ?_
          obtain ⟨c3, h⟩ := h
          refine K_iinc (ls' := [(0, (2, a0)), (1, (0, a1)), (2, (0, a2)), (3, (0, a3)), (4, (0, (a4 + 1))), (5, (0, (a5 + 1))), (6, (0, a6)), (7, (0, (a7 + 1))), (8, (0, a8)), (9, (0, a9)), (10, (0, a10))]) 7 (kdA dt_MX12_hedge 96 rfl) rfl c3 (by decide) rfl ?_
          refine K_goto (tgt := 53) (kdA dt_MX12_hedge 97 rfl) rfl ?_
          refine K_pick [0, 1, 2, 3, 4, 5, 6, 7] (ls' := [(0, (2, a0)), (1, (0, a1)), (2, (0, a2)), (3, (0, a3)), (4, (0, (a4 + 1))), (5, (0, (a5 + 1))), (6, (0, a6)), (7, (0, (a7 + 1)))]) rfl ?_
          exact h
  · have h := h.2 c
    refine K_iload 8 (kdA dt_MX12_hedge 51 rfl) rfl ?_
    refine K_iconst (kdA dt_MX12_hedge 52 rfl) (by decide) ?_
    refine K_icmp_eq (tgt := 143) (kdA dt_MX12_hedge 53 rfl) rfl (fun c => ?_) (fun c => ?_)
    · have h := h.1 c
      refine K_iload 5 (kdA dt_MX12_hedge 76 rfl) rfl ?_
      refine K_iload 8 (kdA dt_MX12_hedge 77 rfl) rfl ?_
      refine K_iconst (kdA dt_MX12_hedge 78 rfl) (by decide) ?_
      refine K_icmp_eq (tgt := 155) (kdA dt_MX12_hedge 79 rfl) rfl (fun c => ?_) (fun c => ?_)
      · have h := h.1 c
        refine K_iconst (kdA dt_MX12_hedge 82 rfl) (by decide) ?_
        obtain ⟨c1, h⟩ := h
        refine K_iadd (kdA dt_MX12_hedge 83 rfl) c1 ?_
        refine K_istore (ls' := [(0, (2, a0)), (1, (0, a1)), (2, (0, a2)), (3, (0, a3)), (4, (0, a4)), (5, (0, (a5 + 0))), (6, (0, a6)), (7, (0, a7)), (8, (0, a8)), (9, (0, a9)), (10, (0, a10))]) (kdA dt_MX12_hedge 84 rfl) (by decide) rfl ?_
        refine K_iload 4 (kdA dt_MX12_hedge 85 rfl) rfl ?_
        refine K_iload 8 (kdA dt_MX12_hedge 86 rfl) rfl ?_
        refine K_iconst (kdA dt_MX12_hedge 87 rfl) (by decide) ?_
        refine K_icmp_eq (tgt := 176) (kdA dt_MX12_hedge 88 rfl) rfl (fun c => ?_) (fun c => ?_)
        · have h := h.1 c
          refine K_iconst (kdA dt_MX12_hedge 93 rfl) (by decide) ?_
          obtain ⟨c2, h⟩ := h
          refine K_iadd (kdA dt_MX12_hedge 94 rfl) c2 ?_
          refine K_istore (ls' := [(0, (2, a0)), (1, (0, a1)), (2, (0, a2)), (3, (0, a3)), (4, (0, (a4 + 0))), (5, (0, (a5 + 0))), (6, (0, a6)), (7, (0, a7)), (8, (0, a8)), (9, (0, a9)), (10, (0, a10))]) (kdA dt_MX12_hedge 95 rfl) (by decide) rfl ?_
          obtain ⟨c3, h⟩ := h
          refine K_iinc (ls' := [(0, (2, a0)), (1, (0, a1)), (2, (0, a2)), (3, (0, a3)), (4, (0, (a4 + 0))), (5, (0, (a5 + 0))), (6, (0, a6)), (7, (0, (a7 + 1))), (8, (0, a8)), (9, (0, a9)), (10, (0, a10))]) 7 (kdA dt_MX12_hedge 96 rfl) rfl c3 (by decide) rfl ?_
          refine K_goto (tgt := 53) (kdA dt_MX12_hedge 97 rfl) rfl ?_
          refine K_pick [0, 1, 2, 3, 4, 5, 6, 7] (ls' := [(0, (2, a0)), (1, (0, a1)), (2, (0, a2)), (3, (0, a3)), (4, (0, (a4 + 0))), (5, (0, (a5 + 0))), (6, (0, a6)), (7, (0, (a7 + 1)))]) rfl ?_
          exact h
        · have h := h.2 c
          refine K_iload 9 (kdA dt_MX12_hedge 89 rfl) rfl ?_
          refine K_if_eq (tgt := 176) (kdA dt_MX12_hedge 90 rfl) rfl (fun c => ?_) (fun c => ?_)
          · have h := h.1 c
            refine K_iconst (kdA dt_MX12_hedge 93 rfl) (by decide) ?_
            obtain ⟨c2, h⟩ := h
            refine K_iadd (kdA dt_MX12_hedge 94 rfl) c2 ?_
            refine K_istore (ls' := [(0, (2, a0)), (1, (0, a1)), (2, (0, a2)), (3, (0, a3)), (4, (0, (a4 + 0))), (5, (0, (a5 + 0))), (6, (0, a6)), (7, (0, a7)), (8, (0, a8)), (9, (0, a9)), (10, (0, a10))]) (kdA dt_MX12_hedge 95 rfl) (by decide) rfl ?_
            obtain ⟨c3, h⟩ := h
            refine K_iinc (ls' := [(0, (2, a0)), (1, (0, a1)), (2, (0, a2)), (3, (0, a3)), (4, (0, (a4 + 0))), (5, (0, (a5 + 0))), (6, (0, a6)), (7, (0, (a7 + 1))), (8, (0, a8)), (9, (0, a9)), (10, (0, a10))]) 7 (kdA dt_MX12_hedge 96 rfl) rfl c3 (by decide) rfl ?_
            refine K_goto (tgt := 53) (kdA dt_MX12_hedge 97 rfl) rfl ?_
            refine K_pick [0, 1, 2, 3, 4, 5, 6, 7] (ls' := [(0, (2, a0)), (1, (0, a1)), (2, (0, a2)), (3, (0, a3)), (4, (0, (a4 + 0))), (5, (0, (a5 + 0))), (6, (0, a6)), (7, (0, (a7 + 1)))]) rfl ?_
            exact h
          · have h := h.2 c
            refine K_iconst (kdA dt_MX12_hedge 91 rfl) (by decide) ?_
            refine K_goto (tgt := 177) (kdA dt_MX12_hedge 92 rfl) rfl ?_
            obtain ⟨c2, h⟩ := h
            refine K_iadd (kdA dt_MX12_hedge 94 rfl) c2 ?_
            refine K_istore (ls' := [(0, (2, a0)), (1, (0, a1)), (2, (0, a2)), (3, (0, a3)), (4, (0, (a4 + 1))), (5, (0, (a5 + 0))), (6, (0, a6)), (7, (0, a7)), (8, (0, a8)), (9, (0, a9)), (10, (0, a10))]) (kdA dt_MX12_hedge 95 rfl) (by decide) rfl ?_
            obtain ⟨c3, h⟩ := h
            refine K_iinc (ls' := [(0, (2, a0)), (1, (0, a1)), (2, (0, a2)), (3, (0, a3)), (4, (0, (a4 + 1))), (5, (0, (a5 + 0))), (6, (0, a6)), (7, (0, (a7 + 1))), (8, (0, a8)), (9, (0, a9)), (10, (0, a10))]) 7 (kdA dt_MX12_hedge 96 rfl) rfl c3 (by decide) rfl ?_
            refine K_goto (tgt := 53) (kdA dt_MX12_hedge 97 rfl) rfl ?_
            refine K_pick [0, 1, 2, 3, 4, 5, 6, 7] (ls' := [(0, (2, a0)), (1, (0, a1)), (2, (0, a2)), (3, (0, a3)), (4, (0, (a4 + 1))), (5, (0, (a5 + 0))), (6, (0, a6)), (7, (0, (a7 + 1)))]) rfl ?_
            exact h
      · have h := h.2 c
        refine K_iconst (kdA dt_MX12_hedge 80 rfl) (by decide) ?_
        refine K_goto (tgt := 156) (kdA dt_MX12_hedge 81 rfl) rfl ?_
        obtain ⟨c1, h⟩ := h
        refine K_iadd (kdA dt_MX12_hedge 83 rfl) c1 ?_
        refine K_istore (ls' := [(0, (2, a0)), (1, (0, a1)), (2, (0, a2)), (3, (0, a3)), (4, (0, a4)), (5, (0, (a5 + 1))), (6, (0, a6)), (7, (0, a7)), (8, (0, a8)), (9, (0, a9)), (10, (0, a10))]) (kdA dt_MX12_hedge 84 rfl) (by decide) rfl ?_
        refine K_iload 4 (kdA dt_MX12_hedge 85 rfl) rfl ?_
        refine K_iload 8 (kdA dt_MX12_hedge 86 rfl) rfl ?_
        refine K_iconst (kdA dt_MX12_hedge 87 rfl) (by decide) ?_
        refine K_icmp_eq (tgt := 176) (kdA dt_MX12_hedge 88 rfl) rfl (fun c => ?_) (fun c => ?_)
        · have h := h.1 c
          refine K_iconst (kdA dt_MX12_hedge 93 rfl) (by decide) ?_
          obtain ⟨c2, h⟩ := h
          refine K_iadd (kdA dt_MX12_hedge 94 rfl) c2 ?_
          refine K_istore (ls' := [(0, (2, a0)), (1, (0, a1)), (2, (0, a2)), (3, (0, a3)), (4, (0, (a4 + 0))), (5, (0, (a5 + 1))), (6, (0, a6)), (7, (0, a7)), (8, (0, a8)), (9, (0, a9)), (10, (0, a10))]) (kdA dt_MX12_hedge 95 rfl) (by decide) rfl ?_
          obtain ⟨c3, h⟩ := h
          refine K_iinc (ls' := [(0, (2, a0)), (1, (0, a1)), (2, (0, a2)), (3, (0, a3)), (4, (0, (a4 + 0))), (5, (0, (a5 + 1))), (6, (0, a6)), (7, (0, (a7 + 1))), (8, (0, a8)), (9, (0, a9)), (10, (0, a10))]) 7 (kdA dt_MX12_hedge 96 rfl) rfl c3 (by decide) rfl ?_
          refine K_goto (tgt := 53) (kdA dt_MX12_hedge 97 rfl) rfl ?_
          refine K_pick [0, 1, 2, 3, 4, 5, 6, 7] (ls' := [(0, (2, a0)), (1, (0, a1)), (2, (0, a2)), (3, (0, a3)), (4, (0, (a4 + 0))), (5, (0, (a5 + 1))), (6, (0, a6)), (7, (0, (a7 + 1)))]) rfl ?_
          exact h
        · have h := h.2 c
          refine K_iload 9 (kdA dt_MX12_hedge 89 rfl) rfl ?_
          refine K_if_eq (tgt := 176) (kdA dt_MX12_hedge 90 rfl) rfl (fun c => ?_) (fun c => ?_)
          · have h := h.1 c
            refine K_iconst (kdA dt_MX12_hedge 93 rfl) (by decide) ?_
            obtain ⟨c2, h⟩ := h
            refine K_iadd (kdA dt_MX12_hedge 94 rfl) c2 ?_
            refine K_istore (ls' := [(0, (2, a0)), (1, (0, a1)), (2, (0, a2)), (3, (0, a3)), (4, (0, (a4 + 0))), (5, (0, (a5 + 1))), (6, (0, a6)), (7, (0, a7)), (8, (0, a8)), (9, (0, a9)), (10, (0, a10))]) (kdA dt_MX12_hedge 95 rfl) (by decide) rfl ?_
            obtain ⟨c3, h⟩ := h
            refine K_iinc (ls' := [(0, (2, a0)), (1, (0, a1)), (2, (0, a2)), (3, (0, a3)), (4, (0, (a4 + 0))), (5, (0, (a5 + 1))), (6, (0, a6)), (7, (0, (a7 + 1))), (8, (0, a8)), (9, (0, a9)), (10, (0, a10))]) 7 (kdA dt_MX12_hedge 96 rfl) rfl c3 (by decide) rfl ?_
            refine K_goto (tgt := 53) (kdA dt_MX12_hedge 97 rfl) rfl ?_
            refine K_pick [0, 1, 2, 3, 4, 5, 6, 7] (ls' := [(0, (2, a0)), (1, (0, a1)), (2, (0, a2)), (3, (0, a3)), (4, (0, (a4 + 0))), (5, (0, (a5 + 1))), (6, (0, a6)), (7, (0, (a7 + 1)))]) rfl ?_
            exact h
          · have h := h.2 c
            refine K_iconst (kdA dt_MX12_hedge 91 rfl) (by decide) ?_
            refine K_goto (tgt := 177) (kdA dt_MX12_hedge 92 rfl) rfl ?_
            obtain ⟨c2, h⟩ := h
            refine K_iadd (kdA dt_MX12_hedge 94 rfl) c2 ?_
            refine K_istore (ls' := [(0, (2, a0)), (1, (0, a1)), (2, (0, a2)), (3, (0, a3)), (4, (0, (a4 + 1))), (5, (0, (a5 + 1))), (6, (0, a6)), (7, (0, a7)), (8, (0, a8)), (9, (0, a9)), (10, (0, a10))]) (kdA dt_MX12_hedge 95 rfl) (by decide) rfl ?_
            obtain ⟨c3, h⟩ := h
            refine K_iinc (ls' := [(0, (2, a0)), (1, (0, a1)), (2, (0, a2)), (3, (0, a3)), (4, (0, (a4 + 1))), (5, (0, (a5 + 1))), (6, (0, a6)), (7, (0, (a7 + 1))), (8, (0, a8)), (9, (0, a9)), (10, (0, a10))]) 7 (kdA dt_MX12_hedge 96 rfl) rfl c3 (by decide) rfl ?_
            refine K_goto (tgt := 53) (kdA dt_MX12_hedge 97 rfl) rfl ?_
            refine K_pick [0, 1, 2, 3, 4, 5, 6, 7] (ls' := [(0, (2, a0)), (1, (0, a1)), (2, (0, a2)), (3, (0, a3)), (4, (0, (a4 + 1))), (5, (0, (a5 + 1))), (6, (0, a6)), (7, (0, (a7 + 1)))]) rfl ?_
            exact h
    · have h := h.2 c
      refine K_iload 8 (kdA dt_MX12_hedge 54 rfl) rfl ?_
      refine K_iload 7 (kdA dt_MX12_hedge 55 rfl) rfl ?_
      refine K_cSi (as := [(0, a8), (0, a7)]) (st := []) (kdA dt_MX12_hedge 56 rfl) cl_MX12_step lk12_314 rfl rfl (Nat.le_of_ble_eq_true rfl) (Ci.mono h (fun x1 s1 h => ?_))
      refine K_istore (ls' := [(0, (2, a0)), (1, (0, a1)), (2, (0, a2)), (3, (0, a3)), (4, (0, a4)), (5, (0, a5)), (6, (0, a6)), (7, (0, a7)), (8, (0, x1)), (9, (0, a9)), (10, (0, a10))]) (kdA dt_MX12_hedge 57 rfl) (by decide) rfl ?_
      refine K_iload 9 (kdA dt_MX12_hedge 58 rfl) rfl ?_
      refine K_if_eq (tgt := 134) (kdA dt_MX12_hedge 59 rfl) rfl (fun c => ?_) (fun c => ?_)
      · have h := h.1 c
        refine K_iconst (kdA dt_MX12_hedge 72 rfl) (by decide) ?_
        refine K_istore (ls' := [(0, (2, a0)), (1, (0, a1)), (2, (0, a2)), (3, (0, a3)), (4, (0, a4)), (5, (0, a5)), (6, (0, a6)), (7, (0, a7)), (8, (0, x1)), (9, (0, 0)), (10, (0, a10))]) (kdA dt_MX12_hedge 73 rfl) (by decide) rfl ?_
        obtain ⟨c2, h⟩ := h
        refine K_iinc (ls' := [(0, (2, a0)), (1, (0, a1)), (2, (0, a2)), (3, (0, a3)), (4, (0, a4)), (5, (0, a5)), (6, (0, a6)), (7, (0, a7)), (8, (0, x1)), (9, (0, 0)), (10, (0, (a10 + 1)))]) 10 (kdA dt_MX12_hedge 74 rfl) rfl c2 (by decide) rfl ?_
        refine K_goto (tgt := 86) (kdA dt_MX12_hedge 75 rfl) rfl ?_
        exact h
      · have h := h.2 c
        refine K_iload 8 (kdA dt_MX12_hedge 60 rfl) rfl ?_
        refine K_iconst (kdA dt_MX12_hedge 61 rfl) (by decide) ?_
        refine K_icmp_eq (tgt := 134) (kdA dt_MX12_hedge 62 rfl) rfl (fun c => ?_) (fun c => ?_)
        · have h := h.1 c
          refine K_iconst (kdA dt_MX12_hedge 72 rfl) (by decide) ?_
          refine K_istore (ls' := [(0, (2, a0)), (1, (0, a1)), (2, (0, a2)), (3, (0, a3)), (4, (0, a4)), (5, (0, a5)), (6, (0, a6)), (7, (0, a7)), (8, (0, x1)), (9, (0, 0)), (10, (0, a10))]) (kdA dt_MX12_hedge 73 rfl) (by decide) rfl ?_
          obtain ⟨c2, h⟩ := h
          refine K_iinc (ls' := [(0, (2, a0)), (1, (0, a1)), (2, (0, a2)), (3, (0, a3)), (4, (0, a4)), (5, (0, a5)), (6, (0, a6)), (7, (0, a7)), (8, (0, x1)), (9, (0, 0)), (10, (0, (a10 + 1)))]) 10 (kdA dt_MX12_hedge 74 rfl) rfl c2 (by decide) rfl ?_
          refine K_goto (tgt := 86) (kdA dt_MX12_hedge 75 rfl) rfl ?_
          exact h
        · have h := h.2 c
          refine K_aload_n 0 (kdA dt_MX12_hedge 63 rfl) rfl rfl ?_
          refine K_iload_n 1 (kdA dt_MX12_hedge 64 rfl) rfl rfl ?_
          refine K_iconst (kdA dt_MX12_hedge 65 rfl) (by decide) ?_
          refine K_iconst (kdA dt_MX12_hedge 66 rfl) (by decide) ?_
          refine K_iload 8 (kdA dt_MX12_hedge 67 rfl) rfl ?_
          obtain ⟨c2, h⟩ := h
          refine K_cVi (c := 12) (as := [(0, a1), (0, 0), (0, 0), (0, x1)]) (st := []) (kdA dt_MX12_hedge 68 rfl) rfl cl_MX12_farFrom lk12_406 rfl rfl (Nat.le_of_ble_eq_true rfl) c2 (Ci.mono h (fun x3 s2 h => ?_))
          refine K_if_ne (tgt := 134) (kdA dt_MX12_hedge 69 rfl) rfl (fun c => ?_) (fun c => ?_)
          · have h := h.1 c
            refine K_iconst (kdA dt_MX12_hedge 72 rfl) (by decide) ?_
            refine K_istore (ls' := [(0, (2, a0)), (1, (0, a1)), (2, (0, a2)), (3, (0, a3)), (4, (0, a4)), (5, (0, a5)), (6, (0, a6)), (7, (0, a7)), (8, (0, x1)), (9, (0, 0)), (10, (0, a10))]) (kdA dt_MX12_hedge 73 rfl) (by decide) rfl ?_
            obtain ⟨c4, h⟩ := h
            refine K_iinc (ls' := [(0, (2, a0)), (1, (0, a1)), (2, (0, a2)), (3, (0, a3)), (4, (0, a4)), (5, (0, a5)), (6, (0, a6)), (7, (0, a7)), (8, (0, x1)), (9, (0, 0)), (10, (0, (a10 + 1)))]) 10 (kdA dt_MX12_hedge 74 rfl) rfl c4 (by decide) rfl ?_
            refine K_goto (tgt := 86) (kdA dt_MX12_hedge 75 rfl) rfl ?_
            exact h
          · have h := h.2 c
            refine K_iconst (kdA dt_MX12_hedge 70 rfl) (by decide) ?_
            refine K_goto (tgt := 135) (kdA dt_MX12_hedge 71 rfl) rfl ?_
            refine K_istore (ls' := [(0, (2, a0)), (1, (0, a1)), (2, (0, a2)), (3, (0, a3)), (4, (0, a4)), (5, (0, a5)), (6, (0, a6)), (7, (0, a7)), (8, (0, x1)), (9, (0, 1)), (10, (0, a10))]) (kdA dt_MX12_hedge 73 rfl) (by decide) rfl ?_
            obtain ⟨c4, h⟩ := h
            refine K_iinc (ls' := [(0, (2, a0)), (1, (0, a1)), (2, (0, a2)), (3, (0, a3)), (4, (0, a4)), (5, (0, a5)), (6, (0, a6)), (7, (0, a7)), (8, (0, x1)), (9, (0, 1)), (10, (0, (a10 + 1)))]) 10 (kdA dt_MX12_hedge 74 rfl) rfl c4 (by decide) rfl ?_
            refine K_goto (tgt := 86) (kdA dt_MX12_hedge 75 rfl) rfl ?_
            exact h
theorem EX12_hedge {d n : Nat} {Q : Int → kS → Prop} {a0 a1 a2 a3 : Int} {σ : kS} (h : (-2147483648 ≤ a1 ∧ a1 ≤ 2147483647) → (-2147483648 ≤ a2 ∧ a2 ≤ 2147483647) → (-2147483648 ≤ a3 ∧ a3 ≤ 2147483647) → kokw n σ → LX12_hedge_0 d n Q a0 a1 a2 a3 σ) : Ci (d + 1) MX12_hedge [(2, a0), (0, a1), (0, a2), (0, a3)] n σ Q := Tri_of (by decide +kernel) (Nat.le_of_ble_eq_true rfl) (fun hk hw => h (hk (0, a1) (List.mem_of_getElem? (i := 1) rfl)) (hk (0, a2) (List.mem_of_getElem? (i := 2) rfl)) (hk (0, a3) (List.mem_of_getElem? (i := 3) rfl)) hw)

def LX12_holds_0 (d n : Nat) (Q : Int → kS → Prop) (a0 : Int) (a1 : Int) (a2 : Int) (a3 : Int) (σ : kS) : Prop := K (d + 1) MX12_holds (kPi n Q) (0, 0) 0 [(0, (2, a0)), (1, (0, a1)), (2, (0, a2)), (3, (0, a3))] [] n σ
def LX12_holds_52 (d n : Nat) (Q : Int → kS → Prop) (a0 : Int) (a1 : Int) (a3 : Int) (a4 : Int) (a5 : Int) (σ : kS) : Prop := K (d + 1) MX12_holds (kPi n Q) (0, 0) 52 [(0, (2, a0)), (1, (0, a1)), (3, (0, a3)), (4, (0, a4)), (5, (0, a5))] [] n σ
theorem SX12_holds_0 {d n : Nat} {Q : Int → kS → Prop} {a0 a1 a2 a3 : Int} {σ : kS} (h : isO 12 n a0 ∧ (∀ s1, s1 = kst σ a0 0 0 → (-2147483648 ≤ ((s1 a0 15) - 1) ∧ ((s1 a0 15) - 1) ≤ 2147483647) ∧ (Ci d MX12_isIn [(0, a1), (0, 0), (0, ((s1 a0 15) - 1))] n s1 (fun x3 s2 => (x3 = 0 → Q (-1) s2) ∧ (¬ x3 = 0 → Ci d MX12_isGoer [(2, a0), (0, a2)] n s2 (fun x4 s3 => (x4 = 0 → Q (-1) s3) ∧ (¬ x4 = 0 → Ci d MX12_isIn [(0, a3), (0, 0), (0, 20)] n s3 (fun x5 s4 => (¬ x5 = 0 → Cv d MX12_layPains [(2, a0), (0, a2), (0, 0), (0, 0)] n s4 (fun s5 => LX12_holds_52 d n Q a0 a1 a3 0 0 s5)) ∧ (¬ (¬ x5 = 0) → Q (-1) s4))))))))) : LX12_holds_0 d n Q a0 a1 a2 a3 σ := by
  unfold LX12_holds_0
  refine K_aload_n 0 (kdA dt_MX12_holds 0 rfl) rfl rfl ?_
  refine K_iconst (kdA dt_MX12_holds 1 rfl) (by decide) ?_
  obtain ⟨c1, h⟩ := h
  refine pf12_149 rfl (kdA dt_MX12_holds 2 rfl) c1 (fun s1 es1 => ?_)
  have h := h s1 es1
  refine K_iload_n 1 (kdA dt_MX12_holds 3 rfl) rfl rfl ?_
  refine K_iconst (kdA dt_MX12_holds 4 rfl) (by decide) ?_
  refine K_aload_n 0 (kdA dt_MX12_holds 5 rfl) rfl rfl ?_
  refine gf12_294 rfl (kdA dt_MX12_holds 6 rfl) c1 ?_
  refine K_iconst (kdA dt_MX12_holds 7 rfl) (by decide) ?_
  obtain ⟨c2, h⟩ := h
  refine K_isub (kdA dt_MX12_holds 8 rfl) c2 ?_
  refine K_cSi (as := [(0, a1), (0, 0), (0, ((s1 a0 15) - 1))]) (st := []) (kdA dt_MX12_holds 9 rfl) cl_MX12_isIn lk12_153 rfl rfl (Nat.le_of_ble_eq_true rfl) (Ci.mono h (fun x3 s2 h => ?_))
  refine K_if_eq (tgt := 37) (kdA dt_MX12_holds 10 rfl) rfl (fun c => ?_) (fun c => ?_)
  · have h := h.1 c
    refine K_iconst (kdA dt_MX12_holds 20 rfl) (by decide) ?_
    exact K_ireturn (kdA dt_MX12_holds 21 rfl) rfl ⟨rfl, _, rfl, h⟩
  · have h := h.2 c
    refine K_aload_n 0 (kdA dt_MX12_holds 11 rfl) rfl rfl ?_
    refine K_iload_n 2 (kdA dt_MX12_holds 12 rfl) rfl rfl ?_
    refine K_cVi (c := 12) (as := [(0, a2)]) (st := []) (kdA dt_MX12_holds 13 rfl) rfl cl_MX12_isGoer lk12_311 rfl rfl (Nat.le_of_ble_eq_true rfl) c1 (Ci.mono h (fun x4 s3 h => ?_))
    refine K_if_eq (tgt := 37) (kdA dt_MX12_holds 14 rfl) rfl (fun c => ?_) (fun c => ?_)
    · have h := h.1 c
      refine K_iconst (kdA dt_MX12_holds 20 rfl) (by decide) ?_
      exact K_ireturn (kdA dt_MX12_holds 21 rfl) rfl ⟨rfl, _, rfl, h⟩
    · have h := h.2 c
      refine K_iload_n 3 (kdA dt_MX12_holds 15 rfl) rfl rfl ?_
      refine K_iconst (kdA dt_MX12_holds 16 rfl) (by decide) ?_
      refine K_bipush (kdA dt_MX12_holds 17 rfl) (by decide +kernel) ?_
      refine K_cSi (as := [(0, a3), (0, 0), (0, 20)]) (st := []) (kdA dt_MX12_holds 18 rfl) cl_MX12_isIn lk12_153 rfl rfl (Nat.le_of_ble_eq_true rfl) (Ci.mono h (fun x5 s4 h => ?_))
      refine K_if_ne (tgt := 39) (kdA dt_MX12_holds 19 rfl) rfl (fun c => ?_) (fun c => ?_)
      · have h := h.1 c
        refine K_aload_n 0 (kdA dt_MX12_holds 22 rfl) rfl rfl ?_
        refine K_iload_n 2 (kdA dt_MX12_holds 23 rfl) rfl rfl ?_
        refine K_iconst (kdA dt_MX12_holds 24 rfl) (by decide) ?_
        refine K_iconst (kdA dt_MX12_holds 25 rfl) (by decide) ?_
        refine K_cVv (c := 12) (as := [(0, a2), (0, 0), (0, 0)]) (st := []) (kdA dt_MX12_holds 26 rfl) rfl cl_MX12_layPains lk12_333 rfl rfl (Nat.le_of_ble_eq_true rfl) c1 (Cv.mono h (fun s5 h => ?_))
        refine K_iconst (kdA dt_MX12_holds 27 rfl) (by decide) ?_
        refine K_istore (ls' := [(0, (2, a0)), (1, (0, a1)), (2, (0, a2)), (3, (0, a3)), (4, (0, 0))]) (kdA dt_MX12_holds 28 rfl) (by decide) rfl ?_
        refine K_iconst (kdA dt_MX12_holds 29 rfl) (by decide) ?_
        refine K_istore (ls' := [(0, (2, a0)), (1, (0, a1)), (2, (0, a2)), (3, (0, a3)), (4, (0, 0)), (5, (0, 0))]) (kdA dt_MX12_holds 30 rfl) (by decide) rfl ?_
        refine K_pick [0, 1, 3, 4, 5] (ls' := [(0, (2, a0)), (1, (0, a1)), (3, (0, a3)), (4, (0, 0)), (5, (0, 0))]) rfl ?_
        exact h
      · have h := h.2 c
        refine K_iconst (kdA dt_MX12_holds 20 rfl) (by decide) ?_
        exact K_ireturn (kdA dt_MX12_holds 21 rfl) rfl ⟨rfl, _, rfl, h⟩
theorem SX12_holds_52 {d n : Nat} {Q : Int → kS → Prop} {a0 a1 a3 a4 a5 : Int} {σ : kS} (h : isO 12 n a0 ∧ (isA 20 n (σ a0 8) ∧ (((0 : Int) ≤ a1 ∧ a1 < klen (σ a0 8)) ∧ (((σ (σ a0 8) a1) ≤ a5 → Q a4 σ) ∧ (¬ (σ (σ a0 8) a1) ≤ a5 → Ci d MX12_slipOf [(2, a0), (0, a1), (0, a5), (0, a3)] n σ (fun x4 s1 => (¬ x4 = 0 → (-2147483648 ≤ (a4 + 0) ∧ (a4 + 0) ≤ 2147483647) ∧ ((-2147483648 ≤ (a5 + 1) ∧ (a5 + 1) ≤ 2147483647) ∧ (LX12_holds_52 d n Q a0 a1 a3 (a4 + 0) (a5 + 1) s1))) ∧ (¬ (¬ x4 = 0) → (-2147483648 ≤ (a4 + 1) ∧ (a4 + 1) ≤ 2147483647) ∧ ((-2147483648 ≤ (a5 + 1) ∧ (a5 + 1) ≤ 2147483647) ∧ (LX12_holds_52 d n Q a0 a1 a3 (a4 + 1) (a5 + 1) s1))))))))) : LX12_holds_52 d n Q a0 a1 a3 a4 a5 σ := by
  unfold LX12_holds_52
  refine K_iload 4 (kdA dt_MX12_holds 31 rfl) rfl ?_
  refine K_aload_n 0 (kdA dt_MX12_holds 32 rfl) rfl rfl ?_
  obtain ⟨c1, h⟩ := h
  refine gf12_29 rfl (kdA dt_MX12_holds 33 rfl) c1 ?_
  refine K_iload_n 1 (kdA dt_MX12_holds 34 rfl) rfl rfl ?_
  obtain ⟨c2, h⟩ := h
  obtain ⟨c3, h⟩ := h
  refine K_iaload (kdA dt_MX12_holds 35 rfl) c2 c3.1 c3.2 ?_
  refine K_icmp_ge (tgt := 90) (kdA dt_MX12_holds 36 rfl) rfl (fun c => ?_) (fun c => ?_)
  · have h := h.1 c
    refine K_iload 3 (kdA dt_MX12_holds 51 rfl) rfl ?_
    exact K_ireturn (kdA dt_MX12_holds 52 rfl) rfl ⟨rfl, _, rfl, h⟩
  · have h := h.2 c
    refine K_iload 3 (kdA dt_MX12_holds 37 rfl) rfl ?_
    refine K_aload_n 0 (kdA dt_MX12_holds 38 rfl) rfl rfl ?_
    refine K_iload_n 1 (kdA dt_MX12_holds 39 rfl) rfl rfl ?_
    refine K_iload 4 (kdA dt_MX12_holds 40 rfl) rfl ?_
    refine K_iload_n 2 (kdA dt_MX12_holds 41 rfl) rfl rfl ?_
    refine K_cVi (c := 12) (as := [(0, a1), (0, a5), (0, a3)]) (st := [(0, a4)]) (kdA dt_MX12_holds 42 rfl) rfl cl_MX12_slipOf lk12_443 rfl rfl (Nat.le_of_ble_eq_true rfl) c1 (Ci.mono h (fun x4 s1 h => ?_))
    refine K_if_ne (tgt := 80) (kdA dt_MX12_holds 43 rfl) rfl (fun c => ?_) (fun c => ?_)
    · have h := h.1 c
      refine K_iconst (kdA dt_MX12_holds 46 rfl) (by decide) ?_
      obtain ⟨c5, h⟩ := h
      refine K_iadd (kdA dt_MX12_holds 47 rfl) c5 ?_
      refine K_istore (ls' := [(0, (2, a0)), (1, (0, a1)), (3, (0, a3)), (4, (0, (a4 + 0))), (5, (0, a5))]) (kdA dt_MX12_holds 48 rfl) (by decide) rfl ?_
      obtain ⟨c6, h⟩ := h
      refine K_iinc (ls' := [(0, (2, a0)), (1, (0, a1)), (3, (0, a3)), (4, (0, (a4 + 0))), (5, (0, (a5 + 1)))]) 4 (kdA dt_MX12_holds 49 rfl) rfl c6 (by decide) rfl ?_
      refine K_goto (tgt := 52) (kdA dt_MX12_holds 50 rfl) rfl ?_
      exact h
    · have h := h.2 c
      refine K_iconst (kdA dt_MX12_holds 44 rfl) (by decide) ?_
      refine K_goto (tgt := 81) (kdA dt_MX12_holds 45 rfl) rfl ?_
      obtain ⟨c5, h⟩ := h
      refine K_iadd (kdA dt_MX12_holds 47 rfl) c5 ?_
      refine K_istore (ls' := [(0, (2, a0)), (1, (0, a1)), (3, (0, a3)), (4, (0, (a4 + 1))), (5, (0, a5))]) (kdA dt_MX12_holds 48 rfl) (by decide) rfl ?_
      obtain ⟨c6, h⟩ := h
      refine K_iinc (ls' := [(0, (2, a0)), (1, (0, a1)), (3, (0, a3)), (4, (0, (a4 + 1))), (5, (0, (a5 + 1)))]) 4 (kdA dt_MX12_holds 49 rfl) rfl c6 (by decide) rfl ?_
      refine K_goto (tgt := 52) (kdA dt_MX12_holds 50 rfl) rfl ?_
      exact h
theorem EX12_holds {d n : Nat} {Q : Int → kS → Prop} {a0 a1 a2 a3 : Int} {σ : kS} (h : (-2147483648 ≤ a1 ∧ a1 ≤ 2147483647) → (-2147483648 ≤ a2 ∧ a2 ≤ 2147483647) → (-2147483648 ≤ a3 ∧ a3 ≤ 2147483647) → kokw n σ → LX12_holds_0 d n Q a0 a1 a2 a3 σ) : Ci (d + 1) MX12_holds [(2, a0), (0, a1), (0, a2), (0, a3)] n σ Q := Tri_of (by decide +kernel) (Nat.le_of_ble_eq_true rfl) (fun hk hw => h (hk (0, a1) (List.mem_of_getElem? (i := 1) rfl)) (hk (0, a2) (List.mem_of_getElem? (i := 2) rfl)) (hk (0, a3) (List.mem_of_getElem? (i := 3) rfl)) hw)

def LX12_isBefore_0 (d n : Nat) (Q : Int → kS → Prop) (a0 : Int) (a1 : Int) (σ : kS) : Prop := K (d + 1) MX12_isBefore (kPi n Q) (0, 0) 0 [(0, (0, a0)), (1, (0, a1))] [] n σ
theorem SX12_isBefore_0 {d n : Nat} {Q : Int → kS → Prop} {a0 a1 : Int} {σ : kS} (h : Ci d MJm_bitCount [(0, a0)] n σ (fun x1 s1 => Ci d MJm_bitCount [(0, a1)] n s1 (fun x2 s2 => (x1 = x2 → (-2147483648 ≤ (-(kxor a0 a1)) ∧ (-(kxor a0 a1)) ≤ 2147483647) ∧ (((kand (kand a0 (kxor a0 a1)) (-(kxor a0 a1))) = 0 → Q 0 s2) ∧ (¬ (kand (kand a0 (kxor a0 a1)) (-(kxor a0 a1))) = 0 → Q 1 s2))) ∧ (¬ x1 = x2 → (x2 ≤ x1 → Q 0 s2) ∧ (¬ x2 ≤ x1 → Q 1 s2))))) : LX12_isBefore_0 d n Q a0 a1 σ := by
  unfold LX12_isBefore_0
  refine K_iload_n 0 (kdA dt_MX12_isBefore 0 rfl) rfl rfl ?_
  refine K_cSi (as := [(0, a0)]) (st := []) (kdA dt_MX12_isBefore 1 rfl) cl_MJm_bitCount lk12_468 rfl rfl (Nat.le_of_ble_eq_true rfl) (Ci.mono h (fun x1 s1 h => ?_))
  refine K_istore_n (ls' := [(0, (0, a0)), (1, (0, a1)), (2, (0, x1))]) (kdA dt_MX12_isBefore 2 rfl) rfl (by decide) rfl ?_
  refine K_iload_n 1 (kdA dt_MX12_isBefore 3 rfl) rfl rfl ?_
  refine K_cSi (as := [(0, a1)]) (st := []) (kdA dt_MX12_isBefore 4 rfl) cl_MJm_bitCount lk12_468 rfl rfl (Nat.le_of_ble_eq_true rfl) (Ci.mono h (fun x2 s2 h => ?_))
  refine K_istore_n (ls' := [(0, (0, a0)), (1, (0, a1)), (2, (0, x1)), (3, (0, x2))]) (kdA dt_MX12_isBefore 5 rfl) rfl (by decide) rfl ?_
  refine K_iload_n 0 (kdA dt_MX12_isBefore 6 rfl) rfl rfl ?_
  refine K_iload_n 1 (kdA dt_MX12_isBefore 7 rfl) rfl rfl ?_
  refine K_ixor (kdA dt_MX12_isBefore 8 rfl) ?_
  refine K_istore (ls' := [(0, (0, a0)), (1, (0, a1)), (2, (0, x1)), (3, (0, x2)), (4, (0, (kxor a0 a1)))]) (kdA dt_MX12_isBefore 9 rfl) (by decide) rfl ?_
  refine K_iload_n 2 (kdA dt_MX12_isBefore 10 rfl) rfl rfl ?_
  refine K_iload_n 3 (kdA dt_MX12_isBefore 11 rfl) rfl rfl ?_
  refine K_icmp_eq (tgt := 33) (kdA dt_MX12_isBefore 12 rfl) rfl (fun c => ?_) (fun c => ?_)
  · have h := h.1 c
    refine K_iload_n 0 (kdA dt_MX12_isBefore 20 rfl) rfl rfl ?_
    refine K_iload 4 (kdA dt_MX12_isBefore 21 rfl) rfl ?_
    refine K_iand (kdA dt_MX12_isBefore 22 rfl) ?_
    refine K_iload 4 (kdA dt_MX12_isBefore 23 rfl) rfl ?_
    obtain ⟨c3, h⟩ := h
    refine K_ineg (kdA dt_MX12_isBefore 24 rfl) c3 ?_
    refine K_iand (kdA dt_MX12_isBefore 25 rfl) ?_
    refine K_if_eq (tgt := 48) (kdA dt_MX12_isBefore 26 rfl) rfl (fun c => ?_) (fun c => ?_)
    · have h := h.1 c
      refine K_iconst (kdA dt_MX12_isBefore 29 rfl) (by decide) ?_
      exact K_zreturn (kdA dt_MX12_isBefore 30 rfl) rfl (Or.inl rfl) ⟨rfl, _, rfl, h⟩
    · have h := h.2 c
      refine K_iconst (kdA dt_MX12_isBefore 27 rfl) (by decide) ?_
      refine K_goto (tgt := 49) (kdA dt_MX12_isBefore 28 rfl) rfl ?_
      exact K_zreturn (kdA dt_MX12_isBefore 30 rfl) rfl (Or.inr rfl) ⟨rfl, _, rfl, h⟩
  · have h := h.2 c
    refine K_iload_n 2 (kdA dt_MX12_isBefore 13 rfl) rfl rfl ?_
    refine K_iload_n 3 (kdA dt_MX12_isBefore 14 rfl) rfl rfl ?_
    refine K_icmp_ge (tgt := 29) (kdA dt_MX12_isBefore 15 rfl) rfl (fun c => ?_) (fun c => ?_)
    · have h := h.1 c
      refine K_iconst (kdA dt_MX12_isBefore 18 rfl) (by decide) ?_
      refine K_goto (tgt := 49) (kdA dt_MX12_isBefore 19 rfl) rfl ?_
      exact K_zreturn (kdA dt_MX12_isBefore 30 rfl) rfl (Or.inl rfl) ⟨rfl, _, rfl, h⟩
    · have h := h.2 c
      refine K_iconst (kdA dt_MX12_isBefore 16 rfl) (by decide) ?_
      refine K_goto (tgt := 49) (kdA dt_MX12_isBefore 17 rfl) rfl ?_
      exact K_zreturn (kdA dt_MX12_isBefore 30 rfl) rfl (Or.inr rfl) ⟨rfl, _, rfl, h⟩
theorem EX12_isBefore {d n : Nat} {Q : Int → kS → Prop} {a0 a1 : Int} {σ : kS} (h : (-2147483648 ≤ a0 ∧ a0 ≤ 2147483647) → (-2147483648 ≤ a1 ∧ a1 ≤ 2147483647) → kokw n σ → LX12_isBefore_0 d n Q a0 a1 σ) : Ci (d + 1) MX12_isBefore [(0, a0), (0, a1)] n σ Q := Tri_of (by decide +kernel) (Nat.le_of_ble_eq_true rfl) (fun hk hw => h (hk (0, a0) (List.mem_of_getElem? (i := 0) rfl)) (hk (0, a1) (List.mem_of_getElem? (i := 1) rfl)) hw)

def LX12_isByWay_0 (d n : Nat) (Q : Int → kS → Prop) (a0 : Int) (a1 : Int) (a2 : Int) (σ : kS) : Prop := K (d + 1) MX12_isByWay (kPi n Q) (0, 0) 0 [(0, (2, a0)), (1, (0, a1)), (2, (0, a2))] [] n σ
def LX12_isByWay_2 (d n : Nat) (Q : Int → kS → Prop) (a0 : Int) (a1 : Int) (a2 : Int) (a3 : Int) (σ : kS) : Prop := K (d + 1) MX12_isByWay (kPi n Q) (0, 0) 2 [(0, (2, a0)), (1, (0, a1)), (2, (0, a2)), (3, (0, a3))] [] n σ
theorem SX12_isByWay_0 {d n : Nat} {Q : Int → kS → Prop} {a0 a1 a2 : Int} {σ : kS} (h : LX12_isByWay_2 d n Q a0 a1 a2 0 σ) : LX12_isByWay_0 d n Q a0 a1 a2 σ := by
  unfold LX12_isByWay_0
  refine K_iconst (kdA dt_MX12_isByWay 0 rfl) (by decide) ?_
  refine K_istore_n (ls' := [(0, (2, a0)), (1, (0, a1)), (2, (0, a2)), (3, (0, 0))]) (kdA dt_MX12_isByWay 1 rfl) rfl (by decide) rfl ?_
  exact h
theorem SX12_isByWay_2 {d n : Nat} {Q : Int → kS → Prop} {a0 a1 a2 a3 : Int} {σ : kS} (h : isO 12 n a0 ∧ (isA 20 n (σ a0 43) ∧ (((0 : Int) ≤ a1 ∧ a1 < klen (σ a0 43)) ∧ (((σ (σ a0 43) a1) ≤ a3 → Q 0 σ) ∧ (¬ (σ (σ a0 43) a1) ≤ a3 → (-2147483648 ≤ (140 * a1) ∧ (140 * a1) ≤ 2147483647) ∧ ((-2147483648 ≤ ((140 * a1) + a3) ∧ ((140 * a1) + a3) ≤ 2147483647) ∧ (isA 20 n (σ a0 44) ∧ (((0 : Int) ≤ ((140 * a1) + a3) ∧ ((140 * a1) + a3) < klen (σ a0 44)) ∧ (Ci d MX12_apart [(0, (σ (σ a0 44) ((140 * a1) + a3))), (0, a2)] n σ (fun x8 s1 => (1 < x8 → (-2147483648 ≤ (a3 + 1) ∧ (a3 + 1) ≤ 2147483647) ∧ (LX12_isByWay_2 d n Q a0 a1 a2 (a3 + 1) s1)) ∧ (¬ 1 < x8 → Q 1 s1))))))))))) : LX12_isByWay_2 d n Q a0 a1 a2 a3 σ := by
  unfold LX12_isByWay_2
  refine K_iload_n 3 (kdA dt_MX12_isByWay 2 rfl) rfl rfl ?_
  refine K_aload_n 0 (kdA dt_MX12_isByWay 3 rfl) rfl rfl ?_
  obtain ⟨c1, h⟩ := h
  refine gf12_94 rfl (kdA dt_MX12_isByWay 4 rfl) c1 ?_
  refine K_iload_n 1 (kdA dt_MX12_isByWay 5 rfl) rfl rfl ?_
  obtain ⟨c2, h⟩ := h
  obtain ⟨c3, h⟩ := h
  refine K_iaload (kdA dt_MX12_isByWay 6 rfl) c2 c3.1 c3.2 ?_
  refine K_icmp_ge (tgt := 40) (kdA dt_MX12_isByWay 7 rfl) rfl (fun c => ?_) (fun c => ?_)
  · have h := h.1 c
    refine K_iconst (kdA dt_MX12_isByWay 24 rfl) (by decide) ?_
    exact K_zreturn (kdA dt_MX12_isByWay 25 rfl) rfl (Or.inl rfl) ⟨rfl, _, rfl, h⟩
  · have h := h.2 c
    refine K_aload_n 0 (kdA dt_MX12_isByWay 8 rfl) rfl rfl ?_
    refine gf12_97 rfl (kdA dt_MX12_isByWay 9 rfl) c1 ?_
    refine K_sipush (kdA dt_MX12_isByWay 10 rfl) (by decide +kernel) ?_
    refine K_iload_n 1 (kdA dt_MX12_isByWay 11 rfl) rfl rfl ?_
    obtain ⟨c4, h⟩ := h
    refine K_imul (kdA dt_MX12_isByWay 12 rfl) c4 ?_
    refine K_iload_n 3 (kdA dt_MX12_isByWay 13 rfl) rfl rfl ?_
    obtain ⟨c5, h⟩ := h
    refine K_iadd (kdA dt_MX12_isByWay 14 rfl) c5 ?_
    obtain ⟨c6, h⟩ := h
    obtain ⟨c7, h⟩ := h
    refine K_iaload (kdA dt_MX12_isByWay 15 rfl) c6 c7.1 c7.2 ?_
    refine K_iload_n 2 (kdA dt_MX12_isByWay 16 rfl) rfl rfl ?_
    refine K_cSi (as := [(0, (σ (σ a0 44) ((140 * a1) + a3))), (0, a2)]) (st := []) (kdA dt_MX12_isByWay 17 rfl) cl_MX12_apart lk12_352 rfl rfl (Nat.le_of_ble_eq_true rfl) (Ci.mono h (fun x8 s1 h => ?_))
    refine K_iconst (kdA dt_MX12_isByWay 18 rfl) (by decide) ?_
    refine K_icmp_gt (tgt := 34) (kdA dt_MX12_isByWay 19 rfl) rfl (fun c => ?_) (fun c => ?_)
    · have h := h.1 c
      obtain ⟨c9, h⟩ := h
      refine K_iinc (ls' := [(0, (2, a0)), (1, (0, a1)), (2, (0, a2)), (3, (0, (a3 + 1)))]) 3 (kdA dt_MX12_isByWay 22 rfl) rfl c9 (by decide) rfl ?_
      refine K_goto (tgt := 2) (kdA dt_MX12_isByWay 23 rfl) rfl ?_
      exact h
    · have h := h.2 c
      refine K_iconst (kdA dt_MX12_isByWay 20 rfl) (by decide) ?_
      exact K_zreturn (kdA dt_MX12_isByWay 21 rfl) rfl (Or.inr rfl) ⟨rfl, _, rfl, h⟩
theorem EX12_isByWay {d n : Nat} {Q : Int → kS → Prop} {a0 a1 a2 : Int} {σ : kS} (h : (-2147483648 ≤ a1 ∧ a1 ≤ 2147483647) → (-2147483648 ≤ a2 ∧ a2 ≤ 2147483647) → kokw n σ → LX12_isByWay_0 d n Q a0 a1 a2 σ) : Ci (d + 1) MX12_isByWay [(2, a0), (0, a1), (0, a2)] n σ Q := Tri_of (by decide +kernel) (Nat.le_of_ble_eq_true rfl) (fun hk hw => h (hk (0, a1) (List.mem_of_getElem? (i := 1) rfl)) (hk (0, a2) (List.mem_of_getElem? (i := 2) rfl)) hw)

def LX12_isCell_0 (d n : Nat) (Q : Int → kS → Prop) (a0 : Int) (σ : kS) : Prop := K (d + 1) MX12_isCell (kPi n Q) (0, 0) 0 [(0, (0, a0))] [] n σ
theorem SX12_isCell_0 {d n : Nat} {Q : Int → kS → Prop} {a0 : Int} {σ : kS} (h : Ci d MX12_isIn [(0, a0), (0, 0), (0, 119)] n σ (fun x1 s1 => (x1 = 0 ∨ x1 = 1) ∧ (Q x1 s1))) : LX12_isCell_0 d n Q a0 σ := by
  unfold LX12_isCell_0
  refine K_iload_n 0 (kdA dt_MX12_isCell 0 rfl) rfl rfl ?_
  refine K_iconst (kdA dt_MX12_isCell 1 rfl) (by decide) ?_
  refine K_bipush (kdA dt_MX12_isCell 2 rfl) (by decide +kernel) ?_
  refine K_cSi (as := [(0, a0), (0, 0), (0, 119)]) (st := []) (kdA dt_MX12_isCell 3 rfl) cl_MX12_isIn lk12_153 rfl rfl (Nat.le_of_ble_eq_true rfl) (Ci.mono h (fun x1 s1 h => ?_))
  obtain ⟨c2, h⟩ := h
  exact K_zreturn (kdA dt_MX12_isCell 4 rfl) rfl c2 ⟨rfl, _, rfl, h⟩
theorem EX12_isCell {d n : Nat} {Q : Int → kS → Prop} {a0 : Int} {σ : kS} (h : (-2147483648 ≤ a0 ∧ a0 ≤ 2147483647) → kokw n σ → LX12_isCell_0 d n Q a0 σ) : Ci (d + 1) MX12_isCell [(0, a0)] n σ Q := Tri_of (by decide +kernel) (Nat.le_of_ble_eq_true rfl) (fun hk hw => h (hk (0, a0) (List.mem_of_getElem? (i := 0) rfl)) hw)

def LX12_isDigit_0 (d n : Nat) (Q : Int → kS → Prop) (a0 : Int) (σ : kS) : Prop := K (d + 1) MX12_isDigit (kPi n Q) (0, 0) 0 [(0, (2, a0))] [] n σ
theorem SX12_isDigit_0 {d n : Nat} {Q : Int → kS → Prop} {a0 : Int} {σ : kS} (h : isO 12 n a0 ∧ (((σ a0 17) ≤ (σ a0 18) → Q 0 σ) ∧ (¬ (σ a0 17) ≤ (σ a0 18) → (-2147483648 ≤ ((σ a0 16) + (σ a0 18)) ∧ ((σ a0 16) + (σ a0 18)) ≤ 2147483647) ∧ (isA 21 n (σ a0 12) ∧ (((0 : Int) ≤ ((σ a0 16) + (σ a0 18)) ∧ ((σ a0 16) + (σ a0 18)) < klen (σ a0 12)) ∧ (((σ (σ a0 12) ((σ a0 16) + (σ a0 18))) < 48 → Q 0 σ) ∧ (¬ (σ (σ a0 12) ((σ a0 16) + (σ a0 18))) < 48 → (57 < (σ (σ a0 12) ((σ a0 16) + (σ a0 18))) → Q 0 σ) ∧ (¬ 57 < (σ (σ a0 12) ((σ a0 16) + (σ a0 18))) → Q 1 σ)))))))) : LX12_isDigit_0 d n Q a0 σ := by
  unfold LX12_isDigit_0
  refine K_aload_n 0 (kdA dt_MX12_isDigit 0 rfl) rfl rfl ?_
  obtain ⟨c1, h⟩ := h
  refine gf12_203 rfl (kdA dt_MX12_isDigit 1 rfl) c1 ?_
  refine K_aload_n 0 (kdA dt_MX12_isDigit 2 rfl) rfl rfl ?_
  refine gf12_206 rfl (kdA dt_MX12_isDigit 3 rfl) c1 ?_
  refine K_icmp_ge (tgt := 53) (kdA dt_MX12_isDigit 4 rfl) rfl (fun c => ?_) (fun c => ?_)
  · have h := h.1 c
    refine K_iconst (kdA dt_MX12_isDigit 27 rfl) (by decide) ?_
    exact K_zreturn (kdA dt_MX12_isDigit 28 rfl) rfl (Or.inl rfl) ⟨rfl, _, rfl, h⟩
  · have h := h.2 c
    refine K_aload_n 0 (kdA dt_MX12_isDigit 5 rfl) rfl rfl ?_
    refine gf12_41 rfl (kdA dt_MX12_isDigit 6 rfl) c1 ?_
    refine K_aload_n 0 (kdA dt_MX12_isDigit 7 rfl) rfl rfl ?_
    refine gf12_209 rfl (kdA dt_MX12_isDigit 8 rfl) c1 ?_
    refine K_aload_n 0 (kdA dt_MX12_isDigit 9 rfl) rfl rfl ?_
    refine gf12_203 rfl (kdA dt_MX12_isDigit 10 rfl) c1 ?_
    obtain ⟨c2, h⟩ := h
    refine K_iadd (kdA dt_MX12_isDigit 11 rfl) c2 ?_
    obtain ⟨c3, h⟩ := h
    obtain ⟨c4, h⟩ := h
    refine K_baload (kdA dt_MX12_isDigit 12 rfl) (Or.inl c3) c4.1 c4.2 ?_
    refine K_bipush (kdA dt_MX12_isDigit 13 rfl) (by decide +kernel) ?_
    refine K_icmp_lt (tgt := 53) (kdA dt_MX12_isDigit 14 rfl) rfl (fun c => ?_) (fun c => ?_)
    · have h := h.1 c
      refine K_iconst (kdA dt_MX12_isDigit 27 rfl) (by decide) ?_
      exact K_zreturn (kdA dt_MX12_isDigit 28 rfl) rfl (Or.inl rfl) ⟨rfl, _, rfl, h⟩
    · have h := h.2 c
      refine K_aload_n 0 (kdA dt_MX12_isDigit 15 rfl) rfl rfl ?_
      refine gf12_41 rfl (kdA dt_MX12_isDigit 16 rfl) c1 ?_
      refine K_aload_n 0 (kdA dt_MX12_isDigit 17 rfl) rfl rfl ?_
      refine gf12_209 rfl (kdA dt_MX12_isDigit 18 rfl) c1 ?_
      refine K_aload_n 0 (kdA dt_MX12_isDigit 19 rfl) rfl rfl ?_
      refine gf12_203 rfl (kdA dt_MX12_isDigit 20 rfl) c1 ?_
      refine K_iadd (kdA dt_MX12_isDigit 21 rfl) c2 ?_
      refine K_baload (kdA dt_MX12_isDigit 22 rfl) (Or.inl c3) c4.1 c4.2 ?_
      refine K_bipush (kdA dt_MX12_isDigit 23 rfl) (by decide +kernel) ?_
      refine K_icmp_gt (tgt := 53) (kdA dt_MX12_isDigit 24 rfl) rfl (fun c => ?_) (fun c => ?_)
      · have h := h.1 c
        refine K_iconst (kdA dt_MX12_isDigit 27 rfl) (by decide) ?_
        exact K_zreturn (kdA dt_MX12_isDigit 28 rfl) rfl (Or.inl rfl) ⟨rfl, _, rfl, h⟩
      · have h := h.2 c
        refine K_iconst (kdA dt_MX12_isDigit 25 rfl) (by decide) ?_
        refine K_goto (tgt := 54) (kdA dt_MX12_isDigit 26 rfl) rfl ?_
        exact K_zreturn (kdA dt_MX12_isDigit 28 rfl) rfl (Or.inr rfl) ⟨rfl, _, rfl, h⟩
theorem EX12_isDigit {d n : Nat} {Q : Int → kS → Prop} {a0 : Int} {σ : kS} (h : kokw n σ → LX12_isDigit_0 d n Q a0 σ) : Ci (d + 1) MX12_isDigit [(2, a0)] n σ Q := Tri_of (by decide +kernel) (Nat.le_of_ble_eq_true rfl) (fun hk hw => h hw)

def LX12_isEra_0 (d n : Nat) (Q : Int → kS → Prop) (a0 : Int) (a1 : Int) (σ : kS) : Prop := K (d + 1) MX12_isEra (kPi n Q) (0, 0) 0 [(0, (2, a0)), (1, (0, a1))] [] n σ
theorem SX12_isEra_0 {d n : Nat} {Q : Int → kS → Prop} {a0 a1 : Int} {σ : kS} (h : (a1 < 0 → Q 0 σ) ∧ (¬ a1 < 0 → isO 12 n a0 ∧ (((σ a0 68) ≤ a1 → Q 0 σ) ∧ (¬ (σ a0 68) ≤ a1 → Q 1 σ)))) : LX12_isEra_0 d n Q a0 a1 σ := by
  unfold LX12_isEra_0
  refine K_iload_n 1 (kdA dt_MX12_isEra 0 rfl) rfl rfl ?_
  refine K_if_lt (tgt := 16) (kdA dt_MX12_isEra 1 rfl) rfl (fun c => ?_) (fun c => ?_)
  · have h := h.1 c
    refine K_iconst (kdA dt_MX12_isEra 8 rfl) (by decide) ?_
    exact K_zreturn (kdA dt_MX12_isEra 9 rfl) rfl (Or.inl rfl) ⟨rfl, _, rfl, h⟩
  · have h := h.2 c
    refine K_iload_n 1 (kdA dt_MX12_isEra 2 rfl) rfl rfl ?_
    refine K_aload_n 0 (kdA dt_MX12_isEra 3 rfl) rfl rfl ?_
    obtain ⟨c1, h⟩ := h
    refine gf12_529 rfl (kdA dt_MX12_isEra 4 rfl) c1 ?_
    refine K_icmp_ge (tgt := 16) (kdA dt_MX12_isEra 5 rfl) rfl (fun c => ?_) (fun c => ?_)
    · have h := h.1 c
      refine K_iconst (kdA dt_MX12_isEra 8 rfl) (by decide) ?_
      exact K_zreturn (kdA dt_MX12_isEra 9 rfl) rfl (Or.inl rfl) ⟨rfl, _, rfl, h⟩
    · have h := h.2 c
      refine K_iconst (kdA dt_MX12_isEra 6 rfl) (by decide) ?_
      refine K_goto (tgt := 17) (kdA dt_MX12_isEra 7 rfl) rfl ?_
      exact K_zreturn (kdA dt_MX12_isEra 9 rfl) rfl (Or.inr rfl) ⟨rfl, _, rfl, h⟩
theorem EX12_isEra {d n : Nat} {Q : Int → kS → Prop} {a0 a1 : Int} {σ : kS} (h : (-2147483648 ≤ a1 ∧ a1 ≤ 2147483647) → kokw n σ → LX12_isEra_0 d n Q a0 a1 σ) : Ci (d + 1) MX12_isEra [(2, a0), (0, a1)] n σ Q := Tri_of (by decide +kernel) (Nat.le_of_ble_eq_true rfl) (fun hk hw => h (hk (0, a1) (List.mem_of_getElem? (i := 1) rfl)) hw)

def LX12_isGoer_0 (d n : Nat) (Q : Int → kS → Prop) (a0 : Int) (a1 : Int) (σ : kS) : Prop := K (d + 1) MX12_isGoer (kPi n Q) (0, 0) 0 [(0, (2, a0)), (1, (0, a1))] [] n σ
theorem SX12_isGoer_0 {d n : Nat} {Q : Int → kS → Prop} {a0 a1 : Int} {σ : kS} (h : (a1 < 0 → Q 0 σ) ∧ (¬ a1 < 0 → isO 12 n a0 ∧ (((σ a0 14) ≤ a1 → Q 0 σ) ∧ (¬ (σ a0 14) ≤ a1 → Q 1 σ)))) : LX12_isGoer_0 d n Q a0 a1 σ := by
  unfold LX12_isGoer_0
  refine K_iload_n 1 (kdA dt_MX12_isGoer 0 rfl) rfl rfl ?_
  refine K_if_lt (tgt := 16) (kdA dt_MX12_isGoer 1 rfl) rfl (fun c => ?_) (fun c => ?_)
  · have h := h.1 c
    refine K_iconst (kdA dt_MX12_isGoer 8 rfl) (by decide) ?_
    exact K_zreturn (kdA dt_MX12_isGoer 9 rfl) rfl (Or.inl rfl) ⟨rfl, _, rfl, h⟩
  · have h := h.2 c
    refine K_iload_n 1 (kdA dt_MX12_isGoer 2 rfl) rfl rfl ?_
    refine K_aload_n 0 (kdA dt_MX12_isGoer 3 rfl) rfl rfl ?_
    obtain ⟨c1, h⟩ := h
    refine gf12_306 rfl (kdA dt_MX12_isGoer 4 rfl) c1 ?_
    refine K_icmp_ge (tgt := 16) (kdA dt_MX12_isGoer 5 rfl) rfl (fun c => ?_) (fun c => ?_)
    · have h := h.1 c
      refine K_iconst (kdA dt_MX12_isGoer 8 rfl) (by decide) ?_
      exact K_zreturn (kdA dt_MX12_isGoer 9 rfl) rfl (Or.inl rfl) ⟨rfl, _, rfl, h⟩
    · have h := h.2 c
      refine K_iconst (kdA dt_MX12_isGoer 6 rfl) (by decide) ?_
      refine K_goto (tgt := 17) (kdA dt_MX12_isGoer 7 rfl) rfl ?_
      exact K_zreturn (kdA dt_MX12_isGoer 9 rfl) rfl (Or.inr rfl) ⟨rfl, _, rfl, h⟩
theorem EX12_isGoer {d n : Nat} {Q : Int → kS → Prop} {a0 a1 : Int} {σ : kS} (h : (-2147483648 ≤ a1 ∧ a1 ≤ 2147483647) → kokw n σ → LX12_isGoer_0 d n Q a0 a1 σ) : Ci (d + 1) MX12_isGoer [(2, a0), (0, a1)] n σ Q := Tri_of (by decide +kernel) (Nat.le_of_ble_eq_true rfl) (fun hk hw => h (hk (0, a1) (List.mem_of_getElem? (i := 1) rfl)) hw)

def LX12_isIn_0 (d n : Nat) (Q : Int → kS → Prop) (a0 : Int) (a1 : Int) (a2 : Int) (σ : kS) : Prop := K (d + 1) MX12_isIn (kPi n Q) (0, 0) 0 [(0, (0, a0)), (1, (0, a1)), (2, (0, a2))] [] n σ
theorem SX12_isIn_0 {d n : Nat} {Q : Int → kS → Prop} {a0 a1 a2 : Int} {σ : kS} (h : (a0 < a1 → Q 0 σ) ∧ (¬ a0 < a1 → (a2 < a0 → Q 0 σ) ∧ (¬ a2 < a0 → Q 1 σ))) : LX12_isIn_0 d n Q a0 a1 a2 σ := by
  unfold LX12_isIn_0
  refine K_iload_n 0 (kdA dt_MX12_isIn 0 rfl) rfl rfl ?_
  refine K_iload_n 1 (kdA dt_MX12_isIn 1 rfl) rfl rfl ?_
  refine K_icmp_lt (tgt := 14) (kdA dt_MX12_isIn 2 rfl) rfl (fun c => ?_) (fun c => ?_)
  · have h := h.1 c
    refine K_iconst (kdA dt_MX12_isIn 8 rfl) (by decide) ?_
    exact K_zreturn (kdA dt_MX12_isIn 9 rfl) rfl (Or.inl rfl) ⟨rfl, _, rfl, h⟩
  · have h := h.2 c
    refine K_iload_n 0 (kdA dt_MX12_isIn 3 rfl) rfl rfl ?_
    refine K_iload_n 2 (kdA dt_MX12_isIn 4 rfl) rfl rfl ?_
    refine K_icmp_gt (tgt := 14) (kdA dt_MX12_isIn 5 rfl) rfl (fun c => ?_) (fun c => ?_)
    · have h := h.1 c
      refine K_iconst (kdA dt_MX12_isIn 8 rfl) (by decide) ?_
      exact K_zreturn (kdA dt_MX12_isIn 9 rfl) rfl (Or.inl rfl) ⟨rfl, _, rfl, h⟩
    · have h := h.2 c
      refine K_iconst (kdA dt_MX12_isIn 6 rfl) (by decide) ?_
      refine K_goto (tgt := 15) (kdA dt_MX12_isIn 7 rfl) rfl ?_
      exact K_zreturn (kdA dt_MX12_isIn 9 rfl) rfl (Or.inr rfl) ⟨rfl, _, rfl, h⟩
theorem EX12_isIn {d n : Nat} {Q : Int → kS → Prop} {a0 a1 a2 : Int} {σ : kS} (h : (-2147483648 ≤ a0 ∧ a0 ≤ 2147483647) → (-2147483648 ≤ a1 ∧ a1 ≤ 2147483647) → (-2147483648 ≤ a2 ∧ a2 ≤ 2147483647) → kokw n σ → LX12_isIn_0 d n Q a0 a1 a2 σ) : Ci (d + 1) MX12_isIn [(0, a0), (0, a1), (0, a2)] n σ Q := Tri_of (by decide +kernel) (Nat.le_of_ble_eq_true rfl) (fun hk hw => h (hk (0, a0) (List.mem_of_getElem? (i := 0) rfl)) (hk (0, a1) (List.mem_of_getElem? (i := 1) rfl)) (hk (0, a2) (List.mem_of_getElem? (i := 2) rfl)) hw)

def LX12_isInLand_0 (d n : Nat) (Q : Int → kS → Prop) (a0 : Int) (a1 : Int) (a2 : Int) (a3 : Int) (σ : kS) : Prop := K (d + 1) MX12_isInLand (kPi n Q) (0, 0) 0 [(0, (2, a0)), (1, (0, a1)), (2, (0, a2)), (3, (0, a3))] [] n σ
def LX12_isInLand_3 (d n : Nat) (Q : Int → kS → Prop) (a0 : Int) (a1 : Int) (a2 : Int) (a3 : Int) (a4 : Int) (σ : kS) : Prop := K (d + 1) MX12_isInLand (kPi n Q) (0, 0) 3 [(0, (2, a0)), (1, (0, a1)), (2, (0, a2)), (3, (0, a3)), (4, (0, a4))] [] n σ
theorem SX12_isInLand_0 {d n : Nat} {Q : Int → kS → Prop} {a0 a1 a2 a3 : Int} {σ : kS} (h : LX12_isInLand_3 d n Q a0 a1 a2 a3 0 σ) : LX12_isInLand_0 d n Q a0 a1 a2 a3 σ := by
  unfold LX12_isInLand_0
  refine K_iconst (kdA dt_MX12_isInLand 0 rfl) (by decide) ?_
  refine K_istore (ls' := [(0, (2, a0)), (1, (0, a1)), (2, (0, a2)), (3, (0, a3)), (4, (0, 0))]) (kdA dt_MX12_isInLand 1 rfl) (by decide) rfl ?_
  exact h
theorem SX12_isInLand_3 {d n : Nat} {Q : Int → kS → Prop} {a0 a1 a2 a3 a4 : Int} {σ : kS} (h : isO 12 n a0 ∧ (isA 20 n (σ a0 32) ∧ (((0 : Int) ≤ a1 ∧ a1 < klen (σ a0 32)) ∧ (((σ (σ a0 32) a1) ≤ a4 → Q 1 σ) ∧ (¬ (σ (σ a0 32) a1) ≤ a4 → Ci d MX12_cellOf [(2, a0), (0, a1), (0, a4)] n σ (fun x4 s1 => ((0 : Int) ≤ x4) ∧ ((-2147483648 ≤ ((x4 % 12) + a2) ∧ ((x4 % 12) + a2) ≤ 2147483647) ∧ (Ci d MX12_cellOf [(2, a0), (0, a1), (0, a4)] n s1 (fun x7 s2 => ((0 : Int) ≤ x7) ∧ ((-2147483648 ≤ ((x7 / 12) + a3) ∧ ((x7 / 12) + a3) ≤ 2147483647) ∧ (Ci d MX12_isPlace [(0, ((x4 % 12) + a2)), (0, ((x7 / 12) + a3))] n s2 (fun x10 s3 => (¬ x10 = 0 → (-2147483648 ≤ (a4 + 1) ∧ (a4 + 1) ≤ 2147483647) ∧ (LX12_isInLand_3 d n Q a0 a1 a2 a3 (a4 + 1) s3)) ∧ (¬ (¬ x10 = 0) → Q 0 s3))))))))))))) : LX12_isInLand_3 d n Q a0 a1 a2 a3 a4 σ := by
  unfold LX12_isInLand_3
  refine K_iload 4 (kdA dt_MX12_isInLand 2 rfl) rfl ?_
  refine K_aload_n 0 (kdA dt_MX12_isInLand 3 rfl) rfl rfl ?_
  obtain ⟨c1, h⟩ := h
  refine gf12_70 rfl (kdA dt_MX12_isInLand 4 rfl) c1 ?_
  refine K_iload_n 1 (kdA dt_MX12_isInLand 5 rfl) rfl rfl ?_
  obtain ⟨c2, h⟩ := h
  obtain ⟨c3, h⟩ := h
  refine K_iaload (kdA dt_MX12_isInLand 6 rfl) c2 c3.1 c3.2 ?_
  refine K_icmp_ge (tgt := 52) (kdA dt_MX12_isInLand 7 rfl) rfl (fun c => ?_) (fun c => ?_)
  · have h := h.1 c
    refine K_iconst (kdA dt_MX12_isInLand 30 rfl) (by decide) ?_
    exact K_zreturn (kdA dt_MX12_isInLand 31 rfl) rfl (Or.inr rfl) ⟨rfl, _, rfl, h⟩
  · have h := h.2 c
    refine K_aload_n 0 (kdA dt_MX12_isInLand 8 rfl) rfl rfl ?_
    refine K_iload_n 1 (kdA dt_MX12_isInLand 9 rfl) rfl rfl ?_
    refine K_iload 4 (kdA dt_MX12_isInLand 10 rfl) rfl ?_
    refine K_cVi (c := 12) (as := [(0, a1), (0, a4)]) (st := []) (kdA dt_MX12_isInLand 11 rfl) rfl cl_MX12_cellOf lk12_386 rfl rfl (Nat.le_of_ble_eq_true rfl) c1 (Ci.mono h (fun x4 s1 h => ?_))
    refine K_bipush (kdA dt_MX12_isInLand 12 rfl) (by decide +kernel) ?_
    obtain ⟨c5, h⟩ := h
    refine K_irem (kdA dt_MX12_isInLand 13 rfl) c5 (by decide) ?_
    refine K_iload_n 2 (kdA dt_MX12_isInLand 14 rfl) rfl rfl ?_
    obtain ⟨c6, h⟩ := h
    refine K_iadd (kdA dt_MX12_isInLand 15 rfl) c6 ?_
    refine K_aload_n 0 (kdA dt_MX12_isInLand 16 rfl) rfl rfl ?_
    refine K_iload_n 1 (kdA dt_MX12_isInLand 17 rfl) rfl rfl ?_
    refine K_iload 4 (kdA dt_MX12_isInLand 18 rfl) rfl ?_
    refine K_cVi (c := 12) (as := [(0, a1), (0, a4)]) (st := [(0, ((x4 % 12) + a2))]) (kdA dt_MX12_isInLand 19 rfl) rfl cl_MX12_cellOf lk12_386 rfl rfl (Nat.le_of_ble_eq_true rfl) c1 (Ci.mono h (fun x7 s2 h => ?_))
    refine K_bipush (kdA dt_MX12_isInLand 20 rfl) (by decide +kernel) ?_
    obtain ⟨c8, h⟩ := h
    refine K_idiv (kdA dt_MX12_isInLand 21 rfl) c8 (by decide) ?_
    refine K_iload_n 3 (kdA dt_MX12_isInLand 22 rfl) rfl rfl ?_
    obtain ⟨c9, h⟩ := h
    refine K_iadd (kdA dt_MX12_isInLand 23 rfl) c9 ?_
    refine K_cSi (as := [(0, ((x4 % 12) + a2)), (0, ((x7 / 12) + a3))]) (st := []) (kdA dt_MX12_isInLand 24 rfl) cl_MX12_isPlace lk12_157 rfl rfl (Nat.le_of_ble_eq_true rfl) (Ci.mono h (fun x10 s3 h => ?_))
    refine K_if_ne (tgt := 46) (kdA dt_MX12_isInLand 25 rfl) rfl (fun c => ?_) (fun c => ?_)
    · have h := h.1 c
      obtain ⟨c11, h⟩ := h
      refine K_iinc (ls' := [(0, (2, a0)), (1, (0, a1)), (2, (0, a2)), (3, (0, a3)), (4, (0, (a4 + 1)))]) 4 (kdA dt_MX12_isInLand 28 rfl) rfl c11 (by decide) rfl ?_
      refine K_goto (tgt := 3) (kdA dt_MX12_isInLand 29 rfl) rfl ?_
      exact h
    · have h := h.2 c
      refine K_iconst (kdA dt_MX12_isInLand 26 rfl) (by decide) ?_
      exact K_zreturn (kdA dt_MX12_isInLand 27 rfl) rfl (Or.inl rfl) ⟨rfl, _, rfl, h⟩
theorem EX12_isInLand {d n : Nat} {Q : Int → kS → Prop} {a0 a1 a2 a3 : Int} {σ : kS} (h : (-2147483648 ≤ a1 ∧ a1 ≤ 2147483647) → (-2147483648 ≤ a2 ∧ a2 ≤ 2147483647) → (-2147483648 ≤ a3 ∧ a3 ≤ 2147483647) → kokw n σ → LX12_isInLand_0 d n Q a0 a1 a2 a3 σ) : Ci (d + 1) MX12_isInLand [(2, a0), (0, a1), (0, a2), (0, a3)] n σ Q := Tri_of (by decide +kernel) (Nat.le_of_ble_eq_true rfl) (fun hk hw => h (hk (0, a1) (List.mem_of_getElem? (i := 1) rfl)) (hk (0, a2) (List.mem_of_getElem? (i := 2) rfl)) (hk (0, a3) (List.mem_of_getElem? (i := 3) rfl)) hw)

def LX12_isLine_0 (d n : Nat) (Q : Int → kS → Prop) (a0 : Int) (a1 : Int) (σ : kS) : Prop := K (d + 1) MX12_isLine (kPi n Q) (0, 0) 0 [(0, (2, a0)), (1, (0, a1))] [] n σ
theorem SX12_isLine_0 {d n : Nat} {Q : Int → kS → Prop} {a0 a1 : Int} {σ : kS} (h : (a1 < 0 → Q 0 σ) ∧ (¬ a1 < 0 → isO 12 n a0 ∧ (((σ a0 34) ≤ a1 → Q 0 σ) ∧ (¬ (σ a0 34) ≤ a1 → Q 1 σ)))) : LX12_isLine_0 d n Q a0 a1 σ := by
  unfold LX12_isLine_0
  refine K_iload_n 1 (kdA dt_MX12_isLine 0 rfl) rfl rfl ?_
  refine K_if_lt (tgt := 16) (kdA dt_MX12_isLine 1 rfl) rfl (fun c => ?_) (fun c => ?_)
  · have h := h.1 c
    refine K_iconst (kdA dt_MX12_isLine 8 rfl) (by decide) ?_
    exact K_zreturn (kdA dt_MX12_isLine 9 rfl) rfl (Or.inl rfl) ⟨rfl, _, rfl, h⟩
  · have h := h.2 c
    refine K_iload_n 1 (kdA dt_MX12_isLine 2 rfl) rfl rfl ?_
    refine K_aload_n 0 (kdA dt_MX12_isLine 3 rfl) rfl rfl ?_
    obtain ⟨c1, h⟩ := h
    refine gf12_371 rfl (kdA dt_MX12_isLine 4 rfl) c1 ?_
    refine K_icmp_ge (tgt := 16) (kdA dt_MX12_isLine 5 rfl) rfl (fun c => ?_) (fun c => ?_)
    · have h := h.1 c
      refine K_iconst (kdA dt_MX12_isLine 8 rfl) (by decide) ?_
      exact K_zreturn (kdA dt_MX12_isLine 9 rfl) rfl (Or.inl rfl) ⟨rfl, _, rfl, h⟩
    · have h := h.2 c
      refine K_iconst (kdA dt_MX12_isLine 6 rfl) (by decide) ?_
      refine K_goto (tgt := 17) (kdA dt_MX12_isLine 7 rfl) rfl ?_
      exact K_zreturn (kdA dt_MX12_isLine 9 rfl) rfl (Or.inr rfl) ⟨rfl, _, rfl, h⟩
theorem EX12_isLine {d n : Nat} {Q : Int → kS → Prop} {a0 a1 : Int} {σ : kS} (h : (-2147483648 ≤ a1 ∧ a1 ≤ 2147483647) → kokw n σ → LX12_isLine_0 d n Q a0 a1 σ) : Ci (d + 1) MX12_isLine [(2, a0), (0, a1)] n σ Q := Tri_of (by decide +kernel) (Nat.le_of_ble_eq_true rfl) (fun hk hw => h (hk (0, a1) (List.mem_of_getElem? (i := 1) rfl)) hw)

def LX12_isManner_0 (d n : Nat) (Q : Int → kS → Prop) (a0 : Int) (a1 : Int) (a2 : Int) (σ : kS) : Prop := K (d + 1) MX12_isManner (kPi n Q) (0, 0) 0 [(0, (2, a0)), (1, (0, a1)), (2, (0, a2))] [] n σ
theorem SX12_isManner_0 {d n : Nat} {Q : Int → kS → Prop} {a0 a1 a2 : Int} {σ : kS} (h : isO 12 n a0 ∧ (Ci d MX12_isGoer [(2, a0), (0, a1)] n σ (fun x2 s1 => (x2 = 0 → Q 0 s1) ∧ (¬ x2 = 0 → Ci d MX12_isIn [(0, a2), (0, 0), (0, 99)] n s1 (fun x3 s2 => (x3 = 0 → Q 0 s2) ∧ (¬ x3 = 0 → Q 1 s2)))))) : LX12_isManner_0 d n Q a0 a1 a2 σ := by
  unfold LX12_isManner_0
  refine K_aload_n 0 (kdA dt_MX12_isManner 0 rfl) rfl rfl ?_
  refine K_iload_n 1 (kdA dt_MX12_isManner 1 rfl) rfl rfl ?_
  obtain ⟨c1, h⟩ := h
  refine K_cVi (c := 12) (as := [(0, a1)]) (st := []) (kdA dt_MX12_isManner 2 rfl) rfl cl_MX12_isGoer lk12_311 rfl rfl (Nat.le_of_ble_eq_true rfl) c1 (Ci.mono h (fun x2 s1 h => ?_))
  refine K_if_eq (tgt := 22) (kdA dt_MX12_isManner 3 rfl) rfl (fun c => ?_) (fun c => ?_)
  · have h := h.1 c
    refine K_iconst (kdA dt_MX12_isManner 11 rfl) (by decide) ?_
    exact K_zreturn (kdA dt_MX12_isManner 12 rfl) rfl (Or.inl rfl) ⟨rfl, _, rfl, h⟩
  · have h := h.2 c
    refine K_iload_n 2 (kdA dt_MX12_isManner 4 rfl) rfl rfl ?_
    refine K_iconst (kdA dt_MX12_isManner 5 rfl) (by decide) ?_
    refine K_bipush (kdA dt_MX12_isManner 6 rfl) (by decide +kernel) ?_
    refine K_cSi (as := [(0, a2), (0, 0), (0, 99)]) (st := []) (kdA dt_MX12_isManner 7 rfl) cl_MX12_isIn lk12_153 rfl rfl (Nat.le_of_ble_eq_true rfl) (Ci.mono h (fun x3 s2 h => ?_))
    refine K_if_eq (tgt := 22) (kdA dt_MX12_isManner 8 rfl) rfl (fun c => ?_) (fun c => ?_)
    · have h := h.1 c
      refine K_iconst (kdA dt_MX12_isManner 11 rfl) (by decide) ?_
      exact K_zreturn (kdA dt_MX12_isManner 12 rfl) rfl (Or.inl rfl) ⟨rfl, _, rfl, h⟩
    · have h := h.2 c
      refine K_iconst (kdA dt_MX12_isManner 9 rfl) (by decide) ?_
      refine K_goto (tgt := 23) (kdA dt_MX12_isManner 10 rfl) rfl ?_
      exact K_zreturn (kdA dt_MX12_isManner 12 rfl) rfl (Or.inr rfl) ⟨rfl, _, rfl, h⟩
theorem EX12_isManner {d n : Nat} {Q : Int → kS → Prop} {a0 a1 a2 : Int} {σ : kS} (h : (-2147483648 ≤ a1 ∧ a1 ≤ 2147483647) → (-2147483648 ≤ a2 ∧ a2 ≤ 2147483647) → kokw n σ → LX12_isManner_0 d n Q a0 a1 a2 σ) : Ci (d + 1) MX12_isManner [(2, a0), (0, a1), (0, a2)] n σ Q := Tri_of (by decide +kernel) (Nat.le_of_ble_eq_true rfl) (fun hk hw => h (hk (0, a1) (List.mem_of_getElem? (i := 1) rfl)) (hk (0, a2) (List.mem_of_getElem? (i := 2) rfl)) hw)

def LX12_isNear_0 (d n : Nat) (Q : Int → kS → Prop) (a0 : Int) (a1 : Int) (a2 : Int) (a3 : Int) (σ : kS) : Prop := K (d + 1) MX12_isNear (kPi n Q) (0, 0) 0 [(0, (2, a0)), (1, (0, a1)), (2, (0, a2)), (3, (0, a3))] [] n σ
theorem SX12_isNear_0 {d n : Nat} {Q : Int → kS → Prop} {a0 a1 a2 a3 : Int} {σ : kS} (h : isO 12 n a0 ∧ (Ci d MX12_isLine [(2, a0), (0, a1)] n σ (fun x2 s1 => (x2 = 0 → Q 0 s1) ∧ (¬ x2 = 0 → Ci d MX12_isIn [(0, a2), (0, 0), (0, 5)] n s1 (fun x3 s2 => (x3 = 0 → Q 0 s2) ∧ (¬ x3 = 0 → Ci d MX12_isIn [(0, a3), (0, 0), (0, 15)] n s2 (fun x4 s3 => (x4 = 0 → Q 0 s3) ∧ (¬ x4 = 0 → Q 1 s3)))))))) : LX12_isNear_0 d n Q a0 a1 a2 a3 σ := by
  unfold LX12_isNear_0
  refine K_aload_n 0 (kdA dt_MX12_isNear 0 rfl) rfl rfl ?_
  refine K_iload_n 1 (kdA dt_MX12_isNear 1 rfl) rfl rfl ?_
  obtain ⟨c1, h⟩ := h
  refine K_cVi (c := 12) (as := [(0, a1)]) (st := []) (kdA dt_MX12_isNear 2 rfl) rfl cl_MX12_isLine lk12_383 rfl rfl (Nat.le_of_ble_eq_true rfl) c1 (Ci.mono h (fun x2 s1 h => ?_))
  refine K_if_eq (tgt := 31) (kdA dt_MX12_isNear 3 rfl) rfl (fun c => ?_) (fun c => ?_)
  · have h := h.1 c
    refine K_iconst (kdA dt_MX12_isNear 16 rfl) (by decide) ?_
    exact K_zreturn (kdA dt_MX12_isNear 17 rfl) rfl (Or.inl rfl) ⟨rfl, _, rfl, h⟩
  · have h := h.2 c
    refine K_iload_n 2 (kdA dt_MX12_isNear 4 rfl) rfl rfl ?_
    refine K_iconst (kdA dt_MX12_isNear 5 rfl) (by decide) ?_
    refine K_iconst (kdA dt_MX12_isNear 6 rfl) (by decide) ?_
    refine K_cSi (as := [(0, a2), (0, 0), (0, 5)]) (st := []) (kdA dt_MX12_isNear 7 rfl) cl_MX12_isIn lk12_153 rfl rfl (Nat.le_of_ble_eq_true rfl) (Ci.mono h (fun x3 s2 h => ?_))
    refine K_if_eq (tgt := 31) (kdA dt_MX12_isNear 8 rfl) rfl (fun c => ?_) (fun c => ?_)
    · have h := h.1 c
      refine K_iconst (kdA dt_MX12_isNear 16 rfl) (by decide) ?_
      exact K_zreturn (kdA dt_MX12_isNear 17 rfl) rfl (Or.inl rfl) ⟨rfl, _, rfl, h⟩
    · have h := h.2 c
      refine K_iload_n 3 (kdA dt_MX12_isNear 9 rfl) rfl rfl ?_
      refine K_iconst (kdA dt_MX12_isNear 10 rfl) (by decide) ?_
      refine K_bipush (kdA dt_MX12_isNear 11 rfl) (by decide +kernel) ?_
      refine K_cSi (as := [(0, a3), (0, 0), (0, 15)]) (st := []) (kdA dt_MX12_isNear 12 rfl) cl_MX12_isIn lk12_153 rfl rfl (Nat.le_of_ble_eq_true rfl) (Ci.mono h (fun x4 s3 h => ?_))
      refine K_if_eq (tgt := 31) (kdA dt_MX12_isNear 13 rfl) rfl (fun c => ?_) (fun c => ?_)
      · have h := h.1 c
        refine K_iconst (kdA dt_MX12_isNear 16 rfl) (by decide) ?_
        exact K_zreturn (kdA dt_MX12_isNear 17 rfl) rfl (Or.inl rfl) ⟨rfl, _, rfl, h⟩
      · have h := h.2 c
        refine K_iconst (kdA dt_MX12_isNear 14 rfl) (by decide) ?_
        refine K_goto (tgt := 32) (kdA dt_MX12_isNear 15 rfl) rfl ?_
        exact K_zreturn (kdA dt_MX12_isNear 17 rfl) rfl (Or.inr rfl) ⟨rfl, _, rfl, h⟩
theorem EX12_isNear {d n : Nat} {Q : Int → kS → Prop} {a0 a1 a2 a3 : Int} {σ : kS} (h : (-2147483648 ≤ a1 ∧ a1 ≤ 2147483647) → (-2147483648 ≤ a2 ∧ a2 ≤ 2147483647) → (-2147483648 ≤ a3 ∧ a3 ≤ 2147483647) → kokw n σ → LX12_isNear_0 d n Q a0 a1 a2 a3 σ) : Ci (d + 1) MX12_isNear [(2, a0), (0, a1), (0, a2), (0, a3)] n σ Q := Tri_of (by decide +kernel) (Nat.le_of_ble_eq_true rfl) (fun hk hw => h (hk (0, a1) (List.mem_of_getElem? (i := 1) rfl)) (hk (0, a2) (List.mem_of_getElem? (i := 2) rfl)) (hk (0, a3) (List.mem_of_getElem? (i := 3) rfl)) hw)

def LX12_isOnWay_0 (d n : Nat) (Q : Int → kS → Prop) (a0 : Int) (a1 : Int) (a2 : Int) (σ : kS) : Prop := K (d + 1) MX12_isOnWay (kPi n Q) (0, 0) 0 [(0, (2, a0)), (1, (0, a1)), (2, (0, a2))] [] n σ
def LX12_isOnWay_2 (d n : Nat) (Q : Int → kS → Prop) (a0 : Int) (a1 : Int) (a2 : Int) (a3 : Int) (σ : kS) : Prop := K (d + 1) MX12_isOnWay (kPi n Q) (0, 0) 2 [(0, (2, a0)), (1, (0, a1)), (2, (0, a2)), (3, (0, a3))] [] n σ
theorem SX12_isOnWay_0 {d n : Nat} {Q : Int → kS → Prop} {a0 a1 a2 : Int} {σ : kS} (h : LX12_isOnWay_2 d n Q a0 a1 a2 0 σ) : LX12_isOnWay_0 d n Q a0 a1 a2 σ := by
  unfold LX12_isOnWay_0
  refine K_iconst (kdA dt_MX12_isOnWay 0 rfl) (by decide) ?_
  refine K_istore_n (ls' := [(0, (2, a0)), (1, (0, a1)), (2, (0, a2)), (3, (0, 0))]) (kdA dt_MX12_isOnWay 1 rfl) rfl (by decide) rfl ?_
  exact h
theorem SX12_isOnWay_2 {d n : Nat} {Q : Int → kS → Prop} {a0 a1 a2 a3 : Int} {σ : kS} (h : isO 12 n a0 ∧ (isA 20 n (σ a0 43) ∧ (((0 : Int) ≤ a1 ∧ a1 < klen (σ a0 43)) ∧ (((σ (σ a0 43) a1) ≤ a3 → Q 0 σ) ∧ (¬ (σ (σ a0 43) a1) ≤ a3 → (-2147483648 ≤ (140 * a1) ∧ (140 * a1) ≤ 2147483647) ∧ ((-2147483648 ≤ ((140 * a1) + a3) ∧ ((140 * a1) + a3) ≤ 2147483647) ∧ (isA 20 n (σ a0 44) ∧ (((0 : Int) ≤ ((140 * a1) + a3) ∧ ((140 * a1) + a3) < klen (σ a0 44)) ∧ ((¬ (σ (σ a0 44) ((140 * a1) + a3)) = a2 → (-2147483648 ≤ (a3 + 1) ∧ (a3 + 1) ≤ 2147483647) ∧ (LX12_isOnWay_2 d n Q a0 a1 a2 (a3 + 1) σ)) ∧ (¬ (¬ (σ (σ a0 44) ((140 * a1) + a3)) = a2) → Q 1 σ)))))))))) : LX12_isOnWay_2 d n Q a0 a1 a2 a3 σ := by
  unfold LX12_isOnWay_2
  refine K_iload_n 3 (kdA dt_MX12_isOnWay 2 rfl) rfl rfl ?_
  refine K_aload_n 0 (kdA dt_MX12_isOnWay 3 rfl) rfl rfl ?_
  obtain ⟨c1, h⟩ := h
  refine gf12_94 rfl (kdA dt_MX12_isOnWay 4 rfl) c1 ?_
  refine K_iload_n 1 (kdA dt_MX12_isOnWay 5 rfl) rfl rfl ?_
  obtain ⟨c2, h⟩ := h
  obtain ⟨c3, h⟩ := h
  refine K_iaload (kdA dt_MX12_isOnWay 6 rfl) c2 c3.1 c3.2 ?_
  refine K_icmp_ge (tgt := 36) (kdA dt_MX12_isOnWay 7 rfl) rfl (fun c => ?_) (fun c => ?_)
  · have h := h.1 c
    refine K_iconst (kdA dt_MX12_isOnWay 22 rfl) (by decide) ?_
    exact K_zreturn (kdA dt_MX12_isOnWay 23 rfl) rfl (Or.inl rfl) ⟨rfl, _, rfl, h⟩
  · have h := h.2 c
    refine K_aload_n 0 (kdA dt_MX12_isOnWay 8 rfl) rfl rfl ?_
    refine gf12_97 rfl (kdA dt_MX12_isOnWay 9 rfl) c1 ?_
    refine K_sipush (kdA dt_MX12_isOnWay 10 rfl) (by decide +kernel) ?_
    refine K_iload_n 1 (kdA dt_MX12_isOnWay 11 rfl) rfl rfl ?_
    obtain ⟨c4, h⟩ := h
    refine K_imul (kdA dt_MX12_isOnWay 12 rfl) c4 ?_
    refine K_iload_n 3 (kdA dt_MX12_isOnWay 13 rfl) rfl rfl ?_
    obtain ⟨c5, h⟩ := h
    refine K_iadd (kdA dt_MX12_isOnWay 14 rfl) c5 ?_
    obtain ⟨c6, h⟩ := h
    obtain ⟨c7, h⟩ := h
    refine K_iaload (kdA dt_MX12_isOnWay 15 rfl) c6 c7.1 c7.2 ?_
    refine K_iload_n 2 (kdA dt_MX12_isOnWay 16 rfl) rfl rfl ?_
    refine K_icmp_ne (tgt := 30) (kdA dt_MX12_isOnWay 17 rfl) rfl (fun c => ?_) (fun c => ?_)
    · have h := h.1 c
      obtain ⟨c8, h⟩ := h
      refine K_iinc (ls' := [(0, (2, a0)), (1, (0, a1)), (2, (0, a2)), (3, (0, (a3 + 1)))]) 3 (kdA dt_MX12_isOnWay 20 rfl) rfl c8 (by decide) rfl ?_
      refine K_goto (tgt := 2) (kdA dt_MX12_isOnWay 21 rfl) rfl ?_
      exact h
    · have h := h.2 c
      refine K_iconst (kdA dt_MX12_isOnWay 18 rfl) (by decide) ?_
      exact K_zreturn (kdA dt_MX12_isOnWay 19 rfl) rfl (Or.inr rfl) ⟨rfl, _, rfl, h⟩
theorem EX12_isOnWay {d n : Nat} {Q : Int → kS → Prop} {a0 a1 a2 : Int} {σ : kS} (h : (-2147483648 ≤ a1 ∧ a1 ≤ 2147483647) → (-2147483648 ≤ a2 ∧ a2 ≤ 2147483647) → kokw n σ → LX12_isOnWay_0 d n Q a0 a1 a2 σ) : Ci (d + 1) MX12_isOnWay [(2, a0), (0, a1), (0, a2)] n σ Q := Tri_of (by decide +kernel) (Nat.le_of_ble_eq_true rfl) (fun hk hw => h (hk (0, a1) (List.mem_of_getElem? (i := 1) rfl)) (hk (0, a2) (List.mem_of_getElem? (i := 2) rfl)) hw)

def LX12_isPlace_0 (d n : Nat) (Q : Int → kS → Prop) (a0 : Int) (a1 : Int) (σ : kS) : Prop := K (d + 1) MX12_isPlace (kPi n Q) (0, 0) 0 [(0, (0, a0)), (1, (0, a1))] [] n σ
theorem SX12_isPlace_0 {d n : Nat} {Q : Int → kS → Prop} {a0 a1 : Int} {σ : kS} (h : Ci d MX12_isIn [(0, a0), (0, 0), (0, 11)] n σ (fun x1 s1 => (x1 = 0 → Q 0 s1) ∧ (¬ x1 = 0 → Ci d MX12_isIn [(0, a1), (0, 0), (0, 9)] n s1 (fun x2 s2 => (x2 = 0 → Q 0 s2) ∧ (¬ x2 = 0 → Q 1 s2))))) : LX12_isPlace_0 d n Q a0 a1 σ := by
  unfold LX12_isPlace_0
  refine K_iload_n 0 (kdA dt_MX12_isPlace 0 rfl) rfl rfl ?_
  refine K_iconst (kdA dt_MX12_isPlace 1 rfl) (by decide) ?_
  refine K_bipush (kdA dt_MX12_isPlace 2 rfl) (by decide +kernel) ?_
  refine K_cSi (as := [(0, a0), (0, 0), (0, 11)]) (st := []) (kdA dt_MX12_isPlace 3 rfl) cl_MX12_isIn lk12_153 rfl rfl (Nat.le_of_ble_eq_true rfl) (Ci.mono h (fun x1 s1 h => ?_))
  refine K_if_eq (tgt := 24) (kdA dt_MX12_isPlace 4 rfl) rfl (fun c => ?_) (fun c => ?_)
  · have h := h.1 c
    refine K_iconst (kdA dt_MX12_isPlace 12 rfl) (by decide) ?_
    exact K_zreturn (kdA dt_MX12_isPlace 13 rfl) rfl (Or.inl rfl) ⟨rfl, _, rfl, h⟩
  · have h := h.2 c
    refine K_iload_n 1 (kdA dt_MX12_isPlace 5 rfl) rfl rfl ?_
    refine K_iconst (kdA dt_MX12_isPlace 6 rfl) (by decide) ?_
    refine K_bipush (kdA dt_MX12_isPlace 7 rfl) (by decide +kernel) ?_
    refine K_cSi (as := [(0, a1), (0, 0), (0, 9)]) (st := []) (kdA dt_MX12_isPlace 8 rfl) cl_MX12_isIn lk12_153 rfl rfl (Nat.le_of_ble_eq_true rfl) (Ci.mono h (fun x2 s2 h => ?_))
    refine K_if_eq (tgt := 24) (kdA dt_MX12_isPlace 9 rfl) rfl (fun c => ?_) (fun c => ?_)
    · have h := h.1 c
      refine K_iconst (kdA dt_MX12_isPlace 12 rfl) (by decide) ?_
      exact K_zreturn (kdA dt_MX12_isPlace 13 rfl) rfl (Or.inl rfl) ⟨rfl, _, rfl, h⟩
    · have h := h.2 c
      refine K_iconst (kdA dt_MX12_isPlace 10 rfl) (by decide) ?_
      refine K_goto (tgt := 25) (kdA dt_MX12_isPlace 11 rfl) rfl ?_
      exact K_zreturn (kdA dt_MX12_isPlace 13 rfl) rfl (Or.inr rfl) ⟨rfl, _, rfl, h⟩
theorem EX12_isPlace {d n : Nat} {Q : Int → kS → Prop} {a0 a1 : Int} {σ : kS} (h : (-2147483648 ≤ a0 ∧ a0 ≤ 2147483647) → (-2147483648 ≤ a1 ∧ a1 ≤ 2147483647) → kokw n σ → LX12_isPlace_0 d n Q a0 a1 σ) : Ci (d + 1) MX12_isPlace [(0, a0), (0, a1)] n σ Q := Tri_of (by decide +kernel) (Nat.le_of_ble_eq_true rfl) (fun hk hw => h (hk (0, a0) (List.mem_of_getElem? (i := 0) rfl)) (hk (0, a1) (List.mem_of_getElem? (i := 1) rfl)) hw)

def LX12_isSign_0 (d n : Nat) (Q : Int → kS → Prop) (a0 : Int) (σ : kS) : Prop := K (d + 1) MX12_isSign (kPi n Q) (0, 0) 0 [(0, (0, a0))] [] n σ
theorem SX12_isSign_0 {d n : Nat} {Q : Int → kS → Prop} {a0 : Int} {σ : kS} (h : (a0 = 61 → Q 1 σ) ∧ (¬ a0 = 61 → (a0 = 60 → Q 1 σ) ∧ (¬ a0 = 60 → (¬ a0 = 62 → Q 0 σ) ∧ (¬ (¬ a0 = 62) → Q 1 σ)))) : LX12_isSign_0 d n Q a0 σ := by
  unfold LX12_isSign_0
  refine K_iload_n 0 (kdA dt_MX12_isSign 0 rfl) rfl rfl ?_
  refine K_bipush (kdA dt_MX12_isSign 1 rfl) (by decide +kernel) ?_
  refine K_icmp_eq (tgt := 18) (kdA dt_MX12_isSign 2 rfl) rfl (fun c => ?_) (fun c => ?_)
  · have h := h.1 c
    refine K_iconst (kdA dt_MX12_isSign 9 rfl) (by decide) ?_
    refine K_goto (tgt := 23) (kdA dt_MX12_isSign 10 rfl) rfl ?_
    exact K_zreturn (kdA dt_MX12_isSign 12 rfl) rfl (Or.inr rfl) ⟨rfl, _, rfl, h⟩
  · have h := h.2 c
    refine K_iload_n 0 (kdA dt_MX12_isSign 3 rfl) rfl rfl ?_
    refine K_bipush (kdA dt_MX12_isSign 4 rfl) (by decide +kernel) ?_
    refine K_icmp_eq (tgt := 18) (kdA dt_MX12_isSign 5 rfl) rfl (fun c => ?_) (fun c => ?_)
    · have h := h.1 c
      refine K_iconst (kdA dt_MX12_isSign 9 rfl) (by decide) ?_
      refine K_goto (tgt := 23) (kdA dt_MX12_isSign 10 rfl) rfl ?_
      exact K_zreturn (kdA dt_MX12_isSign 12 rfl) rfl (Or.inr rfl) ⟨rfl, _, rfl, h⟩
    · have h := h.2 c
      refine K_iload_n 0 (kdA dt_MX12_isSign 6 rfl) rfl rfl ?_
      refine K_bipush (kdA dt_MX12_isSign 7 rfl) (by decide +kernel) ?_
      refine K_icmp_ne (tgt := 22) (kdA dt_MX12_isSign 8 rfl) rfl (fun c => ?_) (fun c => ?_)
      · have h := h.1 c
        refine K_iconst (kdA dt_MX12_isSign 11 rfl) (by decide) ?_
        exact K_zreturn (kdA dt_MX12_isSign 12 rfl) rfl (Or.inl rfl) ⟨rfl, _, rfl, h⟩
      · have h := h.2 c
        refine K_iconst (kdA dt_MX12_isSign 9 rfl) (by decide) ?_
        refine K_goto (tgt := 23) (kdA dt_MX12_isSign 10 rfl) rfl ?_
        exact K_zreturn (kdA dt_MX12_isSign 12 rfl) rfl (Or.inr rfl) ⟨rfl, _, rfl, h⟩
theorem EX12_isSign {d n : Nat} {Q : Int → kS → Prop} {a0 : Int} {σ : kS} (h : (-2147483648 ≤ a0 ∧ a0 ≤ 2147483647) → kokw n σ → LX12_isSign_0 d n Q a0 σ) : Ci (d + 1) MX12_isSign [(0, a0)] n σ Q := Tri_of (by decide +kernel) (Nat.le_of_ble_eq_true rfl) (fun hk hw => h (hk (0, a0) (List.mem_of_getElem? (i := 0) rfl)) hw)

def LX12_isStage_0 (d n : Nat) (Q : Int → kS → Prop) (a0 : Int) (a1 : Int) (a2 : Int) (σ : kS) : Prop := K (d + 1) MX12_isStage (kPi n Q) (0, 0) 0 [(0, (2, a0)), (1, (0, a1)), (2, (0, a2))] [] n σ
theorem SX12_isStage_0 {d n : Nat} {Q : Int → kS → Prop} {a0 a1 a2 : Int} {σ : kS} (h : isO 12 n a0 ∧ ((-2147483648 ≤ ((σ a0 15) - 1) ∧ ((σ a0 15) - 1) ≤ 2147483647) ∧ (Ci d MX12_isIn [(0, a1), (0, 0), (0, ((σ a0 15) - 1))] n σ (fun x3 s1 => (x3 = 0 → Q 0 s1) ∧ (¬ x3 = 0 → isA 20 n (s1 a0 8) ∧ (((0 : Int) ≤ a1 ∧ a1 < klen (s1 a0 8)) ∧ ((-2147483648 ≤ ((s1 (s1 a0 8) a1) - 1) ∧ ((s1 (s1 a0 8) a1) - 1) ≤ 2147483647) ∧ (Ci d MX12_isIn [(0, a2), (0, 0), (0, ((s1 (s1 a0 8) a1) - 1))] n s1 (fun x7 s2 => (x7 = 0 → Q 0 s2) ∧ (¬ x7 = 0 → Q 1 s2)))))))))) : LX12_isStage_0 d n Q a0 a1 a2 σ := by
  unfold LX12_isStage_0
  refine K_iload_n 1 (kdA dt_MX12_isStage 0 rfl) rfl rfl ?_
  refine K_iconst (kdA dt_MX12_isStage 1 rfl) (by decide) ?_
  refine K_aload_n 0 (kdA dt_MX12_isStage 2 rfl) rfl rfl ?_
  obtain ⟨c1, h⟩ := h
  refine gf12_294 rfl (kdA dt_MX12_isStage 3 rfl) c1 ?_
  refine K_iconst (kdA dt_MX12_isStage 4 rfl) (by decide) ?_
  obtain ⟨c2, h⟩ := h
  refine K_isub (kdA dt_MX12_isStage 5 rfl) c2 ?_
  refine K_cSi (as := [(0, a1), (0, 0), (0, ((σ a0 15) - 1))]) (st := []) (kdA dt_MX12_isStage 6 rfl) cl_MX12_isIn lk12_153 rfl rfl (Nat.le_of_ble_eq_true rfl) (Ci.mono h (fun x3 s1 h => ?_))
  refine K_if_eq (tgt := 34) (kdA dt_MX12_isStage 7 rfl) rfl (fun c => ?_) (fun c => ?_)
  · have h := h.1 c
    refine K_iconst (kdA dt_MX12_isStage 20 rfl) (by decide) ?_
    exact K_zreturn (kdA dt_MX12_isStage 21 rfl) rfl (Or.inl rfl) ⟨rfl, _, rfl, h⟩
  · have h := h.2 c
    refine K_iload_n 2 (kdA dt_MX12_isStage 8 rfl) rfl rfl ?_
    refine K_iconst (kdA dt_MX12_isStage 9 rfl) (by decide) ?_
    refine K_aload_n 0 (kdA dt_MX12_isStage 10 rfl) rfl rfl ?_
    refine gf12_29 rfl (kdA dt_MX12_isStage 11 rfl) c1 ?_
    refine K_iload_n 1 (kdA dt_MX12_isStage 12 rfl) rfl rfl ?_
    obtain ⟨c4, h⟩ := h
    obtain ⟨c5, h⟩ := h
    refine K_iaload (kdA dt_MX12_isStage 13 rfl) c4 c5.1 c5.2 ?_
    refine K_iconst (kdA dt_MX12_isStage 14 rfl) (by decide) ?_
    obtain ⟨c6, h⟩ := h
    refine K_isub (kdA dt_MX12_isStage 15 rfl) c6 ?_
    refine K_cSi (as := [(0, a2), (0, 0), (0, ((s1 (s1 a0 8) a1) - 1))]) (st := []) (kdA dt_MX12_isStage 16 rfl) cl_MX12_isIn lk12_153 rfl rfl (Nat.le_of_ble_eq_true rfl) (Ci.mono h (fun x7 s2 h => ?_))
    refine K_if_eq (tgt := 34) (kdA dt_MX12_isStage 17 rfl) rfl (fun c => ?_) (fun c => ?_)
    · have h := h.1 c
      refine K_iconst (kdA dt_MX12_isStage 20 rfl) (by decide) ?_
      exact K_zreturn (kdA dt_MX12_isStage 21 rfl) rfl (Or.inl rfl) ⟨rfl, _, rfl, h⟩
    · have h := h.2 c
      refine K_iconst (kdA dt_MX12_isStage 18 rfl) (by decide) ?_
      refine K_goto (tgt := 35) (kdA dt_MX12_isStage 19 rfl) rfl ?_
      exact K_zreturn (kdA dt_MX12_isStage 21 rfl) rfl (Or.inr rfl) ⟨rfl, _, rfl, h⟩
theorem EX12_isStage {d n : Nat} {Q : Int → kS → Prop} {a0 a1 a2 : Int} {σ : kS} (h : (-2147483648 ≤ a1 ∧ a1 ≤ 2147483647) → (-2147483648 ≤ a2 ∧ a2 ≤ 2147483647) → kokw n σ → LX12_isStage_0 d n Q a0 a1 a2 σ) : Ci (d + 1) MX12_isStage [(2, a0), (0, a1), (0, a2)] n σ Q := Tri_of (by decide +kernel) (Nat.le_of_ble_eq_true rfl) (fun hk hw => h (hk (0, a1) (List.mem_of_getElem? (i := 1) rfl)) (hk (0, a2) (List.mem_of_getElem? (i := 2) rfl)) hw)

def LX12_isTown_0 (d n : Nat) (Q : Int → kS → Prop) (a0 : Int) (a1 : Int) (σ : kS) : Prop := K (d + 1) MX12_isTown (kPi n Q) (0, 0) 0 [(0, (2, a0)), (1, (0, a1))] [] n σ
theorem SX12_isTown_0 {d n : Nat} {Q : Int → kS → Prop} {a0 a1 : Int} {σ : kS} (h : (a1 < 0 → Q 0 σ) ∧ (¬ a1 < 0 → isO 12 n a0 ∧ (((σ a0 3) ≤ a1 → Q 0 σ) ∧ (¬ (σ a0 3) ≤ a1 → Q 1 σ)))) : LX12_isTown_0 d n Q a0 a1 σ := by
  unfold LX12_isTown_0
  refine K_iload_n 1 (kdA dt_MX12_isTown 0 rfl) rfl rfl ?_
  refine K_if_lt (tgt := 16) (kdA dt_MX12_isTown 1 rfl) rfl (fun c => ?_) (fun c => ?_)
  · have h := h.1 c
    refine K_iconst (kdA dt_MX12_isTown 8 rfl) (by decide) ?_
    exact K_zreturn (kdA dt_MX12_isTown 9 rfl) rfl (Or.inl rfl) ⟨rfl, _, rfl, h⟩
  · have h := h.2 c
    refine K_iload_n 1 (kdA dt_MX12_isTown 2 rfl) rfl rfl ?_
    refine K_aload_n 0 (kdA dt_MX12_isTown 3 rfl) rfl rfl ?_
    obtain ⟨c1, h⟩ := h
    refine gf12_165 rfl (kdA dt_MX12_isTown 4 rfl) c1 ?_
    refine K_icmp_ge (tgt := 16) (kdA dt_MX12_isTown 5 rfl) rfl (fun c => ?_) (fun c => ?_)
    · have h := h.1 c
      refine K_iconst (kdA dt_MX12_isTown 8 rfl) (by decide) ?_
      exact K_zreturn (kdA dt_MX12_isTown 9 rfl) rfl (Or.inl rfl) ⟨rfl, _, rfl, h⟩
    · have h := h.2 c
      refine K_iconst (kdA dt_MX12_isTown 6 rfl) (by decide) ?_
      refine K_goto (tgt := 17) (kdA dt_MX12_isTown 7 rfl) rfl ?_
      exact K_zreturn (kdA dt_MX12_isTown 9 rfl) rfl (Or.inr rfl) ⟨rfl, _, rfl, h⟩
theorem EX12_isTown {d n : Nat} {Q : Int → kS → Prop} {a0 a1 : Int} {σ : kS} (h : (-2147483648 ≤ a1 ∧ a1 ≤ 2147483647) → kokw n σ → LX12_isTown_0 d n Q a0 a1 σ) : Ci (d + 1) MX12_isTown [(2, a0), (0, a1)] n σ Q := Tri_of (by decide +kernel) (Nat.le_of_ble_eq_true rfl) (fun hk hw => h (hk (0, a1) (List.mem_of_getElem? (i := 1) rfl)) hw)

def LX12_isWay_0 (d n : Nat) (Q : Int → kS → Prop) (a0 : Int) (a1 : Int) (a2 : Int) (a3 : Int) (a4 : Int) (σ : kS) : Prop := K (d + 1) MX12_isWay (kPi n Q) (0, 0) 0 [(0, (2, a0)), (1, (0, a1)), (2, (0, a2)), (3, (0, a3)), (4, (0, a4))] [] n σ
theorem SX12_isWay_0 {d n : Nat} {Q : Int → kS → Prop} {a0 a1 a2 a3 a4 : Int} {σ : kS} (h : isO 12 n a0 ∧ (Ci d MX12_isManner [(2, a0), (0, a1), (0, a2)] n σ (fun x2 s1 => (x2 = 0 → Q 0 s1) ∧ (¬ x2 = 0 → Ci d MX12_isCell [(0, a3)] n s1 (fun x3 s2 => (x3 = 0 → Q 0 s2) ∧ (¬ x3 = 0 → Ci d MX12_isCell [(0, a4)] n s2 (fun x4 s3 => (x4 = 0 → Q 0 s3) ∧ (¬ x4 = 0 → Q 1 s3)))))))) : LX12_isWay_0 d n Q a0 a1 a2 a3 a4 σ := by
  unfold LX12_isWay_0
  refine K_aload_n 0 (kdA dt_MX12_isWay 0 rfl) rfl rfl ?_
  refine K_iload_n 1 (kdA dt_MX12_isWay 1 rfl) rfl rfl ?_
  refine K_iload_n 2 (kdA dt_MX12_isWay 2 rfl) rfl rfl ?_
  obtain ⟨c1, h⟩ := h
  refine K_cVi (c := 12) (as := [(0, a1), (0, a2)]) (st := []) (kdA dt_MX12_isWay 3 rfl) rfl cl_MX12_isManner lk12_319 rfl rfl (Nat.le_of_ble_eq_true rfl) c1 (Ci.mono h (fun x2 s1 h => ?_))
  refine K_if_eq (tgt := 28) (kdA dt_MX12_isWay 4 rfl) rfl (fun c => ?_) (fun c => ?_)
  · have h := h.1 c
    refine K_iconst (kdA dt_MX12_isWay 13 rfl) (by decide) ?_
    exact K_zreturn (kdA dt_MX12_isWay 14 rfl) rfl (Or.inl rfl) ⟨rfl, _, rfl, h⟩
  · have h := h.2 c
    refine K_iload_n 3 (kdA dt_MX12_isWay 5 rfl) rfl rfl ?_
    refine K_cSi (as := [(0, a3)]) (st := []) (kdA dt_MX12_isWay 6 rfl) cl_MX12_isCell lk12_161 rfl rfl (Nat.le_of_ble_eq_true rfl) (Ci.mono h (fun x3 s2 h => ?_))
    refine K_if_eq (tgt := 28) (kdA dt_MX12_isWay 7 rfl) rfl (fun c => ?_) (fun c => ?_)
    · have h := h.1 c
      refine K_iconst (kdA dt_MX12_isWay 13 rfl) (by decide) ?_
      exact K_zreturn (kdA dt_MX12_isWay 14 rfl) rfl (Or.inl rfl) ⟨rfl, _, rfl, h⟩
    · have h := h.2 c
      refine K_iload 4 (kdA dt_MX12_isWay 8 rfl) rfl ?_
      refine K_cSi (as := [(0, a4)]) (st := []) (kdA dt_MX12_isWay 9 rfl) cl_MX12_isCell lk12_161 rfl rfl (Nat.le_of_ble_eq_true rfl) (Ci.mono h (fun x4 s3 h => ?_))
      refine K_if_eq (tgt := 28) (kdA dt_MX12_isWay 10 rfl) rfl (fun c => ?_) (fun c => ?_)
      · have h := h.1 c
        refine K_iconst (kdA dt_MX12_isWay 13 rfl) (by decide) ?_
        exact K_zreturn (kdA dt_MX12_isWay 14 rfl) rfl (Or.inl rfl) ⟨rfl, _, rfl, h⟩
      · have h := h.2 c
        refine K_iconst (kdA dt_MX12_isWay 11 rfl) (by decide) ?_
        refine K_goto (tgt := 29) (kdA dt_MX12_isWay 12 rfl) rfl ?_
        exact K_zreturn (kdA dt_MX12_isWay 14 rfl) rfl (Or.inr rfl) ⟨rfl, _, rfl, h⟩
theorem EX12_isWay {d n : Nat} {Q : Int → kS → Prop} {a0 a1 a2 a3 a4 : Int} {σ : kS} (h : (-2147483648 ≤ a1 ∧ a1 ≤ 2147483647) → (-2147483648 ≤ a2 ∧ a2 ≤ 2147483647) → (-2147483648 ≤ a3 ∧ a3 ≤ 2147483647) → (-2147483648 ≤ a4 ∧ a4 ≤ 2147483647) → kokw n σ → LX12_isWay_0 d n Q a0 a1 a2 a3 a4 σ) : Ci (d + 1) MX12_isWay [(2, a0), (0, a1), (0, a2), (0, a3), (0, a4)] n σ Q := Tri_of (by decide +kernel) (Nat.le_of_ble_eq_true rfl) (fun hk hw => h (hk (0, a1) (List.mem_of_getElem? (i := 1) rfl)) (hk (0, a2) (List.mem_of_getElem? (i := 2) rfl)) (hk (0, a3) (List.mem_of_getElem? (i := 3) rfl)) (hk (0, a4) (List.mem_of_getElem? (i := 4) rfl)) hw)
