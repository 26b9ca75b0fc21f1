/-! segments, by program -/
def LJm_abs_0 (d n : Nat) (Q : Int → kS → Prop) (a0 : Int) (σ : kS) : Prop := K (d + 1) MJm_abs (kPi n Q) (0, 0) 0 [(0, (0, a0))] [] n σ
theorem SJm_abs_0 {d n : Nat} {Q : Int → kS → Prop} {a0 : Int} {σ : kS} (h : (0 ≤ a0 → Q a0 σ) ∧ (¬ 0 ≤ a0 → (-2147483648 ≤ (-a0) ∧ (-a0) ≤ 2147483647) ∧ (Q (-a0) σ))) : LJm_abs_0 d n Q a0 σ := by
  unfold LJm_abs_0
  refine K_iload_n 0 (kdA dt_MJm_abs 0 rfl) rfl rfl ?_
  refine K_if_ge (tgt := 9) (kdA dt_MJm_abs 1 rfl) rfl (fun c => ?_) (fun c => ?_)
  · have h := h.1 c
    refine K_iload_n 0 (kdA dt_MJm_abs 5 rfl) rfl rfl ?_
    exact K_ireturn (kdA dt_MJm_abs 6 rfl) rfl ⟨rfl, _, rfl, h⟩
  · have h := h.2 c
    refine K_iload_n 0 (kdA dt_MJm_abs 2 rfl) rfl rfl ?_
    obtain ⟨c1, h⟩ := h
    refine K_ineg (kdA dt_MJm_abs 3 rfl) c1 ?_
    refine K_goto (tgt := 10) (kdA dt_MJm_abs 4 rfl) rfl ?_
    exact K_ireturn (kdA dt_MJm_abs 6 rfl) rfl ⟨rfl, _, rfl, h⟩
theorem EJm_abs {d n : Nat} {Q : Int → kS → Prop} {a0 : Int} {σ : kS} (h : (-2147483648 ≤ a0 ∧ a0 ≤ 2147483647) → kokw n σ → LJm_abs_0 d n Q a0 σ) : Ci (d + 1) MJm_abs [(0, a0)] n σ Q := Tri_of (by decide +kernel) (Nat.le_of_ble_eq_true rfl) (fun hk hw => h (hk (0, a0) (List.mem_of_getElem? (i := 0) rfl)) hw)

def LJm_bitCount_0 (d n : Nat) (Q : Int → kS → Prop) (a0 : Int) (σ : kS) : Prop := K (d + 1) MJm_bitCount (kPi n Q) (0, 0) 0 [(0, (0, a0))] [] n σ
theorem SJm_bitCount_0 {d n : Nat} {Q : Int → kS → Prop} {a0 : Int} {σ : kS} (h : (-2147483648 ≤ (a0 - (kand (kiushr a0 1) 1431655765)) ∧ (a0 - (kand (kiushr a0 1) 1431655765)) ≤ 2147483647) ∧ ((-2147483648 ≤ ((kand (a0 - (kand (kiushr a0 1) 1431655765)) 858993459) + (kand (kiushr (a0 - (kand (kiushr a0 1) 1431655765)) 2) 858993459)) ∧ ((kand (a0 - (kand (kiushr a0 1) 1431655765)) 858993459) + (kand (kiushr (a0 - (kand (kiushr a0 1) 1431655765)) 2) 858993459)) ≤ 2147483647) ∧ ((-2147483648 ≤ (((kand (a0 - (kand (kiushr a0 1) 1431655765)) 858993459) + (kand (kiushr (a0 - (kand (kiushr a0 1) 1431655765)) 2) 858993459)) + (kiushr ((kand (a0 - (kand (kiushr a0 1) 1431655765)) 858993459) + (kand (kiushr (a0 - (kand (kiushr a0 1) 1431655765)) 2) 858993459)) 4)) ∧ (((kand (a0 - (kand (kiushr a0 1) 1431655765)) 858993459) + (kand (kiushr (a0 - (kand (kiushr a0 1) 1431655765)) 2) 858993459)) + (kiushr ((kand (a0 - (kand (kiushr a0 1) 1431655765)) 858993459) + (kand (kiushr (a0 - (kand (kiushr a0 1) 1431655765)) 2) 858993459)) 4)) ≤ 2147483647) ∧ ((-2147483648 ≤ ((kand (((kand (a0 - (kand (kiushr a0 1) 1431655765)) 858993459) + (kand (kiushr (a0 - (kand (kiushr a0 1) 1431655765)) 2) 858993459)) + (kiushr ((kand (a0 - (kand (kiushr a0 1) 1431655765)) 858993459) + (kand (kiushr (a0 - (kand (kiushr a0 1) 1431655765)) 2) 858993459)) 4)) 252645135) + (kiushr (kand (((kand (a0 - (kand (kiushr a0 1) 1431655765)) 858993459) + (kand (kiushr (a0 - (kand (kiushr a0 1) 1431655765)) 2) 858993459)) + (kiushr ((kand (a0 - (kand (kiushr a0 1) 1431655765)) 858993459) + (kand (kiushr (a0 - (kand (kiushr a0 1) 1431655765)) 2) 858993459)) 4)) 252645135) 8)) ∧ ((kand (((kand (a0 - (kand (kiushr a0 1) 1431655765)) 858993459) + (kand (kiushr (a0 - (kand (kiushr a0 1) 1431655765)) 2) 858993459)) + (kiushr ((kand (a0 - (kand (kiushr a0 1) 1431655765)) 858993459) + (kand (kiushr (a0 - (kand (kiushr a0 1) 1431655765)) 2) 858993459)) 4)) 252645135) + (kiushr (kand (((kand (a0 - (kand (kiushr a0 1) 1431655765)) 858993459) + (kand (kiushr (a0 - (kand (kiushr a0 1) 1431655765)) 2) 858993459)) + (kiushr ((kand (a0 - (kand (kiushr a0 1) 1431655765)) 858993459) + (kand (kiushr (a0 - (kand (kiushr a0 1) 1431655765)) 2) 858993459)) 4)) 252645135) 8)) ≤ 2147483647) ∧ ((-2147483648 ≤ (((kand (((kand (a0 - (kand (kiushr a0 1) 1431655765)) 858993459) + (kand (kiushr (a0 - (kand (kiushr a0 1) 1431655765)) 2) 858993459)) + (kiushr ((kand (a0 - (kand (kiushr a0 1) 1431655765)) 858993459) + (kand (kiushr (a0 - (kand (kiushr a0 1) 1431655765)) 2) 858993459)) 4)) 252645135) + (kiushr (kand (((kand (a0 - (kand (kiushr a0 1) 1431655765)) 858993459) + (kand (kiushr (a0 - (kand (kiushr a0 1) 1431655765)) 2) 858993459)) + (kiushr ((kand (a0 - (kand (kiushr a0 1) 1431655765)) 858993459) + (kand (kiushr (a0 - (kand (kiushr a0 1) 1431655765)) 2) 858993459)) 4)) 252645135) 8)) + (kiushr ((kand (((kand (a0 - (kand (kiushr a0 1) 1431655765)) 858993459) + (kand (kiushr (a0 - (kand (kiushr a0 1) 1431655765)) 2) 858993459)) + (kiushr ((kand (a0 - (kand (kiushr a0 1) 1431655765)) 858993459) + (kand (kiushr (a0 - (kand (kiushr a0 1) 1431655765)) 2) 858993459)) 4)) 252645135) + (kiushr (kand (((kand (a0 - (kand (kiushr a0 1) 1431655765)) 858993459) + (kand (kiushr (a0 - (kand (kiushr a0 1) 1431655765)) 2) 858993459)) + (kiushr ((kand (a0 - (kand (kiushr a0 1) 1431655765)) 858993459) + (kand (kiushr (a0 - (kand (kiushr a0 1) 1431655765)) 2) 858993459)) 4)) 252645135) 8)) 16)) ∧ (((kand (((kand (a0 - (kand (kiushr a0 1) 1431655765)) 858993459) + (kand (kiushr (a0 - (kand (kiushr a0 1) 1431655765)) 2) 858993459)) + (kiushr ((kand (a0 - (kand (kiushr a0 1) 1431655765)) 858993459) + (kand (kiushr (a0 - (kand (kiushr a0 1) 1431655765)) 2) 858993459)) 4)) 252645135) + (kiushr (kand (((kand (a0 - (kand (kiushr a0 1) 1431655765)) 858993459) + (kand (kiushr (a0 - (kand (kiushr a0 1) 1431655765)) 2) 858993459)) + (kiushr ((kand (a0 - (kand (kiushr a0 1) 1431655765)) 858993459) + (kand (kiushr (a0 - (kand (kiushr a0 1) 1431655765)) 2) 858993459)) 4)) 252645135) 8)) + (kiushr ((kand (((kand (a0 - (kand (kiushr a0 1) 1431655765)) 858993459) + (kand (kiushr (a0 - (kand (kiushr a0 1) 1431655765)) 2) 858993459)) + (kiushr ((kand (a0 - (kand (kiushr a0 1) 1431655765)) 858993459) + (kand (kiushr (a0 - (kand (kiushr a0 1) 1431655765)) 2) 858993459)) 4)) 252645135) + (kiushr (kand (((kand (a0 - (kand (kiushr a0 1) 1431655765)) 858993459) + (kand (kiushr (a0 - (kand (kiushr a0 1) 1431655765)) 2) 858993459)) + (kiushr ((kand (a0 - (kand (kiushr a0 1) 1431655765)) 858993459) + (kand (kiushr (a0 - (kand (kiushr a0 1) 1431655765)) 2) 858993459)) 4)) 252645135) 8)) 16)) ≤ 2147483647) ∧ (Q (kand (((kand (((kand (a0 - (kand (kiushr a0 1) 1431655765)) 858993459) + (kand (kiushr (a0 - (kand (kiushr a0 1) 1431655765)) 2) 858993459)) + (kiushr ((kand (a0 - (kand (kiushr a0 1) 1431655765)) 858993459) + (kand (kiushr (a0 - (kand (kiushr a0 1) 1431655765)) 2) 858993459)) 4)) 252645135) + (kiushr (kand (((kand (a0 - (kand (kiushr a0 1) 1431655765)) 858993459) + (kand (kiushr (a0 - (kand (kiushr a0 1) 1431655765)) 2) 858993459)) + (kiushr ((kand (a0 - (kand (kiushr a0 1) 1431655765)) 858993459) + (kand (kiushr (a0 - (kand (kiushr a0 1) 1431655765)) 2) 858993459)) 4)) 252645135) 8)) + (kiushr ((kand (((kand (a0 - (kand (kiushr a0 1) 1431655765)) 858993459) + (kand (kiushr (a0 - (kand (kiushr a0 1) 1431655765)) 2) 858993459)) + (kiushr ((kand (a0 - (kand (kiushr a0 1) 1431655765)) 858993459) + (kand (kiushr (a0 - (kand (kiushr a0 1) 1431655765)) 2) 858993459)) 4)) 252645135) + (kiushr (kand (((kand (a0 - (kand (kiushr a0 1) 1431655765)) 858993459) + (kand (kiushr (a0 - (kand (kiushr a0 1) 1431655765)) 2) 858993459)) + (kiushr ((kand (a0 - (kand (kiushr a0 1) 1431655765)) 858993459) + (kand (kiushr (a0 - (kand (kiushr a0 1) 1431655765)) 2) 858993459)) 4)) 252645135) 8)) 16)) 63) σ)))))) : LJm_bitCount_0 d n Q a0 σ := by
  unfold LJm_bitCount_0
  refine K_iload_n 0 (kdA dt_MJm_bitCount 0 rfl) rfl rfl ?_
  refine K_iload_n 0 (kdA dt_MJm_bitCount 1 rfl) rfl rfl ?_
  refine K_iconst (kdA dt_MJm_bitCount 2 rfl) (by decide) ?_
  refine K_iushr (kdA dt_MJm_bitCount 3 rfl) ?_
  refine K_ldcw (x := 1431655765) (kdA dt_MJm_bitCount 4 rfl) (tb4 214 rfl rfl) (by decide +kernel) ?_
  refine K_iand (kdA dt_MJm_bitCount 5 rfl) ?_
  obtain ⟨c1, h⟩ := h
  refine K_isub (kdA dt_MJm_bitCount 6 rfl) c1 ?_
  refine K_istore_n (ls' := [(0, (0, (a0 - (kand (kiushr a0 1) 1431655765))))]) (kdA dt_MJm_bitCount 7 rfl) rfl (by decide) rfl ?_
  refine K_iload_n 0 (kdA dt_MJm_bitCount 8 rfl) rfl rfl ?_
  refine K_ldcw (x := 858993459) (kdA dt_MJm_bitCount 9 rfl) (tb4 215 rfl rfl) (by decide +kernel) ?_
  refine K_iand (kdA dt_MJm_bitCount 10 rfl) ?_
  refine K_iload_n 0 (kdA dt_MJm_bitCount 11 rfl) rfl rfl ?_
  refine K_iconst (kdA dt_MJm_bitCount 12 rfl) (by decide) ?_
  refine K_iushr (kdA dt_MJm_bitCount 13 rfl) ?_
  refine K_ldcw (x := 858993459) (kdA dt_MJm_bitCount 14 rfl) (tb4 215 rfl rfl) (by decide +kernel) ?_
  refine K_iand (kdA dt_MJm_bitCount 15 rfl) ?_
  obtain ⟨c2, h⟩ := h
  refine K_iadd (kdA dt_MJm_bitCount 16 rfl) c2 ?_
  refine K_istore_n (ls' := [(0, (0, ((kand (a0 - (kand (kiushr a0 1) 1431655765)) 858993459) + (kand (kiushr (a0 - (kand (kiushr a0 1) 1431655765)) 2) 858993459))))]) (kdA dt_MJm_bitCount 17 rfl) rfl (by decide) rfl ?_
  refine K_iload_n 0 (kdA dt_MJm_bitCount 18 rfl) rfl rfl ?_
  refine K_iload_n 0 (kdA dt_MJm_bitCount 19 rfl) rfl rfl ?_
  refine K_iconst (kdA dt_MJm_bitCount 20 rfl) (by decide) ?_
  refine K_iushr (kdA dt_MJm_bitCount 21 rfl) ?_
  obtain ⟨c3, h⟩ := h
  refine K_iadd (kdA dt_MJm_bitCount 22 rfl) c3 ?_
  refine K_ldcw (x := 252645135) (kdA dt_MJm_bitCount 23 rfl) (tb4 216 rfl rfl) (by decide +kernel) ?_
  refine K_iand (kdA dt_MJm_bitCount 24 rfl) ?_
  refine K_istore_n (ls' := [(0, (0, (kand (((kand (a0 - (kand (kiushr a0 1) 1431655765)) 858993459) + (kand (kiushr (a0 - (kand (kiushr a0 1) 1431655765)) 2) 858993459)) + (kiushr ((kand (a0 - (kand (kiushr a0 1) 1431655765)) 858993459) + (kand (kiushr (a0 - (kand (kiushr a0 1) 1431655765)) 2) 858993459)) 4)) 252645135)))]) (kdA dt_MJm_bitCount 25 rfl) rfl (by decide) rfl ?_
  refine K_iload_n 0 (kdA dt_MJm_bitCount 26 rfl) rfl rfl ?_
  refine K_iload_n 0 (kdA dt_MJm_bitCount 27 rfl) rfl rfl ?_
  refine K_bipush (kdA dt_MJm_bitCount 28 rfl) (by decide +kernel) ?_
  refine K_iushr (kdA dt_MJm_bitCount 29 rfl) ?_
  obtain ⟨c4, h⟩ := h
  refine K_iadd (kdA dt_MJm_bitCount 30 rfl) c4 ?_
  refine K_istore_n (ls' := [(0, (0, ((kand (((kand (a0 - (kand (kiushr a0 1) 1431655765)) 858993459) + (kand (kiushr (a0 - (kand (kiushr a0 1) 1431655765)) 2) 858993459)) + (kiushr ((kand (a0 - (kand (kiushr a0 1) 1431655765)) 858993459) + (kand (kiushr (a0 - (kand (kiushr a0 1) 1431655765)) 2) 858993459)) 4)) 252645135) + (kiushr (kand (((kand (a0 - (kand (kiushr a0 1) 1431655765)) 858993459) + (kand (kiushr (a0 - (kand (kiushr a0 1) 1431655765)) 2) 858993459)) + (kiushr ((kand (a0 - (kand (kiushr a0 1) 1431655765)) 858993459) + (kand (kiushr (a0 - (kand (kiushr a0 1) 1431655765)) 2) 858993459)) 4)) 252645135) 8))))]) (kdA dt_MJm_bitCount 31 rfl) rfl (by decide) rfl ?_
  refine K_iload_n 0 (kdA dt_MJm_bitCount 32 rfl) rfl rfl ?_
  refine K_iload_n 0 (kdA dt_MJm_bitCount 33 rfl) rfl rfl ?_
  refine K_bipush (kdA dt_MJm_bitCount 34 rfl) (by decide +kernel) ?_
  refine K_iushr (kdA dt_MJm_bitCount 35 rfl) ?_
  obtain ⟨c5, h⟩ := h
  refine K_iadd (kdA dt_MJm_bitCount 36 rfl) c5 ?_
  refine K_istore_n (ls' := [(0, (0, (((kand (((kand (a0 - (kand (kiushr a0 1) 1431655765)) 858993459) + (kand (kiushr (a0 - (kand (kiushr a0 1) 1431655765)) 2) 858993459)) + (kiushr ((kand (a0 - (kand (kiushr a0 1) 1431655765)) 858993459) + (kand (kiushr (a0 - (kand (kiushr a0 1) 1431655765)) 2) 858993459)) 4)) 252645135) + (kiushr (kand (((kand (a0 - (kand (kiushr a0 1) 1431655765)) 858993459) + (kand (kiushr (a0 - (kand (kiushr a0 1) 1431655765)) 2) 858993459)) + (kiushr ((kand (a0 - (kand (kiushr a0 1) 1431655765)) 858993459) + (kand (kiushr (a0 - (kand (kiushr a0 1) 1431655765)) 2) 858993459)) 4)) 252645135) 8)) + (kiushr ((kand (((kand (a0 - (kand (kiushr a0 1) 1431655765)) 858993459) + (kand (kiushr (a0 - (kand (kiushr a0 1) 1431655765)) 2) 858993459)) + (kiushr ((kand (a0 - (kand (kiushr a0 1) 1431655765)) 858993459) + (kand (kiushr (a0 - (kand (kiushr a0 1) 1431655765)) 2) 858993459)) 4)) 252645135) + (kiushr (kand (((kand (a0 - (kand (kiushr a0 1) 1431655765)) 858993459) + (kand (kiushr (a0 - (kand (kiushr a0 1) 1431655765)) 2) 858993459)) + (kiushr ((kand (a0 - (kand (kiushr a0 1) 1431655765)) 858993459) + (kand (kiushr (a0 - (kand (kiushr a0 1) 1431655765)) 2) 858993459)) 4)) 252645135) 8)) 16))))]) (kdA dt_MJm_bitCount 37 rfl) rfl (by decide) rfl ?_
  refine K_iload_n 0 (kdA dt_MJm_bitCount 38 rfl) rfl rfl ?_
  refine K_bipush (kdA dt_MJm_bitCount 39 rfl) (by decide +kernel) ?_
  refine K_iand (kdA dt_MJm_bitCount 40 rfl) ?_
  exact K_ireturn (kdA dt_MJm_bitCount 41 rfl) rfl ⟨rfl, _, rfl, h⟩
theorem EJm_bitCount {d n : Nat} {Q : Int → kS → Prop} {a0 : Int} {σ : kS} (h : (-2147483648 ≤ a0 ∧ a0 ≤ 2147483647) → kokw n σ → LJm_bitCount_0 d n Q a0 σ) : Ci (d + 1) MJm_bitCount [(0, a0)] n σ Q := Tri_of (by decide +kernel) (Nat.le_of_ble_eq_true rfl) (fun hk hw => h (hk (0, a0) (List.mem_of_getElem? (i := 0) rfl)) hw)

def LJm_fill_0 (d n : Nat) (Q : kS → Prop) (a0 : Int) (a1 : Int) (σ : kS) : Prop := K (d + 1) MJm_fill (kPv n Q) (0, 0) 0 [(0, (2, a0)), (1, (0, a1))] [] n σ
def LJm_fill_5 (d n : Nat) (Q : kS → Prop) (a0 : Int) (a1 : Int) (a2 : Int) (a3 : Int) (σ : kS) : Prop := K (d + 1) MJm_fill (kPv n Q) (0, 0) 5 [(0, (2, a0)), (1, (0, a1)), (2, (0, a2)), (3, (0, a3))] [] n σ
theorem SJm_fill_0 {d n : Nat} {Q : kS → Prop} {a0 a1 : Int} {σ : kS} (h : isA 20 n a0 ∧ (LJm_fill_5 d n Q a0 a1 0 (klen a0) σ)) : LJm_fill_0 d n Q a0 a1 σ := by
  unfold LJm_fill_0
  refine K_iconst (kdA dt_MJm_fill 0 rfl) (by decide) ?_
  refine K_istore_n (ls' := [(0, (2, a0)), (1, (0, a1)), (2, (0, 0))]) (kdA dt_MJm_fill 1 rfl) rfl (by decide) rfl ?_
  refine K_aload_n 0 (kdA dt_MJm_fill 2 rfl) rfl rfl ?_
  obtain ⟨c1, h⟩ := h
  refine K_alen (kdA dt_MJm_fill 3 rfl) (by decide) c1 ?_
  refine K_istore_n (ls' := [(0, (2, a0)), (1, (0, a1)), (2, (0, 0)), (3, (0, (klen a0)))]) (kdA dt_MJm_fill 4 rfl) rfl (by decide) rfl ?_
  exact h
theorem SJm_fill_5 {d n : Nat} {Q : kS → Prop} {a0 a1 a2 a3 : Int} {σ : kS} (h : (a3 ≤ a2 → Q σ) ∧ (¬ a3 ≤ a2 → isA 20 n a0 ∧ (((0 : Int) ≤ a2 ∧ a2 < klen a0) ∧ (∀ s1, s1 = kst σ a0 a2 a1 → (-2147483648 ≤ (a2 + 1) ∧ (a2 + 1) ≤ 2147483647) ∧ (LJm_fill_5 d n Q a0 a1 (a2 + 1) a3 s1))))) : LJm_fill_5 d n Q a0 a1 a2 a3 σ := by
  unfold LJm_fill_5
  refine K_iload_n 2 (kdA dt_MJm_fill 5 rfl) rfl rfl ?_
  refine K_iload_n 3 (kdA dt_MJm_fill 6 rfl) rfl rfl ?_
  refine K_icmp_ge (tgt := 20) (kdA dt_MJm_fill 7 rfl) rfl (fun c => ?_) (fun c => ?_)
  · have h := h.1 c
    exact K_return (kdA dt_MJm_fill 14 rfl) rfl ⟨rfl, rfl, h⟩
  · have h := h.2 c
    refine K_aload_n 0 (kdA dt_MJm_fill 8 rfl) rfl rfl ?_
    refine K_iload_n 2 (kdA dt_MJm_fill 9 rfl) rfl rfl ?_
    refine K_iload_n 1 (kdA dt_MJm_fill 10 rfl) rfl rfl ?_
    obtain ⟨c1, h⟩ := h
    obtain ⟨c2, h⟩ := h
    refine K_iastore' (kdA dt_MJm_fill 11 rfl) c1 c2.1 c2.2 (fun s1 es1 => ?_)
    have h := h s1 es1
    obtain ⟨c3, h⟩ := h
    refine K_iinc (ls' := [(0, (2, a0)), (1, (0, a1)), (2, (0, (a2 + 1))), (3, (0, a3))]) 2 (kdA dt_MJm_fill 12 rfl) rfl c3 (by decide) rfl ?_
    refine K_goto (tgt := 5) (kdA dt_MJm_fill 13 rfl) rfl ?_
    exact h
theorem EJm_fill {d n : Nat} {Q : kS → Prop} {a0 a1 : Int} {σ : kS} (h : (-2147483648 ≤ a1 ∧ a1 ≤ 2147483647) → kokw n σ → LJm_fill_0 d n Q a0 a1 σ) : Cv (d + 1) MJm_fill [(2, a0), (0, a1)] n σ Q := Tri_of (by decide +kernel) (Nat.le_of_ble_eq_true rfl) (fun hk hw => h (hk (0, a1) (List.mem_of_getElem? (i := 1) rfl)) hw)

def LJm_floorDiv_0 (d n : Nat) (Q : Int → kS → Prop) (a0 : Int) (a1 : Int) (σ : kS) : Prop := K (d + 1) MJm_floorDiv (kPi n Q) (0, 0) 0 [(0, (0, a0)), (1, (0, a1))] [] n σ
theorem SJm_floorDiv_0 {d n : Nat} {Q : Int → kS → Prop} {a0 a1 : Int} {σ : kS} (h : (a1 ≠ (0 : Int) ∧ -2147483648 ≤ (Int.tdiv a0 a1) ∧ (Int.tdiv a0 a1) ≤ 2147483647) ∧ ((0 ≤ (kxor a0 a1) → Q (Int.tdiv a0 a1) σ) ∧ (¬ 0 ≤ (kxor a0 a1) → (-2147483648 ≤ ((Int.tdiv a0 a1) * a1) ∧ ((Int.tdiv a0 a1) * a1) ≤ 2147483647) ∧ ((((Int.tdiv a0 a1) * a1) = a0 → Q (Int.tdiv a0 a1) σ) ∧ (¬ ((Int.tdiv a0 a1) * a1) = a0 → (-2147483648 ≤ ((Int.tdiv a0 a1) - 1) ∧ ((Int.tdiv a0 a1) - 1) ≤ 2147483647) ∧ (Q ((Int.tdiv a0 a1) - 1) σ)))))) : LJm_floorDiv_0 d n Q a0 a1 σ := by
  unfold LJm_floorDiv_0
  refine K_iload_n 0 (kdA dt_MJm_floorDiv 0 rfl) rfl rfl ?_
  refine K_iload_n 1 (kdA dt_MJm_floorDiv 1 rfl) rfl rfl ?_
  obtain ⟨c1, h⟩ := h
  refine K_idivT (kdA dt_MJm_floorDiv 2 rfl) c1.1 c1.2 ?_
  refine K_istore_n (ls' := [(0, (0, a0)), (1, (0, a1)), (2, (0, (Int.tdiv a0 a1)))]) (kdA dt_MJm_floorDiv 3 rfl) rfl (by decide) rfl ?_
  refine K_iload_n 0 (kdA dt_MJm_floorDiv 4 rfl) rfl rfl ?_
  refine K_iload_n 1 (kdA dt_MJm_floorDiv 5 rfl) rfl rfl ?_
  refine K_ixor (kdA dt_MJm_floorDiv 6 rfl) ?_
  refine K_if_ge (tgt := 21) (kdA dt_MJm_floorDiv 7 rfl) rfl (fun c => ?_) (fun c => ?_)
  · have h := h.1 c
    refine K_iload_n 2 (kdA dt_MJm_floorDiv 17 rfl) rfl rfl ?_
    exact K_ireturn (kdA dt_MJm_floorDiv 18 rfl) rfl ⟨rfl, _, rfl, h⟩
  · have h := h.2 c
    refine K_iload_n 2 (kdA dt_MJm_floorDiv 8 rfl) rfl rfl ?_
    refine K_iload_n 1 (kdA dt_MJm_floorDiv 9 rfl) rfl rfl ?_
    obtain ⟨c2, h⟩ := h
    refine K_imul (kdA dt_MJm_floorDiv 10 rfl) c2 ?_
    refine K_iload_n 0 (kdA dt_MJm_floorDiv 11 rfl) rfl rfl ?_
    refine K_icmp_eq (tgt := 21) (kdA dt_MJm_floorDiv 12 rfl) rfl (fun c => ?_) (fun c => ?_)
    · have h := h.1 c
      refine K_iload_n 2 (kdA dt_MJm_floorDiv 17 rfl) rfl rfl ?_
      exact K_ireturn (kdA dt_MJm_floorDiv 18 rfl) rfl ⟨rfl, _, rfl, h⟩
    · have h := h.2 c
      refine K_iload_n 2 (kdA dt_MJm_floorDiv 13 rfl) rfl rfl ?_
      refine K_iconst (kdA dt_MJm_floorDiv 14 rfl) (by decide) ?_
      obtain ⟨c3, h⟩ := h
      refine K_isub (kdA dt_MJm_floorDiv 15 rfl) c3 ?_
      exact K_ireturn (kdA dt_MJm_floorDiv 16 rfl) rfl ⟨rfl, _, rfl, h⟩
theorem EJm_floorDiv {d n : Nat} {Q : Int → kS → Prop} {a0 a1 : Int} {σ : kS} (h : (-2147483648 ≤ a0 ∧ a0 ≤ 2147483647) → (-2147483648 ≤ a1 ∧ a1 ≤ 2147483647) → kokw n σ → LJm_floorDiv_0 d n Q a0 a1 σ) : Ci (d + 1) MJm_floorDiv [(0, a0), (0, a1)] n σ Q := Tri_of (by decide +kernel) (Nat.le_of_ble_eq_true rfl) (fun hk hw => h (hk (0, a0) (List.mem_of_getElem? (i := 0) rfl)) (hk (0, a1) (List.mem_of_getElem? (i := 1) rfl)) hw)

def LJm_max_0 (d n : Nat) (Q : Int → kS → Prop) (a0 : Int) (a1 : Int) (σ : kS) : Prop := K (d + 1) MJm_max (kPi n Q) (0, 0) 0 [(0, (0, a0)), (1, (0, a1))] [] n σ
theorem SJm_max_0 {d n : Nat} {Q : Int → kS → Prop} {a0 a1 : Int} {σ : kS} (h : (a0 < a1 → Q a1 σ) ∧ (¬ a0 < a1 → Q a0 σ)) : LJm_max_0 d n Q a0 a1 σ := by
  unfold LJm_max_0
  refine K_iload_n 0 (kdA dt_MJm_max 0 rfl) rfl rfl ?_
  refine K_iload_n 1 (kdA dt_MJm_max 1 rfl) rfl rfl ?_
  refine K_icmp_lt (tgt := 9) (kdA dt_MJm_max 2 rfl) rfl (fun c => ?_) (fun c => ?_)
  · have h := h.1 c
    refine K_iload_n 1 (kdA dt_MJm_max 5 rfl) rfl rfl ?_
    exact K_ireturn (kdA dt_MJm_max 6 rfl) rfl ⟨rfl, _, rfl, h⟩
  · have h := h.2 c
    refine K_iload_n 0 (kdA dt_MJm_max 3 rfl) rfl rfl ?_
    refine K_goto (tgt := 10) (kdA dt_MJm_max 4 rfl) rfl ?_
    exact K_ireturn (kdA dt_MJm_max 6 rfl) rfl ⟨rfl, _, rfl, h⟩
theorem EJm_max {d n : Nat} {Q : Int → kS → Prop} {a0 a1 : Int} {σ : kS} (h : (-2147483648 ≤ a0 ∧ a0 ≤ 2147483647) → (-2147483648 ≤ a1 ∧ a1 ≤ 2147483647) → kokw n σ → LJm_max_0 d n Q a0 a1 σ) : Ci (d + 1) MJm_max [(0, a0), (0, a1)] n σ Q := Tri_of (by decide +kernel) (Nat.le_of_ble_eq_true rfl) (fun hk hw => h (hk (0, a0) (List.mem_of_getElem? (i := 0) rfl)) (hk (0, a1) (List.mem_of_getElem? (i := 1) rfl)) hw)

def LJm_maxL_0 (d n : Nat) (Q : Int → kS → Prop) (a0 : Int) (a2 : Int) (σ : kS) : Prop := K (d + 1) MJm_maxL (kPl n Q) (0, 0) 0 [(0, (1, a0)), (2, (1, a2))] [] n σ
theorem SJm_maxL_0 {d n : Nat} {Q : Int → kS → Prop} {a0 a2 : Int} {σ : kS} (h : ((klcmp a0 a2) < 0 → Q a2 σ) ∧ (¬ (klcmp a0 a2) < 0 → Q a0 σ)) : LJm_maxL_0 d n Q a0 a2 σ := by
  unfold LJm_maxL_0
  refine K_lload_n 0 (kdA dt_MJm_maxL 0 rfl) rfl rfl ?_
  refine K_lload_n 1 (kdA dt_MJm_maxL 1 rfl) rfl rfl ?_
  refine K_lcmp (kdA dt_MJm_maxL 2 rfl) ?_
  refine K_if_lt (tgt := 10) (kdA dt_MJm_maxL 3 rfl) rfl (fun c => ?_) (fun c => ?_)
  · have h := h.1 c
    refine K_lload_n 1 (kdA dt_MJm_maxL 6 rfl) rfl rfl ?_
    exact K_lreturn (kdA dt_MJm_maxL 7 rfl) rfl ⟨rfl, _, rfl, h⟩
  · have h := h.2 c
    refine K_lload_n 0 (kdA dt_MJm_maxL 4 rfl) rfl rfl ?_
    refine K_goto (tgt := 11) (kdA dt_MJm_maxL 5 rfl) rfl ?_
    exact K_lreturn (kdA dt_MJm_maxL 7 rfl) rfl ⟨rfl, _, rfl, h⟩
theorem EJm_maxL {d n : Nat} {Q : Int → kS → Prop} {a0 a2 : Int} {σ : kS} (h : (-9223372036854775808 ≤ a0 ∧ a0 ≤ 9223372036854775807) → (-9223372036854775808 ≤ a2 ∧ a2 ≤ 9223372036854775807) → kokw n σ → LJm_maxL_0 d n Q a0 a2 σ) : Cl (d + 1) MJm_maxL [(1, a0), (1, a2)] n σ Q := Tri_of (by decide +kernel) (Nat.le_of_ble_eq_true rfl) (fun hk hw => h (hk (1, a0) (List.mem_of_getElem? (i := 0) rfl)) (hk (1, a2) (List.mem_of_getElem? (i := 1) rfl)) hw)

def LJm_min_0 (d n : Nat) (Q : Int → kS → Prop) (a0 : Int) (a1 : Int) (σ : kS) : Prop := K (d + 1) MJm_min (kPi n Q) (0, 0) 0 [(0, (0, a0)), (1, (0, a1))] [] n σ
theorem SJm_min_0 {d n : Nat} {Q : Int → kS → Prop} {a0 a1 : Int} {σ : kS} (h : (a1 < a0 → Q a1 σ) ∧ (¬ a1 < a0 → Q a0 σ)) : LJm_min_0 d n Q a0 a1 σ := by
  unfold LJm_min_0
  refine K_iload_n 0 (kdA dt_MJm_min 0 rfl) rfl rfl ?_
  refine K_iload_n 1 (kdA dt_MJm_min 1 rfl) rfl rfl ?_
  refine K_icmp_gt (tgt := 9) (kdA dt_MJm_min 2 rfl) rfl (fun c => ?_) (fun c => ?_)
  · have h := h.1 c
    refine K_iload_n 1 (kdA dt_MJm_min 5 rfl) rfl rfl ?_
    exact K_ireturn (kdA dt_MJm_min 6 rfl) rfl ⟨rfl, _, rfl, h⟩
  · have h := h.2 c
    refine K_iload_n 0 (kdA dt_MJm_min 3 rfl) rfl rfl ?_
    refine K_goto (tgt := 10) (kdA dt_MJm_min 4 rfl) rfl ?_
    exact K_ireturn (kdA dt_MJm_min 6 rfl) rfl ⟨rfl, _, rfl, h⟩
theorem EJm_min {d n : Nat} {Q : Int → kS → Prop} {a0 a1 : Int} {σ : kS} (h : (-2147483648 ≤ a0 ∧ a0 ≤ 2147483647) → (-2147483648 ≤ a1 ∧ a1 ≤ 2147483647) → kokw n σ → LJm_min_0 d n Q a0 a1 σ) : Ci (d + 1) MJm_min [(0, a0), (0, a1)] n σ Q := Tri_of (by decide +kernel) (Nat.le_of_ble_eq_true rfl) (fun hk hw => h (hk (0, a0) (List.mem_of_getElem? (i := 0) rfl)) (hk (0, a1) (List.mem_of_getElem? (i := 1) rfl)) hw)

def LJm_minL_0 (d n : Nat) (Q : Int → kS → Prop) (a0 : Int) (a2 : Int) (σ : kS) : Prop := K (d + 1) MJm_minL (kPl n Q) (0, 0) 0 [(0, (1, a0)), (2, (1, a2))] [] n σ
theorem SJm_minL_0 {d n : Nat} {Q : Int → kS → Prop} {a0 a2 : Int} {σ : kS} (h : (0 < (klcmp a0 a2) → Q a2 σ) ∧ (¬ 0 < (klcmp a0 a2) → Q a0 σ)) : LJm_minL_0 d n Q a0 a2 σ := by
  unfold LJm_minL_0
  refine K_lload_n 0 (kdA dt_MJm_minL 0 rfl) rfl rfl ?_
  refine K_lload_n 1 (kdA dt_MJm_minL 1 rfl) rfl rfl ?_
  refine K_lcmp (kdA dt_MJm_minL 2 rfl) ?_
  refine K_if_gt (tgt := 10) (kdA dt_MJm_minL 3 rfl) rfl (fun c => ?_) (fun c => ?_)
  · have h := h.1 c
    refine K_lload_n 1 (kdA dt_MJm_minL 6 rfl) rfl rfl ?_
    exact K_lreturn (kdA dt_MJm_minL 7 rfl) rfl ⟨rfl, _, rfl, h⟩
  · have h := h.2 c
    refine K_lload_n 0 (kdA dt_MJm_minL 4 rfl) rfl rfl ?_
    refine K_goto (tgt := 11) (kdA dt_MJm_minL 5 rfl) rfl ?_
    exact K_lreturn (kdA dt_MJm_minL 7 rfl) rfl ⟨rfl, _, rfl, h⟩
theorem EJm_minL {d n : Nat} {Q : Int → kS → Prop} {a0 a2 : Int} {σ : kS} (h : (-9223372036854775808 ≤ a0 ∧ a0 ≤ 9223372036854775807) → (-9223372036854775808 ≤ a2 ∧ a2 ≤ 9223372036854775807) → kokw n σ → LJm_minL_0 d n Q a0 a2 σ) : Cl (d + 1) MJm_minL [(1, a0), (1, a2)] n σ Q := Tri_of (by decide +kernel) (Nat.le_of_ble_eq_true rfl) (fun hk hw => h (hk (1, a0) (List.mem_of_getElem? (i := 0) rfl)) (hk (1, a2) (List.mem_of_getElem? (i := 1) rfl)) hw)

def LX0_isDigit_0 (d n : Nat) (Q : Int → kS → Prop) (a0 : Int) (a1 : Int) (σ : kS) : Prop := K (d + 1) MX0_isDigit (kPi n Q) (0, 0) 0 [(0, (2, a0)), (1, (2, a1))] [] n σ
theorem SX0_isDigit_0 {d n : Nat} {Q : Int → kS → Prop} {a0 a1 : Int} {σ : kS} (h : isO 0 n a0 ∧ (isO 8 n a1 ∧ (Ci d MX8_at [(2, a1), (0, (σ a0 2))] n σ (fun x3 s1 => (x3 < 48 → Q 0 s1) ∧ (¬ x3 < 48 → Ci d MX8_at [(2, a1), (0, (s1 a0 2))] n s1 (fun x4 s2 => (57 < x4 → Q 0 s2) ∧ (¬ 57 < x4 → Q 1 s2))))))) : LX0_isDigit_0 d n Q a0 a1 σ := by
  unfold LX0_isDigit_0
  refine K_aload_n 1 (kdA dt_MX0_isDigit 0 rfl) rfl rfl ?_
  refine K_aload_n 0 (kdA dt_MX0_isDigit 1 rfl) rfl rfl ?_
  obtain ⟨c1, h⟩ := h
  refine gf0_31 rfl (kdA dt_MX0_isDigit 2 rfl) c1 ?_
  obtain ⟨c2, h⟩ := h
  refine K_cVi (c := 8) (as := [(0, (σ a0 2))]) (st := []) (kdA dt_MX0_isDigit 3 rfl) rfl cl_MX8_at lk0_27 rfl rfl (Nat.le_of_ble_eq_true rfl) c2 (Ci.mono h (fun x3 s1 h => ?_))
  refine K_bipush (kdA dt_MX0_isDigit 4 rfl) (by decide +kernel) ?_
  refine K_icmp_lt (tgt := 30) (kdA dt_MX0_isDigit 5 rfl) rfl (fun c => ?_) (fun c => ?_)
  · have h := h.1 c
    refine K_iconst (kdA dt_MX0_isDigit 14 rfl) (by decide) ?_
    exact K_zreturn (kdA dt_MX0_isDigit 15 rfl) rfl (Or.inl rfl) ⟨rfl, _, rfl, h⟩
  · have h := h.2 c
    refine K_aload_n 1 (kdA dt_MX0_isDigit 6 rfl) rfl rfl ?_
    refine K_aload_n 0 (kdA dt_MX0_isDigit 7 rfl) rfl rfl ?_
    refine gf0_31 rfl (kdA dt_MX0_isDigit 8 rfl) c1 ?_
    refine K_cVi (c := 8) (as := [(0, (s1 a0 2))]) (st := []) (kdA dt_MX0_isDigit 9 rfl) rfl cl_MX8_at lk0_27 rfl rfl (Nat.le_of_ble_eq_true rfl) c2 (Ci.mono h (fun x4 s2 h => ?_))
    refine K_bipush (kdA dt_MX0_isDigit 10 rfl) (by decide +kernel) ?_
    refine K_icmp_gt (tgt := 30) (kdA dt_MX0_isDigit 11 rfl) rfl (fun c => ?_) (fun c => ?_)
    · have h := h.1 c
      refine K_iconst (kdA dt_MX0_isDigit 14 rfl) (by decide) ?_
      exact K_zreturn (kdA dt_MX0_isDigit 15 rfl) rfl (Or.inl rfl) ⟨rfl, _, rfl, h⟩
    · have h := h.2 c
      refine K_iconst (kdA dt_MX0_isDigit 12 rfl) (by decide) ?_
      refine K_goto (tgt := 31) (kdA dt_MX0_isDigit 13 rfl) rfl ?_
      exact K_zreturn (kdA dt_MX0_isDigit 15 rfl) rfl (Or.inr rfl) ⟨rfl, _, rfl, h⟩
theorem EX0_isDigit {d n : Nat} {Q : Int → kS → Prop} {a0 a1 : Int} {σ : kS} (h : kokw n σ → LX0_isDigit_0 d n Q a0 a1 σ) : Ci (d + 1) MX0_isDigit [(2, a0), (2, a1)] n σ Q := Tri_of (by decide +kernel) (Nat.le_of_ble_eq_true rfl) (fun hk hw => h hw)

def LX0_milesTold_0 (d n : Nat) (Q : Int → kS → Prop) (a0 : Int) (a1 : Int) (σ : kS) : Prop := K (d + 1) MX0_milesTold (kPi n Q) (0, 0) 0 [(0, (2, a0)), (1, (0, a1))] [] n σ
theorem SX0_milesTold_0 {d n : Nat} {Q : Int → kS → Prop} {a0 a1 : Int} {σ : kS} (h : isO 0 n a0 ∧ (isO 8 n (σ a0 1) ∧ (Ci d MX8_at [(2, (σ a0 1)), (0, a1)] n σ (fun x3 s1 => Q x3 s1)))) : LX0_milesTold_0 d n Q a0 a1 σ := by
  unfold LX0_milesTold_0
  refine K_aload_n 0 (kdA dt_MX0_milesTold 0 rfl) rfl rfl ?_
  obtain ⟨c1, h⟩ := h
  refine gf0_20 rfl (kdA dt_MX0_milesTold 1 rfl) c1 ?_
  refine K_iload_n 1 (kdA dt_MX0_milesTold 2 rfl) rfl rfl ?_
  obtain ⟨c2, h⟩ := h
  refine K_cVi (c := 8) (as := [(0, a1)]) (st := []) (kdA dt_MX0_milesTold 3 rfl) rfl cl_MX8_at lk0_27 rfl rfl (Nat.le_of_ble_eq_true rfl) c2 (Ci.mono h (fun x3 s1 h => ?_))
  exact K_ireturn (kdA dt_MX0_milesTold 4 rfl) rfl ⟨rfl, _, rfl, h⟩
theorem EX0_milesTold {d n : Nat} {Q : Int → kS → Prop} {a0 a1 : Int} {σ : kS} (h : (-2147483648 ≤ a1 ∧ a1 ≤ 2147483647) → kokw n σ → LX0_milesTold_0 d n Q a0 a1 σ) : Ci (d + 1) MX0_milesTold [(2, a0), (0, a1)] n σ Q := Tri_of (by decide +kernel) (Nat.le_of_ble_eq_true rfl) (fun hk hw => h (hk (0, a1) (List.mem_of_getElem? (i := 1) rfl)) hw)

def LX0_reads_0 (d n : Nat) (Q : Int → kS → Prop) (a0 : Int) (a1 : Int) (a2 : Int) (σ : kS) : Prop := K (d + 1) MX0_reads (kPi n Q) (0, 0) 0 [(0, (2, a0)), (1, (2, a1)), (2, (0, a2))] [] n σ
def LX0_reads_41 (d n : Nat) (Q : Int → kS → Prop) (a0 : Int) (a1 : Int) (a2 : Int) (a3 : Int) (σ : kS) : Prop := K (d + 1) MX0_reads (kPi n Q) (0, 0) 41 [(0, (2, a0)), (1, (2, a1)), (2, (0, a2)), (3, (0, a3))] [] n σ
theorem SX0_reads_0 {d n : Nat} {Q : Int → kS → Prop} {a0 a1 a2 : Int} {σ : kS} (h : isO 0 n a0 ∧ (∀ s1, s1 = kst σ a0 2 0 → isO 8 n (s1 a0 0) ∧ (Ci d MX8_cut [(2, (s1 a0 0)), (0, 0)] n s1 (fun x3 s2 => isO 8 n (s2 a0 1) ∧ (Ci d MX8_cut [(2, (s2 a0 1)), (0, 0)] n s2 (fun x5 s3 => Cv d MX0_skipBlanks [(2, a0), (2, a1)] n s3 (fun s4 => Ci d MX0_readsTown [(2, a0), (2, a1), (0, a2)] n s4 (fun x7 s5 => (¬ x7 = 0 → LX0_reads_41 d n Q a0 a1 a2 0 s5) ∧ (¬ (¬ x7 = 0) → Q 0 s5))))))))) : LX0_reads_0 d n Q a0 a1 a2 σ := by
  unfold LX0_reads_0
  refine K_aload_n 0 (kdA dt_MX0_reads 0 rfl) rfl rfl ?_
  refine K_iconst (kdA dt_MX0_reads 1 rfl) (by decide) ?_
  obtain ⟨c1, h⟩ := h
  refine pf0_31 rfl (kdA dt_MX0_reads 2 rfl) c1 (fun s1 es1 => ?_)
  have h := h s1 es1
  refine K_aload_n 0 (kdA dt_MX0_reads 3 rfl) rfl rfl ?_
  refine gf0_14 rfl (kdA dt_MX0_reads 4 rfl) c1 ?_
  refine K_iconst (kdA dt_MX0_reads 5 rfl) (by decide) ?_
  obtain ⟨c2, h⟩ := h
  refine K_cVi (c := 8) (as := [(0, 0)]) (st := []) (kdA dt_MX0_reads 6 rfl) rfl cl_MX8_cut lk0_33 rfl rfl (Nat.le_of_ble_eq_true rfl) c2 (Ci.mono h (fun x3 s2 h => ?_))
  refine K_pop (kdA dt_MX0_reads 7 rfl) rfl ?_
  refine K_aload_n 0 (kdA dt_MX0_reads 8 rfl) rfl rfl ?_
  refine gf0_20 rfl (kdA dt_MX0_reads 9 rfl) c1 ?_
  refine K_iconst (kdA dt_MX0_reads 10 rfl) (by decide) ?_
  obtain ⟨c4, h⟩ := h
  refine K_cVi (c := 8) (as := [(0, 0)]) (st := []) (kdA dt_MX0_reads 11 rfl) rfl cl_MX8_cut lk0_33 rfl rfl (Nat.le_of_ble_eq_true rfl) c4 (Ci.mono h (fun x5 s3 h => ?_))
  refine K_pop (kdA dt_MX0_reads 12 rfl) rfl ?_
  refine K_aload_n 0 (kdA dt_MX0_reads 13 rfl) rfl rfl ?_
  refine K_aload_n 1 (kdA dt_MX0_reads 14 rfl) rfl rfl ?_
  refine K_cVv (c := 0) (as := [(2, a1)]) (st := []) (kdA dt_MX0_reads 15 rfl) rfl cl_MX0_skipBlanks lk0_37 rfl rfl (Nat.le_of_ble_eq_true rfl) c1 (Cv.mono h (fun s4 h => ?_))
  refine K_aload_n 0 (kdA dt_MX0_reads 16 rfl) rfl rfl ?_
  refine K_aload_n 1 (kdA dt_MX0_reads 17 rfl) rfl rfl ?_
  refine K_iload_n 2 (kdA dt_MX0_reads 18 rfl) rfl rfl ?_
  refine K_cVi (c := 0) (as := [(2, a1), (0, a2)]) (st := []) (kdA dt_MX0_reads 19 rfl) rfl cl_MX0_readsTown lk0_41 rfl rfl (Nat.le_of_ble_eq_true rfl) c1 (Ci.mono h (fun x7 s5 h => ?_))
  refine K_if_ne (tgt := 39) (kdA dt_MX0_reads 20 rfl) rfl (fun c => ?_) (fun c => ?_)
  · have h := h.1 c
    refine K_iconst (kdA dt_MX0_reads 23 rfl) (by decide) ?_
    refine K_istore_n (ls' := [(0, (2, a0)), (1, (2, a1)), (2, (0, a2)), (3, (0, 0))]) (kdA dt_MX0_reads 24 rfl) rfl (by decide) rfl ?_
    exact h
  · have h := h.2 c
    refine K_iconst (kdA dt_MX0_reads 21 rfl) (by decide) ?_
    exact K_zreturn (kdA dt_MX0_reads 22 rfl) rfl (Or.inl rfl) ⟨rfl, _, rfl, h⟩
theorem SX0_reads_41 {d n : Nat} {Q : Int → kS → Prop} {a0 a1 a2 a3 : Int} {σ : kS} (h : (120 ≤ a3 → isO 0 n a0 ∧ (isO 8 n (σ a0 1) ∧ (((σ (σ a0 1) 1) ≤ 0 → Q 0 σ) ∧ (¬ (σ (σ a0 1) 1) ≤ 0 → Q 1 σ)))) ∧ (¬ 120 ≤ a3 → isO 0 n a0 ∧ (isO 8 n a1 ∧ (((σ a1 1) ≤ (σ a0 2) → isO 8 n (σ a0 1) ∧ (((σ (σ a0 1) 1) ≤ 0 → Q 0 σ) ∧ (¬ (σ (σ a0 1) 1) ≤ 0 → Q 1 σ))) ∧ (¬ (σ a1 1) ≤ (σ a0 2) → Ci d MX0_readsMiles [(2, a0), (2, a1)] n σ (fun x3 s1 => (x3 = 0 → Q 0 s1) ∧ (¬ x3 = 0 → Ci d MX0_readsTown [(2, a0), (2, a1), (0, a2)] n s1 (fun x4 s2 => (¬ x4 = 0 → (-2147483648 ≤ (a3 + 1) ∧ (a3 + 1) ≤ 2147483647) ∧ (LX0_reads_41 d n Q a0 a1 a2 (a3 + 1) s2)) ∧ (¬ (¬ x4 = 0) → Q 0 s2))))))))) : LX0_reads_41 d n Q a0 a1 a2 a3 σ := by
  unfold LX0_reads_41
  refine K_iload_n 3 (kdA dt_MX0_reads 25 rfl) rfl rfl ?_
  refine K_bipush (kdA dt_MX0_reads 26 rfl) (by decide +kernel) ?_
  refine K_icmp_ge (tgt := 83) (kdA dt_MX0_reads 27 rfl) rfl (fun c => ?_) (fun c => ?_)
  · have h := h.1 c
    refine K_aload_n 0 (kdA dt_MX0_reads 46 rfl) rfl rfl ?_
    obtain ⟨c1, h⟩ := h
    refine gf0_20 rfl (kdA dt_MX0_reads 47 rfl) c1 ?_
    obtain ⟨c2, h⟩ := h
    refine gf0_23 rfl (kdA dt_MX0_reads 48 rfl) c2 ?_
    refine K_if_le (tgt := 97) (kdA dt_MX0_reads 49 rfl) rfl (fun c => ?_) (fun c => ?_)
    · have h := h.1 c
      refine K_iconst (kdA dt_MX0_reads 52 rfl) (by decide) ?_
      exact K_zreturn (kdA dt_MX0_reads 53 rfl) rfl (Or.inl rfl) ⟨rfl, _, rfl, h⟩
    · have h := h.2 c
      refine K_iconst (kdA dt_MX0_reads 50 rfl) (by decide) ?_
      refine K_goto (tgt := 98) (kdA dt_MX0_reads 51 rfl) rfl ?_
      exact K_zreturn (kdA dt_MX0_reads 53 rfl) rfl (Or.inr rfl) ⟨rfl, _, rfl, h⟩
  · have h := h.2 c
    refine K_aload_n 0 (kdA dt_MX0_reads 28 rfl) rfl rfl ?_
    obtain ⟨c1, h⟩ := h
    refine gf0_31 rfl (kdA dt_MX0_reads 29 rfl) c1 ?_
    refine K_aload_n 1 (kdA dt_MX0_reads 30 rfl) rfl rfl ?_
    obtain ⟨c2, h⟩ := h
    refine gf0_23 rfl (kdA dt_MX0_reads 31 rfl) c2 ?_
    refine K_icmp_ge (tgt := 83) (kdA dt_MX0_reads 32 rfl) rfl (fun c => ?_) (fun c => ?_)
    · have h := h.1 c
      refine K_aload_n 0 (kdA dt_MX0_reads 46 rfl) rfl rfl ?_
      refine gf0_20 rfl (kdA dt_MX0_reads 47 rfl) c1 ?_
      obtain ⟨c3, h⟩ := h
      refine gf0_23 rfl (kdA dt_MX0_reads 48 rfl) c3 ?_
      refine K_if_le (tgt := 97) (kdA dt_MX0_reads 49 rfl) rfl (fun c => ?_) (fun c => ?_)
      · have h := h.1 c
        refine K_iconst (kdA dt_MX0_reads 52 rfl) (by decide) ?_
        exact K_zreturn (kdA dt_MX0_reads 53 rfl) rfl (Or.inl rfl) ⟨rfl, _, rfl, h⟩
      · have h := h.2 c
        refine K_iconst (kdA dt_MX0_reads 50 rfl) (by decide) ?_
        refine K_goto (tgt := 98) (kdA dt_MX0_reads 51 rfl) rfl ?_
        exact K_zreturn (kdA dt_MX0_reads 53 rfl) rfl (Or.inr rfl) ⟨rfl, _, rfl, h⟩
    · have h := h.2 c
      refine K_aload_n 0 (kdA dt_MX0_reads 33 rfl) rfl rfl ?_
      refine K_aload_n 1 (kdA dt_MX0_reads 34 rfl) rfl rfl ?_
      refine K_cVi (c := 0) (as := [(2, a1)]) (st := []) (kdA dt_MX0_reads 35 rfl) rfl cl_MX0_readsMiles lk0_45 rfl rfl (Nat.le_of_ble_eq_true rfl) c1 (Ci.mono h (fun x3 s1 h => ?_))
      refine K_if_eq (tgt := 75) (kdA dt_MX0_reads 36 rfl) rfl (fun c => ?_) (fun c => ?_)
      · have h := h.1 c
        refine K_iconst (kdA dt_MX0_reads 42 rfl) (by decide) ?_
        exact K_zreturn (kdA dt_MX0_reads 43 rfl) rfl (Or.inl rfl) ⟨rfl, _, rfl, h⟩
      · have h := h.2 c
        refine K_aload_n 0 (kdA dt_MX0_reads 37 rfl) rfl rfl ?_
        refine K_aload_n 1 (kdA dt_MX0_reads 38 rfl) rfl rfl ?_
        refine K_iload_n 2 (kdA dt_MX0_reads 39 rfl) rfl rfl ?_
        refine K_cVi (c := 0) (as := [(2, a1), (0, a2)]) (st := []) (kdA dt_MX0_reads 40 rfl) rfl cl_MX0_readsTown lk0_41 rfl rfl (Nat.le_of_ble_eq_true rfl) c1 (Ci.mono h (fun x4 s2 h => ?_))
        refine K_if_ne (tgt := 77) (kdA dt_MX0_reads 41 rfl) rfl (fun c => ?_) (fun c => ?_)
        · have h := h.1 c
          obtain ⟨c5, h⟩ := h
          refine K_iinc (ls' := [(0, (2, a0)), (1, (2, a1)), (2, (0, a2)), (3, (0, (a3 + 1)))]) 3 (kdA dt_MX0_reads 44 rfl) rfl c5 (by decide) rfl ?_
          refine K_goto (tgt := 41) (kdA dt_MX0_reads 45 rfl) rfl ?_
          exact h
        · have h := h.2 c
          refine K_iconst (kdA dt_MX0_reads 42 rfl) (by decide) ?_
          exact K_zreturn (kdA dt_MX0_reads 43 rfl) rfl (Or.inl rfl) ⟨rfl, _, rfl, h⟩
theorem EX0_reads {d n : Nat} {Q : Int → kS → Prop} {a0 a1 a2 : Int} {σ : kS} (h : (-2147483648 ≤ a2 ∧ a2 ≤ 2147483647) → kokw n σ → LX0_reads_0 d n Q a0 a1 a2 σ) : Ci (d + 1) MX0_reads [(2, a0), (2, a1), (0, a2)] n σ Q := Tri_of (by decide +kernel) (Nat.le_of_ble_eq_true rfl) (fun hk hw => h (hk (0, a2) (List.mem_of_getElem? (i := 2) rfl)) hw)

def LX0_readsMiles_0 (d n : Nat) (Q : Int → kS → Prop) (a0 : Int) (a1 : Int) (σ : kS) : Prop := K (d + 1) MX0_readsMiles (kPi n Q) (0, 0) 0 [(0, (2, a0)), (1, (2, a1))] [] n σ
theorem SX0_readsMiles_0 {d n : Nat} {Q : Int → kS → Prop} {a0 a1 : Int} {σ : kS} (h : isO 0 n a0 ∧ (Ci d MX0_isDigit [(2, a0), (2, a1)] n σ (fun x2 s1 => (¬ x2 = 0 → isO 8 n a1 ∧ (Ci d MX8_at [(2, a1), (0, (s1 a0 2))] n s1 (fun x4 s2 => (-2147483648 ≤ (x4 - 48) ∧ (x4 - 48) ≤ 2147483647) ∧ ((-2147483648 ≤ ((s2 a0 2) + 1) ∧ ((s2 a0 2) + 1) ≤ 2147483647) ∧ (∀ s3, s3 = kst s2 a0 2 ((s2 a0 2) + 1) → Ci d MX0_isDigit [(2, a0), (2, a1)] n s3 (fun x7 s4 => (x7 = 0 → isO 8 n (s4 a0 1) ∧ (Ci d MX8_add [(2, (s4 a0 1)), (0, (x4 - 48))] n s4 (fun x9 s5 => Cv d MX0_skipBlanks [(2, a0), (2, a1)] n s5 (fun s6 => Q 1 s6)))) ∧ (¬ x7 = 0 → (-2147483648 ≤ ((x4 - 48) * 10) ∧ ((x4 - 48) * 10) ≤ 2147483647) ∧ (Ci d MX8_at [(2, a1), (0, (s4 a0 2))] n s4 (fun x9 s5 => (-2147483648 ≤ (((x4 - 48) * 10) + x9) ∧ (((x4 - 48) * 10) + x9) ≤ 2147483647) ∧ ((-2147483648 ≤ ((((x4 - 48) * 10) + x9) - 48) ∧ ((((x4 - 48) * 10) + x9) - 48) ≤ 2147483647) ∧ ((-2147483648 ≤ ((s5 a0 2) + 1) ∧ ((s5 a0 2) + 1) ≤ 2147483647) ∧ (∀ s6, s6 = kst s5 a0 2 ((s5 a0 2) + 1) → isO 8 n (s6 a0 1) ∧ (Ci d MX8_add [(2, (s6 a0 1)), (0, ((((x4 - 48) * 10) + x9) - 48))] n s6 (fun x14 s7 => Cv d MX0_skipBlanks [(2, a0), (2, a1)] n s7 (fun s8 => Q 1 s8))))))))))))))) ∧ (¬ (¬ x2 = 0) → Q 0 s1)))) : LX0_readsMiles_0 d n Q a0 a1 σ := by
  unfold LX0_readsMiles_0
  refine K_aload_n 0 (kdA dt_MX0_readsMiles 0 rfl) rfl rfl ?_
  refine K_aload_n 1 (kdA dt_MX0_readsMiles 1 rfl) rfl rfl ?_
  obtain ⟨c1, h⟩ := h
  refine K_cVi (c := 0) (as := [(2, a1)]) (st := []) (kdA dt_MX0_readsMiles 2 rfl) rfl cl_MX0_isDigit lk0_52 rfl rfl (Nat.le_of_ble_eq_true rfl) c1 (Ci.mono h (fun x2 s1 h => ?_))
  refine K_if_ne (tgt := 10) (kdA dt_MX0_readsMiles 3 rfl) rfl (fun c => ?_) (fun c => ?_)
  · have h := h.1 c
    refine K_aload_n 1 (kdA dt_MX0_readsMiles 6 rfl) rfl rfl ?_
    refine K_aload_n 0 (kdA dt_MX0_readsMiles 7 rfl) rfl rfl ?_
    refine gf0_31 rfl (kdA dt_MX0_readsMiles 8 rfl) c1 ?_
    obtain ⟨c3, h⟩ := h
    refine K_cVi (c := 8) (as := [(0, (s1 a0 2))]) (st := []) (kdA dt_MX0_readsMiles 9 rfl) rfl cl_MX8_at lk0_27 rfl rfl (Nat.le_of_ble_eq_true rfl) c3 (Ci.mono h (fun x4 s2 h => ?_))
    refine K_bipush (kdA dt_MX0_readsMiles 10 rfl) (by decide +kernel) ?_
    obtain ⟨c5, h⟩ := h
    refine K_isub (kdA dt_MX0_readsMiles 11 rfl) c5 ?_
    refine K_istore_n (ls' := [(0, (2, a0)), (1, (2, a1)), (2, (0, (x4 - 48)))]) (kdA dt_MX0_readsMiles 12 rfl) rfl (by decide) rfl ?_
    refine K_aload_n 0 (kdA dt_MX0_readsMiles 13 rfl) rfl rfl ?_
    refine K_dup (kdA dt_MX0_readsMiles 14 rfl) rfl ?_
    refine gf0_31 rfl (kdA dt_MX0_readsMiles 15 rfl) c1 ?_
    refine K_iconst (kdA dt_MX0_readsMiles 16 rfl) (by decide) ?_
    obtain ⟨c6, h⟩ := h
    refine K_iadd (kdA dt_MX0_readsMiles 17 rfl) c6 ?_
    refine pf0_31 rfl (kdA dt_MX0_readsMiles 18 rfl) c1 (fun s3 es3 => ?_)
    have h := h s3 es3
    refine K_aload_n 0 (kdA dt_MX0_readsMiles 19 rfl) rfl rfl ?_
    refine K_aload_n 1 (kdA dt_MX0_readsMiles 20 rfl) rfl rfl ?_
    refine K_cVi (c := 0) (as := [(2, a1)]) (st := []) (kdA dt_MX0_readsMiles 21 rfl) rfl cl_MX0_isDigit lk0_52 rfl rfl (Nat.le_of_ble_eq_true rfl) c1 (Ci.mono h (fun x7 s4 h => ?_))
    refine K_if_eq (tgt := 67) (kdA dt_MX0_readsMiles 22 rfl) rfl (fun c => ?_) (fun c => ?_)
    · have h := h.1 c
      refine K_aload_n 0 (kdA dt_MX0_readsMiles 40 rfl) rfl rfl ?_
      refine gf0_20 rfl (kdA dt_MX0_readsMiles 41 rfl) c1 ?_
      refine K_iload_n 2 (kdA dt_MX0_readsMiles 42 rfl) rfl rfl ?_
      obtain ⟨c8, h⟩ := h
      refine K_cVi (c := 8) (as := [(0, (x4 - 48))]) (st := []) (kdA dt_MX0_readsMiles 43 rfl) rfl cl_MX8_add lk0_49 rfl rfl (Nat.le_of_ble_eq_true rfl) c8 (Ci.mono h (fun x9 s5 h => ?_))
      refine K_pop (kdA dt_MX0_readsMiles 44 rfl) rfl ?_
      refine K_aload_n 0 (kdA dt_MX0_readsMiles 45 rfl) rfl rfl ?_
      refine K_aload_n 1 (kdA dt_MX0_readsMiles 46 rfl) rfl rfl ?_
      refine K_cVv (c := 0) (as := [(2, a1)]) (st := []) (kdA dt_MX0_readsMiles 47 rfl) rfl cl_MX0_skipBlanks lk0_37 rfl rfl (Nat.le_of_ble_eq_true rfl) c1 (Cv.mono h (fun s6 h => ?_))
      refine K_iconst (kdA dt_MX0_readsMiles 48 rfl) (by decide) ?_
      exact K_zreturn (kdA dt_MX0_readsMiles 49 rfl) rfl (Or.inr rfl) ⟨rfl, _, rfl, h⟩
    · have h := h.2 c
      refine K_iload_n 2 (kdA dt_MX0_readsMiles 23 rfl) rfl rfl ?_
      refine K_bipush (kdA dt_MX0_readsMiles 24 rfl) (by decide +kernel) ?_
      obtain ⟨c8, h⟩ := h
      refine K_imul (kdA dt_MX0_readsMiles 25 rfl) c8 ?_
      refine K_aload_n 1 (kdA dt_MX0_readsMiles 26 rfl) rfl rfl ?_
      refine K_aload_n 0 (kdA dt_MX0_readsMiles 27 rfl) rfl rfl ?_
      refine gf0_31 rfl (kdA dt_MX0_readsMiles 28 rfl) c1 ?_
      refine K_cVi (c := 8) (as := [(0, (s4 a0 2))]) (st := [(0, ((x4 - 48) * 10))]) (kdA dt_MX0_readsMiles 29 rfl) rfl cl_MX8_at lk0_27 rfl rfl (Nat.le_of_ble_eq_true rfl) c3 (Ci.mono h (fun x9 s5 h => ?_))
      obtain ⟨c10, h⟩ := h
      refine K_iadd (kdA dt_MX0_readsMiles 30 rfl) c10 ?_
      refine K_bipush (kdA dt_MX0_readsMiles 31 rfl) (by decide +kernel) ?_
      obtain ⟨c11, h⟩ := h
      refine K_isub (kdA dt_MX0_readsMiles 32 rfl) c11 ?_
      refine K_istore_n (ls' := [(0, (2, a0)), (1, (2, a1)), (2, (0, ((((x4 - 48) * 10) + x9) - 48)))]) (kdA dt_MX0_readsMiles 33 rfl) rfl (by decide) rfl ?_
      refine K_aload_n 0 (kdA dt_MX0_readsMiles 34 rfl) rfl rfl ?_
      refine K_dup (kdA dt_MX0_readsMiles 35 rfl) rfl ?_
      refine gf0_31 rfl (kdA dt_MX0_readsMiles 36 rfl) c1 ?_
      refine K_iconst (kdA dt_MX0_readsMiles 37 rfl) (by decide) ?_
      obtain ⟨c12, h⟩ := h
      refine K_iadd (kdA dt_MX0_readsMiles 38 rfl) c12 ?_
      refine pf0_31 rfl (kdA dt_MX0_readsMiles 39 rfl) c1 (fun s6 es6 => ?_)
      have h := h s6 es6
      refine K_aload_n 0 (kdA dt_MX0_readsMiles 40 rfl) rfl rfl ?_
      refine gf0_20 rfl (kdA dt_MX0_readsMiles 41 rfl) c1 ?_
      refine K_iload_n 2 (kdA dt_MX0_readsMiles 42 rfl) rfl rfl ?_
      obtain ⟨c13, h⟩ := h
      refine K_cVi (c := 8) (as := [(0, ((((x4 - 48) * 10) + x9) - 48))]) (st := []) (kdA dt_MX0_readsMiles 43 rfl) rfl cl_MX8_add lk0_49 rfl rfl (Nat.le_of_ble_eq_true rfl) c13 (Ci.mono h (fun x14 s7 h => ?_))
      refine K_pop (kdA dt_MX0_readsMiles 44 rfl) rfl ?_
      refine K_aload_n 0 (kdA dt_MX0_readsMiles 45 rfl) rfl rfl ?_
      refine K_aload_n 1 (kdA dt_MX0_readsMiles 46 rfl) rfl rfl ?_
      refine K_cVv (c := 0) (as := [(2, a1)]) (st := []) (kdA dt_MX0_readsMiles 47 rfl) rfl cl_MX0_skipBlanks lk0_37 rfl rfl (Nat.le_of_ble_eq_true rfl) c1 (Cv.mono h (fun s8 h => ?_))
      refine K_iconst (kdA dt_MX0_readsMiles 48 rfl) (by decide) ?_
      exact K_zreturn (kdA dt_MX0_readsMiles 49 rfl) rfl (Or.inr rfl) ⟨rfl, _, rfl, h⟩
  · have h := h.2 c
    refine K_iconst (kdA dt_MX0_readsMiles 4 rfl) (by decide) ?_
    exact K_zreturn (kdA dt_MX0_readsMiles 5 rfl) rfl (Or.inl rfl) ⟨rfl, _, rfl, h⟩
theorem EX0_readsMiles {d n : Nat} {Q : Int → kS → Prop} {a0 a1 : Int} {σ : kS} (h : kokw n σ → LX0_readsMiles_0 d n Q a0 a1 σ) : Ci (d + 1) MX0_readsMiles [(2, a0), (2, a1)] n σ Q := Tri_of (by decide +kernel) (Nat.le_of_ble_eq_true rfl) (fun hk hw => h hw)

def LX0_readsTown_0 (d n : Nat) (Q : Int → kS → Prop) (a0 : Int) (a1 : Int) (a2 : Int) (σ : kS) : Prop := K (d + 1) MX0_readsTown (kPi n Q) (0, 0) 0 [(0, (2, a0)), (1, (2, a1)), (2, (0, a2))] [] n σ
theorem SX0_readsTown_0 {d n : Nat} {Q : Int → kS → Prop} {a0 a1 a2 : Int} {σ : kS} (h : isO 0 n a0 ∧ (isO 8 n a1 ∧ (Ci d MX8_at [(2, a1), (0, (σ a0 2))] n σ (fun x3 s1 => (-2147483648 ≤ (x3 - 97) ∧ (x3 - 97) ≤ 2147483647) ∧ (((x3 - 97) < 0 → Q 0 s1) ∧ (¬ (x3 - 97) < 0 → ((x3 - 97) < a2 → isO 8 n (s1 a0 0) ∧ (Ci d MX8_add [(2, (s1 a0 0)), (0, (x3 - 97))] n s1 (fun x6 s2 => (-2147483648 ≤ ((s2 a0 2) + 1) ∧ ((s2 a0 2) + 1) ≤ 2147483647) ∧ (∀ s3, s3 = kst s2 a0 2 ((s2 a0 2) + 1) → Cv d MX0_skipBlanks [(2, a0), (2, a1)] n s3 (fun s4 => Q 1 s4))))) ∧ (¬ (x3 - 97) < a2 → Q 0 s1))))))) : LX0_readsTown_0 d n Q a0 a1 a2 σ := by
  unfold LX0_readsTown_0
  refine K_aload_n 1 (kdA dt_MX0_readsTown 0 rfl) rfl rfl ?_
  refine K_aload_n 0 (kdA dt_MX0_readsTown 1 rfl) rfl rfl ?_
  obtain ⟨c1, h⟩ := h
  refine gf0_31 rfl (kdA dt_MX0_readsTown 2 rfl) c1 ?_
  obtain ⟨c2, h⟩ := h
  refine K_cVi (c := 8) (as := [(0, (σ a0 2))]) (st := []) (kdA dt_MX0_readsTown 3 rfl) rfl cl_MX8_at lk0_27 rfl rfl (Nat.le_of_ble_eq_true rfl) c2 (Ci.mono h (fun x3 s1 h => ?_))
  refine K_bipush (kdA dt_MX0_readsTown 4 rfl) (by decide +kernel) ?_
  obtain ⟨c4, h⟩ := h
  refine K_isub (kdA dt_MX0_readsTown 5 rfl) c4 ?_
  refine K_istore_n (ls' := [(0, (2, a0)), (1, (2, a1)), (2, (0, a2)), (3, (0, (x3 - 97)))]) (kdA dt_MX0_readsTown 6 rfl) rfl (by decide) rfl ?_
  refine K_iload_n 3 (kdA dt_MX0_readsTown 7 rfl) rfl rfl ?_
  refine K_if_lt (tgt := 21) (kdA dt_MX0_readsTown 8 rfl) rfl (fun c => ?_) (fun c => ?_)
  · have h := h.1 c
    refine K_iconst (kdA dt_MX0_readsTown 12 rfl) (by decide) ?_
    exact K_zreturn (kdA dt_MX0_readsTown 13 rfl) rfl (Or.inl rfl) ⟨rfl, _, rfl, h⟩
  · have h := h.2 c
    refine K_iload_n 3 (kdA dt_MX0_readsTown 9 rfl) rfl rfl ?_
    refine K_iload_n 2 (kdA dt_MX0_readsTown 10 rfl) rfl rfl ?_
    refine K_icmp_lt (tgt := 23) (kdA dt_MX0_readsTown 11 rfl) rfl (fun c => ?_) (fun c => ?_)
    · have h := h.1 c
      refine K_aload_n 0 (kdA dt_MX0_readsTown 14 rfl) rfl rfl ?_
      refine gf0_14 rfl (kdA dt_MX0_readsTown 15 rfl) c1 ?_
      refine K_iload_n 3 (kdA dt_MX0_readsTown 16 rfl) rfl rfl ?_
      obtain ⟨c5, h⟩ := h
      refine K_cVi (c := 8) (as := [(0, (x3 - 97))]) (st := []) (kdA dt_MX0_readsTown 17 rfl) rfl cl_MX8_add lk0_49 rfl rfl (Nat.le_of_ble_eq_true rfl) c5 (Ci.mono h (fun x6 s2 h => ?_))
      refine K_pop (kdA dt_MX0_readsTown 18 rfl) rfl ?_
      refine K_aload_n 0 (kdA dt_MX0_readsTown 19 rfl) rfl rfl ?_
      refine K_dup (kdA dt_MX0_readsTown 20 rfl) rfl ?_
      refine gf0_31 rfl (kdA dt_MX0_readsTown 21 rfl) c1 ?_
      refine K_iconst (kdA dt_MX0_readsTown 22 rfl) (by decide) ?_
      obtain ⟨c7, h⟩ := h
      refine K_iadd (kdA dt_MX0_readsTown 23 rfl) c7 ?_
      refine pf0_31 rfl (kdA dt_MX0_readsTown 24 rfl) c1 (fun s3 es3 => ?_)
      have h := h s3 es3
      refine K_aload_n 0 (kdA dt_MX0_readsTown 25 rfl) rfl rfl ?_
      refine K_aload_n 1 (kdA dt_MX0_readsTown 26 rfl) rfl rfl ?_
      refine K_cVv (c := 0) (as := [(2, a1)]) (st := []) (kdA dt_MX0_readsTown 27 rfl) rfl cl_MX0_skipBlanks lk0_37 rfl rfl (Nat.le_of_ble_eq_true rfl) c1 (Cv.mono h (fun s4 h => ?_))
      refine K_iconst (kdA dt_MX0_readsTown 28 rfl) (by decide) ?_
      exact K_zreturn (kdA dt_MX0_readsTown 29 rfl) rfl (Or.inr rfl) ⟨rfl, _, rfl, h⟩
    · have h := h.2 c
      refine K_iconst (kdA dt_MX0_readsTown 12 rfl) (by decide) ?_
      exact K_zreturn (kdA dt_MX0_readsTown 13 rfl) rfl (Or.inl rfl) ⟨rfl, _, rfl, h⟩
theorem EX0_readsTown {d n : Nat} {Q : Int → kS → Prop} {a0 a1 a2 : Int} {σ : kS} (h : (-2147483648 ≤ a2 ∧ a2 ≤ 2147483647) → kokw n σ → LX0_readsTown_0 d n Q a0 a1 a2 σ) : Ci (d + 1) MX0_readsTown [(2, a0), (2, a1), (0, a2)] n σ Q := Tri_of (by decide +kernel) (Nat.le_of_ble_eq_true rfl) (fun hk hw => h (hk (0, a2) (List.mem_of_getElem? (i := 2) rfl)) hw)

def LX0_skipBlanks_0 (d n : Nat) (Q : kS → Prop) (a0 : Int) (a1 : Int) (σ : kS) : Prop := K (d + 1) MX0_skipBlanks (kPv n Q) (0, 0) 0 [(0, (2, a0)), (1, (2, a1))] [] n σ
theorem SX0_skipBlanks_0 {d n : Nat} {Q : kS → Prop} {a0 a1 : Int} {σ : kS} (h : isO 0 n a0 ∧ (isO 8 n a1 ∧ (((σ a1 1) ≤ (σ a0 2) → Q σ) ∧ (¬ (σ a1 1) ≤ (σ a0 2) → Ci d MX8_at [(2, a1), (0, (σ a0 2))] n σ (fun x3 s1 => (¬ x3 = 32 → Q s1) ∧ (¬ (¬ x3 = 32) → (-2147483648 ≤ ((s1 a0 2) + 1) ∧ ((s1 a0 2) + 1) ≤ 2147483647) ∧ (∀ s2, s2 = kst s1 a0 2 ((s1 a0 2) + 1) → LX0_skipBlanks_0 d n Q a0 a1 s2))))))) : LX0_skipBlanks_0 d n Q a0 a1 σ := by
  unfold LX0_skipBlanks_0
  refine K_aload_n 0 (kdA dt_MX0_skipBlanks 0 rfl) rfl rfl ?_
  obtain ⟨c1, h⟩ := h
  refine gf0_31 rfl (kdA dt_MX0_skipBlanks 1 rfl) c1 ?_
  refine K_aload_n 1 (kdA dt_MX0_skipBlanks 2 rfl) rfl rfl ?_
  obtain ⟨c2, h⟩ := h
  refine gf0_23 rfl (kdA dt_MX0_skipBlanks 3 rfl) c2 ?_
  refine K_icmp_ge (tgt := 37) (kdA dt_MX0_skipBlanks 4 rfl) rfl (fun c => ?_) (fun c => ?_)
  · have h := h.1 c
    exact K_return (kdA dt_MX0_skipBlanks 18 rfl) rfl ⟨rfl, rfl, h⟩
  · have h := h.2 c
    refine K_aload_n 1 (kdA dt_MX0_skipBlanks 5 rfl) rfl rfl ?_
    refine K_aload_n 0 (kdA dt_MX0_skipBlanks 6 rfl) rfl rfl ?_
    refine gf0_31 rfl (kdA dt_MX0_skipBlanks 7 rfl) c1 ?_
    refine K_cVi (c := 8) (as := [(0, (σ a0 2))]) (st := []) (kdA dt_MX0_skipBlanks 8 rfl) rfl cl_MX8_at lk0_27 rfl rfl (Nat.le_of_ble_eq_true rfl) c2 (Ci.mono h (fun x3 s1 h => ?_))
    refine K_bipush (kdA dt_MX0_skipBlanks 9 rfl) (by decide +kernel) ?_
    refine K_icmp_ne (tgt := 37) (kdA dt_MX0_skipBlanks 10 rfl) rfl (fun c => ?_) (fun c => ?_)
    · have h := h.1 c
      exact K_return (kdA dt_MX0_skipBlanks 18 rfl) rfl ⟨rfl, rfl, h⟩
    · have h := h.2 c
      refine K_aload_n 0 (kdA dt_MX0_skipBlanks 11 rfl) rfl rfl ?_
      refine K_dup (kdA dt_MX0_skipBlanks 12 rfl) rfl ?_
      refine gf0_31 rfl (kdA dt_MX0_skipBlanks 13 rfl) c1 ?_
      refine K_iconst (kdA dt_MX0_skipBlanks 14 rfl) (by decide) ?_
      obtain ⟨c4, h⟩ := h
      refine K_iadd (kdA dt_MX0_skipBlanks 15 rfl) c4 ?_
      refine pf0_31 rfl (kdA dt_MX0_skipBlanks 16 rfl) c1 (fun s2 es2 => ?_)
      have h := h s2 es2
      refine K_goto (tgt := 0) (kdA dt_MX0_skipBlanks 17 rfl) rfl ?_
      exact h
theorem EX0_skipBlanks {d n : Nat} {Q : kS → Prop} {a0 a1 : Int} {σ : kS} (h : kokw n σ → LX0_skipBlanks_0 d n Q a0 a1 σ) : Cv (d + 1) MX0_skipBlanks [(2, a0), (2, a1)] n σ Q := Tri_of (by decide +kernel) (Nat.le_of_ble_eq_true rfl) (fun hk hw => h hw)

def LX0_stages_0 (d n : Nat) (Q : Int → kS → Prop) (a0 : Int) (σ : kS) : Prop := K (d + 1) MX0_stages (kPi n Q) (0, 0) 0 [(0, (2, a0))] [] n σ
theorem SX0_stages_0 {d n : Nat} {Q : Int → kS → Prop} {a0 : Int} {σ : kS} (h : isO 0 n a0 ∧ (isO 8 n (σ a0 1) ∧ (Q (σ (σ a0 1) 1) σ))) : LX0_stages_0 d n Q a0 σ := by
  unfold LX0_stages_0
  refine K_aload_n 0 (kdA dt_MX0_stages 0 rfl) rfl rfl ?_
  obtain ⟨c1, h⟩ := h
  refine gf0_20 rfl (kdA dt_MX0_stages 1 rfl) c1 ?_
  obtain ⟨c2, h⟩ := h
  refine gf0_23 rfl (kdA dt_MX0_stages 2 rfl) c2 ?_
  exact K_ireturn (kdA dt_MX0_stages 3 rfl) rfl ⟨rfl, _, rfl, h⟩
theorem EX0_stages {d n : Nat} {Q : Int → kS → Prop} {a0 : Int} {σ : kS} (h : kokw n σ → LX0_stages_0 d n Q a0 σ) : Ci (d + 1) MX0_stages [(2, a0)] n σ Q := Tri_of (by decide +kernel) (Nat.le_of_ble_eq_true rfl) (fun hk hw => h hw)

def LX0_townAt_0 (d n : Nat) (Q : Int → kS → Prop) (a0 : Int) (a1 : Int) (σ : kS) : Prop := K (d + 1) MX0_townAt (kPi n Q) (0, 0) 0 [(0, (2, a0)), (1, (0, a1))] [] n σ
theorem SX0_townAt_0 {d n : Nat} {Q : Int → kS → Prop} {a0 a1 : Int} {σ : kS} (h : isO 0 n a0 ∧ (isO 8 n (σ a0 0) ∧ (Ci d MX8_at [(2, (σ a0 0)), (0, a1)] n σ (fun x3 s1 => Q x3 s1)))) : LX0_townAt_0 d n Q a0 a1 σ := by
  unfold LX0_townAt_0
  refine K_aload_n 0 (kdA dt_MX0_townAt 0 rfl) rfl rfl ?_
  obtain ⟨c1, h⟩ := h
  refine gf0_14 rfl (kdA dt_MX0_townAt 1 rfl) c1 ?_
  refine K_iload_n 1 (kdA dt_MX0_townAt 2 rfl) rfl rfl ?_
  obtain ⟨c2, h⟩ := h
  refine K_cVi (c := 8) (as := [(0, a1)]) (st := []) (kdA dt_MX0_townAt 3 rfl) rfl cl_MX8_at lk0_27 rfl rfl (Nat.le_of_ble_eq_true rfl) c2 (Ci.mono h (fun x3 s1 h => ?_))
  exact K_ireturn (kdA dt_MX0_townAt 4 rfl) rfl ⟨rfl, _, rfl, h⟩
theorem EX0_townAt {d n : Nat} {Q : Int → kS → Prop} {a0 a1 : Int} {σ : kS} (h : (-2147483648 ≤ a1 ∧ a1 ≤ 2147483647) → kokw n σ → LX0_townAt_0 d n Q a0 a1 σ) : Ci (d + 1) MX0_townAt [(2, a0), (0, a1)] n σ Q := Tri_of (by decide +kernel) (Nat.le_of_ble_eq_true rfl) (fun hk hw => h (hk (0, a1) (List.mem_of_getElem? (i := 1) rfl)) hw)

def LX3_add_0 (d n : Nat) (Q : kS → Prop) (a0 : Int) (a1 : Int) (σ : kS) : Prop := K (d + 1) MX3_add (kPv n Q) (0, 0) 0 [(0, (2, a0)), (1, (0, a1))] [] n σ
theorem SX3_add_0 {d n : Nat} {Q : kS → Prop} {a0 a1 : Int} {σ : kS} (h : isO 3 n a0 ∧ (isA 20 n (σ a0 0) ∧ (((klen (σ a0 0)) ≤ (σ a0 2) → Q σ) ∧ (¬ (klen (σ a0 0)) ≤ (σ a0 2) → ((0 : Int) ≤ (σ a0 2) ∧ (σ a0 2) < klen (σ a0 0)) ∧ (∀ s1, s1 = kst σ (σ a0 0) (σ a0 2) a1 → (-2147483648 ≤ ((s1 a0 2) + 1) ∧ ((s1 a0 2) + 1) ≤ 2147483647) ∧ (∀ s2, s2 = kst s1 a0 2 ((s1 a0 2) + 1) → Q s2)))))) : LX3_add_0 d n Q a0 a1 σ := by
  unfold LX3_add_0
  refine K_aload_n 0 (kdA dt_MX3_add 0 rfl) rfl rfl ?_
  obtain ⟨c1, h⟩ := h
  refine gf3_25 rfl (kdA dt_MX3_add 1 rfl) c1 ?_
  refine K_aload_n 0 (kdA dt_MX3_add 2 rfl) rfl rfl ?_
  refine gf3_9 rfl (kdA dt_MX3_add 3 rfl) c1 ?_
  obtain ⟨c2, h⟩ := h
  refine K_alen (kdA dt_MX3_add 4 rfl) (by decide) c2 ?_
  refine K_icmp_ge (tgt := 32) (kdA dt_MX3_add 5 rfl) rfl (fun c => ?_) (fun c => ?_)
  · have h := h.1 c
    exact K_return (kdA dt_MX3_add 18 rfl) rfl ⟨rfl, rfl, h⟩
  · have h := h.2 c
    refine K_aload_n 0 (kdA dt_MX3_add 6 rfl) rfl rfl ?_
    refine gf3_9 rfl (kdA dt_MX3_add 7 rfl) c1 ?_
    refine K_aload_n 0 (kdA dt_MX3_add 8 rfl) rfl rfl ?_
    refine gf3_25 rfl (kdA dt_MX3_add 9 rfl) c1 ?_
    refine K_iload_n 1 (kdA dt_MX3_add 10 rfl) rfl rfl ?_
    obtain ⟨c3, h⟩ := h
    refine K_iastore' (kdA dt_MX3_add 11 rfl) c2 c3.1 c3.2 (fun s1 es1 => ?_)
    have h := h s1 es1
    refine K_aload_n 0 (kdA dt_MX3_add 12 rfl) rfl rfl ?_
    refine K_dup (kdA dt_MX3_add 13 rfl) rfl ?_
    refine gf3_25 rfl (kdA dt_MX3_add 14 rfl) c1 ?_
    refine K_iconst (kdA dt_MX3_add 15 rfl) (by decide) ?_
    obtain ⟨c4, h⟩ := h
    refine K_iadd (kdA dt_MX3_add 16 rfl) c4 ?_
    refine pf3_25 rfl (kdA dt_MX3_add 17 rfl) c1 (fun s2 es2 => ?_)
    have h := h s2 es2
    exact K_return (kdA dt_MX3_add 18 rfl) rfl ⟨rfl, rfl, h⟩
theorem EX3_add {d n : Nat} {Q : kS → Prop} {a0 a1 : Int} {σ : kS} (h : (-2147483648 ≤ a1 ∧ a1 ≤ 2147483647) → kokw n σ → LX3_add_0 d n Q a0 a1 σ) : Cv (d + 1) MX3_add [(2, a0), (0, a1)] n σ Q := Tri_of (by decide +kernel) (Nat.le_of_ble_eq_true rfl) (fun hk hw => h (hk (0, a1) (List.mem_of_getElem? (i := 1) rfl)) hw)

def LX3_joined_0 (d n : Nat) (Q : Int → kS → Prop) (a0 : Int) (a1 : Int) (a3 : Int) (σ : kS) : Prop := K (d + 1) MX3_joined (kPl n Q) (0, 0) 0 [(0, (0, a0)), (1, (1, a1)), (3, (1, a3))] [] n σ
theorem SX3_joined_0 {d n : Nat} {Q : Int → kS → Prop} {a0 a1 a3 : Int} {σ : kS} (h : (a0 < 38 ∨ 62 < a0 → Q (klor a1 a3) σ) ∧ (a0 = 38 → Q (kland a1 a3) σ) ∧ (a0 = 39 → Q (klor a1 a3) σ) ∧ (a0 = 40 → Q (klor a1 a3) σ) ∧ (a0 = 41 → Q (klor a1 a3) σ) ∧ (a0 = 42 → Q (klmul a1 a3) σ) ∧ (a0 = 43 → Q (kladd a1 a3) σ) ∧ (a0 = 44 → Q (klor a1 a3) σ) ∧ (a0 = 45 → Q (klsub a1 a3) σ) ∧ (a0 = 46 → Q (klor a1 a3) σ) ∧ (a0 = 47 → (¬ (klcmp a3 0) = 0 → (a3 ≠ 0) ∧ (Q (kldiv a1 a3) σ)) ∧ (¬ (¬ (klcmp a3 0) = 0) → Q 0 σ)) ∧ (a0 = 48 → Q (klor a1 a3) σ) ∧ (a0 = 49 → Q (klor a1 a3) σ) ∧ (a0 = 50 → Q (klor a1 a3) σ) ∧ (a0 = 51 → Q (klor a1 a3) σ) ∧ (a0 = 52 → Q (klor a1 a3) σ) ∧ (a0 = 53 → Q (klor a1 a3) σ) ∧ (a0 = 54 → Q (klor a1 a3) σ) ∧ (a0 = 55 → Q (klor a1 a3) σ) ∧ (a0 = 56 → Q (klor a1 a3) σ) ∧ (a0 = 57 → Q (klor a1 a3) σ) ∧ (a0 = 58 → Q (klor a1 a3) σ) ∧ (a0 = 59 → Q (klor a1 a3) σ) ∧ (a0 = 60 → (0 ≤ (klcmp a1 a3) → Q 0 σ) ∧ (¬ 0 ≤ (klcmp a1 a3) → Q 1 σ)) ∧ (a0 = 61 → (¬ (klcmp a1 a3) = 0 → Q 0 σ) ∧ (¬ (¬ (klcmp a1 a3) = 0) → Q 1 σ)) ∧ (a0 = 62 → ((klcmp a1 a3) ≤ 0 → Q 0 σ) ∧ (¬ (klcmp a1 a3) ≤ 0 → Q 1 σ))) : LX3_joined_0 d n Q a0 a1 a3 σ := by
  unfold LX3_joined_0
  refine K_iload_n 0 (kdA dt_MX3_joined 0 rfl) rfl rfl ?_
  by_cases hx : a0 < 38 ∨ 62 < a0
  · refine K_sw0 (tgt := 182) (kdA dt_MX3_joined 1 rfl) hx rfl ?_
    have h := h.1 hx
    refine K_lload_n 1 (kdA dt_MX3_joined 52 rfl) rfl rfl ?_
    refine K_lload_n 2 (kdA dt_MX3_joined 53 rfl) rfl rfl ?_
    refine K_lor (kdA dt_MX3_joined 54 rfl) ?_
    exact K_lreturn (kdA dt_MX3_joined 55 rfl) rfl ⟨rfl, _, rfl, h⟩
  have h := h.2
  have l38 : (38 : Int) ≤ a0 := Int.not_lt.mp (fun q => hx (Or.inl q))
  by_cases e38 : a0 = 38
  · refine K_sw1 (tgt := 178) (kdA dt_MX3_joined 1 rfl) e38 (by decide) rfl rfl ?_
    have h := h.1 e38
    refine K_lload_n 1 (kdA dt_MX3_joined 48 rfl) rfl rfl ?_
    refine K_lload_n 2 (kdA dt_MX3_joined 49 rfl) rfl rfl ?_
    refine K_land (kdA dt_MX3_joined 50 rfl) ?_
    exact K_lreturn (kdA dt_MX3_joined 51 rfl) rfl ⟨rfl, _, rfl, h⟩
  have h := h.2
  have l39 := k_sn l38 e38 (show (38 : Int) + 1 = 39 by decide)
  by_cases e39 : a0 = 39
  · refine K_sw1 (tgt := 182) (kdA dt_MX3_joined 1 rfl) e39 (by decide) rfl rfl ?_
    have h := h.1 e39
    refine K_lload_n 1 (kdA dt_MX3_joined 52 rfl) rfl rfl ?_
    refine K_lload_n 2 (kdA dt_MX3_joined 53 rfl) rfl rfl ?_
    refine K_lor (kdA dt_MX3_joined 54 rfl) ?_
    exact K_lreturn (kdA dt_MX3_joined 55 rfl) rfl ⟨rfl, _, rfl, h⟩
  have h := h.2
  have l40 := k_sn l39 e39 (show (39 : Int) + 1 = 40 by decide)
  by_cases e40 : a0 = 40
  · refine K_sw1 (tgt := 182) (kdA dt_MX3_joined 1 rfl) e40 (by decide) rfl rfl ?_
    have h := h.1 e40
    refine K_lload_n 1 (kdA dt_MX3_joined 52 rfl) rfl rfl ?_
    refine K_lload_n 2 (kdA dt_MX3_joined 53 rfl) rfl rfl ?_
    refine K_lor (kdA dt_MX3_joined 54 rfl) ?_
    exact K_lreturn (kdA dt_MX3_joined 55 rfl) rfl ⟨rfl, _, rfl, h⟩
  have h := h.2
  have l41 := k_sn l40 e40 (show (40 : Int) + 1 = 41 by decide)
  by_cases e41 : a0 = 41
  · refine K_sw1 (tgt := 182) (kdA dt_MX3_joined 1 rfl) e41 (by decide) rfl rfl ?_
    have h := h.1 e41
    refine K_lload_n 1 (kdA dt_MX3_joined 52 rfl) rfl rfl ?_
    refine K_lload_n 2 (kdA dt_MX3_joined 53 rfl) rfl rfl ?_
    refine K_lor (kdA dt_MX3_joined 54 rfl) ?_
    exact K_lreturn (kdA dt_MX3_joined 55 rfl) rfl ⟨rfl, _, rfl, h⟩
  have h := h.2
  have l42 := k_sn l41 e41 (show (41 : Int) + 1 = 42 by decide)
  by_cases e42 : a0 = 42
  · refine K_sw1 (tgt := 124) (kdA dt_MX3_joined 1 rfl) e42 (by decide) rfl rfl ?_
    have h := h.1 e42
    refine K_lload_n 1 (kdA dt_MX3_joined 10 rfl) rfl rfl ?_
    refine K_lload_n 2 (kdA dt_MX3_joined 11 rfl) rfl rfl ?_
    refine K_lmul (kdA dt_MX3_joined 12 rfl) ?_
    exact K_lreturn (kdA dt_MX3_joined 13 rfl) rfl ⟨rfl, _, rfl, h⟩
  have h := h.2
  have l43 := k_sn l42 e42 (show (42 : Int) + 1 = 43 by decide)
  by_cases e43 : a0 = 43
  · refine K_sw1 (tgt := 116) (kdA dt_MX3_joined 1 rfl) e43 (by decide) rfl rfl ?_
    have h := h.1 e43
    refine K_lload_n 1 (kdA dt_MX3_joined 2 rfl) rfl rfl ?_
    refine K_lload_n 2 (kdA dt_MX3_joined 3 rfl) rfl rfl ?_
    refine K_ladd (kdA dt_MX3_joined 4 rfl) ?_
    exact K_lreturn (kdA dt_MX3_joined 5 rfl) rfl ⟨rfl, _, rfl, h⟩
  have h := h.2
  have l44 := k_sn l43 e43 (show (43 : Int) + 1 = 44 by decide)
  by_cases e44 : a0 = 44
  · refine K_sw1 (tgt := 182) (kdA dt_MX3_joined 1 rfl) e44 (by decide) rfl rfl ?_
    have h := h.1 e44
    refine K_lload_n 1 (kdA dt_MX3_joined 52 rfl) rfl rfl ?_
    refine K_lload_n 2 (kdA dt_MX3_joined 53 rfl) rfl rfl ?_
    refine K_lor (kdA dt_MX3_joined 54 rfl) ?_
    exact K_lreturn (kdA dt_MX3_joined 55 rfl) rfl ⟨rfl, _, rfl, h⟩
  have h := h.2
  have l45 := k_sn l44 e44 (show (44 : Int) + 1 = 45 by decide)
  by_cases e45 : a0 = 45
  · refine K_sw1 (tgt := 120) (kdA dt_MX3_joined 1 rfl) e45 (by decide) rfl rfl ?_
    have h := h.1 e45
    refine K_lload_n 1 (kdA dt_MX3_joined 6 rfl) rfl rfl ?_
    refine K_lload_n 2 (kdA dt_MX3_joined 7 rfl) rfl rfl ?_
    refine K_lsub (kdA dt_MX3_joined 8 rfl) ?_
    exact K_lreturn (kdA dt_MX3_joined 9 rfl) rfl ⟨rfl, _, rfl, h⟩
  have h := h.2
  have l46 := k_sn l45 e45 (show (45 : Int) + 1 = 46 by decide)
  by_cases e46 : a0 = 46
  · refine K_sw1 (tgt := 182) (kdA dt_MX3_joined 1 rfl) e46 (by decide) rfl rfl ?_
    have h := h.1 e46
    refine K_lload_n 1 (kdA dt_MX3_joined 52 rfl) rfl rfl ?_
    refine K_lload_n 2 (kdA dt_MX3_joined 53 rfl) rfl rfl ?_
    refine K_lor (kdA dt_MX3_joined 54 rfl) ?_
    exact K_lreturn (kdA dt_MX3_joined 55 rfl) rfl ⟨rfl, _, rfl, h⟩
  have h := h.2
  have l47 := k_sn l46 e46 (show (46 : Int) + 1 = 47 by decide)
  by_cases e47 : a0 = 47
  · refine K_sw1 (tgt := 128) (kdA dt_MX3_joined 1 rfl) e47 (by decide) rfl rfl ?_
    have h := h.1 e47
    refine K_lload_n 2 (kdA dt_MX3_joined 14 rfl) rfl rfl ?_
    refine K_lconst (x := 0) (kdA dt_MX3_joined 15 rfl) (by decide +kernel) ?_
    refine K_lcmp (kdA dt_MX3_joined 16 rfl) ?_
    refine K_if_ne (tgt := 138) (kdA dt_MX3_joined 17 rfl) rfl (fun c => ?_) (fun c => ?_)
    · have h := h.1 c
      refine K_lload_n 1 (kdA dt_MX3_joined 20 rfl) rfl rfl ?_
      refine K_lload_n 2 (kdA dt_MX3_joined 21 rfl) rfl rfl ?_
      obtain ⟨c1, h⟩ := h
      refine K_ldiv (kdA dt_MX3_joined 22 rfl) c1 ?_
      exact K_lreturn (kdA dt_MX3_joined 23 rfl) rfl ⟨rfl, _, rfl, h⟩
    · have h := h.2 c
      refine K_lconst (x := 0) (kdA dt_MX3_joined 18 rfl) (by decide +kernel) ?_
      refine K_goto (tgt := 141) (kdA dt_MX3_joined 19 rfl) rfl ?_
      exact K_lreturn (kdA dt_MX3_joined 23 rfl) rfl ⟨rfl, _, rfl, h⟩
  have h := h.2
  have l48 := k_sn l47 e47 (show (47 : Int) + 1 = 48 by decide)
  by_cases e48 : a0 = 48
  · refine K_sw1 (tgt := 182) (kdA dt_MX3_joined 1 rfl) e48 (by decide) rfl rfl ?_
    have h := h.1 e48
    refine K_lload_n 1 (kdA dt_MX3_joined 52 rfl) rfl rfl ?_
    refine K_lload_n 2 (kdA dt_MX3_joined 53 rfl) rfl rfl ?_
    refine K_lor (kdA dt_MX3_joined 54 rfl) ?_
    exact K_lreturn (kdA dt_MX3_joined 55 rfl) rfl ⟨rfl, _, rfl, h⟩
  have h := h.2
  have l49 := k_sn l48 e48 (show (48 : Int) + 1 = 49 by decide)
  by_cases e49 : a0 = 49
  · refine K_sw1 (tgt := 182) (kdA dt_MX3_joined 1 rfl) e49 (by decide) rfl rfl ?_
    have h := h.1 e49
    refine K_lload_n 1 (kdA dt_MX3_joined 52 rfl) rfl rfl ?_
    refine K_lload_n 2 (kdA dt_MX3_joined 53 rfl) rfl rfl ?_
    refine K_lor (kdA dt_MX3_joined 54 rfl) ?_
    exact K_lreturn (kdA dt_MX3_joined 55 rfl) rfl ⟨rfl, _, rfl, h⟩
  have h := h.2
  have l50 := k_sn l49 e49 (show (49 : Int) + 1 = 50 by decide)
  by_cases e50 : a0 = 50
  · refine K_sw1 (tgt := 182) (kdA dt_MX3_joined 1 rfl) e50 (by decide) rfl rfl ?_
    have h := h.1 e50
    refine K_lload_n 1 (kdA dt_MX3_joined 52 rfl) rfl rfl ?_
    refine K_lload_n 2 (kdA dt_MX3_joined 53 rfl) rfl rfl ?_
    refine K_lor (kdA dt_MX3_joined 54 rfl) ?_
    exact K_lreturn (kdA dt_MX3_joined 55 rfl) rfl ⟨rfl, _, rfl, h⟩
  have h := h.2
  have l51 := k_sn l50 e50 (show (50 : Int) + 1 = 51 by decide)
  by_cases e51 : a0 = 51
  · refine K_sw1 (tgt := 182) (kdA dt_MX3_joined 1 rfl) e51 (by decide) rfl rfl ?_
    have h := h.1 e51
    refine K_lload_n 1 (kdA dt_MX3_joined 52 rfl) rfl rfl ?_
    refine K_lload_n 2 (kdA dt_MX3_joined 53 rfl) rfl rfl ?_
    refine K_lor (kdA dt_MX3_joined 54 rfl) ?_
    exact K_lreturn (kdA dt_MX3_joined 55 rfl) rfl ⟨rfl, _, rfl, h⟩
  have h := h.2
  have l52 := k_sn l51 e51 (show (51 : Int) + 1 = 52 by decide)
  by_cases e52 : a0 = 52
  · refine K_sw1 (tgt := 182) (kdA dt_MX3_joined 1 rfl) e52 (by decide) rfl rfl ?_
    have h := h.1 e52
    refine K_lload_n 1 (kdA dt_MX3_joined 52 rfl) rfl rfl ?_
    refine K_lload_n 2 (kdA dt_MX3_joined 53 rfl) rfl rfl ?_
    refine K_lor (kdA dt_MX3_joined 54 rfl) ?_
    exact K_lreturn (kdA dt_MX3_joined 55 rfl) rfl ⟨rfl, _, rfl, h⟩
  have h := h.2
  have l53 := k_sn l52 e52 (show (52 : Int) + 1 = 53 by decide)
  by_cases e53 : a0 = 53
  · refine K_sw1 (tgt := 182) (kdA dt_MX3_joined 1 rfl) e53 (by decide) rfl rfl ?_
    have h := h.1 e53
    refine K_lload_n 1 (kdA dt_MX3_joined 52 rfl) rfl rfl ?_
    refine K_lload_n 2 (kdA dt_MX3_joined 53 rfl) rfl rfl ?_
    refine K_lor (kdA dt_MX3_joined 54 rfl) ?_
    exact K_lreturn (kdA dt_MX3_joined 55 rfl) rfl ⟨rfl, _, rfl, h⟩
  have h := h.2
  have l54 := k_sn l53 e53 (show (53 : Int) + 1 = 54 by decide)
  by_cases e54 : a0 = 54
  · refine K_sw1 (tgt := 182) (kdA dt_MX3_joined 1 rfl) e54 (by decide) rfl rfl ?_
    have h := h.1 e54
    refine K_lload_n 1 (kdA dt_MX3_joined 52 rfl) rfl rfl ?_
    refine K_lload_n 2 (kdA dt_MX3_joined 53 rfl) rfl rfl ?_
    refine K_lor (kdA dt_MX3_joined 54 rfl) ?_
    exact K_lreturn (kdA dt_MX3_joined 55 rfl) rfl ⟨rfl, _, rfl, h⟩
  have h := h.2
  have l55 := k_sn l54 e54 (show (54 : Int) + 1 = 55 by decide)
  by_cases e55 : a0 = 55
  · refine K_sw1 (tgt := 182) (kdA dt_MX3_joined 1 rfl) e55 (by decide) rfl rfl ?_
    have h := h.1 e55
    refine K_lload_n 1 (kdA dt_MX3_joined 52 rfl) rfl rfl ?_
    refine K_lload_n 2 (kdA dt_MX3_joined 53 rfl) rfl rfl ?_
    refine K_lor (kdA dt_MX3_joined 54 rfl) ?_
    exact K_lreturn (kdA dt_MX3_joined 55 rfl) rfl ⟨rfl, _, rfl, h⟩
  have h := h.2
  have l56 := k_sn l55 e55 (show (55 : Int) + 1 = 56 by decide)
  by_cases e56 : a0 = 56
  · refine K_sw1 (tgt := 182) (kdA dt_MX3_joined 1 rfl) e56 (by decide) rfl rfl ?_
    have h := h.1 e56
    refine K_lload_n 1 (kdA dt_MX3_joined 52 rfl) rfl rfl ?_
    refine K_lload_n 2 (kdA dt_MX3_joined 53 rfl) rfl rfl ?_
    refine K_lor (kdA dt_MX3_joined 54 rfl) ?_
    exact K_lreturn (kdA dt_MX3_joined 55 rfl) rfl ⟨rfl, _, rfl, h⟩
  have h := h.2
  have l57 := k_sn l56 e56 (show (56 : Int) + 1 = 57 by decide)
  by_cases e57 : a0 = 57
  · refine K_sw1 (tgt := 182) (kdA dt_MX3_joined 1 rfl) e57 (by decide) rfl rfl ?_
    have h := h.1 e57
    refine K_lload_n 1 (kdA dt_MX3_joined 52 rfl) rfl rfl ?_
    refine K_lload_n 2 (kdA dt_MX3_joined 53 rfl) rfl rfl ?_
    refine K_lor (kdA dt_MX3_joined 54 rfl) ?_
    exact K_lreturn (kdA dt_MX3_joined 55 rfl) rfl ⟨rfl, _, rfl, h⟩
  have h := h.2
  have l58 := k_sn l57 e57 (show (57 : Int) + 1 = 58 by decide)
  by_cases e58 : a0 = 58
  · refine K_sw1 (tgt := 182) (kdA dt_MX3_joined 1 rfl) e58 (by decide) rfl rfl ?_
    have h := h.1 e58
    refine K_lload_n 1 (kdA dt_MX3_joined 52 rfl) rfl rfl ?_
    refine K_lload_n 2 (kdA dt_MX3_joined 53 rfl) rfl rfl ?_
    refine K_lor (kdA dt_MX3_joined 54 rfl) ?_
    exact K_lreturn (kdA dt_MX3_joined 55 rfl) rfl ⟨rfl, _, rfl, h⟩
  have h := h.2
  have l59 := k_sn l58 e58 (show (58 : Int) + 1 = 59 by decide)
  by_cases e59 : a0 = 59
  · refine K_sw1 (tgt := 182) (kdA dt_MX3_joined 1 rfl) e59 (by decide) rfl rfl ?_
    have h := h.1 e59
    refine K_lload_n 1 (kdA dt_MX3_joined 52 rfl) rfl rfl ?_
    refine K_lload_n 2 (kdA dt_MX3_joined 53 rfl) rfl rfl ?_
    refine K_lor (kdA dt_MX3_joined 54 rfl) ?_
    exact K_lreturn (kdA dt_MX3_joined 55 rfl) rfl ⟨rfl, _, rfl, h⟩
  have h := h.2
  have l60 := k_sn l59 e59 (show (59 : Int) + 1 = 60 by decide)
  by_cases e60 : a0 = 60
  · refine K_sw1 (tgt := 154) (kdA dt_MX3_joined 1 rfl) e60 (by decide) rfl rfl ?_
    have h := h.1 e60
    refine K_lload_n 1 (kdA dt_MX3_joined 32 rfl) rfl rfl ?_
    refine K_lload_n 2 (kdA dt_MX3_joined 33 rfl) rfl rfl ?_
    refine K_lcmp (kdA dt_MX3_joined 34 rfl) ?_
    refine K_if_ge (tgt := 164) (kdA dt_MX3_joined 35 rfl) rfl (fun c => ?_) (fun c => ?_)
    · have h := h.1 c
      refine K_lconst (x := 0) (kdA dt_MX3_joined 38 rfl) (by decide +kernel) ?_
      exact K_lreturn (kdA dt_MX3_joined 39 rfl) rfl ⟨rfl, _, rfl, h⟩
    · have h := h.2 c
      refine K_lconst (x := 1) (kdA dt_MX3_joined 36 rfl) (by decide +kernel) ?_
      refine K_goto (tgt := 165) (kdA dt_MX3_joined 37 rfl) rfl ?_
      exact K_lreturn (kdA dt_MX3_joined 39 rfl) rfl ⟨rfl, _, rfl, h⟩
  have h := h.2
  have l61 := k_sn l60 e60 (show (60 : Int) + 1 = 61 by decide)
  by_cases e61 : a0 = 61
  · refine K_sw1 (tgt := 142) (kdA dt_MX3_joined 1 rfl) e61 (by decide) rfl rfl ?_
    have h := h.1 e61
    refine K_lload_n 1 (kdA dt_MX3_joined 24 rfl) rfl rfl ?_
    refine K_lload_n 2 (kdA dt_MX3_joined 25 rfl) rfl rfl ?_
    refine K_lcmp (kdA dt_MX3_joined 26 rfl) ?_
    refine K_if_ne (tgt := 152) (kdA dt_MX3_joined 27 rfl) rfl (fun c => ?_) (fun c => ?_)
    · have h := h.1 c
      refine K_lconst (x := 0) (kdA dt_MX3_joined 30 rfl) (by decide +kernel) ?_
      exact K_lreturn (kdA dt_MX3_joined 31 rfl) rfl ⟨rfl, _, rfl, h⟩
    · have h := h.2 c
      refine K_lconst (x := 1) (kdA dt_MX3_joined 28 rfl) (by decide +kernel) ?_
      refine K_goto (tgt := 153) (kdA dt_MX3_joined 29 rfl) rfl ?_
      exact K_lreturn (kdA dt_MX3_joined 31 rfl) rfl ⟨rfl, _, rfl, h⟩
  have h := h.2
  have l62 := k_sn l61 e61 (show (61 : Int) + 1 = 62 by decide)
  by_cases e62 : a0 = 62
  · refine K_sw1 (tgt := 166) (kdA dt_MX3_joined 1 rfl) e62 (by decide) rfl rfl ?_
    have h := h e62
    refine K_lload_n 1 (kdA dt_MX3_joined 40 rfl) rfl rfl ?_
    refine K_lload_n 2 (kdA dt_MX3_joined 41 rfl) rfl rfl ?_
    refine K_lcmp (kdA dt_MX3_joined 42 rfl) ?_
    refine K_if_le (tgt := 176) (kdA dt_MX3_joined 43 rfl) rfl (fun c => ?_) (fun c => ?_)
    · have h := h.1 c
      refine K_lconst (x := 0) (kdA dt_MX3_joined 46 rfl) (by decide +kernel) ?_
      exact K_lreturn (kdA dt_MX3_joined 47 rfl) rfl ⟨rfl, _, rfl, h⟩
    · have h := h.2 c
      refine K_lconst (x := 1) (kdA dt_MX3_joined 44 rfl) (by decide +kernel) ?_
      refine K_goto (tgt := 177) (kdA dt_MX3_joined 45 rfl) rfl ?_
      exact K_lreturn (kdA dt_MX3_joined 47 rfl) rfl ⟨rfl, _, rfl, h⟩
  have l63 := k_sn l62 e62 (show (62 : Int) + 1 = 63 by decide)
  exact absurd (Or.inr (Int.lt_of_lt_of_le (show (62 : Int) < 63 by decide) l63)) hx
theorem EX3_joined {d n : Nat} {Q : Int → kS → Prop} {a0 a1 a3 : Int} {σ : kS} (h : (-2147483648 ≤ a0 ∧ a0 ≤ 2147483647) → (-9223372036854775808 ≤ a1 ∧ a1 ≤ 9223372036854775807) → (-9223372036854775808 ≤ a3 ∧ a3 ≤ 9223372036854775807) → kokw n σ → LX3_joined_0 d n Q a0 a1 a3 σ) : Cl (d + 1) MX3_joined [(0, a0), (1, a1), (1, a3)] n σ Q := Tri_of (by decide +kernel) (Nat.le_of_ble_eq_true rfl) (fun hk hw => h (hk (0, a0) (List.mem_of_getElem? (i := 0) rfl)) (hk (1, a1) (List.mem_of_getElem? (i := 1) rfl)) (hk (1, a3) (List.mem_of_getElem? (i := 2) rfl)) hw)

def LX3_leadOn_0 (d n : Nat) (Q : kS → Prop) (a0 : Int) (a1 : Int) (σ : kS) : Prop := K (d + 1) MX3_leadOn (kPv n Q) (0, 0) 0 [(0, (2, a0)), (1, (0, a1))] [] n σ
theorem SX3_leadOn_0 {d n : Nat} {Q : kS → Prop} {a0 a1 : Int} {σ : kS} (h : (a1 < 0 → Q σ) ∧ (¬ a1 < 0 → isO 3 n a0 ∧ (((σ a0 2) ≤ a1 → Q σ) ∧ (¬ (σ a0 2) ≤ a1 → (-2147483648 ≤ (30000 + (σ a0 2)) ∧ (30000 + (σ a0 2)) ≤ 2147483647) ∧ (isA 20 n (σ a0 0) ∧ (((0 : Int) ≤ a1 ∧ a1 < klen (σ a0 0)) ∧ (∀ s1, s1 = kst σ (σ a0 0) a1 (30000 + (σ a0 2)) → Q s1))))))) : LX3_leadOn_0 d n Q a0 a1 σ := by
  unfold LX3_leadOn_0
  refine K_iload_n 1 (kdA dt_MX3_leadOn 0 rfl) rfl rfl ?_
  refine K_if_lt (tgt := 26) (kdA dt_MX3_leadOn 1 rfl) rfl (fun c => ?_) (fun c => ?_)
  · have h := h.1 c
    exact K_return (kdA dt_MX3_leadOn 14 rfl) rfl ⟨rfl, rfl, h⟩
  · have h := h.2 c
    refine K_iload_n 1 (kdA dt_MX3_leadOn 2 rfl) rfl rfl ?_
    refine K_aload_n 0 (kdA dt_MX3_leadOn 3 rfl) rfl rfl ?_
    obtain ⟨c1, h⟩ := h
    refine gf3_25 rfl (kdA dt_MX3_leadOn 4 rfl) c1 ?_
    refine K_icmp_ge (tgt := 26) (kdA dt_MX3_leadOn 5 rfl) rfl (fun c => ?_) (fun c => ?_)
    · have h := h.1 c
      exact K_return (kdA dt_MX3_leadOn 14 rfl) rfl ⟨rfl, rfl, h⟩
    · have h := h.2 c
      refine K_aload_n 0 (kdA dt_MX3_leadOn 6 rfl) rfl rfl ?_
      refine gf3_9 rfl (kdA dt_MX3_leadOn 7 rfl) c1 ?_
      refine K_iload_n 1 (kdA dt_MX3_leadOn 8 rfl) rfl rfl ?_
      refine K_sipush (kdA dt_MX3_leadOn 9 rfl) (by decide +kernel) ?_
      refine K_aload_n 0 (kdA dt_MX3_leadOn 10 rfl) rfl rfl ?_
      refine gf3_25 rfl (kdA dt_MX3_leadOn 11 rfl) c1 ?_
      obtain ⟨c2, h⟩ := h
      refine K_iadd (kdA dt_MX3_leadOn 12 rfl) c2 ?_
      obtain ⟨c3, h⟩ := h
      obtain ⟨c4, h⟩ := h
      refine K_iastore' (kdA dt_MX3_leadOn 13 rfl) c3 c4.1 c4.2 (fun s1 es1 => ?_)
      have h := h s1 es1
      exact K_return (kdA dt_MX3_leadOn 14 rfl) rfl ⟨rfl, rfl, h⟩
theorem EX3_leadOn {d n : Nat} {Q : kS → Prop} {a0 a1 : Int} {σ : kS} (h : (-2147483648 ≤ a1 ∧ a1 ≤ 2147483647) → kokw n σ → LX3_leadOn_0 d n Q a0 a1 σ) : Cv (d + 1) MX3_leadOn [(2, a0), (0, a1)] n σ Q := Tri_of (by decide +kernel) (Nat.le_of_ble_eq_true rfl) (fun hk hw => h (hk (0, a1) (List.mem_of_getElem? (i := 1) rfl)) hw)

def LX3_take_0 (d n : Nat) (Q : kS → Prop) (a0 : Int) (a1 : Int) (σ : kS) : Prop := K (d + 1) MX3_take (kPv n Q) (0, 0) 0 [(0, (2, a0)), (1, (2, a1))] [] n σ
theorem SX3_take_0 {d n : Nat} {Q : kS → Prop} {a0 a1 : Int} {σ : kS} (h : isO 3 n a1 ∧ (isO 3 n a0 ∧ (isA 20 n (σ a1 0) ∧ (isA 20 n (σ a0 0) ∧ ((kN ≤ n ∧ (σ a1 0) ≠ (σ a0 0) ∧ ((0 : Int) ≤ 0 ∧ (0 : Int) ≤ 0 ∧ (0 : Int) ≤ 120) ∧ 0 + 120 ≤ klen (σ a1 0) ∧ 0 + 120 ≤ klen (σ a0 0)) ∧ (∀ s1, s1 = kcpy σ (σ a1 0) 0 (σ a0 0) 0 120 → ∀ s2, s2 = kst s1 a0 2 (s1 a1 2) → Q s2)))))) : LX3_take_0 d n Q a0 a1 σ := by
  unfold LX3_take_0
  refine K_aload_n 1 (kdA dt_MX3_take 0 rfl) rfl rfl ?_
  obtain ⟨c1, h⟩ := h
  refine gf3_9 rfl (kdA dt_MX3_take 1 rfl) c1 ?_
  refine K_iconst (kdA dt_MX3_take 2 rfl) (by decide) ?_
  refine K_aload_n 0 (kdA dt_MX3_take 3 rfl) rfl rfl ?_
  obtain ⟨c2, h⟩ := h
  refine gf3_9 rfl (kdA dt_MX3_take 4 rfl) c2 ?_
  refine K_iconst (kdA dt_MX3_take 5 rfl) (by decide) ?_
  refine K_bipush (kdA dt_MX3_take 6 rfl) (by decide +kernel) ?_
  obtain ⟨c3, h⟩ := h
  obtain ⟨c4, h⟩ := h
  obtain ⟨c5, h⟩ := h
  refine K_acopy (kdA dt_MX3_take 7 rfl) (tb3 46 rfl rfl) c3 c4 c5 (Nat.le_of_ble_eq_true rfl) (fun s1 es1 => ?_)
  have h := h s1 es1
  refine K_aload_n 0 (kdA dt_MX3_take 8 rfl) rfl rfl ?_
  refine K_aload_n 1 (kdA dt_MX3_take 9 rfl) rfl rfl ?_
  refine gf3_25 rfl (kdA dt_MX3_take 10 rfl) c1 ?_
  refine pf3_25 rfl (kdA dt_MX3_take 11 rfl) c2 (fun s2 es2 => ?_)
  have h := h s2 es2
  exact K_return (kdA dt_MX3_take 12 rfl) rfl ⟨rfl, rfl, h⟩
theorem EX3_take {d n : Nat} {Q : kS → Prop} {a0 a1 : Int} {σ : kS} (h : kokw n σ → LX3_take_0 d n Q a0 a1 σ) : Cv (d + 1) MX3_take [(2, a0), (2, a1)] n σ Q := Tri_of (by decide +kernel) (Nat.le_of_ble_eq_true rfl) (fun hk hw => h hw)

def LX3_worth_0 (d n : Nat) (Q : Int → kS → Prop) (a0 : Int) (a1 : Int) (σ : kS) : Prop := K (d + 1) MX3_worth (kPi n Q) (0, 0) 0 [(0, (2, a0)), (1, (2, a1))] [] n σ
def LX3_worth_4 (d n : Nat) (Q : Int → kS → Prop) (a0 : Int) (a1 : Int) (a2 : Int) (a3 : Int) (σ : kS) : Prop := K (d + 1) MX3_worth (kPi n Q) (0, 0) 4 [(0, (2, a0)), (1, (2, a1)), (2, (0, a2)), (3, (0, a3))] [] n σ
theorem SX3_worth_0 {d n : Nat} {Q : Int → kS → Prop} {a0 a1 : Int} {σ : kS} (h : LX3_worth_4 d n Q a0 a1 0 0 σ) : LX3_worth_0 d n Q a0 a1 σ := by
  unfold LX3_worth_0
  refine K_iconst (kdA dt_MX3_worth 0 rfl) (by decide) ?_
  refine K_istore_n (ls' := [(0, (2, a0)), (1, (2, a1)), (2, (0, 0))]) (kdA dt_MX3_worth 1 rfl) rfl (by decide) rfl ?_
  refine K_iconst (kdA dt_MX3_worth 2 rfl) (by decide) ?_
  refine K_istore_n (ls' := [(0, (2, a0)), (1, (2, a1)), (2, (0, 0)), (3, (0, 0))]) (kdA dt_MX3_worth 3 rfl) rfl (by decide) rfl ?_
  exact h
theorem SX3_worth_4 {d n : Nat} {Q : Int → kS → Prop} {a0 a1 a2 a3 : Int} {σ : kS} (h : isO 3 n a0 ∧ (((σ a0 2) ≤ a3 → Q 0 σ) ∧ (¬ (σ a0 2) ≤ a3 → isA 20 n (σ a0 1) ∧ (((klen (σ a0 1)) ≤ a2 → Q 0 σ) ∧ (¬ (klen (σ a0 1)) ≤ a2 → isA 20 n (σ a0 0) ∧ (((0 : Int) ≤ a3 ∧ a3 < klen (σ a0 0)) ∧ ((10000 ≤ (σ (σ a0 0) a3) → isA 20 n a1 ∧ ((-2147483648 ≤ (10000 + (klen a1)) ∧ (10000 + (klen a1)) ≤ 2147483647) ∧ (((10000 + (klen a1)) ≤ (σ (σ a0 0) a3) → (¬ (σ (σ a0 0) a3) = 40000 → ((σ (σ a0 0) a3) < 30000 → (¬ (σ (σ a0 0) a3) = 20033 → (a2 ≤ 1 → (-2147483648 ≤ (a3 + 1) ∧ (a3 + 1) ≤ 2147483647) ∧ (LX3_worth_4 d n Q a0 a1 a2 (a3 + 1) σ)) ∧ (¬ a2 ≤ 1 → (-2147483648 ≤ (a2 + (-1)) ∧ (a2 + (-1)) ≤ 2147483647) ∧ ((-2147483648 ≤ ((σ (σ a0 0) a3) - 20000) ∧ ((σ (σ a0 0) a3) - 20000) ≤ 2147483647) ∧ ((-2147483648 ≤ ((a2 + (-1)) - 1) ∧ ((a2 + (-1)) - 1) ≤ 2147483647) ∧ (((0 : Int) ≤ ((a2 + (-1)) - 1) ∧ ((a2 + (-1)) - 1) < klen (σ a0 1)) ∧ (((0 : Int) ≤ (a2 + (-1)) ∧ (a2 + (-1)) < klen (σ a0 1)) ∧ (Cl d MX3_joined [(0, ((σ (σ a0 0) a3) - 20000)), (1, (σ (σ a0 1) ((a2 + (-1)) - 1))), (1, (σ (σ a0 1) (a2 + (-1))))] n σ (fun x12 s1 => Cl d MJm_minL [(1, 1000000), (1, x12)] n s1 (fun x13 s2 => Cl d MJm_maxL [(1, (-1000000)), (1, x13)] n s2 (fun x14 s3 => (-2147483648 ≤ x14 ∧ x14 ≤ 2147483647) ∧ (isA 20 n (s1 a0 1) ∧ (((0 : Int) ≤ ((a2 + (-1)) - 1) ∧ ((a2 + (-1)) - 1) < klen (s1 a0 1)) ∧ (∀ s4, s4 = kst s3 (s1 a0 1) ((a2 + (-1)) - 1) x14 → (-2147483648 ≤ (a3 + 1) ∧ (a3 + 1) ≤ 2147483647) ∧ (LX3_worth_4 d n Q a0 a1 (a2 + (-1)) (a3 + 1) s4)))))))))))))) ∧ (¬ (¬ (σ (σ a0 0) a3) = 20033) → (a2 ≤ 0 → (a2 ≤ 1 → (-2147483648 ≤ (a3 + 1) ∧ (a3 + 1) ≤ 2147483647) ∧ (LX3_worth_4 d n Q a0 a1 a2 (a3 + 1) σ)) ∧ (¬ a2 ≤ 1 → (-2147483648 ≤ (a2 + (-1)) ∧ (a2 + (-1)) ≤ 2147483647) ∧ ((-2147483648 ≤ ((σ (σ a0 0) a3) - 20000) ∧ ((σ (σ a0 0) a3) - 20000) ≤ 2147483647) ∧ ((-2147483648 ≤ ((a2 + (-1)) - 1) ∧ ((a2 + (-1)) - 1) ≤ 2147483647) ∧ (((0 : Int) ≤ ((a2 + (-1)) - 1) ∧ ((a2 + (-1)) - 1) < klen (σ a0 1)) ∧ (((0 : Int) ≤ (a2 + (-1)) ∧ (a2 + (-1)) < klen (σ a0 1)) ∧ (Cl d MX3_joined [(0, ((σ (σ a0 0) a3) - 20000)), (1, (σ (σ a0 1) ((a2 + (-1)) - 1))), (1, (σ (σ a0 1) (a2 + (-1))))] n σ (fun x12 s1 => Cl d MJm_minL [(1, 1000000), (1, x12)] n s1 (fun x13 s2 => Cl d MJm_maxL [(1, (-1000000)), (1, x13)] n s2 (fun x14 s3 => (-2147483648 ≤ x14 ∧ x14 ≤ 2147483647) ∧ (isA 20 n (s1 a0 1) ∧ (((0 : Int) ≤ ((a2 + (-1)) - 1) ∧ ((a2 + (-1)) - 1) < klen (s1 a0 1)) ∧ (∀ s4, s4 = kst s3 (s1 a0 1) ((a2 + (-1)) - 1) x14 → (-2147483648 ≤ (a3 + 1) ∧ (a3 + 1) ≤ 2147483647) ∧ (LX3_worth_4 d n Q a0 a1 (a2 + (-1)) (a3 + 1) s4)))))))))))))) ∧ (¬ a2 ≤ 0 → (-2147483648 ≤ (a2 - 1) ∧ (a2 - 1) ≤ 2147483647) ∧ (((0 : Int) ≤ (a2 - 1) ∧ (a2 - 1) < klen (σ a0 1)) ∧ ((-2147483648 ≤ (1 - (σ (σ a0 1) (a2 - 1))) ∧ (1 - (σ (σ a0 1) (a2 - 1))) ≤ 2147483647) ∧ (∀ s1, s1 = kst σ (σ a0 1) (a2 - 1) (1 - (σ (σ a0 1) (a2 - 1))) → (-2147483648 ≤ (a3 + 1) ∧ (a3 + 1) ≤ 2147483647) ∧ (LX3_worth_4 d n Q a0 a1 a2 (a3 + 1) s1))))))) ∧ (¬ (σ (σ a0 0) a3) < 30000 → (-2147483648 ≤ (a2 - 1) ∧ (a2 - 1) ≤ 2147483647) ∧ (Ci d MJm_max [(0, (a2 - 1)), (0, 0)] n σ (fun x8 s1 => isA 20 n (s1 a0 1) ∧ (((0 : Int) ≤ x8 ∧ x8 < klen (s1 a0 1)) ∧ ((¬ (s1 (s1 a0 1) x8) = 0 → (-2147483648 ≤ (a3 + 1) ∧ (a3 + 1) ≤ 2147483647) ∧ (LX3_worth_4 d n Q a0 a1 x8 (a3 + 1) s1)) ∧ (¬ (¬ (s1 (s1 a0 1) x8) = 0) → (-2147483648 ≤ ((σ (σ a0 0) a3) - 30000) ∧ ((σ (σ a0 0) a3) - 30000) ≤ 2147483647) ∧ ((-2147483648 ≤ (((σ (σ a0 0) a3) - 30000) - 1) ∧ (((σ (σ a0 0) a3) - 30000) - 1) ≤ 2147483647) ∧ (Ci d MJm_max [(0, a3), (0, (((σ (σ a0 0) a3) - 30000) - 1))] n s1 (fun x13 s2 => (-2147483648 ≤ (x13 + 1) ∧ (x13 + 1) ≤ 2147483647) ∧ (LX3_worth_4 d n Q a0 a1 x8 (x13 + 1) s2))))))))))) ∧ (¬ (¬ (σ (σ a0 0) a3) = 40000) → (a2 ≤ 0 → Q 0 σ) ∧ (¬ a2 ≤ 0 → (-2147483648 ≤ (a2 - 1) ∧ (a2 - 1) ≤ 2147483647) ∧ (((0 : Int) ≤ (a2 - 1) ∧ (a2 - 1) < klen (σ a0 1)) ∧ (Q (σ (σ a0 1) (a2 - 1)) σ))))) ∧ (¬ (10000 + (klen a1)) ≤ (σ (σ a0 0) a3) → (-2147483648 ≤ ((σ (σ a0 0) a3) - 10000) ∧ ((σ (σ a0 0) a3) - 10000) ≤ 2147483647) ∧ (((0 : Int) ≤ ((σ (σ a0 0) a3) - 10000) ∧ ((σ (σ a0 0) a3) - 10000) < klen a1) ∧ (((0 : Int) ≤ a2 ∧ a2 < klen (σ a0 1)) ∧ (∀ s1, s1 = kst σ (σ a0 1) a2 (σ a1 ((σ (σ a0 0) a3) - 10000)) → (-2147483648 ≤ (a2 + 1) ∧ (a2 + 1) ≤ 2147483647) ∧ ((-2147483648 ≤ (a3 + 1) ∧ (a3 + 1) ≤ 2147483647) ∧ (LX3_worth_4 d n Q a0 a1 (a2 + 1) (a3 + 1) s1))))))))) ∧ (¬ 10000 ≤ (σ (σ a0 0) a3) → ((0 : Int) ≤ a2 ∧ a2 < klen (σ a0 1)) ∧ (∀ s1, s1 = kst σ (σ a0 1) a2 (σ (σ a0 0) a3) → (-2147483648 ≤ (a2 + 1) ∧ (a2 + 1) ≤ 2147483647) ∧ ((-2147483648 ≤ (a3 + 1) ∧ (a3 + 1) ≤ 2147483647) ∧ (LX3_worth_4 d n Q a0 a1 (a2 + 1) (a3 + 1) s1))))))))))) : LX3_worth_4 d n Q a0 a1 a2 a3 σ := by
  unfold LX3_worth_4
  refine K_iload_n 3 (kdA dt_MX3_worth 4 rfl) rfl rfl ?_
  refine K_aload_n 0 (kdA dt_MX3_worth 5 rfl) rfl rfl ?_
  obtain ⟨c1, h⟩ := h
  refine gf3_25 rfl (kdA dt_MX3_worth 6 rfl) c1 ?_
  refine K_icmp_ge (tgt := 244) (kdA dt_MX3_worth 7 rfl) rfl (fun c => ?_) (fun c => ?_)
  · have h := h.1 c
    refine K_iconst (kdA dt_MX3_worth 137 rfl) (by decide) ?_
    exact K_ireturn (kdA dt_MX3_worth 138 rfl) rfl ⟨rfl, _, rfl, h⟩
  · have h := h.2 c
    refine K_iload_n 2 (kdA dt_MX3_worth 8 rfl) rfl rfl ?_
    refine K_aload_n 0 (kdA dt_MX3_worth 9 rfl) rfl rfl ?_
    refine gf3_15 rfl (kdA dt_MX3_worth 10 rfl) c1 ?_
    obtain ⟨c2, h⟩ := h
    refine K_alen (kdA dt_MX3_worth 11 rfl) (by decide) c2 ?_
    refine K_icmp_ge (tgt := 244) (kdA dt_MX3_worth 12 rfl) rfl (fun c => ?_) (fun c => ?_)
    · have h := h.1 c
      refine K_iconst (kdA dt_MX3_worth 137 rfl) (by decide) ?_
      exact K_ireturn (kdA dt_MX3_worth 138 rfl) rfl ⟨rfl, _, rfl, h⟩
    · have h := h.2 c
      refine K_aload_n 0 (kdA dt_MX3_worth 13 rfl) rfl rfl ?_
      refine gf3_9 rfl (kdA dt_MX3_worth 14 rfl) c1 ?_
      refine K_iload_n 3 (kdA dt_MX3_worth 15 rfl) rfl rfl ?_
      obtain ⟨c3, h⟩ := h
      obtain ⟨c4, h⟩ := h
      refine K_iaload (kdA dt_MX3_worth 16 rfl) c3 c4.1 c4.2 ?_
      refine K_istore (ls' := [(0, (2, a0)), (1, (2, a1)), (2, (0, a2)), (3, (0, a3)), (4, (0, (σ (σ a0 0) a3)))]) (kdA dt_MX3_worth 17 rfl) (by decide) rfl ?_
      refine K_iload 4 (kdA dt_MX3_worth 18 rfl) rfl ?_
      refine K_sipush (kdA dt_MX3_worth 19 rfl) (by decide +kernel) ?_
      refine K_icmp_ge (tgt := 51) (kdA dt_MX3_worth 20 rfl) rfl (fun c => ?_) (fun c => ?_)
      · have h := h.1 c
        refine K_iload 4 (kdA dt_MX3_worth 28 rfl) rfl ?_
        refine K_sipush (kdA dt_MX3_worth 29 rfl) (by decide +kernel) ?_
        refine K_aload_n 1 (kdA dt_MX3_worth 30 rfl) rfl rfl ?_
        obtain ⟨c5, h⟩ := h
        refine K_alen (kdA dt_MX3_worth 31 rfl) (by decide) c5 ?_
        obtain ⟨c6, h⟩ := h
        refine K_iadd (kdA dt_MX3_worth 32 rfl) c6 ?_
        refine K_icmp_ge (tgt := 82) (kdA dt_MX3_worth 33 rfl) rfl (fun c => ?_) (fun c => ?_)
        · have h := h.1 c
          refine K_iload 4 (kdA dt_MX3_worth 45 rfl) rfl ?_
          refine K_ldc (x := 40000) (kdA dt_MX3_worth 46 rfl) (tb3 78 rfl rfl) (by decide +kernel) ?_
          refine K_icmp_ne (tgt := 106) (kdA dt_MX3_worth 47 rfl) rfl (fun c => ?_) (fun c => ?_)
          · have h := h.1 c
            refine K_iload 4 (kdA dt_MX3_worth 59 rfl) rfl ?_
            refine K_sipush (kdA dt_MX3_worth 60 rfl) (by decide +kernel) ?_
            refine K_icmp_lt (tgt := 147) (kdA dt_MX3_worth 61 rfl) rfl (fun c => ?_) (fun c => ?_)
            · have h := h.1 c
              refine K_iload 4 (kdA dt_MX3_worth 82 rfl) rfl ?_
              refine K_sipush (kdA dt_MX3_worth 83 rfl) (by decide +kernel) ?_
              refine K_icmp_ne (tgt := 180) (kdA dt_MX3_worth 84 rfl) rfl (fun c => ?_) (fun c => ?_)
              · have h := h.1 c
                refine K_iload_n 2 (kdA dt_MX3_worth 102 rfl) rfl rfl ?_
                refine K_iconst (kdA dt_MX3_worth 103 rfl) (by decide) ?_
                refine K_icmp_le (tgt := 238) (kdA dt_MX3_worth 104 rfl) rfl (fun c => ?_) (fun c => ?_)
                · have h := h.1 c
                  obtain ⟨c7, h⟩ := h
                  refine K_iinc (ls' := [(0, (2, a0)), (1, (2, a1)), (2, (0, a2)), (3, (0, (a3 + 1))), (4, (0, (σ (σ a0 0) a3)))]) 3 (kdA dt_MX3_worth 135 rfl) rfl c7 (by decide) rfl ?_
                  refine K_goto (tgt := 4) (kdA dt_MX3_worth 136 rfl) rfl ?_
                  refine K_pick [0, 1, 2, 3] (ls' := [(0, (2, a0)), (1, (2, a1)), (2, (0, a2)), (3, (0, (a3 + 1)))]) rfl ?_
                  exact h
                · have h := h.2 c
                  obtain ⟨c7, h⟩ := h
                  refine K_iinc (ls' := [(0, (2, a0)), (1, (2, a1)), (2, (0, (a2 + (-1)))), (3, (0, a3)), (4, (0, (σ (σ a0 0) a3)))]) 2 (kdA dt_MX3_worth 105 rfl) rfl c7 (by decide) rfl ?_
                  refine K_iload 4 (kdA dt_MX3_worth 106 rfl) rfl ?_
                  refine K_sipush (kdA dt_MX3_worth 107 rfl) (by decide +kernel) ?_
                  obtain ⟨c8, h⟩ := h
                  refine K_isub (kdA dt_MX3_worth 108 rfl) c8 ?_
                  refine K_aload_n 0 (kdA dt_MX3_worth 109 rfl) rfl rfl ?_
                  refine gf3_15 rfl (kdA dt_MX3_worth 110 rfl) c1 ?_
                  refine K_iload_n 2 (kdA dt_MX3_worth 111 rfl) rfl rfl ?_
                  refine K_iconst (kdA dt_MX3_worth 112 rfl) (by decide) ?_
                  obtain ⟨c9, h⟩ := h
                  refine K_isub (kdA dt_MX3_worth 113 rfl) c9 ?_
                  obtain ⟨c10, h⟩ := h
                  refine K_iaload (kdA dt_MX3_worth 114 rfl) c2 c10.1 c10.2 ?_
                  refine K_i2l (kdA dt_MX3_worth 115 rfl) ?_
                  refine K_aload_n 0 (kdA dt_MX3_worth 116 rfl) rfl rfl ?_
                  refine gf3_15 rfl (kdA dt_MX3_worth 117 rfl) c1 ?_
                  refine K_iload_n 2 (kdA dt_MX3_worth 118 rfl) rfl rfl ?_
                  obtain ⟨c11, h⟩ := h
                  refine K_iaload (kdA dt_MX3_worth 119 rfl) c2 c11.1 c11.2 ?_
                  refine K_i2l (kdA dt_MX3_worth 120 rfl) ?_
                  refine K_cSl (as := [(0, ((σ (σ a0 0) a3) - 20000)), (1, (σ (σ a0 1) ((a2 + (-1)) - 1))), (1, (σ (σ a0 1) (a2 + (-1))))]) (st := []) (kdA dt_MX3_worth 121 rfl) cl_MX3_joined lk3_41 rfl rfl (Nat.le_of_ble_eq_true rfl) (Cl.mono h (fun x12 s1 h => ?_))
                  refine K_lstore (ls' := [(0, (2, a0)), (1, (2, a1)), (2, (0, (a2 + (-1)))), (3, (0, a3)), (4, (0, (σ (σ a0 0) a3))), (5, (1, x12))]) (kdA dt_MX3_worth 122 rfl) (by decide) rfl ?_
                  refine K_aload_n 0 (kdA dt_MX3_worth 123 rfl) rfl rfl ?_
                  refine gf3_15 rfl (kdA dt_MX3_worth 124 rfl) c1 ?_
                  refine K_iload_n 2 (kdA dt_MX3_worth 125 rfl) rfl rfl ?_
                  refine K_iconst (kdA dt_MX3_worth 126 rfl) (by decide) ?_
                  refine K_isub (kdA dt_MX3_worth 127 rfl) c9 ?_
                  refine K_ldc2 (x := (-1000000)) (kdA dt_MX3_worth 128 rfl) (tb3 83 rfl rfl) (by decide +kernel) ?_
                  refine K_ldc2 (x := 1000000) (kdA dt_MX3_worth 129 rfl) (tb3 84 rfl rfl) (by decide +kernel) ?_
                  refine K_lload 5 (kdA dt_MX3_worth 130 rfl) rfl ?_
                  refine K_cSl (as := [(1, 1000000), (1, x12)]) (st := [(1, (-1000000)), (0, ((a2 + (-1)) - 1)), (2, (s1 a0 1))]) (kdA dt_MX3_worth 131 rfl) cl_MJm_minL lk3_49 rfl rfl (Nat.le_of_ble_eq_true rfl) (Cl.mono h (fun x13 s2 h => ?_))
                  refine K_cSl (as := [(1, (-1000000)), (1, x13)]) (st := [(0, ((a2 + (-1)) - 1)), (2, (s1 a0 1))]) (kdA dt_MX3_worth 132 rfl) cl_MJm_maxL lk3_53 rfl rfl (Nat.le_of_ble_eq_true rfl) (Cl.mono h (fun x14 s3 h => ?_))
                  obtain ⟨c15, h⟩ := h
                  refine K_l2i (kdA dt_MX3_worth 133 rfl) c15 ?_
                  obtain ⟨c16, h⟩ := h
                  obtain ⟨c17, h⟩ := h
                  refine K_iastore' (kdA dt_MX3_worth 134 rfl) c16 c17.1 c17.2 (fun s4 es4 => ?_)
                  have h := h s4 es4
                  obtain ⟨c18, h⟩ := h
                  refine K_iinc (ls' := [(0, (2, a0)), (1, (2, a1)), (2, (0, (a2 + (-1)))), (3, (0, (a3 + 1))), (4, (0, (σ (σ a0 0) a3))), (5, (1, x12))]) 3 (kdA dt_MX3_worth 135 rfl) rfl c18 (by decide) rfl ?_
                  refine K_goto (tgt := 4) (kdA dt_MX3_worth 136 rfl) rfl ?_
                  refine K_pick [0, 1, 2, 3] (ls' := [(0, (2, a0)), (1, (2, a1)), (2, (0, (a2 + (-1)))), (3, (0, (a3 + 1)))]) rfl ?_
                  exact h
              · have h := h.2 c
                refine K_iload_n 2 (kdA dt_MX3_worth 85 rfl) rfl rfl ?_
                refine K_if_le (tgt := 180) (kdA dt_MX3_worth 86 rfl) rfl (fun c => ?_) (fun c => ?_)
                · have h := h.1 c
                  refine K_iload_n 2 (kdA dt_MX3_worth 102 rfl) rfl rfl ?_
                  refine K_iconst (kdA dt_MX3_worth 103 rfl) (by decide) ?_
                  refine K_icmp_le (tgt := 238) (kdA dt_MX3_worth 104 rfl) rfl (fun c => ?_) (fun c => ?_)
                  · have h := h.1 c
                    obtain ⟨c7, h⟩ := h
                    refine K_iinc (ls' := [(0, (2, a0)), (1, (2, a1)), (2, (0, a2)), (3, (0, (a3 + 1))), (4, (0, (σ (σ a0 0) a3)))]) 3 (kdA dt_MX3_worth 135 rfl) rfl c7 (by decide) rfl ?_
                    refine K_goto (tgt := 4) (kdA dt_MX3_worth 136 rfl) rfl ?_
                    refine K_pick [0, 1, 2, 3] (ls' := [(0, (2, a0)), (1, (2, a1)), (2, (0, a2)), (3, (0, (a3 + 1)))]) rfl ?_
                    exact h
                  · have h := h.2 c
                    obtain ⟨c7, h⟩ := h
                    refine K_iinc (ls' := [(0, (2, a0)), (1, (2, a1)), (2, (0, (a2 + (-1)))), (3, (0, a3)), (4, (0, (σ (σ a0 0) a3)))]) 2 (kdA dt_MX3_worth 105 rfl) rfl c7 (by decide) rfl ?_
                    refine K_iload 4 (kdA dt_MX3_worth 106 rfl) rfl ?_
                    refine K_sipush (kdA dt_MX3_worth 107 rfl) (by decide +kernel) ?_
                    obtain ⟨c8, h⟩ := h
                    refine K_isub (kdA dt_MX3_worth 108 rfl) c8 ?_
                    refine K_aload_n 0 (kdA dt_MX3_worth 109 rfl) rfl rfl ?_
                    refine gf3_15 rfl (kdA dt_MX3_worth 110 rfl) c1 ?_
                    refine K_iload_n 2 (kdA dt_MX3_worth 111 rfl) rfl rfl ?_
                    refine K_iconst (kdA dt_MX3_worth 112 rfl) (by decide) ?_
                    obtain ⟨c9, h⟩ := h
                    refine K_isub (kdA dt_MX3_worth 113 rfl) c9 ?_
                    obtain ⟨c10, h⟩ := h
                    refine K_iaload (kdA dt_MX3_worth 114 rfl) c2 c10.1 c10.2 ?_
                    refine K_i2l (kdA dt_MX3_worth 115 rfl) ?_
                    refine K_aload_n 0 (kdA dt_MX3_worth 116 rfl) rfl rfl ?_
                    refine gf3_15 rfl (kdA dt_MX3_worth 117 rfl) c1 ?_
                    refine K_iload_n 2 (kdA dt_MX3_worth 118 rfl) rfl rfl ?_
                    obtain ⟨c11, h⟩ := h
                    refine K_iaload (kdA dt_MX3_worth 119 rfl) c2 c11.1 c11.2 ?_
                    refine K_i2l (kdA dt_MX3_worth 120 rfl) ?_
                    refine K_cSl (as := [(0, ((σ (σ a0 0) a3) - 20000)), (1, (σ (σ a0 1) ((a2 + (-1)) - 1))), (1, (σ (σ a0 1) (a2 + (-1))))]) (st := []) (kdA dt_MX3_worth 121 rfl) cl_MX3_joined lk3_41 rfl rfl (Nat.le_of_ble_eq_true rfl) (Cl.mono h (fun x12 s1 h => ?_))
                    refine K_lstore (ls' := [(0, (2, a0)), (1, (2, a1)), (2, (0, (a2 + (-1)))), (3, (0, a3)), (4, (0, (σ (σ a0 0) a3))), (5, (1, x12))]) (kdA dt_MX3_worth 122 rfl) (by decide) rfl ?_
                    refine K_aload_n 0 (kdA dt_MX3_worth 123 rfl) rfl rfl ?_
                    refine gf3_15 rfl (kdA dt_MX3_worth 124 rfl) c1 ?_
                    refine K_iload_n 2 (kdA dt_MX3_worth 125 rfl) rfl rfl ?_
                    refine K_iconst (kdA dt_MX3_worth 126 rfl) (by decide) ?_
                    refine K_isub (kdA dt_MX3_worth 127 rfl) c9 ?_
                    refine K_ldc2 (x := (-1000000)) (kdA dt_MX3_worth 128 rfl) (tb3 83 rfl rfl) (by decide +kernel) ?_
                    refine K_ldc2 (x := 1000000) (kdA dt_MX3_worth 129 rfl) (tb3 84 rfl rfl) (by decide +kernel) ?_
                    refine K_lload 5 (kdA dt_MX3_worth 130 rfl) rfl ?_
                    refine K_cSl (as := [(1, 1000000), (1, x12)]) (st := [(1, (-1000000)), (0, ((a2 + (-1)) - 1)), (2, (s1 a0 1))]) (kdA dt_MX3_worth 131 rfl) cl_MJm_minL lk3_49 rfl rfl (Nat.le_of_ble_eq_true rfl) (Cl.mono h (fun x13 s2 h => ?_))
                    refine K_cSl (as := [(1, (-1000000)), (1, x13)]) (st := [(0, ((a2 + (-1)) - 1)), (2, (s1 a0 1))]) (kdA dt_MX3_worth 132 rfl) cl_MJm_maxL lk3_53 rfl rfl (Nat.le_of_ble_eq_true rfl) (Cl.mono h (fun x14 s3 h => ?_))
                    obtain ⟨c15, h⟩ := h
                    refine K_l2i (kdA dt_MX3_worth 133 rfl) c15 ?_
                    obtain ⟨c16, h⟩ := h
                    obtain ⟨c17, h⟩ := h
                    refine K_iastore' (kdA dt_MX3_worth 134 rfl) c16 c17.1 c17.2 (fun s4 es4 => ?_)
                    have h := h s4 es4
                    obtain ⟨c18, h⟩ := h
                    refine K_iinc (ls' := [(0, (2, a0)), (1, (2, a1)), (2, (0, (a2 + (-1)))), (3, (0, (a3 + 1))), (4, (0, (σ (σ a0 0) a3))), (5, (1, x12))]) 3 (kdA dt_MX3_worth 135 rfl) rfl c18 (by decide) rfl ?_
                    refine K_goto (tgt := 4) (kdA dt_MX3_worth 136 rfl) rfl ?_
                    refine K_pick [0, 1, 2, 3] (ls' := [(0, (2, a0)), (1, (2, a1)), (2, (0, (a2 + (-1)))), (3, (0, (a3 + 1)))]) rfl ?_
                    exact h
                · have h := h.2 c
                  refine K_aload_n 0 (kdA dt_MX3_worth 87 rfl) rfl rfl ?_
                  refine gf3_15 rfl (kdA dt_MX3_worth 88 rfl) c1 ?_
                  refine K_iload_n 2 (kdA dt_MX3_worth 89 rfl) rfl rfl ?_
                  refine K_iconst (kdA dt_MX3_worth 90 rfl) (by decide) ?_
                  obtain ⟨c7, h⟩ := h
                  refine K_isub (kdA dt_MX3_worth 91 rfl) c7 ?_
                  refine K_iconst (kdA dt_MX3_worth 92 rfl) (by decide) ?_
                  refine K_aload_n 0 (kdA dt_MX3_worth 93 rfl) rfl rfl ?_
                  refine gf3_15 rfl (kdA dt_MX3_worth 94 rfl) c1 ?_
                  refine K_iload_n 2 (kdA dt_MX3_worth 95 rfl) rfl rfl ?_
                  refine K_iconst (kdA dt_MX3_worth 96 rfl) (by decide) ?_
                  refine K_isub (kdA dt_MX3_worth 97 rfl) c7 ?_
                  obtain ⟨c8, h⟩ := h
                  refine K_iaload (kdA dt_MX3_worth 98 rfl) c2 c8.1 c8.2 ?_
                  obtain ⟨c9, h⟩ := h
                  refine K_isub (kdA dt_MX3_worth 99 rfl) c9 ?_
                  refine K_iastore' (kdA dt_MX3_worth 100 rfl) c2 c8.1 c8.2 (fun s1 es1 => ?_)
                  have h := h s1 es1
                  refine K_goto (tgt := 238) (kdA dt_MX3_worth 101 rfl) rfl ?_
                  obtain ⟨c10, h⟩ := h
                  refine K_iinc (ls' := [(0, (2, a0)), (1, (2, a1)), (2, (0, a2)), (3, (0, (a3 + 1))), (4, (0, (σ (σ a0 0) a3)))]) 3 (kdA dt_MX3_worth 135 rfl) rfl c10 (by decide) rfl ?_
                  refine K_goto (tgt := 4) (kdA dt_MX3_worth 136 rfl) rfl ?_
                  refine K_pick [0, 1, 2, 3] (ls' := [(0, (2, a0)), (1, (2, a1)), (2, (0, a2)), (3, (0, (a3 + 1)))]) rfl ?_
                  exact h
            · have h := h.2 c
              refine K_iload_n 2 (kdA dt_MX3_worth 62 rfl) rfl rfl ?_
              refine K_iconst (kdA dt_MX3_worth 63 rfl) (by decide) ?_
              obtain ⟨c7, h⟩ := h
              refine K_isub (kdA dt_MX3_worth 64 rfl) c7 ?_
              refine K_iconst (kdA dt_MX3_worth 65 rfl) (by decide) ?_
              refine K_cSi (as := [(0, (a2 - 1)), (0, 0)]) (st := []) (kdA dt_MX3_worth 66 rfl) cl_MJm_max lk3_35 rfl rfl (Nat.le_of_ble_eq_true rfl) (Ci.mono h (fun x8 s1 h => ?_))
              refine K_istore_n (ls' := [(0, (2, a0)), (1, (2, a1)), (2, (0, x8)), (3, (0, a3)), (4, (0, (σ (σ a0 0) a3)))]) (kdA dt_MX3_worth 67 rfl) rfl (by decide) rfl ?_
              refine K_aload_n 0 (kdA dt_MX3_worth 68 rfl) rfl rfl ?_
              refine gf3_15 rfl (kdA dt_MX3_worth 69 rfl) c1 ?_
              refine K_iload_n 2 (kdA dt_MX3_worth 70 rfl) rfl rfl ?_
              obtain ⟨c9, h⟩ := h
              obtain ⟨c10, h⟩ := h
              refine K_iaload (kdA dt_MX3_worth 71 rfl) c9 c10.1 c10.2 ?_
              refine K_if_ne (tgt := 238) (kdA dt_MX3_worth 72 rfl) rfl (fun c => ?_) (fun c => ?_)
              · have h := h.1 c
                obtain ⟨c11, h⟩ := h
                refine K_iinc (ls' := [(0, (2, a0)), (1, (2, a1)), (2, (0, x8)), (3, (0, (a3 + 1))), (4, (0, (σ (σ a0 0) a3)))]) 3 (kdA dt_MX3_worth 135 rfl) rfl c11 (by decide) rfl ?_
                refine K_goto (tgt := 4) (kdA dt_MX3_worth 136 rfl) rfl ?_
                refine K_pick [0, 1, 2, 3] (ls' := [(0, (2, a0)), (1, (2, a1)), (2, (0, x8)), (3, (0, (a3 + 1)))]) rfl ?_
                exact h
              · have h := h.2 c
                refine K_iload_n 3 (kdA dt_MX3_worth 73 rfl) rfl rfl ?_
                refine K_iload 4 (kdA dt_MX3_worth 74 rfl) rfl ?_
                refine K_sipush (kdA dt_MX3_worth 75 rfl) (by decide +kernel) ?_
                obtain ⟨c11, h⟩ := h
                refine K_isub (kdA dt_MX3_worth 76 rfl) c11 ?_
                refine K_iconst (kdA dt_MX3_worth 77 rfl) (by decide) ?_
                obtain ⟨c12, h⟩ := h
                refine K_isub (kdA dt_MX3_worth 78 rfl) c12 ?_
                refine K_cSi (as := [(0, a3), (0, (((σ (σ a0 0) a3) - 30000) - 1))]) (st := []) (kdA dt_MX3_worth 79 rfl) cl_MJm_max lk3_35 rfl rfl (Nat.le_of_ble_eq_true rfl) (Ci.mono h (fun x13 s2 h => ?_))
                refine K_istore_n (ls' := [(0, (2, a0)), (1, (2, a1)), (2, (0, x8)), (3, (0, x13)), (4, (0, (σ (σ a0 0) a3)))]) (kdA dt_MX3_worth 80 rfl) rfl (by decide) rfl ?_
                refine K_goto (tgt := 238) (kdA dt_MX3_worth 81 rfl) rfl ?_
                obtain ⟨c14, h⟩ := h
                refine K_iinc (ls' := [(0, (2, a0)), (1, (2, a1)), (2, (0, x8)), (3, (0, (x13 + 1))), (4, (0, (σ (σ a0 0) a3)))]) 3 (kdA dt_MX3_worth 135 rfl) rfl c14 (by decide) rfl ?_
                refine K_goto (tgt := 4) (kdA dt_MX3_worth 136 rfl) rfl ?_
                refine K_pick [0, 1, 2, 3] (ls' := [(0, (2, a0)), (1, (2, a1)), (2, (0, x8)), (3, (0, (x13 + 1)))]) rfl ?_
                exact h
          · have h := h.2 c
            refine K_iload_n 2 (kdA dt_MX3_worth 48 rfl) rfl rfl ?_
            refine K_if_le (tgt := 104) (kdA dt_MX3_worth 49 rfl) rfl (fun c => ?_) (fun c => ?_)
            · have h := h.1 c
              refine K_iconst (kdA dt_MX3_worth 57 rfl) (by decide) ?_
              exact K_ireturn (kdA dt_MX3_worth 58 rfl) rfl ⟨rfl, _, rfl, h⟩
            · have h := h.2 c
              refine K_aload_n 0 (kdA dt_MX3_worth 50 rfl) rfl rfl ?_
              refine gf3_15 rfl (kdA dt_MX3_worth 51 rfl) c1 ?_
              refine K_iload_n 2 (kdA dt_MX3_worth 52 rfl) rfl rfl ?_
              refine K_iconst (kdA dt_MX3_worth 53 rfl) (by decide) ?_
              obtain ⟨c7, h⟩ := h
              refine K_isub (kdA dt_MX3_worth 54 rfl) c7 ?_
              obtain ⟨c8, h⟩ := h
              refine K_iaload (kdA dt_MX3_worth 55 rfl) c2 c8.1 c8.2 ?_
              refine K_goto (tgt := 105) (kdA dt_MX3_worth 56 rfl) rfl ?_
              exact K_ireturn (kdA dt_MX3_worth 58 rfl) rfl ⟨rfl, _, rfl, h⟩
        · have h := h.2 c
          refine K_aload_n 0 (kdA dt_MX3_worth 34 rfl) rfl rfl ?_
          refine gf3_15 rfl (kdA dt_MX3_worth 35 rfl) c1 ?_
          refine K_iload_n 2 (kdA dt_MX3_worth 36 rfl) rfl rfl ?_
          refine K_aload_n 1 (kdA dt_MX3_worth 37 rfl) rfl rfl ?_
          refine K_iload 4 (kdA dt_MX3_worth 38 rfl) rfl ?_
          refine K_sipush (kdA dt_MX3_worth 39 rfl) (by decide +kernel) ?_
          obtain ⟨c7, h⟩ := h
          refine K_isub (kdA dt_MX3_worth 40 rfl) c7 ?_
          obtain ⟨c8, h⟩ := h
          refine K_iaload (kdA dt_MX3_worth 41 rfl) c5 c8.1 c8.2 ?_
          obtain ⟨c9, h⟩ := h
          refine K_iastore' (kdA dt_MX3_worth 42 rfl) c2 c9.1 c9.2 (fun s1 es1 => ?_)
          have h := h s1 es1
          obtain ⟨c10, h⟩ := h
          refine K_iinc (ls' := [(0, (2, a0)), (1, (2, a1)), (2, (0, (a2 + 1))), (3, (0, a3)), (4, (0, (σ (σ a0 0) a3)))]) 2 (kdA dt_MX3_worth 43 rfl) rfl c10 (by decide) rfl ?_
          refine K_goto (tgt := 238) (kdA dt_MX3_worth 44 rfl) rfl ?_
          obtain ⟨c11, h⟩ := h
          refine K_iinc (ls' := [(0, (2, a0)), (1, (2, a1)), (2, (0, (a2 + 1))), (3, (0, (a3 + 1))), (4, (0, (σ (σ a0 0) a3)))]) 3 (kdA dt_MX3_worth 135 rfl) rfl c11 (by decide) rfl ?_
          refine K_goto (tgt := 4) (kdA dt_MX3_worth 136 rfl) rfl ?_
          refine K_pick [0, 1, 2, 3] (ls' := [(0, (2, a0)), (1, (2, a1)), (2, (0, (a2 + 1))), (3, (0, (a3 + 1)))]) rfl ?_
          exact h
      · have h := h.2 c
        refine K_aload_n 0 (kdA dt_MX3_worth 21 rfl) rfl rfl ?_
        refine gf3_15 rfl (kdA dt_MX3_worth 22 rfl) c1 ?_
        refine K_iload_n 2 (kdA dt_MX3_worth 23 rfl) rfl rfl ?_
        refine K_iload 4 (kdA dt_MX3_worth 24 rfl) rfl ?_
        obtain ⟨c5, h⟩ := h
        refine K_iastore' (kdA dt_MX3_worth 25 rfl) c2 c5.1 c5.2 (fun s1 es1 => ?_)
        have h := h s1 es1
        obtain ⟨c6, h⟩ := h
        refine K_iinc (ls' := [(0, (2, a0)), (1, (2, a1)), (2, (0, (a2 + 1))), (3, (0, a3)), (4, (0, (σ (σ a0 0) a3)))]) 2 (kdA dt_MX3_worth 26 rfl) rfl c6 (by decide) rfl ?_
        refine K_goto (tgt := 238) (kdA dt_MX3_worth 27 rfl) rfl ?_
        obtain ⟨c7, h⟩ := h
        refine K_iinc (ls' := [(0, (2, a0)), (1, (2, a1)), (2, (0, (a2 + 1))), (3, (0, (a3 + 1))), (4, (0, (σ (σ a0 0) a3)))]) 3 (kdA dt_MX3_worth 135 rfl) rfl c7 (by decide) rfl ?_
        refine K_goto (tgt := 4) (kdA dt_MX3_worth 136 rfl) rfl ?_
        refine K_pick [0, 1, 2, 3] (ls' := [(0, (2, a0)), (1, (2, a1)), (2, (0, (a2 + 1))), (3, (0, (a3 + 1)))]) rfl ?_
        exact h
theorem EX3_worth {d n : Nat} {Q : Int → kS → Prop} {a0 a1 : Int} {σ : kS} (h : kokw n σ → LX3_worth_0 d n Q a0 a1 σ) : Ci (d + 1) MX3_worth [(2, a0), (2, a1)] n σ Q := Tri_of (by decide +kernel) (Nat.le_of_ble_eq_true rfl) (fun hk hw => h hw)

def LX5_isUnlike_0 (d n : Nat) (Q : Int → kS → Prop) (a0 : Int) (a1 : Int) (a2 : Int) (σ : kS) : Prop := K (d + 1) MX5_isUnlike (kPi n Q) (0, 0) 0 [(0, (2, a0)), (1, (2, a1)), (2, (0, a2))] [] n σ
def LX5_isUnlike_2 (d n : Nat) (Q : Int → kS → Prop) (a0 : Int) (a1 : Int) (a2 : Int) (a3 : Int) (σ : kS) : Prop := K (d + 1) MX5_isUnlike (kPi n Q) (0, 0) 2 [(0, (2, a0)), (1, (2, a1)), (2, (0, a2)), (3, (0, a3))] [] n σ
theorem SX5_isUnlike_0 {d n : Nat} {Q : Int → kS → Prop} {a0 a1 a2 : Int} {σ : kS} (h : LX5_isUnlike_2 d n Q a0 a1 a2 0 σ) : LX5_isUnlike_0 d n Q a0 a1 a2 σ := by
  unfold LX5_isUnlike_0
  refine K_iconst (kdA dt_MX5_isUnlike 0 rfl) (by decide) ?_
  refine K_istore_n (ls' := [(0, (2, a0)), (1, (2, a1)), (2, (0, a2)), (3, (0, 0))]) (kdA dt_MX5_isUnlike 1 rfl) rfl (by decide) rfl ?_
  exact h
theorem SX5_isUnlike_2 {d n : Nat} {Q : Int → kS → Prop} {a0 a1 a2 a3 : Int} {σ : kS} (h : (4 ≤ a3 → Q 0 σ) ∧ (¬ 4 ≤ a3 → isO 5 n a0 ∧ (Ci d MX5_told [(2, a0), (0, a2), (0, a3)] n σ (fun x2 s1 => isO 5 n a1 ∧ (Ci d MX5_told [(2, a1), (0, a2), (0, a3)] n s1 (fun x4 s2 => (x2 = x4 → (-2147483648 ≤ (a3 + 1) ∧ (a3 + 1) ≤ 2147483647) ∧ (LX5_isUnlike_2 d n Q a0 a1 a2 (a3 + 1) s2)) ∧ (¬ x2 = x4 → Q 1 s2))))))) : LX5_isUnlike_2 d n Q a0 a1 a2 a3 σ := by
  unfold LX5_isUnlike_2
  refine K_iload_n 3 (kdA dt_MX5_isUnlike 2 rfl) rfl rfl ?_
  refine K_iconst (kdA dt_MX5_isUnlike 3 rfl) (by decide) ?_
  refine K_icmp_ge (tgt := 30) (kdA dt_MX5_isUnlike 4 rfl) rfl (fun c => ?_) (fun c => ?_)
  · have h := h.1 c
    refine K_iconst (kdA dt_MX5_isUnlike 18 rfl) (by decide) ?_
    exact K_zreturn (kdA dt_MX5_isUnlike 19 rfl) rfl (Or.inl rfl) ⟨rfl, _, rfl, h⟩
  · have h := h.2 c
    refine K_aload_n 0 (kdA dt_MX5_isUnlike 5 rfl) rfl rfl ?_
    refine K_iload_n 2 (kdA dt_MX5_isUnlike 6 rfl) rfl rfl ?_
    refine K_iload_n 3 (kdA dt_MX5_isUnlike 7 rfl) rfl rfl ?_
    obtain ⟨c1, h⟩ := h
    refine K_cVi (c := 5) (as := [(0, a2), (0, a3)]) (st := []) (kdA dt_MX5_isUnlike 8 rfl) rfl cl_MX5_told lk5_33 rfl rfl (Nat.le_of_ble_eq_true rfl) c1 (Ci.mono h (fun x2 s1 h => ?_))
    refine K_aload_n 1 (kdA dt_MX5_isUnlike 9 rfl) rfl rfl ?_
    refine K_iload_n 2 (kdA dt_MX5_isUnlike 10 rfl) rfl rfl ?_
    refine K_iload_n 3 (kdA dt_MX5_isUnlike 11 rfl) rfl rfl ?_
    obtain ⟨c3, h⟩ := h
    refine K_cVi (c := 5) (as := [(0, a2), (0, a3)]) (st := [(0, x2)]) (kdA dt_MX5_isUnlike 12 rfl) rfl cl_MX5_told lk5_33 rfl rfl (Nat.le_of_ble_eq_true rfl) c3 (Ci.mono h (fun x4 s2 h => ?_))
    refine K_icmp_eq (tgt := 24) (kdA dt_MX5_isUnlike 13 rfl) rfl (fun c => ?_) (fun c => ?_)
    · have h := h.1 c
      obtain ⟨c5, h⟩ := h
      refine K_iinc (ls' := [(0, (2, a0)), (1, (2, a1)), (2, (0, a2)), (3, (0, (a3 + 1)))]) 3 (kdA dt_MX5_isUnlike 16 rfl) rfl c5 (by decide) rfl ?_
      refine K_goto (tgt := 2) (kdA dt_MX5_isUnlike 17 rfl) rfl ?_
      exact h
    · have h := h.2 c
      refine K_iconst (kdA dt_MX5_isUnlike 14 rfl) (by decide) ?_
      exact K_zreturn (kdA dt_MX5_isUnlike 15 rfl) rfl (Or.inr rfl) ⟨rfl, _, rfl, h⟩
theorem EX5_isUnlike {d n : Nat} {Q : Int → kS → Prop} {a0 a1 a2 : Int} {σ : kS} (h : (-2147483648 ≤ a2 ∧ a2 ≤ 2147483647) → kokw n σ → LX5_isUnlike_0 d n Q a0 a1 a2 σ) : Ci (d + 1) MX5_isUnlike [(2, a0), (2, a1), (0, a2)] n σ Q := Tri_of (by decide +kernel) (Nat.le_of_ble_eq_true rfl) (fun hk hw => h (hk (0, a2) (List.mem_of_getElem? (i := 2) rfl)) hw)

def LX5_put_0 (d n : Nat) (Q : kS → Prop) (a0 : Int) (a1 : Int) (a2 : Int) (a3 : Int) (σ : kS) : Prop := K (d + 1) MX5_put (kPv n Q) (0, 0) 0 [(0, (2, a0)), (1, (0, a1)), (2, (0, a2)), (3, (0, a3))] [] n σ
theorem SX5_put_0 {d n : Nat} {Q : kS → Prop} {a0 a1 a2 a3 : Int} {σ : kS} (h : Ci d MX11_isCell [(0, a1)] n σ (fun x1 s1 => (x1 = 0 → Q s1) ∧ (¬ x1 = 0 → Ci d MX11_isLayer [(0, a2)] n s1 (fun x2 s2 => (x2 = 0 → Q s2) ∧ (¬ x2 = 0 → isO 5 n a0 ∧ (isA 24 n (s2 a0 0) ∧ (((0 : Int) ≤ a2 ∧ a2 < klen (s2 a0 0)) ∧ (isA 20 n (s2 (s2 a0 0) a2) ∧ (((0 : Int) ≤ a1 ∧ a1 < klen (s2 (s2 a0 0) a2)) ∧ (∀ s3, s3 = kst s2 (s2 (s2 a0 0) a2) a1 a3 → Q s3)))))))))) : LX5_put_0 d n Q a0 a1 a2 a3 σ := by
  unfold LX5_put_0
  refine K_iload_n 1 (kdA dt_MX5_put 0 rfl) rfl rfl ?_
  refine K_cSi (as := [(0, a1)]) (st := []) (kdA dt_MX5_put 1 rfl) cl_MX11_isCell lk5_16 rfl rfl (Nat.le_of_ble_eq_true rfl) (Ci.mono h (fun x1 s1 h => ?_))
  refine K_if_eq (tgt := 23) (kdA dt_MX5_put 2 rfl) rfl (fun c => ?_) (fun c => ?_)
  · have h := h.1 c
    exact K_return (kdA dt_MX5_put 13 rfl) rfl ⟨rfl, rfl, h⟩
  · have h := h.2 c
    refine K_iload_n 2 (kdA dt_MX5_put 3 rfl) rfl rfl ?_
    refine K_cSi (as := [(0, a2)]) (st := []) (kdA dt_MX5_put 4 rfl) cl_MX11_isLayer lk5_20 rfl rfl (Nat.le_of_ble_eq_true rfl) (Ci.mono h (fun x2 s2 h => ?_))
    refine K_if_eq (tgt := 23) (kdA dt_MX5_put 5 rfl) rfl (fun c => ?_) (fun c => ?_)
    · have h := h.1 c
      exact K_return (kdA dt_MX5_put 13 rfl) rfl ⟨rfl, rfl, h⟩
    · have h := h.2 c
      refine K_aload_n 0 (kdA dt_MX5_put 6 rfl) rfl rfl ?_
      obtain ⟨c3, h⟩ := h
      refine gf5_11 rfl (kdA dt_MX5_put 7 rfl) c3 ?_
      refine K_iload_n 2 (kdA dt_MX5_put 8 rfl) rfl rfl ?_
      obtain ⟨c4, h⟩ := h
      obtain ⟨c5, h⟩ := h
      refine K_aaload (kdA dt_MX5_put 9 rfl) (by decide) c4 c5.1 c5.2 ?_
      refine K_iload_n 1 (kdA dt_MX5_put 10 rfl) rfl rfl ?_
      refine K_iload_n 3 (kdA dt_MX5_put 11 rfl) rfl rfl ?_
      obtain ⟨c6, h⟩ := h
      obtain ⟨c7, h⟩ := h
      refine K_iastore' (kdA dt_MX5_put 12 rfl) c6 c7.1 c7.2 (fun s3 es3 => ?_)
      have h := h s3 es3
      exact K_return (kdA dt_MX5_put 13 rfl) rfl ⟨rfl, rfl, h⟩
theorem EX5_put {d n : Nat} {Q : kS → Prop} {a0 a1 a2 a3 : Int} {σ : kS} (h : (-2147483648 ≤ a1 ∧ a1 ≤ 2147483647) → (-2147483648 ≤ a2 ∧ a2 ≤ 2147483647) → (-2147483648 ≤ a3 ∧ a3 ≤ 2147483647) → kokw n σ → LX5_put_0 d n Q a0 a1 a2 a3 σ) : Cv (d + 1) MX5_put [(2, a0), (0, a1), (0, a2), (0, a3)] n σ Q := Tri_of (by decide +kernel) (Nat.le_of_ble_eq_true rfl) (fun hk hw => h (hk (0, a1) (List.mem_of_getElem? (i := 1) rfl)) (hk (0, a2) (List.mem_of_getElem? (i := 2) rfl)) (hk (0, a3) (List.mem_of_getElem? (i := 3) rfl)) hw)

def LX5_take_0 (d n : Nat) (Q : kS → Prop) (a0 : Int) (a1 : Int) (σ : kS) : Prop := K (d + 1) MX5_take (kPv n Q) (0, 0) 0 [(0, (2, a0)), (1, (2, a1))] [] n σ
def LX5_take_2 (d n : Nat) (Q : kS → Prop) (a0 : Int) (a1 : Int) (a2 : Int) (σ : kS) : Prop := K (d + 1) MX5_take (kPv n Q) (0, 0) 2 [(0, (2, a0)), (1, (2, a1)), (2, (0, a2))] [] n σ
theorem SX5_take_0 {d n : Nat} {Q : kS → Prop} {a0 a1 : Int} {σ : kS} (h : LX5_take_2 d n Q a0 a1 0 σ) : LX5_take_0 d n Q a0 a1 σ := by
  unfold LX5_take_0
  refine K_iconst (kdA dt_MX5_take 0 rfl) (by decide) ?_
  refine K_istore_n (ls' := [(0, (2, a0)), (1, (2, a1)), (2, (0, 0))]) (kdA dt_MX5_take 1 rfl) rfl (by decide) rfl ?_
  exact h
theorem SX5_take_2 {d n : Nat} {Q : kS → Prop} {a0 a1 a2 : Int} {σ : kS} (h : (4 ≤ a2 → Q σ) ∧ (¬ 4 ≤ a2 → isO 5 n a1 ∧ (isA 24 n (σ a1 0) ∧ (((0 : Int) ≤ a2 ∧ a2 < klen (σ a1 0)) ∧ (isO 5 n a0 ∧ (isA 24 n (σ a0 0) ∧ (((0 : Int) ≤ a2 ∧ a2 < klen (σ a0 0)) ∧ (isA 20 n (σ (σ a1 0) a2) ∧ (isA 20 n (σ (σ a0 0) a2) ∧ ((kN ≤ n ∧ (σ (σ a1 0) a2) ≠ (σ (σ a0 0) a2) ∧ ((0 : Int) ≤ 0 ∧ (0 : Int) ≤ 0 ∧ (0 : Int) ≤ 120) ∧ 0 + 120 ≤ klen (σ (σ a1 0) a2) ∧ 0 + 120 ≤ klen (σ (σ a0 0) a2)) ∧ (∀ s1, s1 = kcpy σ (σ (σ a1 0) a2) 0 (σ (σ a0 0) a2) 0 120 → (-2147483648 ≤ (a2 + 1) ∧ (a2 + 1) ≤ 2147483647) ∧ (LX5_take_2 d n Q a0 a1 (a2 + 1) s1)))))))))))) : LX5_take_2 d n Q a0 a1 a2 σ := by
  unfold LX5_take_2
  refine K_iload_n 2 (kdA dt_MX5_take 2 rfl) rfl rfl ?_
  refine K_iconst (kdA dt_MX5_take 3 rfl) (by decide) ?_
  refine K_icmp_ge (tgt := 32) (kdA dt_MX5_take 4 rfl) rfl (fun c => ?_) (fun c => ?_)
  · have h := h.1 c
    exact K_return (kdA dt_MX5_take 19 rfl) rfl ⟨rfl, rfl, h⟩
  · have h := h.2 c
    refine K_aload_n 1 (kdA dt_MX5_take 5 rfl) rfl rfl ?_
    obtain ⟨c1, h⟩ := h
    refine gf5_11 rfl (kdA dt_MX5_take 6 rfl) c1 ?_
    refine K_iload_n 2 (kdA dt_MX5_take 7 rfl) rfl rfl ?_
    obtain ⟨c2, h⟩ := h
    obtain ⟨c3, h⟩ := h
    refine K_aaload (kdA dt_MX5_take 8 rfl) (by decide) c2 c3.1 c3.2 ?_
    refine K_iconst (kdA dt_MX5_take 9 rfl) (by decide) ?_
    refine K_aload_n 0 (kdA dt_MX5_take 10 rfl) rfl rfl ?_
    obtain ⟨c4, h⟩ := h
    refine gf5_11 rfl (kdA dt_MX5_take 11 rfl) c4 ?_
    refine K_iload_n 2 (kdA dt_MX5_take 12 rfl) rfl rfl ?_
    obtain ⟨c5, h⟩ := h
    obtain ⟨c6, h⟩ := h
    refine K_aaload (kdA dt_MX5_take 13 rfl) (by decide) c5 c6.1 c6.2 ?_
    refine K_iconst (kdA dt_MX5_take 14 rfl) (by decide) ?_
    refine K_bipush (kdA dt_MX5_take 15 rfl) (by decide +kernel) ?_
    obtain ⟨c7, h⟩ := h
    obtain ⟨c8, h⟩ := h
    obtain ⟨c9, h⟩ := h
    refine K_acopy (kdA dt_MX5_take 16 rfl) (tb5 99 rfl rfl) c7 c8 c9 (Nat.le_of_ble_eq_true rfl) (fun s1 es1 => ?_)
    have h := h s1 es1
    obtain ⟨c10, h⟩ := h
    refine K_iinc (ls' := [(0, (2, a0)), (1, (2, a1)), (2, (0, (a2 + 1)))]) 2 (kdA dt_MX5_take 17 rfl) rfl c10 (by decide) rfl ?_
    refine K_goto (tgt := 2) (kdA dt_MX5_take 18 rfl) rfl ?_
    exact h
theorem EX5_take {d n : Nat} {Q : kS → Prop} {a0 a1 : Int} {σ : kS} (h : kokw n σ → LX5_take_0 d n Q a0 a1 σ) : Cv (d + 1) MX5_take [(2, a0), (2, a1)] n σ Q := Tri_of (by decide +kernel) (Nat.le_of_ble_eq_true rfl) (fun hk hw => h hw)

def LX5_told_0 (d n : Nat) (Q : Int → kS → Prop) (a0 : Int) (a1 : Int) (a2 : Int) (σ : kS) : Prop := K (d + 1) MX5_told (kPi n Q) (0, 0) 0 [(0, (2, a0)), (1, (0, a1)), (2, (0, a2))] [] n σ
theorem SX5_told_0 {d n : Nat} {Q : Int → kS → Prop} {a0 a1 a2 : Int} {σ : kS} (h : (a2 < 0 → Q 0 σ) ∧ (¬ a2 < 0 → (4 ≤ a2 → Q 0 σ) ∧ (¬ 4 ≤ a2 → (a1 < 0 → Q 0 σ) ∧ (¬ a1 < 0 → (120 ≤ a1 → Q 0 σ) ∧ (¬ 120 ≤ a1 → isO 5 n a0 ∧ (isA 24 n (σ a0 0) ∧ (((0 : Int) ≤ a2 ∧ a2 < klen (σ a0 0)) ∧ (isA 20 n (σ (σ a0 0) a2) ∧ (((0 : Int) ≤ a1 ∧ a1 < klen (σ (σ a0 0) a2)) ∧ (Q (σ (σ (σ a0 0) a2) a1) σ)))))))))) : LX5_told_0 d n Q a0 a1 a2 σ := by
  unfold LX5_told_0
  refine K_iload_n 2 (kdA dt_MX5_told 0 rfl) rfl rfl ?_
  refine K_if_lt (tgt := 30) (kdA dt_MX5_told 1 rfl) rfl (fun c => ?_) (fun c => ?_)
  · have h := h.1 c
    refine K_iconst (kdA dt_MX5_told 17 rfl) (by decide) ?_
    exact K_ireturn (kdA dt_MX5_told 18 rfl) rfl ⟨rfl, _, rfl, h⟩
  · have h := h.2 c
    refine K_iload_n 2 (kdA dt_MX5_told 2 rfl) rfl rfl ?_
    refine K_iconst (kdA dt_MX5_told 3 rfl) (by decide) ?_
    refine K_icmp_ge (tgt := 30) (kdA dt_MX5_told 4 rfl) rfl (fun c => ?_) (fun c => ?_)
    · have h := h.1 c
      refine K_iconst (kdA dt_MX5_told 17 rfl) (by decide) ?_
      exact K_ireturn (kdA dt_MX5_told 18 rfl) rfl ⟨rfl, _, rfl, h⟩
    · have h := h.2 c
      refine K_iload_n 1 (kdA dt_MX5_told 5 rfl) rfl rfl ?_
      refine K_if_lt (tgt := 30) (kdA dt_MX5_told 6 rfl) rfl (fun c => ?_) (fun c => ?_)
      · have h := h.1 c
        refine K_iconst (kdA dt_MX5_told 17 rfl) (by decide) ?_
        exact K_ireturn (kdA dt_MX5_told 18 rfl) rfl ⟨rfl, _, rfl, h⟩
      · have h := h.2 c
        refine K_iload_n 1 (kdA dt_MX5_told 7 rfl) rfl rfl ?_
        refine K_bipush (kdA dt_MX5_told 8 rfl) (by decide +kernel) ?_
        refine K_icmp_ge (tgt := 30) (kdA dt_MX5_told 9 rfl) rfl (fun c => ?_) (fun c => ?_)
        · have h := h.1 c
          refine K_iconst (kdA dt_MX5_told 17 rfl) (by decide) ?_
          exact K_ireturn (kdA dt_MX5_told 18 rfl) rfl ⟨rfl, _, rfl, h⟩
        · have h := h.2 c
          refine K_aload_n 0 (kdA dt_MX5_told 10 rfl) rfl rfl ?_
          obtain ⟨c1, h⟩ := h
          refine gf5_11 rfl (kdA dt_MX5_told 11 rfl) c1 ?_
          refine K_iload_n 2 (kdA dt_MX5_told 12 rfl) rfl rfl ?_
          obtain ⟨c2, h⟩ := h
          obtain ⟨c3, h⟩ := h
          refine K_aaload (kdA dt_MX5_told 13 rfl) (by decide) c2 c3.1 c3.2 ?_
          refine K_iload_n 1 (kdA dt_MX5_told 14 rfl) rfl rfl ?_
          obtain ⟨c4, h⟩ := h
          obtain ⟨c5, h⟩ := h
          refine K_iaload (kdA dt_MX5_told 15 rfl) c4 c5.1 c5.2 ?_
          refine K_goto (tgt := 31) (kdA dt_MX5_told 16 rfl) rfl ?_
          exact K_ireturn (kdA dt_MX5_told 18 rfl) rfl ⟨rfl, _, rfl, h⟩
theorem EX5_told {d n : Nat} {Q : Int → kS → Prop} {a0 a1 a2 : Int} {σ : kS} (h : (-2147483648 ≤ a1 ∧ a1 ≤ 2147483647) → (-2147483648 ≤ a2 ∧ a2 ≤ 2147483647) → kokw n σ → LX5_told_0 d n Q a0 a1 a2 σ) : Ci (d + 1) MX5_told [(2, a0), (0, a1), (0, a2)] n σ Q := Tri_of (by decide +kernel) (Nat.le_of_ble_eq_true rfl) (fun hk hw => h (hk (0, a1) (List.mem_of_getElem? (i := 1) rfl)) (hk (0, a2) (List.mem_of_getElem? (i := 2) rfl)) hw)

def LX5_unlikeCells_0 (d n : Nat) (Q : Int → kS → Prop) (a0 : Int) (a1 : Int) (σ : kS) : Prop := K (d + 1) MX5_unlikeCells (kPi n Q) (0, 0) 0 [(0, (2, a0)), (1, (2, a1))] [] n σ
def LX5_unlikeCells_4 (d n : Nat) (Q : Int → kS → Prop) (a0 : Int) (a1 : Int) (a2 : Int) (a3 : Int) (σ : kS) : Prop := K (d + 1) MX5_unlikeCells (kPi n Q) (0, 0) 4 [(0, (2, a0)), (1, (2, a1)), (2, (0, a2)), (3, (0, a3))] [] n σ
theorem SX5_unlikeCells_0 {d n : Nat} {Q : Int → kS → Prop} {a0 a1 : Int} {σ : kS} (h : LX5_unlikeCells_4 d n Q a0 a1 0 0 σ) : LX5_unlikeCells_0 d n Q a0 a1 σ := by
  unfold LX5_unlikeCells_0
  refine K_iconst (kdA dt_MX5_unlikeCells 0 rfl) (by decide) ?_
  refine K_istore_n (ls' := [(0, (2, a0)), (1, (2, a1)), (2, (0, 0))]) (kdA dt_MX5_unlikeCells 1 rfl) rfl (by decide) rfl ?_
  refine K_iconst (kdA dt_MX5_unlikeCells 2 rfl) (by decide) ?_
  refine K_istore_n (ls' := [(0, (2, a0)), (1, (2, a1)), (2, (0, 0)), (3, (0, 0))]) (kdA dt_MX5_unlikeCells 3 rfl) rfl (by decide) rfl ?_
  exact h
theorem SX5_unlikeCells_4 {d n : Nat} {Q : Int → kS → Prop} {a0 a1 a2 a3 : Int} {σ : kS} (h : (120 ≤ a3 → Q a2 σ) ∧ (¬ 120 ≤ a3 → isO 5 n a0 ∧ (Ci d MX5_isUnlike [(2, a0), (2, a1), (0, a3)] n σ (fun x2 s1 => (x2 = 0 → (-2147483648 ≤ (a3 + 1) ∧ (a3 + 1) ≤ 2147483647) ∧ (LX5_unlikeCells_4 d n Q a0 a1 a2 (a3 + 1) s1)) ∧ (¬ x2 = 0 → (-2147483648 ≤ (a2 + 1) ∧ (a2 + 1) ≤ 2147483647) ∧ ((-2147483648 ≤ (a3 + 1) ∧ (a3 + 1) ≤ 2147483647) ∧ (LX5_unlikeCells_4 d n Q a0 a1 (a2 + 1) (a3 + 1) s1))))))) : LX5_unlikeCells_4 d n Q a0 a1 a2 a3 σ := by
  unfold LX5_unlikeCells_4
  refine K_iload_n 3 (kdA dt_MX5_unlikeCells 4 rfl) rfl rfl ?_
  refine K_bipush (kdA dt_MX5_unlikeCells 5 rfl) (by decide +kernel) ?_
  refine K_icmp_ge (tgt := 28) (kdA dt_MX5_unlikeCells 6 rfl) rfl (fun c => ?_) (fun c => ?_)
  · have h := h.1 c
    refine K_iload_n 2 (kdA dt_MX5_unlikeCells 15 rfl) rfl rfl ?_
    exact K_ireturn (kdA dt_MX5_unlikeCells 16 rfl) rfl ⟨rfl, _, rfl, h⟩
  · have h := h.2 c
    refine K_aload_n 0 (kdA dt_MX5_unlikeCells 7 rfl) rfl rfl ?_
    refine K_aload_n 1 (kdA dt_MX5_unlikeCells 8 rfl) rfl rfl ?_
    refine K_iload_n 3 (kdA dt_MX5_unlikeCells 9 rfl) rfl rfl ?_
    obtain ⟨c1, h⟩ := h
    refine K_cVi (c := 5) (as := [(2, a1), (0, a3)]) (st := []) (kdA dt_MX5_unlikeCells 10 rfl) rfl cl_MX5_isUnlike lk5_29 rfl rfl (Nat.le_of_ble_eq_true rfl) c1 (Ci.mono h (fun x2 s1 h => ?_))
    refine K_if_eq (tgt := 22) (kdA dt_MX5_unlikeCells 11 rfl) rfl (fun c => ?_) (fun c => ?_)
    · have h := h.1 c
      obtain ⟨c3, h⟩ := h
      refine K_iinc (ls' := [(0, (2, a0)), (1, (2, a1)), (2, (0, a2)), (3, (0, (a3 + 1)))]) 3 (kdA dt_MX5_unlikeCells 13 rfl) rfl c3 (by decide) rfl ?_
      refine K_goto (tgt := 4) (kdA dt_MX5_unlikeCells 14 rfl) rfl ?_
      exact h
    · have h := h.2 c
      obtain ⟨c3, h⟩ := h
      refine K_iinc (ls' := [(0, (2, a0)), (1, (2, a1)), (2, (0, (a2 + 1))), (3, (0, a3))]) 2 (kdA dt_MX5_unlikeCells 12 rfl) rfl c3 (by decide) rfl ?_
      obtain ⟨c4, h⟩ := h
      refine K_iinc (ls' := [(0, (2, a0)), (1, (2, a1)), (2, (0, (a2 + 1))), (3, (0, (a3 + 1)))]) 3 (kdA dt_MX5_unlikeCells 13 rfl) rfl c4 (by decide) rfl ?_
      refine K_goto (tgt := 4) (kdA dt_MX5_unlikeCells 14 rfl) rfl ?_
      exact h
theorem EX5_unlikeCells {d n : Nat} {Q : Int → kS → Prop} {a0 a1 : Int} {σ : kS} (h : kokw n σ → LX5_unlikeCells_0 d n Q a0 a1 σ) : Ci (d + 1) MX5_unlikeCells [(2, a0), (2, a1)] n σ Q := Tri_of (by decide +kernel) (Nat.le_of_ble_eq_true rfl) (fun hk hw => h hw)

def LX8_add_0 (d n : Nat) (Q : Int → kS → Prop) (a0 : Int) (a1 : Int) (σ : kS) : Prop := K (d + 1) MX8_add (kPi n Q) (0, 0) 0 [(0, (2, a0)), (1, (0, a1))] [] n σ
theorem SX8_add_0 {d n : Nat} {Q : Int → kS → Prop} {a0 a1 : Int} {σ : kS} (h : isO 8 n a0 ∧ (isA 20 n (σ a0 0) ∧ (((σ a0 1) < (klen (σ a0 0)) → ((0 : Int) ≤ (σ a0 1) ∧ (σ a0 1) < klen (σ a0 0)) ∧ (∀ s1, s1 = kst σ (σ a0 0) (σ a0 1) a1 → (-2147483648 ≤ ((s1 a0 1) + 1) ∧ ((s1 a0 1) + 1) ≤ 2147483647) ∧ (∀ s2, s2 = kst s1 a0 1 ((s1 a0 1) + 1) → Q 1 s2))) ∧ (¬ (σ a0 1) < (klen (σ a0 0)) → Q 0 σ)))) : LX8_add_0 d n Q a0 a1 σ := by
  unfold LX8_add_0
  refine K_aload_n 0 (kdA dt_MX8_add 0 rfl) rfl rfl ?_
  obtain ⟨c1, h⟩ := h
  refine gf8_21 rfl (kdA dt_MX8_add 1 rfl) c1 ?_
  refine K_aload_n 0 (kdA dt_MX8_add 2 rfl) rfl rfl ?_
  refine gf8_15 rfl (kdA dt_MX8_add 3 rfl) c1 ?_
  obtain ⟨c2, h⟩ := h
  refine K_alen (kdA dt_MX8_add 4 rfl) (by decide) c2 ?_
  refine K_icmp_lt (tgt := 14) (kdA dt_MX8_add 5 rfl) rfl (fun c => ?_) (fun c => ?_)
  · have h := h.1 c
    refine K_aload_n 0 (kdA dt_MX8_add 8 rfl) rfl rfl ?_
    refine gf8_15 rfl (kdA dt_MX8_add 9 rfl) c1 ?_
    refine K_aload_n 0 (kdA dt_MX8_add 10 rfl) rfl rfl ?_
    refine gf8_21 rfl (kdA dt_MX8_add 11 rfl) c1 ?_
    refine K_iload_n 1 (kdA dt_MX8_add 12 rfl) rfl rfl ?_
    obtain ⟨c3, h⟩ := h
    refine K_iastore' (kdA dt_MX8_add 13 rfl) c2 c3.1 c3.2 (fun s1 es1 => ?_)
    have h := h s1 es1
    refine K_aload_n 0 (kdA dt_MX8_add 14 rfl) rfl rfl ?_
    refine K_dup (kdA dt_MX8_add 15 rfl) rfl ?_
    refine gf8_21 rfl (kdA dt_MX8_add 16 rfl) c1 ?_
    refine K_iconst (kdA dt_MX8_add 17 rfl) (by decide) ?_
    obtain ⟨c4, h⟩ := h
    refine K_iadd (kdA dt_MX8_add 18 rfl) c4 ?_
    refine pf8_21 rfl (kdA dt_MX8_add 19 rfl) c1 (fun s2 es2 => ?_)
    have h := h s2 es2
    refine K_iconst (kdA dt_MX8_add 20 rfl) (by decide) ?_
    exact K_zreturn (kdA dt_MX8_add 21 rfl) rfl (Or.inr rfl) ⟨rfl, _, rfl, h⟩
  · have h := h.2 c
    refine K_iconst (kdA dt_MX8_add 6 rfl) (by decide) ?_
    exact K_zreturn (kdA dt_MX8_add 7 rfl) rfl (Or.inl rfl) ⟨rfl, _, rfl, h⟩
theorem EX8_add {d n : Nat} {Q : Int → kS → Prop} {a0 a1 : Int} {σ : kS} (h : (-2147483648 ≤ a1 ∧ a1 ≤ 2147483647) → kokw n σ → LX8_add_0 d n Q a0 a1 σ) : Ci (d + 1) MX8_add [(2, a0), (0, a1)] n σ Q := Tri_of (by decide +kernel) (Nat.le_of_ble_eq_true rfl) (fun hk hw => h (hk (0, a1) (List.mem_of_getElem? (i := 1) rfl)) hw)

def LX8_at_0 (d n : Nat) (Q : Int → kS → Prop) (a0 : Int) (a1 : Int) (σ : kS) : Prop := K (d + 1) MX8_at (kPi n Q) (0, 0) 0 [(0, (2, a0)), (1, (0, a1))] [] n σ
theorem SX8_at_0 {d n : Nat} {Q : Int → kS → Prop} {a0 a1 : Int} {σ : kS} (h : (a1 < 0 → Q (-1) σ) ∧ (¬ a1 < 0 → isO 8 n a0 ∧ (((σ a0 1) ≤ a1 → Q (-1) σ) ∧ (¬ (σ a0 1) ≤ a1 → isA 20 n (σ a0 0) ∧ (((0 : Int) ≤ a1 ∧ a1 < klen (σ a0 0)) ∧ (Q (σ (σ a0 0) a1) σ)))))) : LX8_at_0 d n Q a0 a1 σ := by
  unfold LX8_at_0
  refine K_iload_n 1 (kdA dt_MX8_at 0 rfl) rfl rfl ?_
  refine K_if_lt (tgt := 21) (kdA dt_MX8_at 1 rfl) rfl (fun c => ?_) (fun c => ?_)
  · have h := h.1 c
    refine K_iconst (kdA dt_MX8_at 11 rfl) (by decide) ?_
    exact K_ireturn (kdA dt_MX8_at 12 rfl) rfl ⟨rfl, _, rfl, h⟩
  · have h := h.2 c
    refine K_iload_n 1 (kdA dt_MX8_at 2 rfl) rfl rfl ?_
    refine K_aload_n 0 (kdA dt_MX8_at 3 rfl) rfl rfl ?_
    obtain ⟨c1, h⟩ := h
    refine gf8_21 rfl (kdA dt_MX8_at 4 rfl) c1 ?_
    refine K_icmp_ge (tgt := 21) (kdA dt_MX8_at 5 rfl) rfl (fun c => ?_) (fun c => ?_)
    · have h := h.1 c
      refine K_iconst (kdA dt_MX8_at 11 rfl) (by decide) ?_
      exact K_ireturn (kdA dt_MX8_at 12 rfl) rfl ⟨rfl, _, rfl, h⟩
    · have h := h.2 c
      refine K_aload_n 0 (kdA dt_MX8_at 6 rfl) rfl rfl ?_
      refine gf8_15 rfl (kdA dt_MX8_at 7 rfl) c1 ?_
      refine K_iload_n 1 (kdA dt_MX8_at 8 rfl) rfl rfl ?_
      obtain ⟨c2, h⟩ := h
      obtain ⟨c3, h⟩ := h
      refine K_iaload (kdA dt_MX8_at 9 rfl) c2 c3.1 c3.2 ?_
      refine K_goto (tgt := 22) (kdA dt_MX8_at 10 rfl) rfl ?_
      exact K_ireturn (kdA dt_MX8_at 12 rfl) rfl ⟨rfl, _, rfl, h⟩
theorem EX8_at {d n : Nat} {Q : Int → kS → Prop} {a0 a1 : Int} {σ : kS} (h : (-2147483648 ≤ a1 ∧ a1 ≤ 2147483647) → kokw n σ → LX8_at_0 d n Q a0 a1 σ) : Ci (d + 1) MX8_at [(2, a0), (0, a1)] n σ Q := Tri_of (by decide +kernel) (Nat.le_of_ble_eq_true rfl) (fun hk hw => h (hk (0, a1) (List.mem_of_getElem? (i := 1) rfl)) hw)

def LX8_cut_0 (d n : Nat) (Q : Int → kS → Prop) (a0 : Int) (a1 : Int) (σ : kS) : Prop := K (d + 1) MX8_cut (kPi n Q) (0, 0) 0 [(0, (2, a0)), (1, (0, a1))] [] n σ
theorem SX8_cut_0 {d n : Nat} {Q : Int → kS → Prop} {a0 a1 : Int} {σ : kS} (h : (a1 < 0 → Q 0 σ) ∧ (¬ a1 < 0 → isO 8 n a0 ∧ ((a1 ≤ (σ a0 1) → ∀ s1, s1 = kst σ a0 1 a1 → Q 1 s1) ∧ (¬ a1 ≤ (σ a0 1) → Q 0 σ)))) : LX8_cut_0 d n Q a0 a1 σ := by
  unfold LX8_cut_0
  refine K_iload_n 1 (kdA dt_MX8_cut 0 rfl) rfl rfl ?_
  refine K_if_lt (tgt := 12) (kdA dt_MX8_cut 1 rfl) rfl (fun c => ?_) (fun c => ?_)
  · have h := h.1 c
    refine K_iconst (kdA dt_MX8_cut 6 rfl) (by decide) ?_
    exact K_zreturn (kdA dt_MX8_cut 7 rfl) rfl (Or.inl rfl) ⟨rfl, _, rfl, h⟩
  · have h := h.2 c
    refine K_iload_n 1 (kdA dt_MX8_cut 2 rfl) rfl rfl ?_
    refine K_aload_n 0 (kdA dt_MX8_cut 3 rfl) rfl rfl ?_
    obtain ⟨c1, h⟩ := h
    refine gf8_21 rfl (kdA dt_MX8_cut 4 rfl) c1 ?_
    refine K_icmp_le (tgt := 14) (kdA dt_MX8_cut 5 rfl) rfl (fun c => ?_) (fun c => ?_)
    · have h := h.1 c
      refine K_aload_n 0 (kdA dt_MX8_cut 8 rfl) rfl rfl ?_
      refine K_iload_n 1 (kdA dt_MX8_cut 9 rfl) rfl rfl ?_
      refine pf8_21 rfl (kdA dt_MX8_cut 10 rfl) c1 (fun s1 es1 => ?_)
      have h := h s1 es1
      refine K_iconst (kdA dt_MX8_cut 11 rfl) (by decide) ?_
      exact K_zreturn (kdA dt_MX8_cut 12 rfl) rfl (Or.inr rfl) ⟨rfl, _, rfl, h⟩
    · have h := h.2 c
      refine K_iconst (kdA dt_MX8_cut 6 rfl) (by decide) ?_
      exact K_zreturn (kdA dt_MX8_cut 7 rfl) rfl (Or.inl rfl) ⟨rfl, _, rfl, h⟩
theorem EX8_cut {d n : Nat} {Q : Int → kS → Prop} {a0 a1 : Int} {σ : kS} (h : (-2147483648 ≤ a1 ∧ a1 ≤ 2147483647) → kokw n σ → LX8_cut_0 d n Q a0 a1 σ) : Ci (d + 1) MX8_cut [(2, a0), (0, a1)] n σ Q := Tri_of (by decide +kernel) (Nat.le_of_ble_eq_true rfl) (fun hk hw => h (hk (0, a1) (List.mem_of_getElem? (i := 1) rfl)) hw)

def LX8_fitsMoved_0 (d n : Nat) (Q : Int → kS → Prop) (a0 : Int) (a1 : Int) (a2 : Int) (σ : kS) : Prop := K (d + 1) MX8_fitsMoved (kPi n Q) (0, 0) 0 [(0, (2, a0)), (1, (0, a1)), (2, (0, a2))] [] n σ
def LX8_fitsMoved_2 (d n : Nat) (Q : Int → kS → Prop) (a0 : Int) (a1 : Int) (a2 : Int) (a3 : Int) (σ : kS) : Prop := K (d + 1) MX8_fitsMoved (kPi n Q) (0, 0) 2 [(0, (2, a0)), (1, (0, a1)), (2, (0, a2)), (3, (0, a3))] [] n σ
theorem SX8_fitsMoved_0 {d n : Nat} {Q : Int → kS → Prop} {a0 a1 a2 : Int} {σ : kS} (h : LX8_fitsMoved_2 d n Q a0 a1 a2 0 σ) : LX8_fitsMoved_0 d n Q a0 a1 a2 σ := by
  unfold LX8_fitsMoved_0
  refine K_iconst (kdA dt_MX8_fitsMoved 0 rfl) (by decide) ?_
  refine K_istore_n (ls' := [(0, (2, a0)), (1, (0, a1)), (2, (0, a2)), (3, (0, 0))]) (kdA dt_MX8_fitsMoved 1 rfl) rfl (by decide) rfl ?_
  exact h
theorem SX8_fitsMoved_2 {d n : Nat} {Q : Int → kS → Prop} {a0 a1 a2 a3 : Int} {σ : kS} (h : isO 8 n a0 ∧ (((σ a0 1) ≤ a3 → Q 1 σ) ∧ (¬ (σ a0 1) ≤ a3 → isA 20 n (σ a0 0) ∧ (((0 : Int) ≤ a3 ∧ a3 < klen (σ a0 0)) ∧ (((0 : Int) ≤ (σ (σ a0 0) a3)) ∧ ((-2147483648 ≤ (((σ (σ a0 0) a3) % 12) + a1) ∧ (((σ (σ a0 0) a3) % 12) + a1) ≤ 2147483647) ∧ ((-2147483648 ≤ (((σ (σ a0 0) a3) / 12) + a2) ∧ (((σ (σ a0 0) a3) / 12) + a2) ≤ 2147483647) ∧ (((((σ (σ a0 0) a3) % 12) + a1) < 0 → Q 0 σ) ∧ (¬ (((σ (σ a0 0) a3) % 12) + a1) < 0 → (12 ≤ (((σ (σ a0 0) a3) % 12) + a1) → Q 0 σ) ∧ (¬ 12 ≤ (((σ (σ a0 0) a3) % 12) + a1) → ((((σ (σ a0 0) a3) / 12) + a2) < 0 → Q 0 σ) ∧ (¬ (((σ (σ a0 0) a3) / 12) + a2) < 0 → ((((σ (σ a0 0) a3) / 12) + a2) < 10 → (-2147483648 ≤ (a3 + 1) ∧ (a3 + 1) ≤ 2147483647) ∧ (LX8_fitsMoved_2 d n Q a0 a1 a2 (a3 + 1) σ)) ∧ (¬ (((σ (σ a0 0) a3) / 12) + a2) < 10 → Q 0 σ)))))))))))) : LX8_fitsMoved_2 d n Q a0 a1 a2 a3 σ := by
  unfold LX8_fitsMoved_2
  refine K_iload_n 3 (kdA dt_MX8_fitsMoved 2 rfl) rfl rfl ?_
  refine K_aload_n 0 (kdA dt_MX8_fitsMoved 3 rfl) rfl rfl ?_
  obtain ⟨c1, h⟩ := h
  refine gf8_21 rfl (kdA dt_MX8_fitsMoved 4 rfl) c1 ?_
  refine K_icmp_ge (tgt := 68) (kdA dt_MX8_fitsMoved 5 rfl) rfl (fun c => ?_) (fun c => ?_)
  · have h := h.1 c
    refine K_iconst (kdA dt_MX8_fitsMoved 38 rfl) (by decide) ?_
    exact K_zreturn (kdA dt_MX8_fitsMoved 39 rfl) rfl (Or.inr rfl) ⟨rfl, _, rfl, h⟩
  · have h := h.2 c
    refine K_aload_n 0 (kdA dt_MX8_fitsMoved 6 rfl) rfl rfl ?_
    refine gf8_15 rfl (kdA dt_MX8_fitsMoved 7 rfl) c1 ?_
    refine K_iload_n 3 (kdA dt_MX8_fitsMoved 8 rfl) rfl rfl ?_
    obtain ⟨c2, h⟩ := h
    obtain ⟨c3, h⟩ := h
    refine K_iaload (kdA dt_MX8_fitsMoved 9 rfl) c2 c3.1 c3.2 ?_
    refine K_bipush (kdA dt_MX8_fitsMoved 10 rfl) (by decide +kernel) ?_
    obtain ⟨c4, h⟩ := h
    refine K_irem (kdA dt_MX8_fitsMoved 11 rfl) c4 (by decide) ?_
    refine K_iload_n 1 (kdA dt_MX8_fitsMoved 12 rfl) rfl rfl ?_
    obtain ⟨c5, h⟩ := h
    refine K_iadd (kdA dt_MX8_fitsMoved 13 rfl) c5 ?_
    refine K_istore (ls' := [(0, (2, a0)), (1, (0, a1)), (2, (0, a2)), (3, (0, a3)), (4, (0, (((σ (σ a0 0) a3) % 12) + a1)))]) (kdA dt_MX8_fitsMoved 14 rfl) (by decide) rfl ?_
    refine K_aload_n 0 (kdA dt_MX8_fitsMoved 15 rfl) rfl rfl ?_
    refine gf8_15 rfl (kdA dt_MX8_fitsMoved 16 rfl) c1 ?_
    refine K_iload_n 3 (kdA dt_MX8_fitsMoved 17 rfl) rfl rfl ?_
    refine K_iaload (kdA dt_MX8_fitsMoved 18 rfl) c2 c3.1 c3.2 ?_
    refine K_bipush (kdA dt_MX8_fitsMoved 19 rfl) (by decide +kernel) ?_
    refine K_idiv (kdA dt_MX8_fitsMoved 20 rfl) c4 (by decide) ?_
    refine K_iload_n 2 (kdA dt_MX8_fitsMoved 21 rfl) rfl rfl ?_
    obtain ⟨c6, h⟩ := h
    refine K_iadd (kdA dt_MX8_fitsMoved 22 rfl) c6 ?_
    refine K_istore (ls' := [(0, (2, a0)), (1, (0, a1)), (2, (0, a2)), (3, (0, a3)), (4, (0, (((σ (σ a0 0) a3) % 12) + a1))), (5, (0, (((σ (σ a0 0) a3) / 12) + a2)))]) (kdA dt_MX8_fitsMoved 23 rfl) (by decide) rfl ?_
    refine K_iload 4 (kdA dt_MX8_fitsMoved 24 rfl) rfl ?_
    refine K_if_lt (tgt := 60) (kdA dt_MX8_fitsMoved 25 rfl) rfl (fun c => ?_) (fun c => ?_)
    · have h := h.1 c
      refine K_iconst (kdA dt_MX8_fitsMoved 34 rfl) (by decide) ?_
      exact K_zreturn (kdA dt_MX8_fitsMoved 35 rfl) rfl (Or.inl rfl) ⟨rfl, _, rfl, h⟩
    · have h := h.2 c
      refine K_iload 4 (kdA dt_MX8_fitsMoved 26 rfl) rfl ?_
      refine K_bipush (kdA dt_MX8_fitsMoved 27 rfl) (by decide +kernel) ?_
      refine K_icmp_ge (tgt := 60) (kdA dt_MX8_fitsMoved 28 rfl) rfl (fun c => ?_) (fun c => ?_)
      · have h := h.1 c
        refine K_iconst (kdA dt_MX8_fitsMoved 34 rfl) (by decide) ?_
        exact K_zreturn (kdA dt_MX8_fitsMoved 35 rfl) rfl (Or.inl rfl) ⟨rfl, _, rfl, h⟩
      · have h := h.2 c
        refine K_iload 5 (kdA dt_MX8_fitsMoved 29 rfl) rfl ?_
        refine K_if_lt (tgt := 60) (kdA dt_MX8_fitsMoved 30 rfl) rfl (fun c => ?_) (fun c => ?_)
        · have h := h.1 c
          refine K_iconst (kdA dt_MX8_fitsMoved 34 rfl) (by decide) ?_
          exact K_zreturn (kdA dt_MX8_fitsMoved 35 rfl) rfl (Or.inl rfl) ⟨rfl, _, rfl, h⟩
        · have h := h.2 c
          refine K_iload 5 (kdA dt_MX8_fitsMoved 31 rfl) rfl ?_
          refine K_bipush (kdA dt_MX8_fitsMoved 32 rfl) (by decide +kernel) ?_
          refine K_icmp_lt (tgt := 62) (kdA dt_MX8_fitsMoved 33 rfl) rfl (fun c => ?_) (fun c => ?_)
          · have h := h.1 c
            obtain ⟨c7, h⟩ := h
            refine K_iinc (ls' := [(0, (2, a0)), (1, (0, a1)), (2, (0, a2)), (3, (0, (a3 + 1))), (4, (0, (((σ (σ a0 0) a3) % 12) + a1))), (5, (0, (((σ (σ a0 0) a3) / 12) + a2)))]) 3 (kdA dt_MX8_fitsMoved 36 rfl) rfl c7 (by decide) rfl ?_
            refine K_goto (tgt := 2) (kdA dt_MX8_fitsMoved 37 rfl) rfl ?_
            refine K_pick [0, 1, 2, 3] (ls' := [(0, (2, a0)), (1, (0, a1)), (2, (0, a2)), (3, (0, (a3 + 1)))]) rfl ?_
            exact h
          · have h := h.2 c
            refine K_iconst (kdA dt_MX8_fitsMoved 34 rfl) (by decide) ?_
            exact K_zreturn (kdA dt_MX8_fitsMoved 35 rfl) rfl (Or.inl rfl) ⟨rfl, _, rfl, h⟩
theorem EX8_fitsMoved {d n : Nat} {Q : Int → kS → Prop} {a0 a1 a2 : Int} {σ : kS} (h : (-2147483648 ≤ a1 ∧ a1 ≤ 2147483647) → (-2147483648 ≤ a2 ∧ a2 ≤ 2147483647) → kokw n σ → LX8_fitsMoved_0 d n Q a0 a1 a2 σ) : Ci (d + 1) MX8_fitsMoved [(2, a0), (0, a1), (0, a2)] n σ Q := Tri_of (by decide +kernel) (Nat.le_of_ble_eq_true rfl) (fun hk hw => h (hk (0, a1) (List.mem_of_getElem? (i := 1) rfl)) (hk (0, a2) (List.mem_of_getElem? (i := 2) rfl)) hw)

def LX8_has_0 (d n : Nat) (Q : Int → kS → Prop) (a0 : Int) (a1 : Int) (σ : kS) : Prop := K (d + 1) MX8_has (kPi n Q) (0, 0) 0 [(0, (2, a0)), (1, (0, a1))] [] n σ
def LX8_has_2 (d n : Nat) (Q : Int → kS → Prop) (a0 : Int) (a1 : Int) (a2 : Int) (σ : kS) : Prop := K (d + 1) MX8_has (kPi n Q) (0, 0) 2 [(0, (2, a0)), (1, (0, a1)), (2, (0, a2))] [] n σ
theorem SX8_has_0 {d n : Nat} {Q : Int → kS → Prop} {a0 a1 : Int} {σ : kS} (h : LX8_has_2 d n Q a0 a1 0 σ) : LX8_has_0 d n Q a0 a1 σ := by
  unfold LX8_has_0
  refine K_iconst (kdA dt_MX8_has 0 rfl) (by decide) ?_
  refine K_istore_n (ls' := [(0, (2, a0)), (1, (0, a1)), (2, (0, 0))]) (kdA dt_MX8_has 1 rfl) rfl (by decide) rfl ?_
  exact h
theorem SX8_has_2 {d n : Nat} {Q : Int → kS → Prop} {a0 a1 a2 : Int} {σ : kS} (h : isO 8 n a0 ∧ (((σ a0 1) ≤ a2 → Q 0 σ) ∧ (¬ (σ a0 1) ≤ a2 → isA 20 n (σ a0 0) ∧ (((0 : Int) ≤ a2 ∧ a2 < klen (σ a0 0)) ∧ ((¬ (σ (σ a0 0) a2) = a1 → (-2147483648 ≤ (a2 + 1) ∧ (a2 + 1) ≤ 2147483647) ∧ (LX8_has_2 d n Q a0 a1 (a2 + 1) σ)) ∧ (¬ (¬ (σ (σ a0 0) a2) = a1) → Q 1 σ)))))) : LX8_has_2 d n Q a0 a1 a2 σ := by
  unfold LX8_has_2
  refine K_iload_n 2 (kdA dt_MX8_has 2 rfl) rfl rfl ?_
  refine K_aload_n 0 (kdA dt_MX8_has 3 rfl) rfl rfl ?_
  obtain ⟨c1, h⟩ := h
  refine gf8_21 rfl (kdA dt_MX8_has 4 rfl) c1 ?_
  refine K_icmp_ge (tgt := 28) (kdA dt_MX8_has 5 rfl) rfl (fun c => ?_) (fun c => ?_)
  · have h := h.1 c
    refine K_iconst (kdA dt_MX8_has 16 rfl) (by decide) ?_
    exact K_zreturn (kdA dt_MX8_has 17 rfl) rfl (Or.inl rfl) ⟨rfl, _, rfl, h⟩
  · have h := h.2 c
    refine K_aload_n 0 (kdA dt_MX8_has 6 rfl) rfl rfl ?_
    refine gf8_15 rfl (kdA dt_MX8_has 7 rfl) c1 ?_
    refine K_iload_n 2 (kdA dt_MX8_has 8 rfl) rfl rfl ?_
    obtain ⟨c2, h⟩ := h
    obtain ⟨c3, h⟩ := h
    refine K_iaload (kdA dt_MX8_has 9 rfl) c2 c3.1 c3.2 ?_
    refine K_iload_n 1 (kdA dt_MX8_has 10 rfl) rfl rfl ?_
    refine K_icmp_ne (tgt := 22) (kdA dt_MX8_has 11 rfl) rfl (fun c => ?_) (fun c => ?_)
    · have h := h.1 c
      obtain ⟨c4, h⟩ := h
      refine K_iinc (ls' := [(0, (2, a0)), (1, (0, a1)), (2, (0, (a2 + 1)))]) 2 (kdA dt_MX8_has 14 rfl) rfl c4 (by decide) rfl ?_
      refine K_goto (tgt := 2) (kdA dt_MX8_has 15 rfl) rfl ?_
      exact h
    · have h := h.2 c
      refine K_iconst (kdA dt_MX8_has 12 rfl) (by decide) ?_
      exact K_zreturn (kdA dt_MX8_has 13 rfl) rfl (Or.inr rfl) ⟨rfl, _, rfl, h⟩
theorem EX8_has {d n : Nat} {Q : Int → kS → Prop} {a0 a1 : Int} {σ : kS} (h : (-2147483648 ≤ a1 ∧ a1 ≤ 2147483647) → kokw n σ → LX8_has_0 d n Q a0 a1 σ) : Ci (d + 1) MX8_has [(2, a0), (0, a1)] n σ Q := Tri_of (by decide +kernel) (Nat.le_of_ble_eq_true rfl) (fun hk hw => h (hk (0, a1) (List.mem_of_getElem? (i := 1) rfl)) hw)

def LX8_isNear_0 (d n : Nat) (Q : Int → kS → Prop) (a0 : Int) (a1 : Int) (a2 : Int) (a3 : Int) (σ : kS) : Prop := K (d + 1) MX8_isNear (kPi n Q) (0, 0) 0 [(0, (2, a0)), (1, (0, a1)), (2, (0, a2)), (3, (0, a3))] [] n σ
def LX8_isNear_3 (d n : Nat) (Q : Int → kS → Prop) (a0 : Int) (a1 : Int) (a2 : Int) (a3 : Int) (a4 : Int) (σ : kS) : Prop := K (d + 1) MX8_isNear (kPi n Q) (0, 0) 3 [(0, (2, a0)), (1, (0, a1)), (2, (0, a2)), (3, (0, a3)), (4, (0, a4))] [] n σ
theorem SX8_isNear_0 {d n : Nat} {Q : Int → kS → Prop} {a0 a1 a2 a3 : Int} {σ : kS} (h : LX8_isNear_3 d n Q a0 a1 a2 a3 0 σ) : LX8_isNear_0 d n Q a0 a1 a2 a3 σ := by
  unfold LX8_isNear_0
  refine K_iconst (kdA dt_MX8_isNear 0 rfl) (by decide) ?_
  refine K_istore (ls' := [(0, (2, a0)), (1, (0, a1)), (2, (0, a2)), (3, (0, a3)), (4, (0, 0))]) (kdA dt_MX8_isNear 1 rfl) (by decide) rfl ?_
  exact h
theorem SX8_isNear_3 {d n : Nat} {Q : Int → kS → Prop} {a0 a1 a2 a3 a4 : Int} {σ : kS} (h : isO 8 n a0 ∧ (((σ a0 1) ≤ a4 → Q 0 σ) ∧ (¬ (σ a0 1) ≤ a4 → isA 20 n (σ a0 0) ∧ (((0 : Int) ≤ a4 ∧ a4 < klen (σ a0 0)) ∧ (((0 : Int) ≤ (σ (σ a0 0) a4)) ∧ ((-2147483648 ≤ (((σ (σ a0 0) a4) % 12) - a1) ∧ (((σ (σ a0 0) a4) % 12) - a1) ≤ 2147483647) ∧ (Ci d MJm_abs [(0, (((σ (σ a0 0) a4) % 12) - a1))] n σ (fun x6 s1 => (a3 < x6 → (-2147483648 ≤ (a4 + 1) ∧ (a4 + 1) ≤ 2147483647) ∧ (LX8_isNear_3 d n Q a0 a1 a2 a3 (a4 + 1) s1)) ∧ (¬ a3 < x6 → (-2147483648 ≤ (((σ (σ a0 0) a4) / 12) - a2) ∧ (((σ (σ a0 0) a4) / 12) - a2) ≤ 2147483647) ∧ (Ci d MJm_abs [(0, (((σ (σ a0 0) a4) / 12) - a2))] n s1 (fun x8 s2 => (a3 < x8 → (-2147483648 ≤ (a4 + 1) ∧ (a4 + 1) ≤ 2147483647) ∧ (LX8_isNear_3 d n Q a0 a1 a2 a3 (a4 + 1) s2)) ∧ (¬ a3 < x8 → Q 1 s2)))))))))))) : LX8_isNear_3 d n Q a0 a1 a2 a3 a4 σ := by
  unfold LX8_isNear_3
  refine K_iload 4 (kdA dt_MX8_isNear 2 rfl) rfl ?_
  refine K_aload_n 0 (kdA dt_MX8_isNear 3 rfl) rfl rfl ?_
  obtain ⟨c1, h⟩ := h
  refine gf8_21 rfl (kdA dt_MX8_isNear 4 rfl) c1 ?_
  refine K_icmp_ge (tgt := 57) (kdA dt_MX8_isNear 5 rfl) rfl (fun c => ?_) (fun c => ?_)
  · have h := h.1 c
    refine K_iconst (kdA dt_MX8_isNear 31 rfl) (by decide) ?_
    exact K_zreturn (kdA dt_MX8_isNear 32 rfl) rfl (Or.inl rfl) ⟨rfl, _, rfl, h⟩
  · have h := h.2 c
    refine K_aload_n 0 (kdA dt_MX8_isNear 6 rfl) rfl rfl ?_
    refine gf8_15 rfl (kdA dt_MX8_isNear 7 rfl) c1 ?_
    refine K_iload 4 (kdA dt_MX8_isNear 8 rfl) rfl ?_
    obtain ⟨c2, h⟩ := h
    obtain ⟨c3, h⟩ := h
    refine K_iaload (kdA dt_MX8_isNear 9 rfl) c2 c3.1 c3.2 ?_
    refine K_istore (ls' := [(0, (2, a0)), (1, (0, a1)), (2, (0, a2)), (3, (0, a3)), (4, (0, a4)), (5, (0, (σ (σ a0 0) a4)))]) (kdA dt_MX8_isNear 10 rfl) (by decide) rfl ?_
    refine K_iload 5 (kdA dt_MX8_isNear 11 rfl) rfl ?_
    refine K_bipush (kdA dt_MX8_isNear 12 rfl) (by decide +kernel) ?_
    obtain ⟨c4, h⟩ := h
    refine K_irem (kdA dt_MX8_isNear 13 rfl) c4 (by decide) ?_
    refine K_iload_n 1 (kdA dt_MX8_isNear 14 rfl) rfl rfl ?_
    obtain ⟨c5, h⟩ := h
    refine K_isub (kdA dt_MX8_isNear 15 rfl) c5 ?_
    refine K_cSi (as := [(0, (((σ (σ a0 0) a4) % 12) - a1))]) (st := []) (kdA dt_MX8_isNear 16 rfl) cl_MJm_abs lk8_42 rfl rfl (Nat.le_of_ble_eq_true rfl) (Ci.mono h (fun x6 s1 h => ?_))
    refine K_iload_n 3 (kdA dt_MX8_isNear 17 rfl) rfl rfl ?_
    refine K_icmp_gt (tgt := 51) (kdA dt_MX8_isNear 18 rfl) rfl (fun c => ?_) (fun c => ?_)
    · have h := h.1 c
      obtain ⟨c7, h⟩ := h
      refine K_iinc (ls' := [(0, (2, a0)), (1, (0, a1)), (2, (0, a2)), (3, (0, a3)), (4, (0, (a4 + 1))), (5, (0, (σ (σ a0 0) a4)))]) 4 (kdA dt_MX8_isNear 29 rfl) rfl c7 (by decide) rfl ?_
      refine K_goto (tgt := 3) (kdA dt_MX8_isNear 30 rfl) rfl ?_
      refine K_pick [0, 1, 2, 3, 4] (ls' := [(0, (2, a0)), (1, (0, a1)), (2, (0, a2)), (3, (0, a3)), (4, (0, (a4 + 1)))]) rfl ?_
      exact h
    · have h := h.2 c
      refine K_iload 5 (kdA dt_MX8_isNear 19 rfl) rfl ?_
      refine K_bipush (kdA dt_MX8_isNear 20 rfl) (by decide +kernel) ?_
      refine K_idiv (kdA dt_MX8_isNear 21 rfl) c4 (by decide) ?_
      refine K_iload_n 2 (kdA dt_MX8_isNear 22 rfl) rfl rfl ?_
      obtain ⟨c7, h⟩ := h
      refine K_isub (kdA dt_MX8_isNear 23 rfl) c7 ?_
      refine K_cSi (as := [(0, (((σ (σ a0 0) a4) / 12) - a2))]) (st := []) (kdA dt_MX8_isNear 24 rfl) cl_MJm_abs lk8_42 rfl rfl (Nat.le_of_ble_eq_true rfl) (Ci.mono h (fun x8 s2 h => ?_))
      refine K_iload_n 3 (kdA dt_MX8_isNear 25 rfl) rfl rfl ?_
      refine K_icmp_gt (tgt := 51) (kdA dt_MX8_isNear 26 rfl) rfl (fun c => ?_) (fun c => ?_)
      · have h := h.1 c
        obtain ⟨c9, h⟩ := h
        refine K_iinc (ls' := [(0, (2, a0)), (1, (0, a1)), (2, (0, a2)), (3, (0, a3)), (4, (0, (a4 + 1))), (5, (0, (σ (σ a0 0) a4)))]) 4 (kdA dt_MX8_isNear 29 rfl) rfl c9 (by decide) rfl ?_
        refine K_goto (tgt := 3) (kdA dt_MX8_isNear 30 rfl) rfl ?_
        refine K_pick [0, 1, 2, 3, 4] (ls' := [(0, (2, a0)), (1, (0, a1)), (2, (0, a2)), (3, (0, a3)), (4, (0, (a4 + 1)))]) rfl ?_
        exact h
      · have h := h.2 c
        refine K_iconst (kdA dt_MX8_isNear 27 rfl) (by decide) ?_
        exact K_zreturn (kdA dt_MX8_isNear 28 rfl) rfl (Or.inr rfl) ⟨rfl, _, rfl, h⟩
theorem EX8_isNear {d n : Nat} {Q : Int → kS → Prop} {a0 a1 a2 a3 : Int} {σ : kS} (h : (-2147483648 ≤ a1 ∧ a1 ≤ 2147483647) → (-2147483648 ≤ a2 ∧ a2 ≤ 2147483647) → (-2147483648 ≤ a3 ∧ a3 ≤ 2147483647) → kokw n σ → LX8_isNear_0 d n Q a0 a1 a2 a3 σ) : Ci (d + 1) MX8_isNear [(2, a0), (0, a1), (0, a2), (0, a3)] n σ Q := Tri_of (by decide +kernel) (Nat.le_of_ble_eq_true rfl) (fun hk hw => h (hk (0, a1) (List.mem_of_getElem? (i := 1) rfl)) (hk (0, a2) (List.mem_of_getElem? (i := 2) rfl)) (hk (0, a3) (List.mem_of_getElem? (i := 3) rfl)) hw)

def LX8_keepThoseIn_0 (d n : Nat) (Q : kS → Prop) (a0 : Int) (a1 : Int) (σ : kS) : Prop := K (d + 1) MX8_keepThoseIn (kPv n Q) (0, 0) 0 [(0, (2, a0)), (1, (2, a1))] [] n σ
def LX8_keepThoseIn_4 (d n : Nat) (Q : kS → Prop) (a0 : Int) (a1 : Int) (a2 : Int) (a3 : Int) (σ : kS) : Prop := K (d + 1) MX8_keepThoseIn (kPv n Q) (0, 0) 4 [(0, (2, a0)), (1, (2, a1)), (2, (0, a2)), (3, (0, a3))] [] n σ
theorem SX8_keepThoseIn_0 {d n : Nat} {Q : kS → Prop} {a0 a1 : Int} {σ : kS} (h : LX8_keepThoseIn_4 d n Q a0 a1 0 0 σ) : LX8_keepThoseIn_0 d n Q a0 a1 σ := by
  unfold LX8_keepThoseIn_0
  refine K_iconst (kdA dt_MX8_keepThoseIn 0 rfl) (by decide) ?_
  refine K_istore_n (ls' := [(0, (2, a0)), (1, (2, a1)), (2, (0, 0))]) (kdA dt_MX8_keepThoseIn 1 rfl) rfl (by decide) rfl ?_
  refine K_iconst (kdA dt_MX8_keepThoseIn 2 rfl) (by decide) ?_
  refine K_istore_n (ls' := [(0, (2, a0)), (1, (2, a1)), (2, (0, 0)), (3, (0, 0))]) (kdA dt_MX8_keepThoseIn 3 rfl) rfl (by decide) rfl ?_
  exact h
theorem SX8_keepThoseIn_4 {d n : Nat} {Q : kS → Prop} {a0 a1 a2 a3 : Int} {σ : kS} (h : isO 8 n a0 ∧ (((σ a0 1) ≤ a3 → ∀ s1, s1 = kst σ a0 1 a2 → Q s1) ∧ (¬ (σ a0 1) ≤ a3 → isA 20 n (σ a0 0) ∧ (((0 : Int) ≤ a3 ∧ a3 < klen (σ a0 0)) ∧ (isO 8 n a1 ∧ (Ci d MX8_has [(2, a1), (0, (σ (σ a0 0) a3))] n σ (fun x5 s1 => (x5 = 0 → (-2147483648 ≤ (a3 + 1) ∧ (a3 + 1) ≤ 2147483647) ∧ (LX8_keepThoseIn_4 d n Q a0 a1 a2 (a3 + 1) s1)) ∧ (¬ x5 = 0 → isA 20 n (s1 a0 0) ∧ (((0 : Int) ≤ a3 ∧ a3 < klen (s1 a0 0)) ∧ (((0 : Int) ≤ a2 ∧ a2 < klen (s1 a0 0)) ∧ (∀ s2, s2 = kst s1 (s1 a0 0) a2 (s1 (s1 a0 0) a3) → (-2147483648 ≤ (a2 + 1) ∧ (a2 + 1) ≤ 2147483647) ∧ ((-2147483648 ≤ (a3 + 1) ∧ (a3 + 1) ≤ 2147483647) ∧ (LX8_keepThoseIn_4 d n Q a0 a1 (a2 + 1) (a3 + 1) s2))))))))))))) : LX8_keepThoseIn_4 d n Q a0 a1 a2 a3 σ := by
  unfold LX8_keepThoseIn_4
  refine K_iload_n 3 (kdA dt_MX8_keepThoseIn 4 rfl) rfl rfl ?_
  refine K_aload_n 0 (kdA dt_MX8_keepThoseIn 5 rfl) rfl rfl ?_
  obtain ⟨c1, h⟩ := h
  refine gf8_21 rfl (kdA dt_MX8_keepThoseIn 6 rfl) c1 ?_
  refine K_icmp_ge (tgt := 46) (kdA dt_MX8_keepThoseIn 7 rfl) rfl (fun c => ?_) (fun c => ?_)
  · have h := h.1 c
    refine K_aload_n 0 (kdA dt_MX8_keepThoseIn 26 rfl) rfl rfl ?_
    refine K_iload_n 2 (kdA dt_MX8_keepThoseIn 27 rfl) rfl rfl ?_
    refine pf8_21 rfl (kdA dt_MX8_keepThoseIn 28 rfl) c1 (fun s1 es1 => ?_)
    have h := h s1 es1
    exact K_return (kdA dt_MX8_keepThoseIn 29 rfl) rfl ⟨rfl, rfl, h⟩
  · have h := h.2 c
    refine K_aload_n 1 (kdA dt_MX8_keepThoseIn 8 rfl) rfl rfl ?_
    refine K_aload_n 0 (kdA dt_MX8_keepThoseIn 9 rfl) rfl rfl ?_
    refine gf8_15 rfl (kdA dt_MX8_keepThoseIn 10 rfl) c1 ?_
    refine K_iload_n 3 (kdA dt_MX8_keepThoseIn 11 rfl) rfl rfl ?_
    obtain ⟨c2, h⟩ := h
    obtain ⟨c3, h⟩ := h
    refine K_iaload (kdA dt_MX8_keepThoseIn 12 rfl) c2 c3.1 c3.2 ?_
    obtain ⟨c4, h⟩ := h
    refine K_cVi (c := 8) (as := [(0, (σ (σ a0 0) a3))]) (st := []) (kdA dt_MX8_keepThoseIn 13 rfl) rfl cl_MX8_has lk8_38 rfl rfl (Nat.le_of_ble_eq_true rfl) c4 (Ci.mono h (fun x5 s1 h => ?_))
    refine K_if_eq (tgt := 40) (kdA dt_MX8_keepThoseIn 14 rfl) rfl (fun c => ?_) (fun c => ?_)
    · have h := h.1 c
      obtain ⟨c6, h⟩ := h
      refine K_iinc (ls' := [(0, (2, a0)), (1, (2, a1)), (2, (0, a2)), (3, (0, (a3 + 1)))]) 3 (kdA dt_MX8_keepThoseIn 24 rfl) rfl c6 (by decide) rfl ?_
      refine K_goto (tgt := 4) (kdA dt_MX8_keepThoseIn 25 rfl) rfl ?_
      exact h
    · have h := h.2 c
      refine K_aload_n 0 (kdA dt_MX8_keepThoseIn 15 rfl) rfl rfl ?_
      refine gf8_15 rfl (kdA dt_MX8_keepThoseIn 16 rfl) c1 ?_
      refine K_iload_n 2 (kdA dt_MX8_keepThoseIn 17 rfl) rfl rfl ?_
      refine K_aload_n 0 (kdA dt_MX8_keepThoseIn 18 rfl) rfl rfl ?_
      refine gf8_15 rfl (kdA dt_MX8_keepThoseIn 19 rfl) c1 ?_
      refine K_iload_n 3 (kdA dt_MX8_keepThoseIn 20 rfl) rfl rfl ?_
      obtain ⟨c6, h⟩ := h
      obtain ⟨c7, h⟩ := h
      refine K_iaload (kdA dt_MX8_keepThoseIn 21 rfl) c6 c7.1 c7.2 ?_
      obtain ⟨c8, h⟩ := h
      refine K_iastore' (kdA dt_MX8_keepThoseIn 22 rfl) c6 c8.1 c8.2 (fun s2 es2 => ?_)
      have h := h s2 es2
      obtain ⟨c9, h⟩ := h
      refine K_iinc (ls' := [(0, (2, a0)), (1, (2, a1)), (2, (0, (a2 + 1))), (3, (0, a3))]) 2 (kdA dt_MX8_keepThoseIn 23 rfl) rfl c9 (by decide) rfl ?_
      obtain ⟨c10, h⟩ := h
      refine K_iinc (ls' := [(0, (2, a0)), (1, (2, a1)), (2, (0, (a2 + 1))), (3, (0, (a3 + 1)))]) 3 (kdA dt_MX8_keepThoseIn 24 rfl) rfl c10 (by decide) rfl ?_
      refine K_goto (tgt := 4) (kdA dt_MX8_keepThoseIn 25 rfl) rfl ?_
      exact h
theorem EX8_keepThoseIn {d n : Nat} {Q : kS → Prop} {a0 a1 : Int} {σ : kS} (h : kokw n σ → LX8_keepThoseIn_0 d n Q a0 a1 σ) : Cv (d + 1) MX8_keepThoseIn [(2, a0), (2, a1)] n σ Q := Tri_of (by decide +kernel) (Nat.le_of_ble_eq_true rfl) (fun hk hw => h hw)

def LX8_last_0 (d n : Nat) (Q : Int → kS → Prop) (a0 : Int) (σ : kS) : Prop := K (d + 1) MX8_last (kPi n Q) (0, 0) 0 [(0, (2, a0))] [] n σ
theorem SX8_last_0 {d n : Nat} {Q : Int → kS → Prop} {a0 : Int} {σ : kS} (h : isO 8 n a0 ∧ ((-2147483648 ≤ ((σ a0 1) - 1) ∧ ((σ a0 1) - 1) ≤ 2147483647) ∧ (Ci d MX8_at [(2, a0), (0, ((σ a0 1) - 1))] n σ (fun x3 s1 => Q x3 s1)))) : LX8_last_0 d n Q a0 σ := by
  unfold LX8_last_0
  refine K_aload_n 0 (kdA dt_MX8_last 0 rfl) rfl rfl ?_
  refine K_aload_n 0 (kdA dt_MX8_last 1 rfl) rfl rfl ?_
  obtain ⟨c1, h⟩ := h
  refine gf8_21 rfl (kdA dt_MX8_last 2 rfl) c1 ?_
  refine K_iconst (kdA dt_MX8_last 3 rfl) (by decide) ?_
  obtain ⟨c2, h⟩ := h
  refine K_isub (kdA dt_MX8_last 4 rfl) c2 ?_
  refine K_cVi (c := 8) (as := [(0, ((σ a0 1) - 1))]) (st := []) (kdA dt_MX8_last 5 rfl) rfl cl_MX8_at lk8_25 rfl rfl (Nat.le_of_ble_eq_true rfl) c1 (Ci.mono h (fun x3 s1 h => ?_))
  exact K_ireturn (kdA dt_MX8_last 6 rfl) rfl ⟨rfl, _, rfl, h⟩
theorem EX8_last {d n : Nat} {Q : Int → kS → Prop} {a0 : Int} {σ : kS} (h : kokw n σ → LX8_last_0 d n Q a0 σ) : Ci (d + 1) MX8_last [(2, a0)] n σ Q := Tri_of (by decide +kernel) (Nat.le_of_ble_eq_true rfl) (fun hk hw => h hw)

def LX8_longestRun_0 (d n : Nat) (Q : Int → kS → Prop) (a0 : Int) (σ : kS) : Prop := K (d + 1) MX8_longestRun (kPi n Q) (0, 0) 0 [(0, (2, a0))] [] n σ
def LX8_longestRun_6 (d n : Nat) (Q : Int → kS → Prop) (a0 : Int) (a1 : Int) (a2 : Int) (a3 : Int) (σ : kS) : Prop := K (d + 1) MX8_longestRun (kPi n Q) (0, 0) 6 [(0, (2, a0)), (1, (0, a1)), (2, (0, a2)), (3, (0, a3))] [] n σ
theorem SX8_longestRun_0 {d n : Nat} {Q : Int → kS → Prop} {a0 : Int} {σ : kS} (h : LX8_longestRun_6 d n Q a0 0 0 1 σ) : LX8_longestRun_0 d n Q a0 σ := by
  unfold LX8_longestRun_0
  refine K_iconst (kdA dt_MX8_longestRun 0 rfl) (by decide) ?_
  refine K_istore_n (ls' := [(0, (2, a0)), (1, (0, 0))]) (kdA dt_MX8_longestRun 1 rfl) rfl (by decide) rfl ?_
  refine K_iconst (kdA dt_MX8_longestRun 2 rfl) (by decide) ?_
  refine K_istore_n (ls' := [(0, (2, a0)), (1, (0, 0)), (2, (0, 0))]) (kdA dt_MX8_longestRun 3 rfl) rfl (by decide) rfl ?_
  refine K_iconst (kdA dt_MX8_longestRun 4 rfl) (by decide) ?_
  refine K_istore_n (ls' := [(0, (2, a0)), (1, (0, 0)), (2, (0, 0)), (3, (0, 1))]) (kdA dt_MX8_longestRun 5 rfl) rfl (by decide) rfl ?_
  exact h
theorem SX8_longestRun_6 {d n : Nat} {Q : Int → kS → Prop} {a0 a1 a2 a3 : Int} {σ : kS} (h : isO 8 n a0 ∧ (((σ a0 1) ≤ a3 → Q a1 σ) ∧ (¬ (σ a0 1) ≤ a3 → Ci d MX8_turnsAt [(2, a0), (0, a3)] n σ (fun x2 s1 => (x2 = 0 → (-2147483648 ≤ (a2 + 1) ∧ (a2 + 1) ≤ 2147483647) ∧ (Ci d MJm_max [(0, a1), (0, (a2 + 1))] n s1 (fun x4 s2 => (-2147483648 ≤ (a3 + 1) ∧ (a3 + 1) ≤ 2147483647) ∧ (LX8_longestRun_6 d n Q a0 x4 (a2 + 1) (a3 + 1) s2)))) ∧ (¬ x2 = 0 → Ci d MJm_max [(0, a1), (0, 1)] n s1 (fun x3 s2 => (-2147483648 ≤ (a3 + 1) ∧ (a3 + 1) ≤ 2147483647) ∧ (LX8_longestRun_6 d n Q a0 x3 1 (a3 + 1) s2))))))) : LX8_longestRun_6 d n Q a0 a1 a2 a3 σ := by
  unfold LX8_longestRun_6
  refine K_iload_n 3 (kdA dt_MX8_longestRun 6 rfl) rfl rfl ?_
  refine K_aload_n 0 (kdA dt_MX8_longestRun 7 rfl) rfl rfl ?_
  obtain ⟨c1, h⟩ := h
  refine gf8_21 rfl (kdA dt_MX8_longestRun 8 rfl) c1 ?_
  refine K_icmp_ge (tgt := 42) (kdA dt_MX8_longestRun 9 rfl) rfl (fun c => ?_) (fun c => ?_)
  · have h := h.1 c
    refine K_iload_n 1 (kdA dt_MX8_longestRun 26 rfl) rfl rfl ?_
    exact K_ireturn (kdA dt_MX8_longestRun 27 rfl) rfl ⟨rfl, _, rfl, h⟩
  · have h := h.2 c
    refine K_aload_n 0 (kdA dt_MX8_longestRun 10 rfl) rfl rfl ?_
    refine K_iload_n 3 (kdA dt_MX8_longestRun 11 rfl) rfl rfl ?_
    refine K_cVi (c := 8) (as := [(0, a3)]) (st := []) (kdA dt_MX8_longestRun 12 rfl) rfl cl_MX8_turnsAt lk8_45 rfl rfl (Nat.le_of_ble_eq_true rfl) c1 (Ci.mono h (fun x2 s1 h => ?_))
    refine K_if_eq (tgt := 26) (kdA dt_MX8_longestRun 13 rfl) rfl (fun c => ?_) (fun c => ?_)
    · have h := h.1 c
      refine K_iload_n 2 (kdA dt_MX8_longestRun 16 rfl) rfl rfl ?_
      refine K_iconst (kdA dt_MX8_longestRun 17 rfl) (by decide) ?_
      obtain ⟨c3, h⟩ := h
      refine K_iadd (kdA dt_MX8_longestRun 18 rfl) c3 ?_
      refine K_istore_n (ls' := [(0, (2, a0)), (1, (0, a1)), (2, (0, (a2 + 1))), (3, (0, a3))]) (kdA dt_MX8_longestRun 19 rfl) rfl (by decide) rfl ?_
      refine K_iload_n 1 (kdA dt_MX8_longestRun 20 rfl) rfl rfl ?_
      refine K_iload_n 2 (kdA dt_MX8_longestRun 21 rfl) rfl rfl ?_
      refine K_cSi (as := [(0, a1), (0, (a2 + 1))]) (st := []) (kdA dt_MX8_longestRun 22 rfl) cl_MJm_max lk8_9 rfl rfl (Nat.le_of_ble_eq_true rfl) (Ci.mono h (fun x4 s2 h => ?_))
      refine K_istore_n (ls' := [(0, (2, a0)), (1, (0, x4)), (2, (0, (a2 + 1))), (3, (0, a3))]) (kdA dt_MX8_longestRun 23 rfl) rfl (by decide) rfl ?_
      obtain ⟨c5, h⟩ := h
      refine K_iinc (ls' := [(0, (2, a0)), (1, (0, x4)), (2, (0, (a2 + 1))), (3, (0, (a3 + 1)))]) 3 (kdA dt_MX8_longestRun 24 rfl) rfl c5 (by decide) rfl ?_
      refine K_goto (tgt := 6) (kdA dt_MX8_longestRun 25 rfl) rfl ?_
      exact h
    · have h := h.2 c
      refine K_iconst (kdA dt_MX8_longestRun 14 rfl) (by decide) ?_
      refine K_goto (tgt := 29) (kdA dt_MX8_longestRun 15 rfl) rfl ?_
      refine K_istore_n (ls' := [(0, (2, a0)), (1, (0, a1)), (2, (0, 1)), (3, (0, a3))]) (kdA dt_MX8_longestRun 19 rfl) rfl (by decide) rfl ?_
      refine K_iload_n 1 (kdA dt_MX8_longestRun 20 rfl) rfl rfl ?_
      refine K_iload_n 2 (kdA dt_MX8_longestRun 21 rfl) rfl rfl ?_
      refine K_cSi (as := [(0, a1), (0, 1)]) (st := []) (kdA dt_MX8_longestRun 22 rfl) cl_MJm_max lk8_9 rfl rfl (Nat.le_of_ble_eq_true rfl) (Ci.mono h (fun x3 s2 h => ?_))
      refine K_istore_n (ls' := [(0, (2, a0)), (1, (0, x3)), (2, (0, 1)), (3, (0, a3))]) (kdA dt_MX8_longestRun 23 rfl) rfl (by decide) rfl ?_
      obtain ⟨c4, h⟩ := h
      refine K_iinc (ls' := [(0, (2, a0)), (1, (0, x3)), (2, (0, 1)), (3, (0, (a3 + 1)))]) 3 (kdA dt_MX8_longestRun 24 rfl) rfl c4 (by decide) rfl ?_
      refine K_goto (tgt := 6) (kdA dt_MX8_longestRun 25 rfl) rfl ?_
      exact h
theorem EX8_longestRun {d n : Nat} {Q : Int → kS → Prop} {a0 : Int} {σ : kS} (h : kokw n σ → LX8_longestRun_0 d n Q a0 σ) : Ci (d + 1) MX8_longestRun [(2, a0)] n σ Q := Tri_of (by decide +kernel) (Nat.le_of_ble_eq_true rfl) (fun hk hw => h hw)

def LX8_miles_0 (d n : Nat) (Q : Int → kS → Prop) (a0 : Int) (σ : kS) : Prop := K (d + 1) MX8_miles (kPi n Q) (0, 0) 0 [(0, (2, a0))] [] n σ
def LX8_miles_4 (d n : Nat) (Q : Int → kS → Prop) (a0 : Int) (a1 : Int) (a2 : Int) (σ : kS) : Prop := K (d + 1) MX8_miles (kPi n Q) (0, 0) 4 [(0, (2, a0)), (1, (0, a1)), (2, (0, a2))] [] n σ
theorem SX8_miles_0 {d n : Nat} {Q : Int → kS → Prop} {a0 : Int} {σ : kS} (h : LX8_miles_4 d n Q a0 0 1 σ) : LX8_miles_0 d n Q a0 σ := by
  unfold LX8_miles_0
  refine K_iconst (kdA dt_MX8_miles 0 rfl) (by decide) ?_
  refine K_istore_n (ls' := [(0, (2, a0)), (1, (0, 0))]) (kdA dt_MX8_miles 1 rfl) rfl (by decide) rfl ?_
  refine K_iconst (kdA dt_MX8_miles 2 rfl) (by decide) ?_
  refine K_istore_n (ls' := [(0, (2, a0)), (1, (0, 0)), (2, (0, 1))]) (kdA dt_MX8_miles 3 rfl) rfl (by decide) rfl ?_
  exact h
theorem SX8_miles_4 {d n : Nat} {Q : Int → kS → Prop} {a0 a1 a2 : Int} {σ : kS} (h : isO 8 n a0 ∧ (((σ a0 1) ≤ a2 → ((0 : Int) ≤ a1) ∧ (Q (a1 / 10) σ)) ∧ (¬ (σ a0 1) ≤ a2 → isA 20 n (σ a0 0) ∧ (((0 : Int) ≤ a2 ∧ a2 < klen (σ a0 0)) ∧ (((0 : Int) ≤ (σ (σ a0 0) a2)) ∧ ((-2147483648 ≤ (a2 - 1) ∧ (a2 - 1) ≤ 2147483647) ∧ (((0 : Int) ≤ (a2 - 1) ∧ (a2 - 1) < klen (σ a0 0)) ∧ (((0 : Int) ≤ (σ (σ a0 0) (a2 - 1))) ∧ ((((σ (σ a0 0) a2) % 12) = ((σ (σ a0 0) (a2 - 1)) % 12) → (-2147483648 ≤ (a1 + 10) ∧ (a1 + 10) ≤ 2147483647) ∧ ((-2147483648 ≤ (a2 + 1) ∧ (a2 + 1) ≤ 2147483647) ∧ (LX8_miles_4 d n Q a0 (a1 + 10) (a2 + 1) σ))) ∧ (¬ ((σ (σ a0 0) a2) % 12) = ((σ (σ a0 0) (a2 - 1)) % 12) → (((σ (σ a0 0) a2) / 12) = ((σ (σ a0 0) (a2 - 1)) / 12) → (-2147483648 ≤ (a1 + 10) ∧ (a1 + 10) ≤ 2147483647) ∧ ((-2147483648 ≤ (a2 + 1) ∧ (a2 + 1) ≤ 2147483647) ∧ (LX8_miles_4 d n Q a0 (a1 + 10) (a2 + 1) σ))) ∧ (¬ ((σ (σ a0 0) a2) / 12) = ((σ (σ a0 0) (a2 - 1)) / 12) → (-2147483648 ≤ (a1 + 14) ∧ (a1 + 14) ≤ 2147483647) ∧ ((-2147483648 ≤ (a2 + 1) ∧ (a2 + 1) ≤ 2147483647) ∧ (LX8_miles_4 d n Q a0 (a1 + 14) (a2 + 1) σ))))))))))))) : LX8_miles_4 d n Q a0 a1 a2 σ := by
  unfold LX8_miles_4
  refine K_iload_n 2 (kdA dt_MX8_miles 4 rfl) rfl rfl ?_
  refine K_aload_n 0 (kdA dt_MX8_miles 5 rfl) rfl rfl ?_
  obtain ⟨c1, h⟩ := h
  refine gf8_21 rfl (kdA dt_MX8_miles 6 rfl) c1 ?_
  refine K_icmp_ge (tgt := 84) (kdA dt_MX8_miles 7 rfl) rfl (fun c => ?_) (fun c => ?_)
  · have h := h.1 c
    refine K_iload_n 1 (kdA dt_MX8_miles 52 rfl) rfl rfl ?_
    refine K_bipush (kdA dt_MX8_miles 53 rfl) (by decide +kernel) ?_
    obtain ⟨c2, h⟩ := h
    refine K_idiv (kdA dt_MX8_miles 54 rfl) c2 (by decide) ?_
    exact K_ireturn (kdA dt_MX8_miles 55 rfl) rfl ⟨rfl, _, rfl, h⟩
  · have h := h.2 c
    refine K_aload_n 0 (kdA dt_MX8_miles 8 rfl) rfl rfl ?_
    refine gf8_15 rfl (kdA dt_MX8_miles 9 rfl) c1 ?_
    refine K_iload_n 2 (kdA dt_MX8_miles 10 rfl) rfl rfl ?_
    obtain ⟨c2, h⟩ := h
    obtain ⟨c3, h⟩ := h
    refine K_iaload (kdA dt_MX8_miles 11 rfl) c2 c3.1 c3.2 ?_
    refine K_bipush (kdA dt_MX8_miles 12 rfl) (by decide +kernel) ?_
    obtain ⟨c4, h⟩ := h
    refine K_irem (kdA dt_MX8_miles 13 rfl) c4 (by decide) ?_
    refine K_aload_n 0 (kdA dt_MX8_miles 14 rfl) rfl rfl ?_
    refine gf8_15 rfl (kdA dt_MX8_miles 15 rfl) c1 ?_
    refine K_iload_n 2 (kdA dt_MX8_miles 16 rfl) rfl rfl ?_
    refine K_iconst (kdA dt_MX8_miles 17 rfl) (by decide) ?_
    obtain ⟨c5, h⟩ := h
    refine K_isub (kdA dt_MX8_miles 18 rfl) c5 ?_
    obtain ⟨c6, h⟩ := h
    refine K_iaload (kdA dt_MX8_miles 19 rfl) c2 c6.1 c6.2 ?_
    refine K_bipush (kdA dt_MX8_miles 20 rfl) (by decide +kernel) ?_
    obtain ⟨c7, h⟩ := h
    refine K_irem (kdA dt_MX8_miles 21 rfl) c7 (by decide) ?_
    refine K_icmp_eq (tgt := 62) (kdA dt_MX8_miles 22 rfl) rfl (fun c => ?_) (fun c => ?_)
    · have h := h.1 c
      refine K_iconst (kdA dt_MX8_miles 40 rfl) (by decide) ?_
      refine K_istore_n (ls' := [(0, (2, a0)), (1, (0, a1)), (2, (0, a2)), (3, (0, 0))]) (kdA dt_MX8_miles 41 rfl) rfl (by decide) rfl ?_
      refine K_iload_n 1 (kdA dt_MX8_miles 42 rfl) rfl rfl ?_
      refine K_iload_n 3 (kdA dt_MX8_miles 43 rfl) rfl rfl ?_
      refine K_if_eq (tgt := 74) (kdA dt_MX8_miles 44 rfl) rfl (fun _ => ?_) (fun c => absurd (by decide) c)
      refine K_bipush (kdA dt_MX8_miles 47 rfl) (by decide +kernel) ?_
      obtain ⟨c8, h⟩ := h
      refine K_iadd (kdA dt_MX8_miles 48 rfl) c8 ?_
      refine K_istore_n (ls' := [(0, (2, a0)), (1, (0, (a1 + 10))), (2, (0, a2)), (3, (0, 0))]) (kdA dt_MX8_miles 49 rfl) rfl (by decide) rfl ?_
      obtain ⟨c9, h⟩ := h
      refine K_iinc (ls' := [(0, (2, a0)), (1, (0, (a1 + 10))), (2, (0, (a2 + 1))), (3, (0, 0))]) 2 (kdA dt_MX8_miles 50 rfl) rfl c9 (by decide) rfl ?_
      refine K_goto (tgt := 4) (kdA dt_MX8_miles 51 rfl) rfl ?_
      refine K_pick [0, 1, 2] (ls' := [(0, (2, a0)), (1, (0, (a1 + 10))), (2, (0, (a2 + 1)))]) rfl ?_
      exact h
    · have h := h.2 c
      refine K_aload_n 0 (kdA dt_MX8_miles 23 rfl) rfl rfl ?_
      refine gf8_15 rfl (kdA dt_MX8_miles 24 rfl) c1 ?_
      refine K_iload_n 2 (kdA dt_MX8_miles 25 rfl) rfl rfl ?_
      refine K_iaload (kdA dt_MX8_miles 26 rfl) c2 c3.1 c3.2 ?_
      refine K_bipush (kdA dt_MX8_miles 27 rfl) (by decide +kernel) ?_
      refine K_idiv (kdA dt_MX8_miles 28 rfl) c4 (by decide) ?_
      refine K_aload_n 0 (kdA dt_MX8_miles 29 rfl) rfl rfl ?_
      refine gf8_15 rfl (kdA dt_MX8_miles 30 rfl) c1 ?_
      refine K_iload_n 2 (kdA dt_MX8_miles 31 rfl) rfl rfl ?_
      refine K_iconst (kdA dt_MX8_miles 32 rfl) (by decide) ?_
      refine K_isub (kdA dt_MX8_miles 33 rfl) c5 ?_
      refine K_iaload (kdA dt_MX8_miles 34 rfl) c2 c6.1 c6.2 ?_
      refine K_bipush (kdA dt_MX8_miles 35 rfl) (by decide +kernel) ?_
      refine K_idiv (kdA dt_MX8_miles 36 rfl) c7 (by decide) ?_
      refine K_icmp_eq (tgt := 62) (kdA dt_MX8_miles 37 rfl) rfl (fun c => ?_) (fun c => ?_)
      · have h := h.1 c
        refine K_iconst (kdA dt_MX8_miles 40 rfl) (by decide) ?_
        refine K_istore_n (ls' := [(0, (2, a0)), (1, (0, a1)), (2, (0, a2)), (3, (0, 0))]) (kdA dt_MX8_miles 41 rfl) rfl (by decide) rfl ?_
        refine K_iload_n 1 (kdA dt_MX8_miles 42 rfl) rfl rfl ?_
        refine K_iload_n 3 (kdA dt_MX8_miles 43 rfl) rfl rfl ?_
        refine K_if_eq (tgt := 74) (kdA dt_MX8_miles 44 rfl) rfl (fun _ => ?_) (fun c => absurd (by decide) c)
        refine K_bipush (kdA dt_MX8_miles 47 rfl) (by decide +kernel) ?_
        obtain ⟨c8, h⟩ := h
        refine K_iadd (kdA dt_MX8_miles 48 rfl) c8 ?_
        refine K_istore_n (ls' := [(0, (2, a0)), (1, (0, (a1 + 10))), (2, (0, a2)), (3, (0, 0))]) (kdA dt_MX8_miles 49 rfl) rfl (by decide) rfl ?_
        obtain ⟨c9, h⟩ := h
        refine K_iinc (ls' := [(0, (2, a0)), (1, (0, (a1 + 10))), (2, (0, (a2 + 1))), (3, (0, 0))]) 2 (kdA dt_MX8_miles 50 rfl) rfl c9 (by decide) rfl ?_
        refine K_goto (tgt := 4) (kdA dt_MX8_miles 51 rfl) rfl ?_
        refine K_pick [0, 1, 2] (ls' := [(0, (2, a0)), (1, (0, (a1 + 10))), (2, (0, (a2 + 1)))]) rfl ?_
        exact h
      · have h := h.2 c
        refine K_iconst (kdA dt_MX8_miles 38 rfl) (by decide) ?_
        refine K_goto (tgt := 63) (kdA dt_MX8_miles 39 rfl) rfl ?_
        refine K_istore_n (ls' := [(0, (2, a0)), (1, (0, a1)), (2, (0, a2)), (3, (0, 1))]) (kdA dt_MX8_miles 41 rfl) rfl (by decide) rfl ?_
        refine K_iload_n 1 (kdA dt_MX8_miles 42 rfl) rfl rfl ?_
        refine K_iload_n 3 (kdA dt_MX8_miles 43 rfl) rfl rfl ?_
        refine K_if_eq (tgt := 74) (kdA dt_MX8_miles 44 rfl) rfl (fun c => absurd c (by decide)) (fun _ => ?_)
        refine K_bipush (kdA dt_MX8_miles 45 rfl) (by decide +kernel) ?_
        refine K_goto (tgt := 76) (kdA dt_MX8_miles 46 rfl) rfl ?_
        obtain ⟨c8, h⟩ := h
        refine K_iadd (kdA dt_MX8_miles 48 rfl) c8 ?_
        refine K_istore_n (ls' := [(0, (2, a0)), (1, (0, (a1 + 14))), (2, (0, a2)), (3, (0, 1))]) (kdA dt_MX8_miles 49 rfl) rfl (by decide) rfl ?_
        obtain ⟨c9, h⟩ := h
        refine K_iinc (ls' := [(0, (2, a0)), (1, (0, (a1 + 14))), (2, (0, (a2 + 1))), (3, (0, 1))]) 2 (kdA dt_MX8_miles 50 rfl) rfl c9 (by decide) rfl ?_
        refine K_goto (tgt := 4) (kdA dt_MX8_miles 51 rfl) rfl ?_
        refine K_pick [0, 1, 2] (ls' := [(0, (2, a0)), (1, (0, (a1 + 14))), (2, (0, (a2 + 1)))]) rfl ?_
        exact h
theorem EX8_miles {d n : Nat} {Q : Int → kS → Prop} {a0 : Int} {σ : kS} (h : kokw n σ → LX8_miles_0 d n Q a0 σ) : Ci (d + 1) MX8_miles [(2, a0)] n σ Q := Tri_of (by decide +kernel) (Nat.le_of_ble_eq_true rfl) (fun hk hw => h hw)

def LX8_take_0 (d n : Nat) (Q : kS → Prop) (a0 : Int) (a1 : Int) (σ : kS) : Prop := K (d + 1) MX8_take (kPv n Q) (0, 0) 0 [(0, (2, a0)), (1, (2, a1))] [] n σ
theorem SX8_take_0 {d n : Nat} {Q : kS → Prop} {a0 a1 : Int} {σ : kS} (h : isO 8 n a1 ∧ (isO 8 n a0 ∧ (isA 20 n (σ a0 0) ∧ (Ci d MJm_min [(0, (σ a1 1)), (0, (klen (σ a0 0)))] n σ (fun x4 s1 => isA 20 n (s1 a1 0) ∧ (isA 20 n (s1 a0 0) ∧ ((kN ≤ n ∧ (s1 a1 0) ≠ (s1 a0 0) ∧ ((0 : Int) ≤ 0 ∧ (0 : Int) ≤ 0 ∧ (0 : Int) ≤ x4) ∧ 0 + x4 ≤ klen (s1 a1 0) ∧ 0 + x4 ≤ klen (s1 a0 0)) ∧ (∀ s2, s2 = kcpy s1 (s1 a1 0) 0 (s1 a0 0) 0 x4 → ∀ s3, s3 = kst s2 a0 1 x4 → Q s3)))))))) : LX8_take_0 d n Q a0 a1 σ := by
  unfold LX8_take_0
  refine K_aload_n 1 (kdA dt_MX8_take 0 rfl) rfl rfl ?_
  obtain ⟨c1, h⟩ := h
  refine gf8_21 rfl (kdA dt_MX8_take 1 rfl) c1 ?_
  refine K_aload_n 0 (kdA dt_MX8_take 2 rfl) rfl rfl ?_
  obtain ⟨c2, h⟩ := h
  refine gf8_15 rfl (kdA dt_MX8_take 3 rfl) c2 ?_
  obtain ⟨c3, h⟩ := h
  refine K_alen (kdA dt_MX8_take 4 rfl) (by decide) c3 ?_
  refine K_cSi (as := [(0, (σ a1 1)), (0, (klen (σ a0 0)))]) (st := []) (kdA dt_MX8_take 5 rfl) cl_MJm_min lk8_29 rfl rfl (Nat.le_of_ble_eq_true rfl) (Ci.mono h (fun x4 s1 h => ?_))
  refine K_istore_n (ls' := [(0, (2, a0)), (1, (2, a1)), (2, (0, x4))]) (kdA dt_MX8_take 6 rfl) rfl (by decide) rfl ?_
  refine K_aload_n 1 (kdA dt_MX8_take 7 rfl) rfl rfl ?_
  refine gf8_15 rfl (kdA dt_MX8_take 8 rfl) c1 ?_
  refine K_iconst (kdA dt_MX8_take 9 rfl) (by decide) ?_
  refine K_aload_n 0 (kdA dt_MX8_take 10 rfl) rfl rfl ?_
  refine gf8_15 rfl (kdA dt_MX8_take 11 rfl) c2 ?_
  refine K_iconst (kdA dt_MX8_take 12 rfl) (by decide) ?_
  refine K_iload_n 2 (kdA dt_MX8_take 13 rfl) rfl rfl ?_
  obtain ⟨c5, h⟩ := h
  obtain ⟨c6, h⟩ := h
  obtain ⟨c7, h⟩ := h
  refine K_acopy (kdA dt_MX8_take 14 rfl) (tb3 213 rfl rfl) c5 c6 c7 (Nat.le_of_ble_eq_true rfl) (fun s2 es2 => ?_)
  have h := h s2 es2
  refine K_aload_n 0 (kdA dt_MX8_take 15 rfl) rfl rfl ?_
  refine K_iload_n 2 (kdA dt_MX8_take 16 rfl) rfl rfl ?_
  refine pf8_21 rfl (kdA dt_MX8_take 17 rfl) c2 (fun s3 es3 => ?_)
  have h := h s3 es3
  exact K_return (kdA dt_MX8_take 18 rfl) rfl ⟨rfl, rfl, h⟩
theorem EX8_take {d n : Nat} {Q : kS → Prop} {a0 a1 : Int} {σ : kS} (h : kokw n σ → LX8_take_0 d n Q a0 a1 σ) : Cv (d + 1) MX8_take [(2, a0), (2, a1)] n σ Q := Tri_of (by decide +kernel) (Nat.le_of_ble_eq_true rfl) (fun hk hw => h hw)

def LX8_turns_0 (d n : Nat) (Q : Int → kS → Prop) (a0 : Int) (σ : kS) : Prop := K (d + 1) MX8_turns (kPi n Q) (0, 0) 0 [(0, (2, a0))] [] n σ
def LX8_turns_4 (d n : Nat) (Q : Int → kS → Prop) (a0 : Int) (a1 : Int) (a2 : Int) (σ : kS) : Prop := K (d + 1) MX8_turns (kPi n Q) (0, 0) 4 [(0, (2, a0)), (1, (0, a1)), (2, (0, a2))] [] n σ
theorem SX8_turns_0 {d n : Nat} {Q : Int → kS → Prop} {a0 : Int} {σ : kS} (h : LX8_turns_4 d n Q a0 0 2 σ) : LX8_turns_0 d n Q a0 σ := by
  unfold LX8_turns_0
  refine K_iconst (kdA dt_MX8_turns 0 rfl) (by decide) ?_
  refine K_istore_n (ls' := [(0, (2, a0)), (1, (0, 0))]) (kdA dt_MX8_turns 1 rfl) rfl (by decide) rfl ?_
  refine K_iconst (kdA dt_MX8_turns 2 rfl) (by decide) ?_
  refine K_istore_n (ls' := [(0, (2, a0)), (1, (0, 0)), (2, (0, 2))]) (kdA dt_MX8_turns 3 rfl) rfl (by decide) rfl ?_
  exact h
theorem SX8_turns_4 {d n : Nat} {Q : Int → kS → Prop} {a0 a1 a2 : Int} {σ : kS} (h : isO 8 n a0 ∧ (((σ a0 1) ≤ a2 → Q a1 σ) ∧ (¬ (σ a0 1) ≤ a2 → Ci d MX8_turnsAt [(2, a0), (0, a2)] n σ (fun x2 s1 => (x2 = 0 → (-2147483648 ≤ (a2 + 1) ∧ (a2 + 1) ≤ 2147483647) ∧ (LX8_turns_4 d n Q a0 a1 (a2 + 1) s1)) ∧ (¬ x2 = 0 → (-2147483648 ≤ (a1 + 1) ∧ (a1 + 1) ≤ 2147483647) ∧ ((-2147483648 ≤ (a2 + 1) ∧ (a2 + 1) ≤ 2147483647) ∧ (LX8_turns_4 d n Q a0 (a1 + 1) (a2 + 1) s1))))))) : LX8_turns_4 d n Q a0 a1 a2 σ := by
  unfold LX8_turns_4
  refine K_iload_n 2 (kdA dt_MX8_turns 4 rfl) rfl rfl ?_
  refine K_aload_n 0 (kdA dt_MX8_turns 5 rfl) rfl rfl ?_
  obtain ⟨c1, h⟩ := h
  refine gf8_21 rfl (kdA dt_MX8_turns 6 rfl) c1 ?_
  refine K_icmp_ge (tgt := 29) (kdA dt_MX8_turns 7 rfl) rfl (fun c => ?_) (fun c => ?_)
  · have h := h.1 c
    refine K_iload_n 1 (kdA dt_MX8_turns 15 rfl) rfl rfl ?_
    exact K_ireturn (kdA dt_MX8_turns 16 rfl) rfl ⟨rfl, _, rfl, h⟩
  · have h := h.2 c
    refine K_aload_n 0 (kdA dt_MX8_turns 8 rfl) rfl rfl ?_
    refine K_iload_n 2 (kdA dt_MX8_turns 9 rfl) rfl rfl ?_
    refine K_cVi (c := 8) (as := [(0, a2)]) (st := []) (kdA dt_MX8_turns 10 rfl) rfl cl_MX8_turnsAt lk8_45 rfl rfl (Nat.le_of_ble_eq_true rfl) c1 (Ci.mono h (fun x2 s1 h => ?_))
    refine K_if_eq (tgt := 23) (kdA dt_MX8_turns 11 rfl) rfl (fun c => ?_) (fun c => ?_)
    · have h := h.1 c
      obtain ⟨c3, h⟩ := h
      refine K_iinc (ls' := [(0, (2, a0)), (1, (0, a1)), (2, (0, (a2 + 1)))]) 2 (kdA dt_MX8_turns 13 rfl) rfl c3 (by decide) rfl ?_
      refine K_goto (tgt := 4) (kdA dt_MX8_turns 14 rfl) rfl ?_
      exact h
    · have h := h.2 c
      obtain ⟨c3, h⟩ := h
      refine K_iinc (ls' := [(0, (2, a0)), (1, (0, (a1 + 1))), (2, (0, a2))]) 1 (kdA dt_MX8_turns 12 rfl) rfl c3 (by decide) rfl ?_
      obtain ⟨c4, h⟩ := h
      refine K_iinc (ls' := [(0, (2, a0)), (1, (0, (a1 + 1))), (2, (0, (a2 + 1)))]) 2 (kdA dt_MX8_turns 13 rfl) rfl c4 (by decide) rfl ?_
      refine K_goto (tgt := 4) (kdA dt_MX8_turns 14 rfl) rfl ?_
      exact h
theorem EX8_turns {d n : Nat} {Q : Int → kS → Prop} {a0 : Int} {σ : kS} (h : kokw n σ → LX8_turns_0 d n Q a0 σ) : Ci (d + 1) MX8_turns [(2, a0)] n σ Q := Tri_of (by decide +kernel) (Nat.le_of_ble_eq_true rfl) (fun hk hw => h hw)

def LX8_turnsAt_0 (d n : Nat) (Q : Int → kS → Prop) (a0 : Int) (a1 : Int) (σ : kS) : Prop := K (d + 1) MX8_turnsAt (kPi n Q) (0, 0) 0 [(0, (2, a0)), (1, (0, a1))] [] n σ
theorem SX8_turnsAt_0 {d n : Nat} {Q : Int → kS → Prop} {a0 a1 : Int} {σ : kS} (h : (a1 < 2 → Q 0 σ) ∧ (¬ a1 < 2 → isO 8 n a0 ∧ ((a1 < (σ a0 1) → isA 20 n (σ a0 0) ∧ (((0 : Int) ≤ a1 ∧ a1 < klen (σ a0 0)) ∧ (((0 : Int) ≤ (σ (σ a0 0) a1)) ∧ ((-2147483648 ≤ (a1 - 1) ∧ (a1 - 1) ≤ 2147483647) ∧ (((0 : Int) ≤ (a1 - 1) ∧ (a1 - 1) < klen (σ a0 0)) ∧ (((0 : Int) ≤ (σ (σ a0 0) (a1 - 1))) ∧ ((-2147483648 ≤ (((σ (σ a0 0) a1) % 12) - ((σ (σ a0 0) (a1 - 1)) % 12)) ∧ (((σ (σ a0 0) a1) % 12) - ((σ (σ a0 0) (a1 - 1)) % 12)) ≤ 2147483647) ∧ ((-2147483648 ≤ (((σ (σ a0 0) a1) / 12) - ((σ (σ a0 0) (a1 - 1)) / 12)) ∧ (((σ (σ a0 0) a1) / 12) - ((σ (σ a0 0) (a1 - 1)) / 12)) ≤ 2147483647) ∧ ((-2147483648 ≤ (a1 - 2) ∧ (a1 - 2) ≤ 2147483647) ∧ (((0 : Int) ≤ (a1 - 2) ∧ (a1 - 2) < klen (σ a0 0)) ∧ (((0 : Int) ≤ (σ (σ a0 0) (a1 - 2))) ∧ ((-2147483648 ≤ (((σ (σ a0 0) (a1 - 1)) % 12) - ((σ (σ a0 0) (a1 - 2)) % 12)) ∧ (((σ (σ a0 0) (a1 - 1)) % 12) - ((σ (σ a0 0) (a1 - 2)) % 12)) ≤ 2147483647) ∧ ((-2147483648 ≤ (((σ (σ a0 0) (a1 - 1)) / 12) - ((σ (σ a0 0) (a1 - 2)) / 12)) ∧ (((σ (σ a0 0) (a1 - 1)) / 12) - ((σ (σ a0 0) (a1 - 2)) / 12)) ≤ 2147483647) ∧ ((¬ (((σ (σ a0 0) a1) % 12) - ((σ (σ a0 0) (a1 - 1)) % 12)) = (((σ (σ a0 0) (a1 - 1)) % 12) - ((σ (σ a0 0) (a1 - 2)) % 12)) → Q 1 σ) ∧ (¬ (¬ (((σ (σ a0 0) a1) % 12) - ((σ (σ a0 0) (a1 - 1)) % 12)) = (((σ (σ a0 0) (a1 - 1)) % 12) - ((σ (σ a0 0) (a1 - 2)) % 12))) → ((((σ (σ a0 0) a1) / 12) - ((σ (σ a0 0) (a1 - 1)) / 12)) = (((σ (σ a0 0) (a1 - 1)) / 12) - ((σ (σ a0 0) (a1 - 2)) / 12)) → Q 0 σ) ∧ (¬ (((σ (σ a0 0) a1) / 12) - ((σ (σ a0 0) (a1 - 1)) / 12)) = (((σ (σ a0 0) (a1 - 1)) / 12) - ((σ (σ a0 0) (a1 - 2)) / 12)) → Q 1 σ)))))))))))))))) ∧ (¬ a1 < (σ a0 1) → Q 0 σ)))) : LX8_turnsAt_0 d n Q a0 a1 σ := by
  unfold LX8_turnsAt_0
  refine K_iload_n 1 (kdA dt_MX8_turnsAt 0 rfl) rfl rfl ?_
  refine K_iconst (kdA dt_MX8_turnsAt 1 rfl) (by decide) ?_
  refine K_icmp_lt (tgt := 13) (kdA dt_MX8_turnsAt 2 rfl) rfl (fun c => ?_) (fun c => ?_)
  · have h := h.1 c
    refine K_iconst (kdA dt_MX8_turnsAt 7 rfl) (by decide) ?_
    exact K_zreturn (kdA dt_MX8_turnsAt 8 rfl) rfl (Or.inl rfl) ⟨rfl, _, rfl, h⟩
  · have h := h.2 c
    refine K_iload_n 1 (kdA dt_MX8_turnsAt 3 rfl) rfl rfl ?_
    refine K_aload_n 0 (kdA dt_MX8_turnsAt 4 rfl) rfl rfl ?_
    obtain ⟨c1, h⟩ := h
    refine gf8_21 rfl (kdA dt_MX8_turnsAt 5 rfl) c1 ?_
    refine K_icmp_lt (tgt := 15) (kdA dt_MX8_turnsAt 6 rfl) rfl (fun c => ?_) (fun c => ?_)
    · have h := h.1 c
      refine K_aload_n 0 (kdA dt_MX8_turnsAt 9 rfl) rfl rfl ?_
      refine gf8_15 rfl (kdA dt_MX8_turnsAt 10 rfl) c1 ?_
      refine K_iload_n 1 (kdA dt_MX8_turnsAt 11 rfl) rfl rfl ?_
      obtain ⟨c2, h⟩ := h
      obtain ⟨c3, h⟩ := h
      refine K_iaload (kdA dt_MX8_turnsAt 12 rfl) c2 c3.1 c3.2 ?_
      refine K_bipush (kdA dt_MX8_turnsAt 13 rfl) (by decide +kernel) ?_
      obtain ⟨c4, h⟩ := h
      refine K_irem (kdA dt_MX8_turnsAt 14 rfl) c4 (by decide) ?_
      refine K_aload_n 0 (kdA dt_MX8_turnsAt 15 rfl) rfl rfl ?_
      refine gf8_15 rfl (kdA dt_MX8_turnsAt 16 rfl) c1 ?_
      refine K_iload_n 1 (kdA dt_MX8_turnsAt 17 rfl) rfl rfl ?_
      refine K_iconst (kdA dt_MX8_turnsAt 18 rfl) (by decide) ?_
      obtain ⟨c5, h⟩ := h
      refine K_isub (kdA dt_MX8_turnsAt 19 rfl) c5 ?_
      obtain ⟨c6, h⟩ := h
      refine K_iaload (kdA dt_MX8_turnsAt 20 rfl) c2 c6.1 c6.2 ?_
      refine K_bipush (kdA dt_MX8_turnsAt 21 rfl) (by decide +kernel) ?_
      obtain ⟨c7, h⟩ := h
      refine K_irem (kdA dt_MX8_turnsAt 22 rfl) c7 (by decide) ?_
      obtain ⟨c8, h⟩ := h
      refine K_isub (kdA dt_MX8_turnsAt 23 rfl) c8 ?_
      refine K_istore_n (ls' := [(0, (2, a0)), (1, (0, a1)), (2, (0, (((σ (σ a0 0) a1) % 12) - ((σ (σ a0 0) (a1 - 1)) % 12))))]) (kdA dt_MX8_turnsAt 24 rfl) rfl (by decide) rfl ?_
      refine K_aload_n 0 (kdA dt_MX8_turnsAt 25 rfl) rfl rfl ?_
      refine gf8_15 rfl (kdA dt_MX8_turnsAt 26 rfl) c1 ?_
      refine K_iload_n 1 (kdA dt_MX8_turnsAt 27 rfl) rfl rfl ?_
      refine K_iaload (kdA dt_MX8_turnsAt 28 rfl) c2 c3.1 c3.2 ?_
      refine K_bipush (kdA dt_MX8_turnsAt 29 rfl) (by decide +kernel) ?_
      refine K_idiv (kdA dt_MX8_turnsAt 30 rfl) c4 (by decide) ?_
      refine K_aload_n 0 (kdA dt_MX8_turnsAt 31 rfl) rfl rfl ?_
      refine gf8_15 rfl (kdA dt_MX8_turnsAt 32 rfl) c1 ?_
      refine K_iload_n 1 (kdA dt_MX8_turnsAt 33 rfl) rfl rfl ?_
      refine K_iconst (kdA dt_MX8_turnsAt 34 rfl) (by decide) ?_
      refine K_isub (kdA dt_MX8_turnsAt 35 rfl) c5 ?_
      refine K_iaload (kdA dt_MX8_turnsAt 36 rfl) c2 c6.1 c6.2 ?_
      refine K_bipush (kdA dt_MX8_turnsAt 37 rfl) (by decide +kernel) ?_
      refine K_idiv (kdA dt_MX8_turnsAt 38 rfl) c7 (by decide) ?_
      obtain ⟨c9, h⟩ := h
      refine K_isub (kdA dt_MX8_turnsAt 39 rfl) c9 ?_
      refine K_istore_n (ls' := [(0, (2, a0)), (1, (0, a1)), (2, (0, (((σ (σ a0 0) a1) % 12) - ((σ (σ a0 0) (a1 - 1)) % 12)))), (3, (0, (((σ (σ a0 0) a1) / 12) - ((σ (σ a0 0) (a1 - 1)) / 12))))]) (kdA dt_MX8_turnsAt 40 rfl) rfl (by decide) rfl ?_
      refine K_aload_n 0 (kdA dt_MX8_turnsAt 41 rfl) rfl rfl ?_
      refine gf8_15 rfl (kdA dt_MX8_turnsAt 42 rfl) c1 ?_
      refine K_iload_n 1 (kdA dt_MX8_turnsAt 43 rfl) rfl rfl ?_
      refine K_iconst (kdA dt_MX8_turnsAt 44 rfl) (by decide) ?_
      refine K_isub (kdA dt_MX8_turnsAt 45 rfl) c5 ?_
      refine K_iaload (kdA dt_MX8_turnsAt 46 rfl) c2 c6.1 c6.2 ?_
      refine K_bipush (kdA dt_MX8_turnsAt 47 rfl) (by decide +kernel) ?_
      refine K_irem (kdA dt_MX8_turnsAt 48 rfl) c7 (by decide) ?_
      refine K_aload_n 0 (kdA dt_MX8_turnsAt 49 rfl) rfl rfl ?_
      refine gf8_15 rfl (kdA dt_MX8_turnsAt 50 rfl) c1 ?_
      refine K_iload_n 1 (kdA dt_MX8_turnsAt 51 rfl) rfl rfl ?_
      refine K_iconst (kdA dt_MX8_turnsAt 52 rfl) (by decide) ?_
      obtain ⟨c10, h⟩ := h
      refine K_isub (kdA dt_MX8_turnsAt 53 rfl) c10 ?_
      obtain ⟨c11, h⟩ := h
      refine K_iaload (kdA dt_MX8_turnsAt 54 rfl) c2 c11.1 c11.2 ?_
      refine K_bipush (kdA dt_MX8_turnsAt 55 rfl) (by decide +kernel) ?_
      obtain ⟨c12, h⟩ := h
      refine K_irem (kdA dt_MX8_turnsAt 56 rfl) c12 (by decide) ?_
      obtain ⟨c13, h⟩ := h
      refine K_isub (kdA dt_MX8_turnsAt 57 rfl) c13 ?_
      refine K_istore (ls' := [(0, (2, a0)), (1, (0, a1)), (2, (0, (((σ (σ a0 0) a1) % 12) - ((σ (σ a0 0) (a1 - 1)) % 12)))), (3, (0, (((σ (σ a0 0) a1) / 12) - ((σ (σ a0 0) (a1 - 1)) / 12)))), (4, (0, (((σ (σ a0 0) (a1 - 1)) % 12) - ((σ (σ a0 0) (a1 - 2)) % 12))))]) (kdA dt_MX8_turnsAt 58 rfl) (by decide) rfl ?_
      refine K_aload_n 0 (kdA dt_MX8_turnsAt 59 rfl) rfl rfl ?_
      refine gf8_15 rfl (kdA dt_MX8_turnsAt 60 rfl) c1 ?_
      refine K_iload_n 1 (kdA dt_MX8_turnsAt 61 rfl) rfl rfl ?_
      refine K_iconst (kdA dt_MX8_turnsAt 62 rfl) (by decide) ?_
      refine K_isub (kdA dt_MX8_turnsAt 63 rfl) c5 ?_
      refine K_iaload (kdA dt_MX8_turnsAt 64 rfl) c2 c6.1 c6.2 ?_
      refine K_bipush (kdA dt_MX8_turnsAt 65 rfl) (by decide +kernel) ?_
      refine K_idiv (kdA dt_MX8_turnsAt 66 rfl) c7 (by decide) ?_
      refine K_aload_n 0 (kdA dt_MX8_turnsAt 67 rfl) rfl rfl ?_
      refine gf8_15 rfl (kdA dt_MX8_turnsAt 68 rfl) c1 ?_
      refine K_iload_n 1 (kdA dt_MX8_turnsAt 69 rfl) rfl rfl ?_
      refine K_iconst (kdA dt_MX8_turnsAt 70 rfl) (by decide) ?_
      refine K_isub (kdA dt_MX8_turnsAt 71 rfl) c10 ?_
      refine K_iaload (kdA dt_MX8_turnsAt 72 rfl) c2 c11.1 c11.2 ?_
      refine K_bipush (kdA dt_MX8_turnsAt 73 rfl) (by decide +kernel) ?_
      refine K_idiv (kdA dt_MX8_turnsAt 74 rfl) c12 (by decide) ?_
      obtain ⟨c14, h⟩ := h
      refine K_isub (kdA dt_MX8_turnsAt 75 rfl) c14 ?_
      refine K_istore (ls' := [(0, (2, a0)), (1, (0, a1)), (2, (0, (((σ (σ a0 0) a1) % 12) - ((σ (σ a0 0) (a1 - 1)) % 12)))), (3, (0, (((σ (σ a0 0) a1) / 12) - ((σ (σ a0 0) (a1 - 1)) / 12)))), (4, (0, (((σ (σ a0 0) (a1 - 1)) % 12) - ((σ (σ a0 0) (a1 - 2)) % 12)))), (5, (0, (((σ (σ a0 0) (a1 - 1)) / 12) - ((σ (σ a0 0) (a1 - 2)) / 12))))]) (kdA dt_MX8_turnsAt 76 rfl) (by decide) rfl ?_
      refine K_iload_n 2 (kdA dt_MX8_turnsAt 77 rfl) rfl rfl ?_
      refine K_iload 4 (kdA dt_MX8_turnsAt 78 rfl) rfl ?_
      refine K_icmp_ne (tgt := 121) (kdA dt_MX8_turnsAt 79 rfl) rfl (fun c => ?_) (fun c => ?_)
      · have h := h.1 c
        refine K_iconst (kdA dt_MX8_turnsAt 83 rfl) (by decide) ?_
        refine K_goto (tgt := 126) (kdA dt_MX8_turnsAt 84 rfl) rfl ?_
        exact K_zreturn (kdA dt_MX8_turnsAt 86 rfl) rfl (Or.inr rfl) ⟨rfl, _, rfl, h⟩
      · have h := h.2 c
        refine K_iload_n 3 (kdA dt_MX8_turnsAt 80 rfl) rfl rfl ?_
        refine K_iload 5 (kdA dt_MX8_turnsAt 81 rfl) rfl ?_
        refine K_icmp_eq (tgt := 125) (kdA dt_MX8_turnsAt 82 rfl) rfl (fun c => ?_) (fun c => ?_)
        · have h := h.1 c
          refine K_iconst (kdA dt_MX8_turnsAt 85 rfl) (by decide) ?_
          exact K_zreturn (kdA dt_MX8_turnsAt 86 rfl) rfl (Or.inl rfl) ⟨rfl, _, rfl, h⟩
        · have h := h.2 c
          refine K_iconst (kdA dt_MX8_turnsAt 83 rfl) (by decide) ?_
          refine K_goto (tgt := 126) (kdA dt_MX8_turnsAt 84 rfl) rfl ?_
          exact K_zreturn (kdA dt_MX8_turnsAt 86 rfl) rfl (Or.inr rfl) ⟨rfl, _, rfl, h⟩
    · have h := h.2 c
      refine K_iconst (kdA dt_MX8_turnsAt 7 rfl) (by decide) ?_
      exact K_zreturn (kdA dt_MX8_turnsAt 8 rfl) rfl (Or.inl rfl) ⟨rfl, _, rfl, h⟩
theorem EX8_turnsAt {d n : Nat} {Q : Int → kS → Prop} {a0 a1 : Int} {σ : kS} (h : (-2147483648 ≤ a1 ∧ a1 ≤ 2147483647) → kokw n σ → LX8_turnsAt_0 d n Q a0 a1 σ) : Ci (d + 1) MX8_turnsAt [(2, a0), (0, a1)] n σ Q := Tri_of (by decide +kernel) (Nat.le_of_ble_eq_true rfl) (fun hk hw => h (hk (0, a1) (List.mem_of_getElem? (i := 1) rfl)) hw)
