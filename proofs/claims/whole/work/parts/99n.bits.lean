/-! sets as bits -/
abbrev inB (x k : Int) : Prop := Nat.testBit x.toNat k.toNat = true
def BSet (x : Int) (S : Int → Prop) : Prop := (0 ≤ x ∧ x < 2147483648) ∧ ∀ k, 0 ≤ k → (inB x k ↔ S k)
theorem fin31 {P : Int → Prop} (h : ∀ x : Fin 31, P (x : Nat)) {x : Int} (hx : 0 ≤ x ∧ x < 31) : P x := by
  have := h ⟨x.toNat, by omega⟩
  rwa [show (((⟨x.toNat, by omega⟩ : Fin 31) : Nat) : Int) = x by show ((x.toNat : Nat) : Int) = x; omega] at this
def p2 (j : Int) : Nat := 2 ^ j.toNat
theorem p2_le {j : Int} (hj : 0 ≤ j ∧ j < 31) : 1 ≤ p2 j ∧ p2 j ≤ 1073741824 := by
  unfold p2
  exact ⟨Nat.one_le_two_pow, Nat.pow_le_pow_right (j := 30) (by decide) (by omega)⟩
theorem kishl_1 {j : Int} (hj : 0 ≤ j ∧ j < 31) : kishl 1 j = (p2 j : Int) := fin31 (P := fun j => kishl 1 j = (p2 j : Int)) (by decide +kernel) hj
theorem kor_nat {x y : Int} (hx : 0 ≤ x ∧ x < 2147483648) (hy : 0 ≤ y ∧ y < 2147483648) : kor x y = ((x.toNat ||| y.toNat : Nat) : Int) ∧ (x.toNat ||| y.toNat) < 2147483648 := by
  have e : kor x y = ((Int32.ofInt x).toBitVec ||| (Int32.ofInt y).toBitVec).toInt := rfl
  have hX := b32_nat (x := x) (by omega)
  have hY := b32_nat (x := y) (by omega)
  have eX : (Int32.ofInt x).toBitVec.toNat = x.toNat := by omega
  have eY : (Int32.ofInt y).toBitVec.toNat = y.toNat := by omega
  have hl : (x.toNat ||| y.toNat) < 2 ^ 31 := Nat.or_lt_two_pow (by show x.toNat < 2147483648; omega) (by show y.toNat < 2147483648; omega)
  have hl' : (x.toNat ||| y.toNat) < 2147483648 := hl
  have hn : ((Int32.ofInt x).toBitVec ||| (Int32.ofInt y).toBitVec).toNat = x.toNat ||| y.toNat := by rw [BitVec.toNat_or, eX, eY]
  rw [e, BitVec.toInt_eq_toNat_cond, hn, if_pos (by omega)]
  exact ⟨rfl, hl'⟩
theorem kand_1 {x : Int} (hx : 0 ≤ x ∧ x ≤ 2147483647) : kand x 1 = x % 2 := by
  have e : kand x 1 = ((Int32.ofInt x).toBitVec &&& (Int32.ofInt 1).toBitVec).toInt := rfl
  have e2 : ((Int32.ofInt 1).toBitVec).toNat = 2 ^ 1 - 1 := by decide
  have h1 : ((Int32.ofInt x).toBitVec &&& (Int32.ofInt 1).toBitVec).toNat = (Int32.ofInt x).toBitVec.toNat % 2 := by
    rw [BitVec.toNat_and, e2, Nat.and_two_pow_sub_one_eq_mod]
  have hN := b32_nat (x := x) (by omega)
  rw [e, BitVec.toInt_eq_toNat_cond, if_pos (by omega)]
  omega
theorem kbit {x k : Int} (hx : 0 ≤ x ∧ x < 2147483648) (hk : 0 ≤ k ∧ k < 31) : kand (kishr x k) 1 = if inB x k then 1 else 0 := by
  have hs := fin31 (P := fun k => ((Int32.ofInt k &&& 31).toBitVec.smod 32).toNat = k.toNat) (by decide +kernel) hk
  have h1 : kishr x k = x / ((p2 k : Nat) : Int) := shr_gen (by omega) hs rfl
  have h2 : x / ((p2 k : Nat) : Int) = ((x.toNat / p2 k : Nat) : Int) := by
    rw [Int.natCast_ediv, k_toNat hx.1]
  have h3 : x.toNat / p2 k ≤ x.toNat := Nat.div_le_self _ _
  unfold inB
  rw [h1, h2, Nat.testBit_eq_decide_div_mod_eq]
  show kand _ 1 = if decide (x.toNat / p2 k % 2 = 1) = true then 1 else 0
  generalize x.toNat / p2 k = y at *
  rw [kand_1 (by omega)]
  by_cases c : y % 2 = 1
  · rw [if_pos (by rw [c]; rfl)]
    omega
  · rw [if_neg (by rw [decide_eq_true_eq]; exact c)]
    omega
theorem inB_or {x j k : Int} (hx : 0 ≤ x ∧ x < 2147483648) (hj : 0 ≤ j ∧ j < 31) (hk : 0 ≤ k) : (0 ≤ kor x (kishl 1 j) ∧ kor x (kishl 1 j) < 2147483648) ∧ (inB (kor x (kishl 1 j)) k ↔ inB x k ∨ k = j) := by
  have h1 := kishl_1 hj
  have h2 := p2_le hj
  have h3 := kor_nat (x := x) (y := kishl 1 j) hx (by rw [h1]; omega)
  have h4 : (kishl 1 j).toNat = p2 j := by omega
  rw [h4] at h3
  refine ⟨by omega, ?_⟩
  unfold inB
  rw [show (kor x (kishl 1 j)).toNat = x.toNat ||| p2 j by omega, p2, Nat.testBit_or, Nat.testBit_two_pow, Bool.or_eq_true, decide_eq_true_eq]
  constructor
  · rintro (h | h)
    · exact Or.inl h
    · exact Or.inr (by omega)
  · rintro (h | h)
    · exact Or.inl h
    · exact Or.inr (by rw [h])
theorem BSet.add {x j : Int} {S : Int → Prop} (h : BSet x S) (hj : 0 ≤ j ∧ j < 31) : BSet (kor x (kishl 1 j)) (fun k => S k ∨ k = j) :=
  ⟨(inB_or h.1 hj (Int.le_refl 0)).1, fun k hk => (inB_or h.1 hj hk).2.trans ⟨fun z => z.imp (h.2 k hk).mp id, fun z => z.imp (h.2 k hk).mpr id⟩⟩
theorem kor_assoc {x y z : Int} (hx : 0 ≤ x ∧ x < 2147483648) (hy : 0 ≤ y ∧ y < 2147483648) (hz : 0 ≤ z ∧ z < 2147483648) : kor x (kor y z) = kor (kor x y) z := by
  have h1 := kor_nat hy hz
  have h2 := kor_nat hx hy
  have h3 := kor_nat (x := x) (y := kor y z) hx (by omega)
  have h4 := kor_nat (x := kor x y) (y := z) (by omega) hz
  rw [h3.1, h4.1, h1.1, h2.1, Int.toNat_natCast, Int.toNat_natCast, Nat.or_assoc]
theorem BSet.add2 {x u v : Int} {S : Int → Prop} (h : BSet x S) (hu : 0 ≤ u ∧ u < 31) (hv : 0 ≤ v ∧ v < 31) : BSet (kor x (kor (kishl 1 u) (kishl 1 v))) (fun k => (S k ∨ k = u) ∨ k = v) := by
  have b : ∀ j, 0 ≤ j ∧ j < 31 → 0 ≤ kishl 1 j ∧ kishl 1 j < 2147483648 := fun j hj => by
    have h1 := kishl_1 hj
    have h2 := p2_le hj
    omega
  rw [kor_assoc h.1 (b u hu) (b v hv)]
  exact (h.add hu).add hv
theorem BSet.one {a : Int} (ha : 0 ≤ a ∧ a < 31) : BSet (kishl 1 a) (fun k => k = a) := by
  have h1 := kishl_1 ha
  have h2 := p2_le ha
  refine ⟨by omega, fun k hk => ?_⟩
  unfold inB
  rw [show (kishl 1 a).toNat = p2 a by omega, p2, Nat.testBit_two_pow, decide_eq_true_eq]
  omega
theorem BSet.t {x k : Int} {S : Int → Prop} (h : BSet x S) (hk : 0 ≤ k ∧ k < 31) : kand (kishr x k) 1 = cif (S k) 1 0 := by
  rw [kbit h.1 hk]
  by_cases c : inB x k
  · rw [if_pos c, cif_pos ((h.2 k hk.1).mp c)]
  · rw [if_neg c, cif_neg (fun z => c ((h.2 k hk.1).mpr z))]
theorem BSet.cong {x : Int} {S S' : Int → Prop} (h : BSet x S) (hs : ∀ k, 0 ≤ k → (S k ↔ S' k)) : BSet x S' := ⟨h.1, fun k hk => (h.2 k hk).trans (hs k hk)⟩
theorem BSet.full {x m : Int} {S : Int → Prop} (h : BSet x S) (hm : 0 ≤ m ∧ m ≤ 8) (hS : ∀ k, S k → 0 ≤ k ∧ k < m) : x = kishl 1 m - 1 ↔ ∀ k, 0 ≤ k → k < m → S k := by
  have h1 := kishl_1 (j := m) (by omega)
  have hp := p2_le (j := m) (by omega)
  have e : x = kishl 1 m - 1 ↔ x.toNat = p2 m - 1 := by
    have := h.1
    omega
  rw [e, p2]
  constructor
  · intro hx k k0 k1
    refine (h.2 k k0).mp ?_
    unfold inB
    rw [hx, Nat.testBit_two_pow_sub_one, decide_eq_true_eq]
    omega
  · intro hx
    refine Nat.eq_of_testBit_eq (fun i => ?_)
    rw [Nat.testBit_two_pow_sub_one]
    have hi := h.2 (i : Int) (by omega)
    unfold inB at hi
    rw [show ((i : Int)).toNat = i by omega] at hi
    by_cases c : i < m.toNat
    · rw [decide_eq_true c]
      exact hi.mpr (hx i (by omega) (by omega))
    · rw [decide_eq_false c]
      cases hb : x.toNat.testBit i with
      | false => rfl
      | true =>
        have := hS i (hi.mp hb)
        omega
theorem kor_z {x : Int} (hx : -2147483648 ≤ x ∧ x ≤ 2147483647) : kor x 0 = x := by
  have e : kor x 0 = (Int32.ofInt x ||| 0).toInt := rfl
  rw [e, Int32.or_zero]
  exact k32 hx
theorem bitsF_r {on : Int → Prop} : ∀ p : Nat, -2147483648 ≤ bitsF on p ∧ bitsF on p ≤ 2147483647 := by
  intro p
  induction p with
  | zero => unfold bitsF; omega
  | succ p ih =>
    unfold bitsF
    by_cases c : on p
    · rw [cif_pos c]
      exact k32r _
    · rw [cif_neg c]
      exact ih
