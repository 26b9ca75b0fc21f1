/-! rows of K: division, bits, longs, conversions -/
def kand (a b : Int) : Int := (Int32.ofInt a &&& Int32.ofInt b).toInt
def kor (a b : Int) : Int := (Int32.ofInt a ||| Int32.ofInt b).toInt
def kxor (a b : Int) : Int := (Int32.ofInt a ^^^ Int32.ofInt b).toInt
def kishl (a b : Int) : Int := (Int32.ofInt a <<< (Int32.ofInt b &&& 31)).toInt
def kishr (a b : Int) : Int := (Int32.ofInt a >>> (Int32.ofInt b &&& 31)).toInt
def kiushr (a b : Int) : Int := ((Int32.ofInt a).toUInt32 >>> ((Int32.ofInt b).toUInt32 &&& Int32.toUInt32 31)).toInt32.toInt
def kw64 (x : Int) : Int := (Int64.ofInt x).toInt
def kladd (a b : Int) : Int := (Int64.ofInt a + Int64.ofInt b).toInt
def klsub (a b : Int) : Int := (Int64.ofInt a - Int64.ofInt b).toInt
def klmul (a b : Int) : Int := (Int64.ofInt a * Int64.ofInt b).toInt
def kldiv (a b : Int) : Int := (Int64.ofInt a / Int64.ofInt b).toInt
def klrem (a b : Int) : Int := (Int64.ofInt a - Int64.ofInt a / Int64.ofInt b * Int64.ofInt b).toInt
def kland (a b : Int) : Int := (Int64.ofInt a &&& Int64.ofInt b).toInt
def klor (a b : Int) : Int := (Int64.ofInt a ||| Int64.ofInt b).toInt
def klshl (a b : Int) : Int := (Int64.ofInt a <<< ((Int32.ofInt b).toInt64 &&& 63)).toInt
def klushr (a b : Int) : Int := ((Int64.ofInt a).toUInt64 >>> ((Int32.ofInt b).toInt64.toUInt64 &&& Int64.toUInt64 63)).toInt64.toInt
def klcmp (a b : Int) : Int := if b < a then 1 else if a = b then 0 else -1
def kbyte (a : Int) : Int := (Int32.ofInt a).toInt8.toInt
theorem k32r (x : Int32) : kok (0, x.toInt) := ⟨x.le_toInt, by have := x.toInt_lt; omega⟩
theorem k64r (x : Int64) : kok (1, x.toInt) := ⟨x.le_toInt, by have := x.toInt_lt; omega⟩
theorem k32b {x : Int32} : Int32.ofInt x.toInt = x := Int32.ofInt_toInt x
theorem k64b {x : Int64} : Int64.ofInt x.toInt = x := Int64.ofInt_toInt x
theorem k32_inj {x y : Int32} (h : x.toInt = y.toInt) : x = y := Int32.toInt_inj.mp h
theorem k64_inj {x y : Int64} (h : x.toInt = y.toInt) : x = y := Int64.toInt_inj.mp h
theorem k32_div {a b : Int} (ha : kok (0, a)) (hb : kok (0, b)) (h : kok (0, Int.tdiv a b)) : Int32.ofInt a / Int32.ofInt b = Int32.ofInt (Int.tdiv a b) := by
  apply k32_inj
  rw [Int32.toInt_div, k32 ha, k32 hb, k32 h]
  have h' : -2147483648 ≤ Int.tdiv a b ∧ Int.tdiv a b ≤ 2147483647 := h
  show Int.bmod _ 4294967296 = _
  exact Int.bmod_eq_of_le (by omega) (by omega)
theorem k64_div {a b : Int} (ha : kok (1, a)) (hb : kok (1, b)) (h : kok (1, Int.tdiv a b)) : Int64.ofInt a / Int64.ofInt b = Int64.ofInt (Int.tdiv a b) := by
  apply k64_inj
  rw [Int64.toInt_div, k64 ha, k64 hb, k64 h]
  have h' : -9223372036854775808 ≤ Int.tdiv a b ∧ Int.tdiv a b ≤ 9223372036854775807 := h
  show Int.bmod _ 18446744073709551616 = _
  exact Int.bmod_eq_of_le (by omega) (by omega)
theorem k_tdiv {a b : Int} (ha : 0 ≤ a) : Int.tdiv a b = a / b := Int.tdiv_eq_ediv_of_nonneg ha
theorem k_divle {a b : Int} (ha : 0 ≤ a) (hb : 0 < b) : 0 ≤ a / b ∧ a / b ≤ a := ⟨Int.ediv_nonneg ha (by omega), Int.ediv_le_self b ha⟩
theorem k32_ne0 {y : Int} (hy : kok (0, y)) (h : y ≠ 0) : ¬ Int32.ofInt y = 0 := fun e => h ((k32_eq hy k0ok).mp (by rw [e]; rfl))
theorem k64_ne0 {y : Int} (hy : kok (1, y)) (h : y ≠ 0) : ¬ Int64.ofInt y = 0 := fun e => h ((k64_eq hy (show kok (1, 0) from ⟨by decide, by decide⟩)).mp (by rw [e]; rfl))
section KP
variable {d : Nat} {M : kM} {Post : Option kV → Nat → kS → Prop} {b : Nat × Nat} {pc : Nat} {ls : List (Nat × kV)} {st : List kV} {n : Nat} {σ : kS}
/-- nothing below 0 -/
theorem K_idiv {x y : Int} (hd : decode M.2.1 pc = .ok (.idiv, 1)) (hx : 0 ≤ x) (hy : 0 < y) (k : K d M Post b (pc + 1) ls ((0, x / y) :: st) n σ) : K d M Post b pc ls ((0, y) :: (0, x) :: st) n σ := by
  have hq : (∀ v ∈ (0, y) :: (0, x) :: st, kok v) → kok (0, x / y) := fun h => by
    have h1 : -2147483648 ≤ x ∧ x ≤ 2147483647 := kh2 h
    have h2 := k_divle hx hy
    exact ⟨by omega, by omega⟩
  refine K_op (st' := (0, x / y) :: st) (fun h => khc (hq h) (kht (kht h))) (fun p l e R s m args below meth c X H locs cells slots Q arr hF hl h kk => lv_idiv hF.1 hF.2.1 hd (k32_ne0 (kh1 h) (by omega)) ?_) k
  rw [k32_div (kh2 h) (kh1 h) (by rw [k_tdiv hx]; exact hq h), k_tdiv hx]
  exact kk
theorem K_irem {x y : Int} (hd : decode M.2.1 pc = .ok (.irem, 1)) (hx : 0 ≤ x) (hy : 0 < y) (k : K d M Post b (pc + 1) ls ((0, x % y) :: st) n σ) : K d M Post b pc ls ((0, y) :: (0, x) :: st) n σ := by
  have hq : (∀ v ∈ (0, y) :: (0, x) :: st, kok v) → kok (0, x / y) := fun h => by
    have h1 : -2147483648 ≤ x ∧ x ≤ 2147483647 := kh2 h
    have h2 := k_divle hx hy
    exact ⟨by omega, by omega⟩
  have hm : (∀ v ∈ (0, y) :: (0, x) :: st, kok v) → kok (0, x % y) := fun h => by
    have h1 : -2147483648 ≤ y ∧ y ≤ 2147483647 := kh1 h
    have h2 := Int.emod_nonneg x (show y ≠ 0 by omega)
    have h3 := Int.emod_lt_of_pos x hy
    exact ⟨by omega, by omega⟩
  refine K_op (st' := (0, x % y) :: st) (fun h => khc (hm h) (kht (kht h))) (fun p l e R s m args below meth c X H locs cells slots Q arr hF hl h kk => lv_irem hF.1 hF.2.1 hd (k32_ne0 (kh1 h) (by omega)) ?_) k
  rw [k32_div (kh2 h) (kh1 h) (by rw [k_tdiv hx]; exact hq h), k_tdiv hx, ← Int32.ofInt_mul, ← Int32.ofInt_sub, show x - x / y * y = x % y by rw [Int.emod_def, Int.mul_comm]]
  exact kk
/-- towards 0 -/
theorem K_idivT {x y : Int} (hd : decode M.2.1 pc = .ok (.idiv, 1)) (hy : y ≠ 0) (hq : kok (0, Int.tdiv x y)) (k : K d M Post b (pc + 1) ls ((0, Int.tdiv x y) :: st) n σ) : K d M Post b pc ls ((0, y) :: (0, x) :: st) n σ := by
  refine K_op (st' := (0, Int.tdiv x y) :: st) (fun h => khc hq (kht (kht h))) (fun p l e R s m args below meth c X H locs cells slots Q arr hF hl h kk => lv_idiv hF.1 hF.2.1 hd (k32_ne0 (kh1 h) hy) ?_) k
  rw [k32_div (kh2 h) (kh1 h) hq]
  exact kk
theorem K_iand {x y : Int} (hd : decode M.2.1 pc = .ok (.iand, 1)) (k : K d M Post b (pc + 1) ls ((0, kand x y) :: st) n σ) : K d M Post b pc ls ((0, y) :: (0, x) :: st) n σ :=
  K_op (st' := (0, kand x y) :: st) (fun h => khc (k32r _) (kht (kht h))) (fun p l e R s m args below meth c X H locs cells slots Q arr hF hl h kk => lv_iand hF.1 hF.2.1 hd (by rw [← k32b (x := _ &&& _)]; exact kk)) k
theorem K_ior {x y : Int} (hd : decode M.2.1 pc = .ok (.ior, 1)) (k : K d M Post b (pc + 1) ls ((0, kor x y) :: st) n σ) : K d M Post b pc ls ((0, y) :: (0, x) :: st) n σ :=
  K_op (st' := (0, kor x y) :: st) (fun h => khc (k32r _) (kht (kht h))) (fun p l e R s m args below meth c X H locs cells slots Q arr hF hl h kk => lv_ior hF.1 hF.2.1 hd (by rw [← k32b (x := _ ||| _)]; exact kk)) k
theorem K_ixor {x y : Int} (hd : decode M.2.1 pc = .ok (.ixor, 1)) (k : K d M Post b (pc + 1) ls ((0, kxor x y) :: st) n σ) : K d M Post b pc ls ((0, y) :: (0, x) :: st) n σ :=
  K_op (st' := (0, kxor x y) :: st) (fun h => khc (k32r _) (kht (kht h))) (fun p l e R s m args below meth c X H locs cells slots Q arr hF hl h kk => lv_ixor hF.1 hF.2.1 hd (by rw [← k32b (x := _ ^^^ _)]; exact kk)) k
theorem K_ishl {x y : Int} (hd : decode M.2.1 pc = .ok (.ishl, 1)) (k : K d M Post b (pc + 1) ls ((0, kishl x y) :: st) n σ) : K d M Post b pc ls ((0, y) :: (0, x) :: st) n σ :=
  K_op (st' := (0, kishl x y) :: st) (fun h => khc (k32r _) (kht (kht h))) (fun p l e R s m args below meth c X H locs cells slots Q arr hF hl h kk => lv_ishl hF.1 hF.2.1 hd (by rw [← k32b (x := _ <<< _)]; exact kk)) k
theorem K_ishr {x y : Int} (hd : decode M.2.1 pc = .ok (.ishr, 1)) (k : K d M Post b (pc + 1) ls ((0, kishr x y) :: st) n σ) : K d M Post b pc ls ((0, y) :: (0, x) :: st) n σ :=
  K_op (st' := (0, kishr x y) :: st) (fun h => khc (k32r _) (kht (kht h))) (fun p l e R s m args below meth c X H locs cells slots Q arr hF hl h kk => lv_ishr hF.1 hF.2.1 hd (by rw [← k32b (x := _ >>> _)]; exact kk)) k
theorem K_iushr {x y : Int} (hd : decode M.2.1 pc = .ok (.iushr, 1)) (k : K d M Post b (pc + 1) ls ((0, kiushr x y) :: st) n σ) : K d M Post b pc ls ((0, y) :: (0, x) :: st) n σ :=
  K_op (st' := (0, kiushr x y) :: st) (fun h => khc (k32r _) (kht (kht h))) (fun p l e R s m args below meth c X H locs cells slots Q arr hF hl h kk => lv_iushr hF.1 hF.2.1 hd k32b.symm kk) k
theorem K_ladd {x y : Int} (hd : decode M.2.1 pc = .ok (.ladd, 1)) (k : K d M Post b (pc + 1) ls ((1, kladd x y) :: st) n σ) : K d M Post b pc ls ((1, y) :: (1, x) :: st) n σ :=
  K_op (st' := (1, kladd x y) :: st) (fun h => khc (k64r _) (kht (kht h))) (fun p l e R s m args below meth c X H locs cells slots Q arr hF hl h kk => lv_ladd hF.1 hF.2.1 hd (by rw [← k64b (x := _ + _)]; exact kk)) k
theorem K_lsub {x y : Int} (hd : decode M.2.1 pc = .ok (.lsub, 1)) (k : K d M Post b (pc + 1) ls ((1, klsub x y) :: st) n σ) : K d M Post b pc ls ((1, y) :: (1, x) :: st) n σ :=
  K_op (st' := (1, klsub x y) :: st) (fun h => khc (k64r _) (kht (kht h))) (fun p l e R s m args below meth c X H locs cells slots Q arr hF hl h kk => lv_lsub hF.1 hF.2.1 hd (by rw [← k64b (x := _ - _)]; exact kk)) k
theorem K_lmul {x y : Int} (hd : decode M.2.1 pc = .ok (.lmul, 1)) (k : K d M Post b (pc + 1) ls ((1, klmul x y) :: st) n σ) : K d M Post b pc ls ((1, y) :: (1, x) :: st) n σ :=
  K_op (st' := (1, klmul x y) :: st) (fun h => khc (k64r _) (kht (kht h))) (fun p l e R s m args below meth c X H locs cells slots Q arr hF hl h kk => lv_lmul hF.1 hF.2.1 hd (by rw [← k64b (x := _ * _)]; exact kk)) k
theorem K_land {x y : Int} (hd : decode M.2.1 pc = .ok (.land, 1)) (k : K d M Post b (pc + 1) ls ((1, kland x y) :: st) n σ) : K d M Post b pc ls ((1, y) :: (1, x) :: st) n σ :=
  K_op (st' := (1, kland x y) :: st) (fun h => khc (k64r _) (kht (kht h))) (fun p l e R s m args below meth c X H locs cells slots Q arr hF hl h kk => lv_land hF.1 hF.2.1 hd (by rw [← k64b (x := _ &&& _)]; exact kk)) k
theorem K_lor {x y : Int} (hd : decode M.2.1 pc = .ok (.lor, 1)) (k : K d M Post b (pc + 1) ls ((1, klor x y) :: st) n σ) : K d M Post b pc ls ((1, y) :: (1, x) :: st) n σ :=
  K_op (st' := (1, klor x y) :: st) (fun h => khc (k64r _) (kht (kht h))) (fun p l e R s m args below meth c X H locs cells slots Q arr hF hl h kk => lv_lor hF.1 hF.2.1 hd (by rw [← k64b (x := _ ||| _)]; exact kk)) k
theorem K_ldiv {x y : Int} (hd : decode M.2.1 pc = .ok (.ldiv, 1)) (hy : y ≠ 0) (k : K d M Post b (pc + 1) ls ((1, kldiv x y) :: st) n σ) : K d M Post b pc ls ((1, y) :: (1, x) :: st) n σ :=
  K_op (st' := (1, kldiv x y) :: st) (fun h => khc (k64r _) (kht (kht h))) (fun p l e R s m args below meth c X H locs cells slots Q arr hF hl h kk => lv_ldiv hF.1 hF.2.1 hd (k64_ne0 (kh1 h) hy) (by rw [← k64b (x := _ / _)]; exact kk)) k
theorem K_lrem {x y : Int} (hd : decode M.2.1 pc = .ok (.lrem, 1)) (hy : y ≠ 0) (k : K d M Post b (pc + 1) ls ((1, klrem x y) :: st) n σ) : K d M Post b pc ls ((1, y) :: (1, x) :: st) n σ :=
  K_op (st' := (1, klrem x y) :: st) (fun h => khc (k64r _) (kht (kht h))) (fun p l e R s m args below meth c X H locs cells slots Q arr hF hl h kk => lv_lrem hF.1 hF.2.1 hd (k64_ne0 (kh1 h) hy) (by rw [← k64b (x := _ - _)]; exact kk)) k
theorem K_lshl {x y : Int} (hd : decode M.2.1 pc = .ok (.lshl, 1)) (k : K d M Post b (pc + 1) ls ((1, klshl x y) :: st) n σ) : K d M Post b pc ls ((0, y) :: (1, x) :: st) n σ :=
  K_op (st' := (1, klshl x y) :: st) (fun h => khc (k64r _) (kht (kht h))) (fun p l e R s m args below meth c X H locs cells slots Q arr hF hl h kk => lv_lshl hF.1 hF.2.1 hd k64b.symm kk) k
theorem K_lushr {x y : Int} (hd : decode M.2.1 pc = .ok (.lushr, 1)) (k : K d M Post b (pc + 1) ls ((1, klushr x y) :: st) n σ) : K d M Post b pc ls ((0, y) :: (1, x) :: st) n σ :=
  K_op (st' := (1, klushr x y) :: st) (fun h => khc (k64r _) (kht (kht h))) (fun p l e R s m args below meth c X H locs cells slots Q arr hF hl h kk => lv_lushr hF.1 hF.2.1 hd k64b.symm kk) k
theorem K_i2l {x : Int} (hd : decode M.2.1 pc = .ok (.i2l, 1)) (k : K d M Post b (pc + 1) ls ((1, x) :: st) n σ) : K d M Post b pc ls ((0, x) :: st) n σ :=
  K_op (st' := (1, x) :: st) (fun h => khc (by have h1 : -2147483648 ≤ x ∧ x ≤ 2147483647 := kh1 h; exact ⟨by omega, by omega⟩) (kht h)) (fun p l e R s m args below meth c X H locs cells slots Q arr hF hl h kk => lv_i2l hF.1 hF.2.1 hd (by
    have h1 : -2147483648 ≤ x ∧ x ≤ 2147483647 := kh1 h
    apply k64_inj
    rw [Int32.toInt_toInt64, k32 h1, k64 ⟨by omega, by omega⟩]) kk) k
theorem K_l2i {x : Int} (hd : decode M.2.1 pc = .ok (.l2i, 1)) (hx : -2147483648 ≤ x ∧ x ≤ 2147483647) (k : K d M Post b (pc + 1) ls ((0, x) :: st) n σ) : K d M Post b pc ls ((1, x) :: st) n σ :=
  K_op (st' := (0, x) :: st) (fun h => khc hx (kht h)) (fun p l e R s m args below meth c X H locs cells slots Q arr hF hl h kk => lv_l2i hF.1 hF.2.1 hd (by
    apply k32_inj
    rw [Int64.toInt_toInt32, k32 hx, k64 ⟨by omega, by omega⟩]
    show Int.bmod _ 4294967296 = _
    exact Int.bmod_eq_of_le (by omega) (by omega)) kk) k
theorem K_i2b {x : Int} (hd : decode M.2.1 pc = .ok (.i2b, 1)) (k : K d M Post b (pc + 1) ls ((0, kbyte x) :: st) n σ) : K d M Post b pc ls ((0, x) :: st) n σ :=
  K_op (st' := (0, kbyte x) :: st) (fun h => khc (by
      have h1 := (Int32.ofInt x).toInt8.le_toInt
      have h2 := (Int32.ofInt x).toInt8.toInt_lt
      exact ⟨by unfold kbyte; omega, by unfold kbyte; omega⟩) (kht h)) (fun p l e R s m args below meth c X H locs cells slots Q arr hF hl h kk => lv_i2b hF.1 hF.2.1 hd (by
    have h1 := (Int32.ofInt x).toInt8.le_toInt
    have h2 := (Int32.ofInt x).toInt8.toInt_lt
    apply k32_inj
    rw [Int8.toInt_toInt32, k32 ⟨by unfold kbyte; omega, by unfold kbyte; omega⟩]
    rfl) kk) k
theorem K_lcmp {x y : Int} (hd : decode M.2.1 pc = .ok (.lcmp, 1)) (k : K d M Post b (pc + 1) ls ((0, klcmp x y) :: st) n σ) : K d M Post b pc ls ((1, y) :: (1, x) :: st) n σ :=
  K_op (st' := (0, klcmp x y) :: st) (fun h => khc (by unfold klcmp; split <;> (try split) <;> exact ⟨by decide, by decide⟩) (kht (kht h))) (fun p l e R s m args below meth c X H locs cells slots Q arr hF hl h kk => W.lcmp hF.1 hF.2.1 hd (by
    have e0 : lg_cmp (Int64.ofInt x) (Int64.ofInt y) = Int32.ofInt (klcmp x y) := by
      unfold lg_cmp klcmp
      simp only [gt_iff_lt, k64_lt (kh1 h) (kh2 h), k64_eq (kh2 h) (kh1 h)]
      split
      · rfl
      · split <;> rfl
    rw [e0]
    exact kk)) k
end KP
