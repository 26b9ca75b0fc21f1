/-! rows of K: numbers on the stack -/
theorem k32i {x : Int} : ∃ y : Int, (-2147483648 ≤ y ∧ y ≤ 2147483647) ∧ Int32.ofInt x = Int32.ofInt y :=
  ⟨(Int32.ofInt x).toInt, ⟨(Int32.ofInt x).le_toInt, by have := (Int32.ofInt x).toInt_lt; omega⟩, (Int32.ofInt_toInt _).symm⟩
theorem k32_lt {a b : Int} (ha : kok (0, a)) (hb : kok (0, b)) : Int32.ofInt a < Int32.ofInt b ↔ a < b := by
  rw [Int32.lt_iff_toInt_lt, k32 ha, k32 hb]
theorem k32_le {a b : Int} (ha : kok (0, a)) (hb : kok (0, b)) : Int32.ofInt a ≤ Int32.ofInt b ↔ a ≤ b := by
  rw [Int32.le_iff_toInt_le, k32 ha, k32 hb]
theorem k32_eq {a b : Int} (ha : kok (0, a)) (hb : kok (0, b)) : Int32.ofInt a = Int32.ofInt b ↔ a = b :=
  ⟨fun h => by rw [← k32 ha, ← k32 hb, h], fun h => by rw [h]⟩
theorem k64_lt {a b : Int} (ha : kok (1, a)) (hb : kok (1, b)) : Int64.ofInt a < Int64.ofInt b ↔ a < b := by
  rw [Int64.lt_iff_toInt_lt, k64 ha, k64 hb]
theorem k64_eq {a b : Int} (ha : kok (1, a)) (hb : kok (1, b)) : Int64.ofInt a = Int64.ofInt b ↔ a = b :=
  ⟨fun h => by rw [← k64 ha, ← k64 hb, h], fun h => by rw [h]⟩
theorem k0ok : kok (0, 0) := ⟨by decide, by decide⟩
theorem kh1 {v : kV} {st : List kV} (h : ∀ w ∈ v :: st, kok w) : kok v := h v List.mem_cons_self
theorem kh2 {v w : kV} {st : List kV} (h : ∀ x ∈ v :: w :: st, kok x) : kok w := h w (List.mem_cons_of_mem _ List.mem_cons_self)
theorem kht {v : kV} {st : List kV} (h : ∀ w ∈ v :: st, kok w) : ∀ w ∈ st, kok w := fun w hw => h w (List.mem_cons_of_mem _ hw)
theorem khc {v : kV} {st : List kV} (hv : kok v) (h : ∀ w ∈ st, kok w) : ∀ w ∈ v :: st, kok w := fun w hw => by
  rcases List.mem_cons.mp hw with e | e
  · rw [e]; exact hv
  · exact h w e
section KP
variable {d : Nat} {M : kM} {Post : Option kV → Nat → kS → Prop} {b : Nat × Nat} {pc : Nat} {ls : List (Nat × kV)} {st : List kV} {n : Nat} {σ : kS}
/-- a row that changes the stack alone -/
theorem K_op {st' : List kV} {pc' : Nat} (hok : (∀ v ∈ st, kok v) → ∀ v ∈ st', kok v)
    (row : ∀ (p : Program) (l : Launch) (e : Env) (R : Room) (s : State) (m : MethodId) (args : Array Value) (below : List Frame) (meth : Method) (c : Code) (X : kX) (H : Heap) (locs : List Loc) (cells slots : Nat) (Q : State → Prop) (arr : Array Slot), kFix p s m args meth c M X → lv_has arr M.2.2.1 (kcl X ls) → (∀ v ∈ st, kok v) →
      W p l e R s m args below meth c H locs cells slots Q (F0 m pc' arr (st'.map (kcv X))) → W p l e R s m args below meth c H locs cells slots Q (F0 m pc arr (st.map (kcv X))))
    (k : K d M Post b pc' ls st' n σ) : K d M Post b pc ls st n σ := by
  intro p l e s m args below meth c X H locs cells slots mc ms Qc arr ⟨hF, hP, hl, h1, h2, h3⟩
  exact row p l e _ s m args below meth c X H locs cells slots _ arr hF hl h2 (k p l e s m args below meth c X H locs cells slots mc ms Qc arr ⟨hF, hP, hl, h1, hok h2, h3⟩)
theorem K_iconst {i : Int} (hd : decode M.2.1 pc = .ok (.iconst i, 1)) (hi : -2147483648 ≤ i ∧ i ≤ 2147483647) (k : K d M Post b (pc + 1) ls ((0, i) :: st) n σ) : K d M Post b pc ls st n σ :=
  K_op (st' := (0, i) :: st) (khc hi) (fun p l e R s m args below meth c X H locs cells slots Q arr hF hl h kk => lv_iconst hF.1 hF.2.1 hd rfl kk) k
theorem K_bipush {i : Int} (hd : decode M.2.1 pc = .ok (.bipush i, 2)) (hi : (Int8.ofInt i).toInt32 = Int32.ofInt i ∧ -2147483648 ≤ i ∧ i ≤ 2147483647) (k : K d M Post b (pc + 2) ls ((0, i) :: st) n σ) : K d M Post b pc ls st n σ :=
  K_op (st' := (0, i) :: st) (khc hi.2) (fun p l e R s m args below meth c X H locs cells slots Q arr hF hl h kk => lv_bipush hF.1 hF.2.1 hd hi.1 kk) k
theorem K_sipush {i : Int} (hd : decode M.2.1 pc = .ok (.sipush i, 3)) (hi : (Int16.ofInt i).toInt32 = Int32.ofInt i ∧ -2147483648 ≤ i ∧ i ≤ 2147483647) (k : K d M Post b (pc + 3) ls ((0, i) :: st) n σ) : K d M Post b pc ls st n σ :=
  K_op (st' := (0, i) :: st) (khc hi.2) (fun p l e R s m args below meth c X H locs cells slots Q arr hF hl h kk => lv_sipush hF.1 hF.2.1 hd hi.1 kk) k
theorem K_lconst {i : Fin 2} {x : Int} (hd : decode M.2.1 pc = .ok (.lconst i, 1)) (hi : Int64.ofNat (i : Nat) = Int64.ofInt x ∧ -9223372036854775808 ≤ x ∧ x ≤ 9223372036854775807) (k : K d M Post b (pc + 1) ls ((1, x) :: st) n σ) : K d M Post b pc ls st n σ :=
  K_op (st' := (1, x) :: st) (khc hi.2) (fun p l e R s m args below meth c X H locs cells slots Q arr hF hl h kk => lv_lconst hF.1 hF.2.1 hd hi.1 kk) k
theorem K_ldc {i : Nat} {x : Int} (hd : decode M.2.1 pc = .ok (.ldc i, 2)) (hw : Cond.constant M.1.cls i (Int32.ofInt x) ∈ TB) (hi : -2147483648 ≤ x ∧ x ≤ 2147483647) (k : K d M Post b (pc + 2) ls ((0, x) :: st) n σ) : K d M Post b pc ls st n σ :=
  K_op (st' := (0, x) :: st) (khc hi) (fun p l e R s m args below meth c X H locs cells slots Q arr hF hl h kk => lv_ldc hF.1 hF.2.1 hF.2.2.2.2.2.1 (hF.2.2.2.2.2.2.2.1 _ hw) hd kk) k
theorem K_ldcw {i : Nat} {x : Int} (hd : decode M.2.1 pc = .ok (.ldc_w i, 3)) (hw : Cond.constant M.1.cls i (Int32.ofInt x) ∈ TB) (hi : -2147483648 ≤ x ∧ x ≤ 2147483647) (k : K d M Post b (pc + 3) ls ((0, x) :: st) n σ) : K d M Post b pc ls st n σ :=
  K_op (st' := (0, x) :: st) (khc hi) (fun p l e R s m args below meth c X H locs cells slots Q arr hF hl h kk => lv_ldcw hF.1 hF.2.1 hF.2.2.2.2.2.1 (hF.2.2.2.2.2.2.2.1 _ hw) hd kk) k
theorem K_ldc2 {i : Nat} {x : Int} (hd : decode M.2.1 pc = .ok (.ldc2_w i, 3)) (hw : Cond.constantLong M.1.cls i (Int64.ofInt x) ∈ TB) (hi : -9223372036854775808 ≤ x ∧ x ≤ 9223372036854775807) (k : K d M Post b (pc + 3) ls ((1, x) :: st) n σ) : K d M Post b pc ls st n σ :=
  K_op (st' := (1, x) :: st) (khc hi) (fun p l e R s m args below meth c X H locs cells slots Q arr hF hl h kk => lv_ldc2 hF.1 hF.2.1 hF.2.2.2.2.2.1 (hF.2.2.2.2.2.2.2.1 _ hw) hd kk) k
theorem kcl_at {X : kX} {arr : Array Slot} {nL : Nat} (h : lv_has arr nL (kcl X ls)) (k : Nat) {i : Nat} {v : kV} (hk : ls[k]? = some (i, v)) : arr[i]? = some (.val (kcv X v)) :=
  lv_at h k (by show (ls.map _)[k]? = _; rw [List.getElem?_map, hk]; rfl)
theorem K_ld {i : Nat} {v : kV} {pc' : Nat} (k0 : Nat) (hk : ls[k0]? = some (i, v))
    (row : ∀ (p : Program) (l : Launch) (e : Env) (R : Room) (s : State) (m : MethodId) (args : Array Value) (below : List Frame) (meth : Method) (c : Code) (X : kX) (H : Heap) (locs : List Loc) (cells slots : Nat) (Q : State → Prop) (arr : Array Slot), p.tables.exec = Jvm.exec → c.code = M.2.1 → arr[i]? = some (.val (kcv X v)) →
      W p l e R s m args below meth c H locs cells slots Q (F0 m pc' arr (kcv X v :: st.map (kcv X))) → W p l e R s m args below meth c H locs cells slots Q (F0 m pc arr (st.map (kcv X))))
    (k : K d M Post b pc' ls (v :: st) n σ) : K d M Post b pc ls st n σ := by
  intro p l e s m args below meth c X H locs cells slots mc ms Qc arr ⟨hF, hP, hl, h1, h2, h3⟩
  exact row p l e _ s m args below meth c X H locs cells slots _ arr hF.1 hF.2.1 (kcl_at hl k0 hk) (k p l e s m args below meth c X H locs cells slots mc ms Qc arr ⟨hF, hP, hl, h1, khc (h1 _ (List.mem_of_getElem? hk)) h2, h3⟩)
theorem K_iload_n {j : Fin 4} {i : Nat} {x : Int} (k0 : Nat) (hd : decode M.2.1 pc = .ok (.iload_n j, 1)) (hi : (j : Nat) = i) (hk : ls[k0]? = some (i, (0, x))) (k : K d M Post b (pc + 1) ls ((0, x) :: st) n σ) : K d M Post b pc ls st n σ :=
  K_ld k0 hk (fun p l e R s m args below meth c X H locs cells slots Q arr hx hb ha kk => lv_iload_n hx hb hd hi ha kk) k
theorem K_iload {i : Nat} {x : Int} (k0 : Nat) (hd : decode M.2.1 pc = .ok (.iload i, 2)) (hk : ls[k0]? = some (i, (0, x))) (k : K d M Post b (pc + 2) ls ((0, x) :: st) n σ) : K d M Post b pc ls st n σ :=
  K_ld k0 hk (fun p l e R s m args below meth c X H locs cells slots Q arr hx hb ha kk => lv_iload hx hb hd ha kk) k
theorem K_lload_n {j : Fin 4} {i : Nat} {x : Int} (k0 : Nat) (hd : decode M.2.1 pc = .ok (.lload_n j, 1)) (hi : (j : Nat) = i) (hk : ls[k0]? = some (i, (1, x))) (k : K d M Post b (pc + 1) ls ((1, x) :: st) n σ) : K d M Post b pc ls st n σ :=
  K_ld k0 hk (fun p l e R s m args below meth c X H locs cells slots Q arr hx hb ha kk => lv_lload_n hx hb hd hi ha kk) k
theorem K_lload {i : Nat} {x : Int} (k0 : Nat) (hd : decode M.2.1 pc = .ok (.lload i, 2)) (hk : ls[k0]? = some (i, (1, x))) (k : K d M Post b (pc + 2) ls ((1, x) :: st) n σ) : K d M Post b pc ls st n σ :=
  K_ld k0 hk (fun p l e R s m args below meth c X H locs cells slots Q arr hx hb ha kk => lv_lload hx hb hd ha kk) k
theorem K_aload_n {j : Fin 4} {i : Nat} {x : Int} (k0 : Nat) (hd : decode M.2.1 pc = .ok (.aload_n j, 1)) (hi : (j : Nat) = i) (hk : ls[k0]? = some (i, (2, x))) (k : K d M Post b (pc + 1) ls ((2, x) :: st) n σ) : K d M Post b pc ls st n σ :=
  K_ld k0 hk (fun p l e R s m args below meth c X H locs cells slots Q arr hx hb ha kk => by
    cases hr : kref X x with
    | none =>
      have e1 : kcv X (2, x) = .null := by show va_rf (kref X x) = _; rw [hr]; rfl
      rw [e1] at ha kk
      exact lv_aload_nN hx hb hd hi ha kk
    | some q =>
      have e1 : kcv X (2, x) = .ref q := by show va_rf (kref X x) = _; rw [hr]; rfl
      rw [e1] at ha kk
      exact lv_aload_n hx hb hd hi ha kk) k
theorem K_aload {i : Nat} {x : Int} (k0 : Nat) (hd : decode M.2.1 pc = .ok (.aload i, 2)) (hk : ls[k0]? = some (i, (2, x))) (k : K d M Post b (pc + 2) ls ((2, x) :: st) n σ) : K d M Post b pc ls st n σ :=
  K_ld k0 hk (fun p l e R s m args below meth c X H locs cells slots Q arr hx hb ha kk => by
    cases hr : kref X x with
    | none =>
      have e1 : kcv X (2, x) = .null := by show va_rf (kref X x) = _; rw [hr]; rfl
      rw [e1] at ha kk
      exact lv_aloadN hx hb hd ha kk
    | some q =>
      have e1 : kcv X (2, x) = .ref q := by show va_rf (kref X x) = _; rw [hr]; rfl
      rw [e1] at ha kk
      exact lv_aload hx hb hd ha kk) k
theorem K_iadd {x y : Int} (hd : decode M.2.1 pc = .ok (.iadd, 1)) (hr : -2147483648 ≤ x + y ∧ x + y ≤ 2147483647) (k : K d M Post b (pc + 1) ls ((0, x + y) :: st) n σ) : K d M Post b pc ls ((0, y) :: (0, x) :: st) n σ :=
  K_op (st' := (0, x + y) :: st) (fun h => khc hr (kht (kht h))) (fun p l e R s m args below meth c X H locs cells slots Q arr hF hl h kk => lv_iadd hF.1 hF.2.1 hd (by rw [← Int32.ofInt_add]; exact kk)) k
theorem K_isub {x y : Int} (hd : decode M.2.1 pc = .ok (.isub, 1)) (hr : -2147483648 ≤ x - y ∧ x - y ≤ 2147483647) (k : K d M Post b (pc + 1) ls ((0, x - y) :: st) n σ) : K d M Post b pc ls ((0, y) :: (0, x) :: st) n σ :=
  K_op (st' := (0, x - y) :: st) (fun h => khc hr (kht (kht h))) (fun p l e R s m args below meth c X H locs cells slots Q arr hF hl h kk => lv_isub hF.1 hF.2.1 hd (by rw [← Int32.ofInt_sub]; exact kk)) k
theorem K_imul {x y : Int} (hd : decode M.2.1 pc = .ok (.imul, 1)) (hr : -2147483648 ≤ x * y ∧ x * y ≤ 2147483647) (k : K d M Post b (pc + 1) ls ((0, x * y) :: st) n σ) : K d M Post b pc ls ((0, y) :: (0, x) :: st) n σ :=
  K_op (st' := (0, x * y) :: st) (fun h => khc hr (kht (kht h))) (fun p l e R s m args below meth c X H locs cells slots Q arr hF hl h kk => lv_imul hF.1 hF.2.1 hd (by rw [← Int32.ofInt_mul]; exact kk)) k
theorem K_ineg {x : Int} (hd : decode M.2.1 pc = .ok (.ineg, 1)) (hr : -2147483648 ≤ -x ∧ -x ≤ 2147483647) (k : K d M Post b (pc + 1) ls ((0, -x) :: st) n σ) : K d M Post b pc ls ((0, x) :: st) n σ :=
  K_op (st' := (0, -x) :: st) (fun h => khc hr (kht h)) (fun p l e R s m args below meth c X H locs cells slots Q arr hF hl h kk => lv_ineg hF.1 hF.2.1 hd (by rw [← Int32.ofInt_neg]; exact kk)) k
end KP
