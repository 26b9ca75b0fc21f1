/-! rows of K: the stack's order, branches, locals -/
def kcat (v : kV) : Nat := if v.1 = 1 then 2 else 1
theorem kcat_cv (X : kX) (v : kV) : (kcv X v).category = kcat v := by
  obtain ⟨t, x⟩ := v
  match t with
  | 0 => rfl
  | 1 => rfl
  | t + 2 =>
    show (va_rf (kref X x)).category = _
    rw [show kcat (t + 2, x) = 1 by simp [kcat]]
    cases kref X x <;> rfl
def kins (q : Nat × kV) : List (Nat × kV) → List (Nat × kV)
  | [] => [q]
  | p :: r => bif Nat.blt p.1 q.1 then p :: kins q r else q :: p :: r
theorem kins_mem {q x : Nat × kV} : ∀ {l : List (Nat × kV)}, x ∈ kins q l → x = q ∨ x ∈ l
  | [], h => by simpa [kins] using h
  | p :: r, h => by
    unfold kins at h
    cases hb : Nat.blt p.1 q.1 with
    | true =>
      rw [hb] at h
      rcases List.mem_cons.mp (show x ∈ p :: kins q r from h) with h | h
      · exact Or.inr (by rw [h]; exact List.mem_cons_self)
      · rcases kins_mem h with h | h
        · exact Or.inl h
        · exact Or.inr (List.mem_cons_of_mem _ h)
    | false =>
      rw [hb] at h
      rcases List.mem_cons.mp (show x ∈ q :: p :: r from h) with h | h
      · exact Or.inl h
      · exact Or.inr h
def ks1 (i : Nat) (v : kV) (ls : List (Nat × kV)) : List (Nat × kV) := kins (i, v) (ls.filter fun q => !(Nat.beq q.1 i) && !(Nat.beq (q.1 + 1) i && Nat.beq q.2.1 1))
def ks2 (i : Nat) (v : kV) (ls : List (Nat × kV)) : List (Nat × kV) := kins (i, v) (ls.filter fun q => !(Nat.beq q.1 i) && (!(Nat.beq q.1 (i + 1)) && !(Nat.beq (q.1 + 1) i && Nat.beq q.2.1 1)))
theorem kbeq {a b : Nat} : Nat.beq a b = (a == b) := by
  cases h : Nat.beq a b
  · have : a ≠ b := fun e => by rw [e] at h; simp at h
    simp [this]
  · simp [Nat.eq_of_beq_eq_true h]
theorem kcat2 (X : kX) (v : kV) : Nat.beq (kcv X v).category 2 = Nat.beq v.1 1 := by
  rw [kcat_cv, kbeq, kbeq]
  unfold kcat
  by_cases h : v.1 = 1
  · simp [h]
  · simp [h]
theorem ks1_has {X : kX} {arr : Array Slot} {nL i : Nat} {v : kV} {ls : List (Nat × kV)} (h : lv_has arr nL ((i, kcv X v) :: (kcl X ls).filter (fun q => !(q.1 == i) && !(q.1 + 1 == i && q.2.category == 2)))) : lv_has arr nL (kcl X (ks1 i v ls)) := by
  refine ⟨h.1, h.2.1, fun q hq => h.2.2 q ?_⟩
  obtain ⟨q', hq', rfl⟩ := List.mem_map.mp hq
  rcases kins_mem hq' with rfl | h1
  · exact List.mem_cons_self
  · obtain ⟨h2, h3⟩ := List.mem_filter.mp h1
    refine List.mem_cons_of_mem _ (List.mem_filter.mpr ⟨List.mem_map_of_mem h2, ?_⟩)
    simp only [← kbeq, kcat2]
    exact h3
theorem ks2_has {X : kX} {arr : Array Slot} {nL i : Nat} {v : kV} {ls : List (Nat × kV)} (h : lv_has arr nL ((i, kcv X v) :: (kcl X ls).filter (fun q => !(q.1 == i) && (!(q.1 == i + 1) && !(q.1 + 1 == i && q.2.category == 2))))) : lv_has arr nL (kcl X (ks2 i v ls)) := by
  refine ⟨h.1, h.2.1, fun q hq => h.2.2 q ?_⟩
  obtain ⟨q', hq', rfl⟩ := List.mem_map.mp hq
  rcases kins_mem hq' with rfl | h1
  · exact List.mem_cons_self
  · obtain ⟨h2, h3⟩ := List.mem_filter.mp h1
    refine List.mem_cons_of_mem _ (List.mem_filter.mpr ⟨List.mem_map_of_mem h2, ?_⟩)
    simp only [← kbeq, kcat2]
    exact h3
theorem ks1_ok {i : Nat} {v : kV} {ls : List (Nat × kV)} (hv : kok v) (h : ∀ q ∈ ls, kok q.2) : ∀ q ∈ ks1 i v ls, kok q.2 := fun q hq => by
  rcases kins_mem hq with rfl | h1
  · exact hv
  · exact h q (List.mem_filter.mp h1).1
theorem ks2_ok {i : Nat} {v : kV} {ls : List (Nat × kV)} (hv : kok v) (h : ∀ q ∈ ls, kok q.2) : ∀ q ∈ ks2 i v ls, kok q.2 := fun q hq => by
  rcases kins_mem hq with rfl | h1
  · exact hv
  · exact h q (List.mem_filter.mp h1).1
section KP
variable {d : Nat} {M : kM} {Post : Option kV → Nat → kS → Prop} {b : Nat × Nat} {pc : Nat} {ls : List (Nat × kV)} {st : List kV} {n : Nat} {σ : kS}
theorem K_dup {v : kV} (hd : decode M.2.1 pc = .ok (.dup, 1)) (hc : kcat v = 1) (k : K d M Post b (pc + 1) ls (v :: v :: st) n σ) : K d M Post b pc ls (v :: st) n σ :=
  K_op (st' := v :: v :: st) (fun h => khc (kh1 h) h) (fun p l e R s m args below meth c X H locs cells slots Q arr hF hl h kk => lv_dup hF.1 hF.2.1 hd (by rw [kcat_cv]; exact hc) kk) k
theorem K_pop {v : kV} (hd : decode M.2.1 pc = .ok (.pop, 1)) (hc : kcat v = 1) (k : K d M Post b (pc + 1) ls st n σ) : K d M Post b pc ls (v :: st) n σ :=
  K_op (st' := st) (fun h => kht h) (fun p l e R s m args below meth c X H locs cells slots Q arr hF hl h kk => lv_pop hF.1 hF.2.1 hd (by rw [kcat_cv]; exact hc) kk) k
theorem K_dup2 {v w : kV} (hd : decode M.2.1 pc = .ok (.dup2, 1)) (hc : kcat v = 1) (hc2 : kcat w = 1) (k : K d M Post b (pc + 1) ls (v :: w :: v :: w :: st) n σ) : K d M Post b pc ls (v :: w :: st) n σ :=
  K_op (st' := v :: w :: v :: w :: st) (fun h => khc (kh1 h) (khc (kh2 h) h)) (fun p l e R s m args below meth c X H locs cells slots Q arr hF hl h kk => lv_dup2_11 hF.1 hF.2.1 hd (by rw [kcat_cv]; exact hc) (by rw [kcat_cv]; exact hc2) kk) k
theorem K_goto {off : Int} {tgt : Nat} (hd : decode M.2.1 pc = .ok (.goto off, 3)) (ht : (pc : Int) + off = (tgt : Int)) (k : K d M Post b tgt ls st n σ) : K d M Post b pc ls st n σ :=
  K_op (st' := st) (fun h => h) (fun p l e R s m args below meth c X H locs cells slots Q arr hF hl h kk => lv_goto hF.1 hF.2.1 hd ht kk) k
/-- a row with two ways on -/
theorem K_br {st' : List kV} {C : Prop} {p1 p2 : Nat} (hok : (∀ v ∈ st, kok v) → ∀ v ∈ st', kok v)
    (row : ∀ (p : Program) (l : Launch) (e : Env) (R : Room) (s : State) (m : MethodId) (args : Array Value) (below : List Frame) (meth : Method) (c : Code) (X : kX) (H : Heap) (locs : List Loc) (cells slots : Nat) (Q : State → Prop) (arr : Array Slot), p.tables.exec = Jvm.exec → c.code = M.2.1 → (∀ v ∈ st, kok v) →
      (C → W p l e R s m args below meth c H locs cells slots Q (F0 m p1 arr (st'.map (kcv X)))) → (¬ C → W p l e R s m args below meth c H locs cells slots Q (F0 m p2 arr (st'.map (kcv X)))) → W p l e R s m args below meth c H locs cells slots Q (F0 m pc arr (st.map (kcv X))))
    (k1 : C → K d M Post b p1 ls st' n σ) (k2 : ¬ C → K d M Post b p2 ls st' n σ) : K d M Post b pc ls st n σ := by
  intro p l e s m args below meth c X H locs cells slots mc ms Qc arr ⟨hF, hP, hl, h1, h2, h3⟩
  exact row p l e _ s m args below meth c X H locs cells slots _ arr hF.1 hF.2.1 h2 (fun hc => k1 hc p l e s m args below meth c X H locs cells slots mc ms Qc arr ⟨hF, hP, hl, h1, hok h2, h3⟩) (fun hc => k2 hc p l e s m args below meth c X H locs cells slots mc ms Qc arr ⟨hF, hP, hl, h1, hok h2, h3⟩)
theorem K_if_eq {x off : Int} {tgt : Nat} (hd : decode M.2.1 pc = .ok (.ifCond .eq off, 3)) (ht : (pc : Int) + off = (tgt : Int)) (k1 : x = 0 → K d M Post b tgt ls st n σ) (k2 : ¬ (x = 0) → K d M Post b (pc + 3) ls st n σ) : K d M Post b pc ls ((0, x) :: st) n σ :=
  K_br (st' := st) (fun h => kht h) (fun p l e R s m args below meth c X H locs cells slots Q arr hx hb h kt kf => lv_if_eq hx hb hd ht (fun h1 => kt ((k32_eq (kh1 h) k0ok).mp h1)) (fun h1 => kf (fun h2 => h1 ((k32_eq (kh1 h) k0ok).mpr h2)))) k1 k2
theorem K_icmp_eq {x y off : Int} {tgt : Nat} (hd : decode M.2.1 pc = .ok (.if_icmp .eq off, 3)) (ht : (pc : Int) + off = (tgt : Int)) (k1 : x = y → K d M Post b tgt ls st n σ) (k2 : ¬ (x = y) → K d M Post b (pc + 3) ls st n σ) : K d M Post b pc ls ((0, y) :: (0, x) :: st) n σ :=
  K_br (st' := st) (fun h => kht (kht h)) (fun p l e R s m args below meth c X H locs cells slots Q arr hx hb h kt kf => lv_icmp_eq hx hb hd ht (fun h1 => kt ((k32_eq (kh2 h) (kh1 h)).mp h1)) (fun h1 => kf (fun h2 => h1 ((k32_eq (kh2 h) (kh1 h)).mpr h2)))) k1 k2
theorem K_if_ne {x off : Int} {tgt : Nat} (hd : decode M.2.1 pc = .ok (.ifCond .ne off, 3)) (ht : (pc : Int) + off = (tgt : Int)) (k1 : ¬ x = 0 → K d M Post b tgt ls st n σ) (k2 : ¬ (¬ x = 0) → K d M Post b (pc + 3) ls st n σ) : K d M Post b pc ls ((0, x) :: st) n σ :=
  K_br (st' := st) (fun h => kht h) (fun p l e R s m args below meth c X H locs cells slots Q arr hx hb h kt kf => lv_if_ne hx hb hd ht (fun h1 => kt (fun h2 => h1 ((k32_eq (kh1 h) k0ok).mpr h2))) (fun h1 => kf (fun h2 => h2 ((k32_eq (kh1 h) k0ok).mp h1)))) k1 k2
theorem K_icmp_ne {x y off : Int} {tgt : Nat} (hd : decode M.2.1 pc = .ok (.if_icmp .ne off, 3)) (ht : (pc : Int) + off = (tgt : Int)) (k1 : ¬ x = y → K d M Post b tgt ls st n σ) (k2 : ¬ (¬ x = y) → K d M Post b (pc + 3) ls st n σ) : K d M Post b pc ls ((0, y) :: (0, x) :: st) n σ :=
  K_br (st' := st) (fun h => kht (kht h)) (fun p l e R s m args below meth c X H locs cells slots Q arr hx hb h kt kf => lv_icmp_ne hx hb hd ht (fun h1 => kt (fun h2 => h1 ((k32_eq (kh2 h) (kh1 h)).mpr h2))) (fun h1 => kf (fun h2 => h2 ((k32_eq (kh2 h) (kh1 h)).mp h1)))) k1 k2
theorem K_if_lt {x off : Int} {tgt : Nat} (hd : decode M.2.1 pc = .ok (.ifCond .lt off, 3)) (ht : (pc : Int) + off = (tgt : Int)) (k1 : x < 0 → K d M Post b tgt ls st n σ) (k2 : ¬ (x < 0) → K d M Post b (pc + 3) ls st n σ) : K d M Post b pc ls ((0, x) :: st) n σ :=
  K_br (st' := st) (fun h => kht h) (fun p l e R s m args below meth c X H locs cells slots Q arr hx hb h kt kf => lv_if_lt hx hb hd ht (fun h1 => kt ((k32_lt (kh1 h) k0ok).mp h1)) (fun h1 => kf (fun h2 => h1 ((k32_lt (kh1 h) k0ok).mpr h2)))) k1 k2
theorem K_icmp_lt {x y off : Int} {tgt : Nat} (hd : decode M.2.1 pc = .ok (.if_icmp .lt off, 3)) (ht : (pc : Int) + off = (tgt : Int)) (k1 : x < y → K d M Post b tgt ls st n σ) (k2 : ¬ (x < y) → K d M Post b (pc + 3) ls st n σ) : K d M Post b pc ls ((0, y) :: (0, x) :: st) n σ :=
  K_br (st' := st) (fun h => kht (kht h)) (fun p l e R s m args below meth c X H locs cells slots Q arr hx hb h kt kf => lv_icmp_lt hx hb hd ht (fun h1 => kt ((k32_lt (kh2 h) (kh1 h)).mp h1)) (fun h1 => kf (fun h2 => h1 ((k32_lt (kh2 h) (kh1 h)).mpr h2)))) k1 k2
theorem K_if_ge {x off : Int} {tgt : Nat} (hd : decode M.2.1 pc = .ok (.ifCond .ge off, 3)) (ht : (pc : Int) + off = (tgt : Int)) (k1 : 0 ≤ x → K d M Post b tgt ls st n σ) (k2 : ¬ (0 ≤ x) → K d M Post b (pc + 3) ls st n σ) : K d M Post b pc ls ((0, x) :: st) n σ :=
  K_br (st' := st) (fun h => kht h) (fun p l e R s m args below meth c X H locs cells slots Q arr hx hb h kt kf => lv_if_ge hx hb hd ht (fun h1 => kt ((k32_le k0ok (kh1 h)).mp h1)) (fun h1 => kf (fun h2 => h1 ((k32_le k0ok (kh1 h)).mpr h2)))) k1 k2
theorem K_icmp_ge {x y off : Int} {tgt : Nat} (hd : decode M.2.1 pc = .ok (.if_icmp .ge off, 3)) (ht : (pc : Int) + off = (tgt : Int)) (k1 : y ≤ x → K d M Post b tgt ls st n σ) (k2 : ¬ (y ≤ x) → K d M Post b (pc + 3) ls st n σ) : K d M Post b pc ls ((0, y) :: (0, x) :: st) n σ :=
  K_br (st' := st) (fun h => kht (kht h)) (fun p l e R s m args below meth c X H locs cells slots Q arr hx hb h kt kf => lv_icmp_ge hx hb hd ht (fun h1 => kt ((k32_le (kh1 h) (kh2 h)).mp h1)) (fun h1 => kf (fun h2 => h1 ((k32_le (kh1 h) (kh2 h)).mpr h2)))) k1 k2
theorem K_if_gt {x off : Int} {tgt : Nat} (hd : decode M.2.1 pc = .ok (.ifCond .gt off, 3)) (ht : (pc : Int) + off = (tgt : Int)) (k1 : 0 < x → K d M Post b tgt ls st n σ) (k2 : ¬ (0 < x) → K d M Post b (pc + 3) ls st n σ) : K d M Post b pc ls ((0, x) :: st) n σ :=
  K_br (st' := st) (fun h => kht h) (fun p l e R s m args below meth c X H locs cells slots Q arr hx hb h kt kf => lv_if_gt hx hb hd ht (fun h1 => kt ((k32_lt k0ok (kh1 h)).mp h1)) (fun h1 => kf (fun h2 => h1 ((k32_lt k0ok (kh1 h)).mpr h2)))) k1 k2
theorem K_icmp_gt {x y off : Int} {tgt : Nat} (hd : decode M.2.1 pc = .ok (.if_icmp .gt off, 3)) (ht : (pc : Int) + off = (tgt : Int)) (k1 : y < x → K d M Post b tgt ls st n σ) (k2 : ¬ (y < x) → K d M Post b (pc + 3) ls st n σ) : K d M Post b pc ls ((0, y) :: (0, x) :: st) n σ :=
  K_br (st' := st) (fun h => kht (kht h)) (fun p l e R s m args below meth c X H locs cells slots Q arr hx hb h kt kf => lv_icmp_gt hx hb hd ht (fun h1 => kt ((k32_lt (kh1 h) (kh2 h)).mp h1)) (fun h1 => kf (fun h2 => h1 ((k32_lt (kh1 h) (kh2 h)).mpr h2)))) k1 k2
theorem K_if_le {x off : Int} {tgt : Nat} (hd : decode M.2.1 pc = .ok (.ifCond .le off, 3)) (ht : (pc : Int) + off = (tgt : Int)) (k1 : x ≤ 0 → K d M Post b tgt ls st n σ) (k2 : ¬ (x ≤ 0) → K d M Post b (pc + 3) ls st n σ) : K d M Post b pc ls ((0, x) :: st) n σ :=
  K_br (st' := st) (fun h => kht h) (fun p l e R s m args below meth c X H locs cells slots Q arr hx hb h kt kf => lv_if_le hx hb hd ht (fun h1 => kt ((k32_le (kh1 h) k0ok).mp h1)) (fun h1 => kf (fun h2 => h1 ((k32_le (kh1 h) k0ok).mpr h2)))) k1 k2
theorem K_icmp_le {x y off : Int} {tgt : Nat} (hd : decode M.2.1 pc = .ok (.if_icmp .le off, 3)) (ht : (pc : Int) + off = (tgt : Int)) (k1 : x ≤ y → K d M Post b tgt ls st n σ) (k2 : ¬ (x ≤ y) → K d M Post b (pc + 3) ls st n σ) : K d M Post b pc ls ((0, y) :: (0, x) :: st) n σ :=
  K_br (st' := st) (fun h => kht (kht h)) (fun p l e R s m args below meth c X H locs cells slots Q arr hx hb h kt kf => lv_icmp_le hx hb hd ht (fun h1 => kt ((k32_le (kh2 h) (kh1 h)).mp h1)) (fun h1 => kf (fun h2 => h1 ((k32_le (kh2 h) (kh1 h)).mpr h2)))) k1 k2
theorem K_sw1 {x dflt lo hi c off : Int} {offs : Array Int} {len tgt : Nat} (hd : decode M.2.1 pc = .ok (.tableswitch dflt lo hi offs, len)) (hx : x = c) (hc : lo ≤ c ∧ c ≤ hi) (ho : offs[(c - lo).toNat]? = some off) (ht : (pc : Int) + off = (tgt : Int)) (k : K d M Post b tgt ls st n σ) : K d M Post b pc ls ((0, x) :: st) n σ :=
  K_op (st' := st) (fun h => kht h) (fun p l e R s m args below meth c' X H locs cells slots Q arr hF hl h kk => by
    have hi' : (Int32.ofInt x).toInt = c := by rw [k32 (kh1 h), hx]
    exact lv_tableIn hF.1 hF.2.1 hd (by rw [hi']; omega) (by rw [hi']; omega) (by rw [hi']; exact ho) ht kk) k
theorem K_sw0 {x dflt lo hi : Int} {offs : Array Int} {len tgt : Nat} (hd : decode M.2.1 pc = .ok (.tableswitch dflt lo hi offs, len)) (hx : x < lo ∨ hi < x) (ht : (pc : Int) + dflt = (tgt : Int)) (k : K d M Post b tgt ls st n σ) : K d M Post b pc ls ((0, x) :: st) n σ :=
  K_op (st' := st) (fun h => kht h) (fun p l e R s m args below meth c' X H locs cells slots Q arr hF hl h kk => by
    exact lv_tableOut hF.1 hF.2.1 hd (by rw [k32 (kh1 h)]; exact hx) ht kk) k
theorem k_sn {x c c' : Int} (h : c ≤ x) (hn : ¬ x = c) (e : c + 1 = c') : c' ≤ x := by omega
/-- stores into a local -/
theorem K_st {v : kV} {ls' : List (Nat × kV)} {pc' : Nat} (hok : kok v → (∀ q ∈ ls, kok q.2) → ∀ q ∈ ls', kok q.2)
    (row : ∀ (p : Program) (l : Launch) (e : Env) (R : Room) (s : State) (m : MethodId) (args : Array Value) (below : List Frame) (meth : Method) (c : Code) (X : kX) (H : Heap) (locs : List Loc) (cells slots : Nat) (Q : State → Prop) (arr : Array Slot), p.tables.exec = Jvm.exec → c.code = M.2.1 → lv_has arr M.2.2.1 (kcl X ls) →
      (∀ arr' : Array Slot, lv_has arr' M.2.2.1 (kcl X ls') → W p l e R s m args below meth c H locs cells slots Q (F0 m pc' arr' (st.map (kcv X)))) → W p l e R s m args below meth c H locs cells slots Q (F0 m pc arr (kcv X v :: st.map (kcv X))))
    (k : K d M Post b pc' ls' st n σ) : K d M Post b pc ls (v :: st) n σ := by
  intro p l e s m args below meth c X H locs cells slots mc ms Qc arr ⟨hF, hP, hl, h1, h2, h3⟩
  exact row p l e _ s m args below meth c X H locs cells slots _ arr hF.1 hF.2.1 hl (fun arr' hl' => k p l e s m args below meth c X H locs cells slots mc ms Qc arr' ⟨hF, hP, hl', hok (kh1 h2) h1, kht h2, h3⟩)
theorem K_istore_n {j : Fin 4} {i : Nat} {x : Int} {ls' : List (Nat × kV)} (hd : decode M.2.1 pc = .ok (.istore_n j, 1)) (hi : (j : Nat) = i) (hn : i < M.2.2.1) (hl : ks1 i (0, x) ls = ls') (k : K d M Post b (pc + 1) ls' st n σ) : K d M Post b pc ls ((0, x) :: st) n σ := by
  subst hl
  exact K_st (fun hv h => ks1_ok hv h) (fun p l e R s m args below meth c X H locs cells slots Q arr hx hb ha kk => lv_istore_n hx hb hd hi ha hn rfl fun a h => kk a (ks1_has (v := (0, x)) h)) k
theorem K_istore {i : Nat} {x : Int} {ls' : List (Nat × kV)} (hd : decode M.2.1 pc = .ok (.istore i, 2)) (hn : i < M.2.2.1) (hl : ks1 i (0, x) ls = ls') (k : K d M Post b (pc + 2) ls' st n σ) : K d M Post b pc ls ((0, x) :: st) n σ := by
  subst hl
  exact K_st (fun hv h => ks1_ok hv h) (fun p l e R s m args below meth c X H locs cells slots Q arr hx hb ha kk => lv_istore hx hb hd ha hn rfl fun a h => kk a (ks1_has (v := (0, x)) h)) k
theorem K_lstore_n {j : Fin 4} {i : Nat} {x : Int} {ls' : List (Nat × kV)} (hd : decode M.2.1 pc = .ok (.lstore_n j, 1)) (hi : (j : Nat) = i) (hn : i + 1 < M.2.2.1) (hl : ks2 i (1, x) ls = ls') (k : K d M Post b (pc + 1) ls' st n σ) : K d M Post b pc ls ((1, x) :: st) n σ := by
  subst hl
  exact K_st (fun hv h => ks2_ok hv h) (fun p l e R s m args below meth c X H locs cells slots Q arr hx hb ha kk => lv_lstore_n hx hb hd hi ha hn rfl fun a h => kk a (ks2_has (v := (1, x)) h)) k
theorem K_lstore {i : Nat} {x : Int} {ls' : List (Nat × kV)} (hd : decode M.2.1 pc = .ok (.lstore i, 2)) (hn : i + 1 < M.2.2.1) (hl : ks2 i (1, x) ls = ls') (k : K d M Post b (pc + 2) ls' st n σ) : K d M Post b pc ls ((1, x) :: st) n σ := by
  subst hl
  exact K_st (fun hv h => ks2_ok hv h) (fun p l e R s m args below meth c X H locs cells slots Q arr hx hb ha kk => lv_lstore hx hb hd ha hn rfl fun a h => kk a (ks2_has (v := (1, x)) h)) k
theorem K_astore_n {j : Fin 4} {i : Nat} {x : Int} {ls' : List (Nat × kV)} (hd : decode M.2.1 pc = .ok (.astore_n j, 1)) (hi : (j : Nat) = i) (hn : i < M.2.2.1) (hl : ks1 i (2, x) ls = ls') (k : K d M Post b (pc + 1) ls' st n σ) : K d M Post b pc ls ((2, x) :: st) n σ := by
  subst hl
  exact K_st (fun hv h => ks1_ok hv h) (fun p l e R s m args below meth c X H locs cells slots Q arr hx hb ha kk => by
    have kk' : ∀ arr' : Array Slot, lv_has arr' M.2.2.1 ((i, kcv X (2, x)) :: (kcl X ls).filter (fun q => !(q.1 == i) && !(q.1 + 1 == i && q.2.category == 2))) → W p l e R s m args below meth c H locs cells slots Q (F0 m (pc + 1) arr' (st.map (kcv X))) := fun a h => kk a (ks1_has (v := (2, x)) h)
    cases hr : kref X x with
    | none =>
      have e1 : kcv X (2, x) = .null := by show va_rf (kref X x) = _; rw [hr]; rfl
      rw [e1] at kk' ⊢
      exact lv_astore_nN hx hb hd hi ha hn rfl kk'
    | some q =>
      have e1 : kcv X (2, x) = .ref q := by show va_rf (kref X x) = _; rw [hr]; rfl
      rw [e1] at kk' ⊢
      exact lv_astore_n hx hb hd hi ha hn rfl kk') k
theorem K_astore {i : Nat} {x : Int} {ls' : List (Nat × kV)} (hd : decode M.2.1 pc = .ok (.astore i, 2)) (hn : i < M.2.2.1) (hl : ks1 i (2, x) ls = ls') (k : K d M Post b (pc + 2) ls' st n σ) : K d M Post b pc ls ((2, x) :: st) n σ := by
  subst hl
  exact K_st (fun hv h => ks1_ok hv h) (fun p l e R s m args below meth c X H locs cells slots Q arr hx hb ha kk => by
    have kk' : ∀ arr' : Array Slot, lv_has arr' M.2.2.1 ((i, kcv X (2, x)) :: (kcl X ls).filter (fun q => !(q.1 == i) && !(q.1 + 1 == i && q.2.category == 2))) → W p l e R s m args below meth c H locs cells slots Q (F0 m (pc + 2) arr' (st.map (kcv X))) := fun a h => kk a (ks1_has (v := (2, x)) h)
    cases hr : kref X x with
    | none =>
      have e1 : kcv X (2, x) = .null := by show va_rf (kref X x) = _; rw [hr]; rfl
      rw [e1] at kk' ⊢
      exact lv_astoreN hx hb hd ha hn rfl kk'
    | some q =>
      have e1 : kcv X (2, x) = .ref q := by show va_rf (kref X x) = _; rw [hr]; rfl
      rw [e1] at kk' ⊢
      exact lv_astore hx hb hd ha hn rfl kk') k
theorem K_iinc {i : Nat} {a x : Int} {ls' : List (Nat × kV)} (k0 : Nat) (hd : decode M.2.1 pc = .ok (.iinc i a, 3)) (hk : ls[k0]? = some (i, (0, x))) (hr : -2147483648 ≤ x + a ∧ x + a ≤ 2147483647) (hn : i < M.2.2.1) (hl : ks1 i (0, x + a) ls = ls') (k : K d M Post b (pc + 3) ls' st n σ) : K d M Post b pc ls st n σ := by
  subst hl
  intro p l e s m args below meth c X H locs cells slots mc ms Qc arr ⟨hF, hP, hl, h1, h2, h3⟩
  refine lv_iinc (v := Int32.ofInt (x + a)) hF.1 hF.2.1 hd hl (k := k0) (x := Int32.ofInt x) ?_ (by rw [Int32.ofInt_add]) hn rfl fun arr' h' => k p l e s m args below meth c X H locs cells slots mc ms Qc arr' ⟨hF, hP, ks1_has (v := (0, x + a)) h', ks1_ok hr h1, h2, h3⟩
  show (ls.map _)[k0]? = _
  rw [List.getElem?_map, hk]
  rfl
/-- fewer locals, in any order -/
theorem K_fg {ls' : List (Nat × kV)} (hs : ∀ q ∈ ls', q ∈ ls) (k : K d M Post b pc ls' st n σ) : K d M Post b pc ls st n σ := by
  intro p l e s m args below meth c X H locs cells slots mc ms Qc arr ⟨hF, hP, hl, h1, h2, h3⟩
  refine k p l e s m args below meth c X H locs cells slots mc ms Qc arr ⟨hF, hP, ⟨hl.1, hl.2.1, fun q hq => ?_⟩, fun q hq => h1 q (hs q hq), h2, h3⟩
  obtain ⟨q', hq', rfl⟩ := List.mem_map.mp hq
  exact hl.2.2 _ (List.mem_map_of_mem (hs q' hq'))
def kpick (ls : List (Nat × kV)) (ks : List Nat) : List (Nat × kV) := ks.filterMap (fun k => ls[k]?)
theorem K_pick {ls' : List (Nat × kV)} (ks : List Nat) (hs : kpick ls ks = ls') (k : K d M Post b pc ls' st n σ) : K d M Post b pc ls st n σ :=
  K_fg (fun q hq => by
    subst hs
    obtain ⟨i, -, hi⟩ := List.mem_filterMap.mp hq
    exact List.mem_of_getElem? hi) k
end KP
