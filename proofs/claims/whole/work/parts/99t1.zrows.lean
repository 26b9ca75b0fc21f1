/-! rows of Z, by program out of the rows of K: a frame whose end is any Q, over launches without stack traces -/
abbrev kFin : Type := Program → Launch → Env → State → MethodId → Array Value → List Frame → Method → Code → kX → Nat → Nat → (State → Prop) → Prop
/-- what throwing wants of the start -/
def kNSE : String := "java/util/NoSuchElementException"
def kNS : List String := ["java/lang/RuntimeException", "java/lang/Exception"]
def kDec : List Cond := [.declares ⟨"java/lang/RuntimeException", "<init>", "()V"⟩, .declares ⟨"java/lang/Exception", "<init>", "()V"⟩, .declares ⟨"java/lang/Throwable", "<init>", "()V"⟩, .castable kNSE kNSE]
def kDq (U : State) : Prop := ∀ w ∈ kDec, ∀ a : Array Value, w.before a U = true
theorem kDq.moved {u U : State} (hvm : u.vm.Alike U.vm) (h : kDq u) : kDq U := by
  intro w hw a
  have h1 := h w hw a
  have h2 : w.before a (u.setVm U.vm) = true := by
    simp only [kDec, List.mem_cons, List.not_mem_nil, or_false] at hw
    rcases hw with rfl | rfl | rfl | rfl
    · rw [Cond.declares_setVm hvm]; exact h1
    · rw [Cond.declares_setVm hvm]; exact h1
    · rw [Cond.declares_setVm hvm]; exact h1
    · rw [Cond.castable_setVm hvm]; exact h1
  have h3 : w.onTables = true := by
    simp only [kDec, List.mem_cons, List.not_mem_nil, or_false] at hw
    rcases hw with rfl | rfl | rfl | rfl <;> rfl
  exact va_tabs h3 (by rfl : (u.setVm U.vm).vm = U.vm) h2
def kZh (X : kX) (U : State) (H : Heap) : Prop := vx_Zq Bundle.tN "UNASSIGNED_STACK" Bundle.steD (kA X) U H ∧ vx_Zq Bundle.tN "SUPPRESSED_SENTINEL" Bundle.listD (kA X) U H ∧ kDq U
theorem kZh.moved {X : kX} {u U : State} {H : Heap} (hvm : u.vm.Alike U.vm) (h : kZh X u H) : kZh X U H := ⟨h.1.moved hvm, h.2.1.moved hvm, h.2.2.moved hvm⟩
theorem kZh.kept {X : kX} {U : State} {H H1 : Heap} (h : kZh X U H) (hq : ∀ a : Nat, a < H.size → ¬ kA X a → H1[a]? = H[a]?) : kZh X U H1 := ⟨h.1.kept hq, h.2.1.kept hq, h.2.2⟩
def kZ (l : Launch) (X : kX) (s : State) : Prop := l.stackTraces = false ∧ kZh X s s.heap
def zG (d : Nat) (M : kM) (F : kFin) (b : Nat × Nat) (ls : List (Nat × kV)) (st : List kV) (n : Nat) (σ : kS)
    (p : Program) (l : Launch) (e : Env) (s : State) (m : MethodId) (args : Array Value) (below : List Frame) (meth : Method) (c : Code) (X : kX) (H : Heap) (locs : List Loc) (cells slots mc ms : Nat) (Qc : State → Prop) (arr : Array Slot) : Prop :=
  kFix p s m args meth c M X ∧ kPic X n σ s H locs ∧ lv_has arr M.2.2.1 (kcl X ls) ∧ (∀ q ∈ ls, kok q.2) ∧ (∀ v ∈ st, kok v) ∧ cells + b.1 ≤ mc ∧ slots + b.2 ≤ ms ∧ kZ l X s ∧ F p l e s m args below meth c X mc ms Qc
def Z (d : Nat) (M : kM) (F : kFin) (b : Nat × Nat) (pc : Nat) (ls : List (Nat × kV)) (st : List kV) (n : Nat) (σ : kS) : Prop :=
  ∀ (p : Program) (l : Launch) (e : Env) (s : State) (m : MethodId) (args : Array Value) (below : List Frame) (meth : Method) (c : Code) (X : kX) (H : Heap) (locs : List Loc) (cells slots mc ms : Nat) (Qc : State → Prop) (arr : Array Slot),
    zG d M F b ls st n σ p l e s m args below meth c X H locs cells slots mc ms Qc arr →
    W p l e (kRm d mc ms) s m args below meth c H locs cells slots Qc (F0 m pc arr (st.map (kcv X)))
/-- two worlds with one script -/
def scrEq (σ σ' : kS) : Prop := σ' (-4) (-1) = σ (-4) (-1) ∧ ∀ j, 0 ≤ j → j < σ (-4) (-1) → σ' (-4) j = σ (-4) j
theorem scr_eq {X : kX} {σ σ' : kS} {s : State} {H : Heap} (h : kSc X σ s H) (h' : kSc X σ' s H) : scrEq σ σ' := by
  obtain ⟨⟨c, hc, -, -, hz, hv⟩, -, ⟨r1, r2⟩, hr⟩ := h
  obtain ⟨⟨c', hc', -, -, hz', hv'⟩, -, ⟨r1', r2'⟩, hr'⟩ := h'
  have ec : c = c' := Option.some.inj (hc.symm.trans hc')
  subst ec
  have el : σ' (-4) (-1) = σ (-4) (-1) := by omega
  refine ⟨el, fun j j0 j1 => ?_⟩
  have h1 := hv j.toNat (by omega)
  have h2 := hv' j.toNat (by omega)
  rw [h1] at h2
  have h3 : Int32.ofInt (σ (-4) ((j.toNat : Nat) : Int)) = Int32.ofInt (σ' (-4) ((j.toNat : Nat) : Int)) := by
    have := Option.some.inj h2
    injection this with this
  rw [k_toNat j0] at h3
  exact ((k32_eq (hr j j0 j1) (hr' j j0 (by omega))).mp h3).symm
/-- the end of a method that returns -/
def zFin (Post : Option kV → Nat → kS → Prop) : kFin := fun _ _ _ s _ args below _ _ X mc ms Q => ∃ Qc : Array Value → State → Outcome → State → Prop, Q = MQ below Qc args s mc ms (kA X) ∧ ∀ v n' σ' (t : State), s.vm.Alike t.vm → Post v n' σ' → kPic X n' σ' s t.heap [] → (∀ w, v = some w → kok w) → Qc args s (.returned (v.map (kcv X))) t
/-- the end of a method that returns or throws -/
def zFinX (Post : Option kV → Nat → kS → Prop) (PX : kS → Prop) (EX : String) : kFin := fun _ _ _ s _ args below _ c X mc ms Q => (∀ x ∈ c.exceptionTable.toList, False) ∧ ∃ (Qc : Array Value → State → Outcome → State → Prop) (XC : String → State → State → Prop), Q = vx_MQ below Qc XC args s mc ms (kA X) ∧ (∀ v n' σ' (t : State), s.vm.Alike t.vm → Post v n' σ' → kPic X n' σ' s t.heap [] → (∀ w, v = some w → kok w) → Qc args s (.returned (v.map (kcv X))) t) ∧ ∀ σ' (t : State), s.vm.Alike t.vm → PX σ' → kPic X kN σ' s t.heap [] → XC EX s t
theorem Z_ofK {d : Nat} {M : kM} {Post : Option kV → Nat → kS → Prop} {b : Nat × Nat} {pc : Nat} {ls : List (Nat × kV)} {st : List kV} {n : Nat} {σ : kS} (h : K d M Post b pc ls st n σ) : Z d M (zFin Post) b pc ls st n σ := by
  intro p l e s m args below meth c X H locs cells slots mc ms Q arr ⟨h1, h2, h3, h4, h5, h6, h7, _, Qc, hQ, hq⟩
  rw [hQ]
  exact h p l e s m args below meth c X H locs cells slots mc ms Qc arr ⟨h1, h2, h3, h4, h5, h6, h7, hq⟩
theorem Z_ofKX {d : Nat} {M : kM} {Post : Option kV → Nat → kS → Prop} {PX : kS → Prop} {EX : String} {b : Nat × Nat} {pc : Nat} {ls : List (Nat × kV)} {st : List kV} {n : Nat} {σ : kS} (h : K d M Post b pc ls st n σ) : Z d M (zFinX Post PX EX) b pc ls st n σ := by
  intro p l e s m args below meth c X H locs cells slots mc ms Q arr ⟨h1, h2, h3, h4, h5, h6, h7, _, _, Qc, XC, hQ, hq, _⟩
  rw [hQ]
  exact vx_ret (h p l e s m args below meth c X H locs cells slots mc ms Qc arr ⟨h1, h2, h3, h4, h5, h6, h7, hq⟩)
theorem Z_mono {d : Nat} {M : kM} {F F' : kFin} {b : Nat × Nat} {pc : Nat} {ls : List (Nat × kV)} {st : List kV} {n : Nat} {σ : kS} (hm : ∀ p l e s m args below meth c X mc ms Q, F p l e s m args below meth c X mc ms Q → F' p l e s m args below meth c X mc ms Q) (h : Z d M F' b pc ls st n σ) : Z d M F b pc ls st n σ := by
  intro p l e s m args below meth c X H locs cells slots mc ms Q arr ⟨h1, h2, h3, h4, h5, h6, h7, h8, h9⟩
  exact h p l e s m args below meth c X H locs cells slots mc ms Q arr ⟨h1, h2, h3, h4, h5, h6, h7, h8, hm _ _ _ _ _ _ _ _ _ _ _ _ _ h9⟩
/-- the end of a method that returns and has a table -/
def zFinT (hh : List (Nat × Nat × Nat × Nat)) (Post : Option kV → Nat → kS → Prop) : kFin := fun p l e s m args below meth c X mc ms Q => c.exceptionTable.toList = tableOf hh ∧ zFin Post p l e s m args below meth c X mc ms Q
theorem Z_ofKT {d : Nat} {M : kM} {hh : List (Nat × Nat × Nat × Nat)} {Post : Option kV → Nat → kS → Prop} {b : Nat × Nat} {pc : Nat} {ls : List (Nat × kV)} {st : List kV} {n : Nat} {σ : kS} (h : K d M Post b pc ls st n σ) : Z d M (zFinT hh Post) b pc ls st n σ := Z_mono (fun _ _ _ _ _ _ _ _ _ _ _ _ _ h => h.2) (Z_ofK h)
theorem z_after {d : Nat} {M : kM} {F : kFin} {Post' : Option kV → Nat → kS → Prop} {b b' : Nat × Nat} {pc : Nat} {ls : List (Nat × kV)} {st : List kV} {n : Nat} {σ : kS} {p : Program} {l : Launch} {e : Env} {s : State} {m : MethodId} {args : Array Value} {below : List Frame} {meth : Method} {c : Code} {X : kX} {H : Heap} {locs : List Loc} {cells slots mc ms : Nat} {Qc : State → Prop} {arr : Array Slot} {st0 : List Value} {a : Array Value}
    (hr : va_Run p l e (kRm d mc ms) s m args below meth c H locs cells slots b'.1 b'.2 (F0 m pc arr st0) (st.map (kcv X)) (kQc X Post' a) (kA X))
    (hG : zG d M F b ls st n σ p l e s m args below meth c X H locs cells slots mc ms Qc arr) (hb : b'.1 ≤ b.1 ∧ b'.2 ≤ b.2)
    (k : ∀ (v : Option kV) (n' : Nat) (σ' : kS), (∀ w, v = some w → kok w) → kokw n' σ' → Post' v n' σ' → scrEq σ σ' → Z d M F (b.1 - b'.1, b.2 - b'.2) (pc + 3) ls (v.toList ++ st) n' σ') :
    W p l e (kRm d mc ms) s m args below meth c H locs cells slots Qc (F0 m pc arr st0) := by
  intro T hT XT
  obtain ⟨hF, hP, hlv, h1, h2, h3, h4, h5⟩ := hG
  obtain ⟨v, st₀, t, T', L, h0, X', hL, e1, e2, ⟨v', n', σ', hv, hp, hvok, hok, hP', hsz, ⟨hF1, hF2⟩, hsc⟩, hst⟩ := hr T hT XT
  have hv' : v = v'.map (kcv X) := by cases hv; rfl
  subst hv'
  rw [h0] at hF1 hF2
  obtain ⟨p1, p2, p3, p4, p5, p6⟩ := hP
  have hpic : kPic X n' σ' s T'.heap (locs ++ L) := by
    refine ⟨by rw [e1]; exact hP', ⟨by rw [e1]; exact Nat.le_trans p2.1 hF1, fun q q1 q2 => ?_, fun q hq => ?_⟩, hok, fun hn => by rw [e1]; exact hsz hn, p5, ?_⟩
    · rw [e1, hF2 q (Nat.lt_of_lt_of_le q1 p2.1) q2]
      exact p2.2.1 q q1 q2
    · rcases List.mem_append.mp hq with h | h
      · exact p2.2.2 q h
      · exact hL q h
    · have p6b := p6.2.1
      have hlt : X.2.1 (-4) < s.heap.size := by obtain ⟨cc, hc, -⟩ := p6.1; exact (Array.getElem?_eq_some_iff.mp hc).1
      have hv1 : s.vm.Alike t.vm := by rw [← e2]; exact X'.warmed.alike
      obtain ⟨z1, z2⟩ := hsc
      refine ⟨(z1.moved hv1.symm).kept ?_, z2⟩
      rw [hF2 _ (Nat.lt_of_lt_of_le hlt p2.1) p6b]
      exact (p2.2.1 _ hlt p6b).symm
  have hse : scrEq σ σ' := scr_eq p6 hpic.2.2.2.2.2
  have hstk : ∀ w ∈ v'.toList ++ st, kok w := fun w hw => by
    rcases List.mem_append.mp hw with h | h
    · exact hvok w (by simpa using h)
    · exact h2 w h
  obtain ⟨t2, a1, b1⟩ := k v' n' σ' hvok hok hp hse p l e s m args below meth c X T'.heap (locs ++ L) (cells + b'.1) (slots + b'.2) mc ms Qc arr ⟨hF, hpic, hlv, h1, hstk, by simp only; omega, by simp only; omega, h5⟩ T' rfl X'
  refine ⟨t2, hst t2 ?_, b1⟩
  have e3 : (v'.map (kcv X)).toList ++ st.map (kcv X) = (v'.toList ++ st).map (kcv X) := by cases v' <;> simp
  rw [e3]
  exact a1
section ZP
variable {d : Nat} {M : kM} {F : kFin} {b : Nat × Nat} {pc : Nat} {ls : List (Nat × kV)} {st : List kV} {n : Nat} {σ : kS}
theorem Z_op {st' : List kV} {pc' : Nat} (hok : (∀ v ∈ st, kok v) → ∀ v ∈ st', kok v)
    (row : ∀ (p : Program) (l : Launch) (e : Env) (R : Room) (s : State) (m : MethodId) (args : Array Value) (below : List Frame) (meth : Method) (c : Code) (X : kX) (H : Heap) (locs : List Loc) (cells slots : Nat) (Q : State → Prop) (arr : Array Slot), kFix p s m args meth c M X → lv_has arr M.2.2.1 (kcl X ls) → (∀ v ∈ st, kok v) →
      W p l e R s m args below meth c H locs cells slots Q (F0 m pc' arr (st'.map (kcv X))) → W p l e R s m args below meth c H locs cells slots Q (F0 m pc arr (st.map (kcv X))))
    (k : Z d M F b pc' ls st' n σ) : Z d M F b pc ls st n σ := by
  intro p l e s m args below meth c X H locs cells slots mc ms Qc arr ⟨hF, hP, hl, h1, h2, h3⟩
  exact row p l e _ s m args below meth c X H locs cells slots _ arr hF hl h2 (k p l e s m args below meth c X H locs cells slots mc ms Qc arr ⟨hF, hP, hl, h1, hok h2, h3⟩)
theorem Z_iconst {i : Int} (hd : decode M.2.1 pc = .ok (.iconst i, 1)) (hi : -2147483648 ≤ i ∧ i ≤ 2147483647) (k : Z d M F b (pc + 1) ls ((0, i) :: st) n σ) : Z d M F b pc ls st n σ :=
  Z_op (st' := (0, i) :: st) (khc hi) (fun p l e R s m args below meth c X H locs cells slots Q arr hF hl h kk => lv_iconst hF.1 hF.2.1 hd rfl kk) k
theorem Z_bipush {i : Int} (hd : decode M.2.1 pc = .ok (.bipush i, 2)) (hi : (Int8.ofInt i).toInt32 = Int32.ofInt i ∧ -2147483648 ≤ i ∧ i ≤ 2147483647) (k : Z d M F b (pc + 2) ls ((0, i) :: st) n σ) : Z d M F b pc ls st n σ :=
  Z_op (st' := (0, i) :: st) (khc hi.2) (fun p l e R s m args below meth c X H locs cells slots Q arr hF hl h kk => lv_bipush hF.1 hF.2.1 hd hi.1 kk) k
theorem Z_sipush {i : Int} (hd : decode M.2.1 pc = .ok (.sipush i, 3)) (hi : (Int16.ofInt i).toInt32 = Int32.ofInt i ∧ -2147483648 ≤ i ∧ i ≤ 2147483647) (k : Z d M F b (pc + 3) ls ((0, i) :: st) n σ) : Z d M F b pc ls st n σ :=
  Z_op (st' := (0, i) :: st) (khc hi.2) (fun p l e R s m args below meth c X H locs cells slots Q arr hF hl h kk => lv_sipush hF.1 hF.2.1 hd hi.1 kk) k
theorem Z_lconst {i : Fin 2} {x : Int} (hd : decode M.2.1 pc = .ok (.lconst i, 1)) (hi : Int64.ofNat (i : Nat) = Int64.ofInt x ∧ -9223372036854775808 ≤ x ∧ x ≤ 9223372036854775807) (k : Z d M F b (pc + 1) ls ((1, x) :: st) n σ) : Z d M F b pc ls st n σ :=
  Z_op (st' := (1, x) :: st) (khc hi.2) (fun p l e R s m args below meth c X H locs cells slots Q arr hF hl h kk => lv_lconst hF.1 hF.2.1 hd hi.1 kk) k
theorem Z_ldc {i : Nat} {x : Int} (hd : decode M.2.1 pc = .ok (.ldc i, 2)) (hw : Cond.constant M.1.cls i (Int32.ofInt x) ∈ TB) (hi : -2147483648 ≤ x ∧ x ≤ 2147483647) (k : Z d M F b (pc + 2) ls ((0, x) :: st) n σ) : Z d M F b pc ls st n σ :=
  Z_op (st' := (0, x) :: st) (khc hi) (fun p l e R s m args below meth c X H locs cells slots Q arr hF hl h kk => lv_ldc hF.1 hF.2.1 hF.2.2.2.2.2.1 (hF.2.2.2.2.2.2.2.1 _ hw) hd kk) k
theorem Z_ldcw {i : Nat} {x : Int} (hd : decode M.2.1 pc = .ok (.ldc_w i, 3)) (hw : Cond.constant M.1.cls i (Int32.ofInt x) ∈ TB) (hi : -2147483648 ≤ x ∧ x ≤ 2147483647) (k : Z d M F b (pc + 3) ls ((0, x) :: st) n σ) : Z d M F b pc ls st n σ :=
  Z_op (st' := (0, x) :: st) (khc hi) (fun p l e R s m args below meth c X H locs cells slots Q arr hF hl h kk => lv_ldcw hF.1 hF.2.1 hF.2.2.2.2.2.1 (hF.2.2.2.2.2.2.2.1 _ hw) hd kk) k
theorem Z_ldc2 {i : Nat} {x : Int} (hd : decode M.2.1 pc = .ok (.ldc2_w i, 3)) (hw : Cond.constantLong M.1.cls i (Int64.ofInt x) ∈ TB) (hi : -9223372036854775808 ≤ x ∧ x ≤ 9223372036854775807) (k : Z d M F b (pc + 3) ls ((1, x) :: st) n σ) : Z d M F b pc ls st n σ :=
  Z_op (st' := (1, x) :: st) (khc hi) (fun p l e R s m args below meth c X H locs cells slots Q arr hF hl h kk => lv_ldc2 hF.1 hF.2.1 hF.2.2.2.2.2.1 (hF.2.2.2.2.2.2.2.1 _ hw) hd kk) k
theorem Z_ld {i : Nat} {v : kV} {pc' : Nat} (k0 : Nat) (hk : ls[k0]? = some (i, v))
    (row : ∀ (p : Program) (l : Launch) (e : Env) (R : Room) (s : State) (m : MethodId) (args : Array Value) (below : List Frame) (meth : Method) (c : Code) (X : kX) (H : Heap) (locs : List Loc) (cells slots : Nat) (Q : State → Prop) (arr : Array Slot), p.tables.exec = Jvm.exec → c.code = M.2.1 → arr[i]? = some (.val (kcv X v)) →
      W p l e R s m args below meth c H locs cells slots Q (F0 m pc' arr (kcv X v :: st.map (kcv X))) → W p l e R s m args below meth c H locs cells slots Q (F0 m pc arr (st.map (kcv X))))
    (k : Z d M F b pc' ls (v :: st) n σ) : Z d M F b pc ls st n σ := by
  intro p l e s m args below meth c X H locs cells slots mc ms Qc arr ⟨hF, hP, hl, h1, h2, h3⟩
  exact row p l e _ s m args below meth c X H locs cells slots _ arr hF.1 hF.2.1 (kcl_at hl k0 hk) (k p l e s m args below meth c X H locs cells slots mc ms Qc arr ⟨hF, hP, hl, h1, khc (h1 _ (List.mem_of_getElem? hk)) h2, h3⟩)
theorem Z_iload_n {j : Fin 4} {i : Nat} {x : Int} (k0 : Nat) (hd : decode M.2.1 pc = .ok (.iload_n j, 1)) (hi : (j : Nat) = i) (hk : ls[k0]? = some (i, (0, x))) (k : Z d M F b (pc + 1) ls ((0, x) :: st) n σ) : Z d M F b pc ls st n σ :=
  Z_ld k0 hk (fun p l e R s m args below meth c X H locs cells slots Q arr hx hb ha kk => lv_iload_n hx hb hd hi ha kk) k
theorem Z_iload {i : Nat} {x : Int} (k0 : Nat) (hd : decode M.2.1 pc = .ok (.iload i, 2)) (hk : ls[k0]? = some (i, (0, x))) (k : Z d M F b (pc + 2) ls ((0, x) :: st) n σ) : Z d M F b pc ls st n σ :=
  Z_ld k0 hk (fun p l e R s m args below meth c X H locs cells slots Q arr hx hb ha kk => lv_iload hx hb hd ha kk) k
theorem Z_lload_n {j : Fin 4} {i : Nat} {x : Int} (k0 : Nat) (hd : decode M.2.1 pc = .ok (.lload_n j, 1)) (hi : (j : Nat) = i) (hk : ls[k0]? = some (i, (1, x))) (k : Z d M F b (pc + 1) ls ((1, x) :: st) n σ) : Z d M F b pc ls st n σ :=
  Z_ld k0 hk (fun p l e R s m args below meth c X H locs cells slots Q arr hx hb ha kk => lv_lload_n hx hb hd hi ha kk) k
theorem Z_lload {i : Nat} {x : Int} (k0 : Nat) (hd : decode M.2.1 pc = .ok (.lload i, 2)) (hk : ls[k0]? = some (i, (1, x))) (k : Z d M F b (pc + 2) ls ((1, x) :: st) n σ) : Z d M F b pc ls st n σ :=
  Z_ld k0 hk (fun p l e R s m args below meth c X H locs cells slots Q arr hx hb ha kk => lv_lload hx hb hd ha kk) k
theorem Z_aload_n {j : Fin 4} {i : Nat} {x : Int} (k0 : Nat) (hd : decode M.2.1 pc = .ok (.aload_n j, 1)) (hi : (j : Nat) = i) (hk : ls[k0]? = some (i, (2, x))) (k : Z d M F b (pc + 1) ls ((2, x) :: st) n σ) : Z d M F b pc ls st n σ :=
  Z_ld k0 hk (fun p l e R s m args below meth c X H locs cells slots Q arr hx hb ha kk => by
    cases hr : kref X x with
    | none =>
      have e1 : kcv X (2, x) = .null := by show va_rf (kref X x) = _; rw [hr]; rfl
      rw [e1] at ha kk
      exact lv_aload_nN hx hb hd hi ha kk
    | some q =>
      have e1 : kcv X (2, x) = .ref q := by show va_rf (kref X x) = _; rw [hr]; rfl
      rw [e1] at ha kk
      exact lv_aload_n hx hb hd hi ha kk) k
theorem Z_aload {i : Nat} {x : Int} (k0 : Nat) (hd : decode M.2.1 pc = .ok (.aload i, 2)) (hk : ls[k0]? = some (i, (2, x))) (k : Z d M F b (pc + 2) ls ((2, x) :: st) n σ) : Z d M F b pc ls st n σ :=
  Z_ld k0 hk (fun p l e R s m args below meth c X H locs cells slots Q arr hx hb ha kk => by
    cases hr : kref X x with
    | none =>
      have e1 : kcv X (2, x) = .null := by show va_rf (kref X x) = _; rw [hr]; rfl
      rw [e1] at ha kk
      exact lv_aloadN hx hb hd ha kk
    | some q =>
      have e1 : kcv X (2, x) = .ref q := by show va_rf (kref X x) = _; rw [hr]; rfl
      rw [e1] at ha kk
      exact lv_aload hx hb hd ha kk) k
theorem Z_iadd {x y : Int} (hd : decode M.2.1 pc = .ok (.iadd, 1)) (hr : -2147483648 ≤ x + y ∧ x + y ≤ 2147483647) (k : Z d M F b (pc + 1) ls ((0, x + y) :: st) n σ) : Z d M F b pc ls ((0, y) :: (0, x) :: st) n σ :=
  Z_op (st' := (0, x + y) :: st) (fun h => khc hr (kht (kht h))) (fun p l e R s m args below meth c X H locs cells slots Q arr hF hl h kk => lv_iadd hF.1 hF.2.1 hd (by rw [← Int32.ofInt_add]; exact kk)) k
theorem Z_isub {x y : Int} (hd : decode M.2.1 pc = .ok (.isub, 1)) (hr : -2147483648 ≤ x - y ∧ x - y ≤ 2147483647) (k : Z d M F b (pc + 1) ls ((0, x - y) :: st) n σ) : Z d M F b pc ls ((0, y) :: (0, x) :: st) n σ :=
  Z_op (st' := (0, x - y) :: st) (fun h => khc hr (kht (kht h))) (fun p l e R s m args below meth c X H locs cells slots Q arr hF hl h kk => lv_isub hF.1 hF.2.1 hd (by rw [← Int32.ofInt_sub]; exact kk)) k
theorem Z_imul {x y : Int} (hd : decode M.2.1 pc = .ok (.imul, 1)) (hr : -2147483648 ≤ x * y ∧ x * y ≤ 2147483647) (k : Z d M F b (pc + 1) ls ((0, x * y) :: st) n σ) : Z d M F b pc ls ((0, y) :: (0, x) :: st) n σ :=
  Z_op (st' := (0, x * y) :: st) (fun h => khc hr (kht (kht h))) (fun p l e R s m args below meth c X H locs cells slots Q arr hF hl h kk => lv_imul hF.1 hF.2.1 hd (by rw [← Int32.ofInt_mul]; exact kk)) k
theorem Z_ineg {x : Int} (hd : decode M.2.1 pc = .ok (.ineg, 1)) (hr : -2147483648 ≤ -x ∧ -x ≤ 2147483647) (k : Z d M F b (pc + 1) ls ((0, -x) :: st) n σ) : Z d M F b pc ls ((0, x) :: st) n σ :=
  Z_op (st' := (0, -x) :: st) (fun h => khc hr (kht h)) (fun p l e R s m args below meth c X H locs cells slots Q arr hF hl h kk => lv_ineg hF.1 hF.2.1 hd (by rw [← Int32.ofInt_neg]; exact kk)) k
theorem Z_idiv {x y : Int} (hd : decode M.2.1 pc = .ok (.idiv, 1)) (hx : 0 ≤ x) (hy : 0 < y) (k : Z d M F b (pc + 1) ls ((0, x / y) :: st) n σ) : Z d M F b pc ls ((0, y) :: (0, x) :: st) n σ := by
  have hq : (∀ v ∈ (0, y) :: (0, x) :: st, kok v) → kok (0, x / y) := fun h => by
    have h1 : -2147483648 ≤ x ∧ x ≤ 2147483647 := kh2 h
    have h2 := k_divle hx hy
    exact ⟨by omega, by omega⟩
  refine Z_op (st' := (0, x / y) :: st) (fun h => khc (hq h) (kht (kht h))) (fun p l e R s m args below meth c X H locs cells slots Q arr hF hl h kk => lv_idiv hF.1 hF.2.1 hd (k32_ne0 (kh1 h) (by omega)) ?_) k
  rw [k32_div (kh2 h) (kh1 h) (by rw [k_tdiv hx]; exact hq h), k_tdiv hx]
  exact kk
theorem Z_irem {x y : Int} (hd : decode M.2.1 pc = .ok (.irem, 1)) (hx : 0 ≤ x) (hy : 0 < y) (k : Z d M F b (pc + 1) ls ((0, x % y) :: st) n σ) : Z d M F b pc ls ((0, y) :: (0, x) :: st) n σ := by
  have hq : (∀ v ∈ (0, y) :: (0, x) :: st, kok v) → kok (0, x / y) := fun h => by
    have h1 : -2147483648 ≤ x ∧ x ≤ 2147483647 := kh2 h
    have h2 := k_divle hx hy
    exact ⟨by omega, by omega⟩
  have hm : (∀ v ∈ (0, y) :: (0, x) :: st, kok v) → kok (0, x % y) := fun h => by
    have h1 : -2147483648 ≤ y ∧ y ≤ 2147483647 := kh1 h
    have h2 := Int.emod_nonneg x (show y ≠ 0 by omega)
    have h3 := Int.emod_lt_of_pos x hy
    exact ⟨by omega, by omega⟩
  refine Z_op (st' := (0, x % y) :: st) (fun h => khc (hm h) (kht (kht h))) (fun p l e R s m args below meth c X H locs cells slots Q arr hF hl h kk => lv_irem hF.1 hF.2.1 hd (k32_ne0 (kh1 h) (by omega)) ?_) k
  rw [k32_div (kh2 h) (kh1 h) (by rw [k_tdiv hx]; exact hq h), k_tdiv hx, ← Int32.ofInt_mul, ← Int32.ofInt_sub, show x - x / y * y = x % y by rw [Int.emod_def, Int.mul_comm]]
  exact kk
theorem Z_idivT {x y : Int} (hd : decode M.2.1 pc = .ok (.idiv, 1)) (hy : y ≠ 0) (hq : kok (0, Int.tdiv x y)) (k : Z d M F b (pc + 1) ls ((0, Int.tdiv x y) :: st) n σ) : Z d M F b pc ls ((0, y) :: (0, x) :: st) n σ := by
  refine Z_op (st' := (0, Int.tdiv x y) :: st) (fun h => khc hq (kht (kht h))) (fun p l e R s m args below meth c X H locs cells slots Q arr hF hl h kk => lv_idiv hF.1 hF.2.1 hd (k32_ne0 (kh1 h) hy) ?_) k
  rw [k32_div (kh2 h) (kh1 h) hq]
  exact kk
theorem Z_iand {x y : Int} (hd : decode M.2.1 pc = .ok (.iand, 1)) (k : Z d M F b (pc + 1) ls ((0, kand x y) :: st) n σ) : Z d M F b pc ls ((0, y) :: (0, x) :: st) n σ :=
  Z_op (st' := (0, kand x y) :: st) (fun h => khc (k32r _) (kht (kht h))) (fun p l e R s m args below meth c X H locs cells slots Q arr hF hl h kk => lv_iand hF.1 hF.2.1 hd (by rw [← k32b (x := _ &&& _)]; exact kk)) k
theorem Z_ior {x y : Int} (hd : decode M.2.1 pc = .ok (.ior, 1)) (k : Z d M F b (pc + 1) ls ((0, kor x y) :: st) n σ) : Z d M F b pc ls ((0, y) :: (0, x) :: st) n σ :=
  Z_op (st' := (0, kor x y) :: st) (fun h => khc (k32r _) (kht (kht h))) (fun p l e R s m args below meth c X H locs cells slots Q arr hF hl h kk => lv_ior hF.1 hF.2.1 hd (by rw [← k32b (x := _ ||| _)]; exact kk)) k
theorem Z_ixor {x y : Int} (hd : decode M.2.1 pc = .ok (.ixor, 1)) (k : Z d M F b (pc + 1) ls ((0, kxor x y) :: st) n σ) : Z d M F b pc ls ((0, y) :: (0, x) :: st) n σ :=
  Z_op (st' := (0, kxor x y) :: st) (fun h => khc (k32r _) (kht (kht h))) (fun p l e R s m args below meth c X H locs cells slots Q arr hF hl h kk => lv_ixor hF.1 hF.2.1 hd (by rw [← k32b (x := _ ^^^ _)]; exact kk)) k
theorem Z_ishl {x y : Int} (hd : decode M.2.1 pc = .ok (.ishl, 1)) (k : Z d M F b (pc + 1) ls ((0, kishl x y) :: st) n σ) : Z d M F b pc ls ((0, y) :: (0, x) :: st) n σ :=
  Z_op (st' := (0, kishl x y) :: st) (fun h => khc (k32r _) (kht (kht h))) (fun p l e R s m args below meth c X H locs cells slots Q arr hF hl h kk => lv_ishl hF.1 hF.2.1 hd (by rw [← k32b (x := _ <<< _)]; exact kk)) k
theorem Z_ishr {x y : Int} (hd : decode M.2.1 pc = .ok (.ishr, 1)) (k : Z d M F b (pc + 1) ls ((0, kishr x y) :: st) n σ) : Z d M F b pc ls ((0, y) :: (0, x) :: st) n σ :=
  Z_op (st' := (0, kishr x y) :: st) (fun h => khc (k32r _) (kht (kht h))) (fun p l e R s m args below meth c X H locs cells slots Q arr hF hl h kk => lv_ishr hF.1 hF.2.1 hd (by rw [← k32b (x := _ >>> _)]; exact kk)) k
theorem Z_iushr {x y : Int} (hd : decode M.2.1 pc = .ok (.iushr, 1)) (k : Z d M F b (pc + 1) ls ((0, kiushr x y) :: st) n σ) : Z d M F b pc ls ((0, y) :: (0, x) :: st) n σ :=
  Z_op (st' := (0, kiushr x y) :: st) (fun h => khc (k32r _) (kht (kht h))) (fun p l e R s m args below meth c X H locs cells slots Q arr hF hl h kk => lv_iushr hF.1 hF.2.1 hd k32b.symm kk) k
theorem Z_ladd {x y : Int} (hd : decode M.2.1 pc = .ok (.ladd, 1)) (k : Z d M F b (pc + 1) ls ((1, kladd x y) :: st) n σ) : Z d M F b pc ls ((1, y) :: (1, x) :: st) n σ :=
  Z_op (st' := (1, kladd x y) :: st) (fun h => khc (k64r _) (kht (kht h))) (fun p l e R s m args below meth c X H locs cells slots Q arr hF hl h kk => lv_ladd hF.1 hF.2.1 hd (by rw [← k64b (x := _ + _)]; exact kk)) k
theorem Z_lsub {x y : Int} (hd : decode M.2.1 pc = .ok (.lsub, 1)) (k : Z d M F b (pc + 1) ls ((1, klsub x y) :: st) n σ) : Z d M F b pc ls ((1, y) :: (1, x) :: st) n σ :=
  Z_op (st' := (1, klsub x y) :: st) (fun h => khc (k64r _) (kht (kht h))) (fun p l e R s m args below meth c X H locs cells slots Q arr hF hl h kk => lv_lsub hF.1 hF.2.1 hd (by rw [← k64b (x := _ - _)]; exact kk)) k
theorem Z_lmul {x y : Int} (hd : decode M.2.1 pc = .ok (.lmul, 1)) (k : Z d M F b (pc + 1) ls ((1, klmul x y) :: st) n σ) : Z d M F b pc ls ((1, y) :: (1, x) :: st) n σ :=
  Z_op (st' := (1, klmul x y) :: st) (fun h => khc (k64r _) (kht (kht h))) (fun p l e R s m args below meth c X H locs cells slots Q arr hF hl h kk => lv_lmul hF.1 hF.2.1 hd (by rw [← k64b (x := _ * _)]; exact kk)) k
theorem Z_land {x y : Int} (hd : decode M.2.1 pc = .ok (.land, 1)) (k : Z d M F b (pc + 1) ls ((1, kland x y) :: st) n σ) : Z d M F b pc ls ((1, y) :: (1, x) :: st) n σ :=
  Z_op (st' := (1, kland x y) :: st) (fun h => khc (k64r _) (kht (kht h))) (fun p l e R s m args below meth c X H locs cells slots Q arr hF hl h kk => lv_land hF.1 hF.2.1 hd (by rw [← k64b (x := _ &&& _)]; exact kk)) k
theorem Z_lor {x y : Int} (hd : decode M.2.1 pc = .ok (.lor, 1)) (k : Z d M F b (pc + 1) ls ((1, klor x y) :: st) n σ) : Z d M F b pc ls ((1, y) :: (1, x) :: st) n σ :=
  Z_op (st' := (1, klor x y) :: st) (fun h => khc (k64r _) (kht (kht h))) (fun p l e R s m args below meth c X H locs cells slots Q arr hF hl h kk => lv_lor hF.1 hF.2.1 hd (by rw [← k64b (x := _ ||| _)]; exact kk)) k
theorem Z_ldiv {x y : Int} (hd : decode M.2.1 pc = .ok (.ldiv, 1)) (hy : y ≠ 0) (k : Z d M F b (pc + 1) ls ((1, kldiv x y) :: st) n σ) : Z d M F b pc ls ((1, y) :: (1, x) :: st) n σ :=
  Z_op (st' := (1, kldiv x y) :: st) (fun h => khc (k64r _) (kht (kht h))) (fun p l e R s m args below meth c X H locs cells slots Q arr hF hl h kk => lv_ldiv hF.1 hF.2.1 hd (k64_ne0 (kh1 h) hy) (by rw [← k64b (x := _ / _)]; exact kk)) k
theorem Z_lrem {x y : Int} (hd : decode M.2.1 pc = .ok (.lrem, 1)) (hy : y ≠ 0) (k : Z d M F b (pc + 1) ls ((1, klrem x y) :: st) n σ) : Z d M F b pc ls ((1, y) :: (1, x) :: st) n σ :=
  Z_op (st' := (1, klrem x y) :: st) (fun h => khc (k64r _) (kht (kht h))) (fun p l e R s m args below meth c X H locs cells slots Q arr hF hl h kk => lv_lrem hF.1 hF.2.1 hd (k64_ne0 (kh1 h) hy) (by rw [← k64b (x := _ - _)]; exact kk)) k
theorem Z_lshl {x y : Int} (hd : decode M.2.1 pc = .ok (.lshl, 1)) (k : Z d M F b (pc + 1) ls ((1, klshl x y) :: st) n σ) : Z d M F b pc ls ((0, y) :: (1, x) :: st) n σ :=
  Z_op (st' := (1, klshl x y) :: st) (fun h => khc (k64r _) (kht (kht h))) (fun p l e R s m args below meth c X H locs cells slots Q arr hF hl h kk => lv_lshl hF.1 hF.2.1 hd k64b.symm kk) k
theorem Z_lushr {x y : Int} (hd : decode M.2.1 pc = .ok (.lushr, 1)) (k : Z d M F b (pc + 1) ls ((1, klushr x y) :: st) n σ) : Z d M F b pc ls ((0, y) :: (1, x) :: st) n σ :=
  Z_op (st' := (1, klushr x y) :: st) (fun h => khc (k64r _) (kht (kht h))) (fun p l e R s m args below meth c X H locs cells slots Q arr hF hl h kk => lv_lushr hF.1 hF.2.1 hd k64b.symm kk) k
theorem Z_i2l {x : Int} (hd : decode M.2.1 pc = .ok (.i2l, 1)) (k : Z d M F b (pc + 1) ls ((1, x) :: st) n σ) : Z d M F b pc ls ((0, x) :: st) n σ :=
  Z_op (st' := (1, x) :: st) (fun h => khc (by have h1 : -2147483648 ≤ x ∧ x ≤ 2147483647 := kh1 h; exact ⟨by omega, by omega⟩) (kht h)) (fun p l e R s m args below meth c X H locs cells slots Q arr hF hl h kk => lv_i2l hF.1 hF.2.1 hd (by
    have h1 : -2147483648 ≤ x ∧ x ≤ 2147483647 := kh1 h
    apply k64_inj
    rw [Int32.toInt_toInt64, k32 h1, k64 ⟨by omega, by omega⟩]) kk) k
theorem Z_l2i {x : Int} (hd : decode M.2.1 pc = .ok (.l2i, 1)) (hx : -2147483648 ≤ x ∧ x ≤ 2147483647) (k : Z d M F b (pc + 1) ls ((0, x) :: st) n σ) : Z d M F b pc ls ((1, x) :: st) n σ :=
  Z_op (st' := (0, x) :: st) (fun h => khc hx (kht h)) (fun p l e R s m args below meth c X H locs cells slots Q arr hF hl h kk => lv_l2i hF.1 hF.2.1 hd (by
    apply k32_inj
    rw [Int64.toInt_toInt32, k32 hx, k64 ⟨by omega, by omega⟩]
    show Int.bmod _ 4294967296 = _
    exact Int.bmod_eq_of_le (by omega) (by omega)) kk) k
theorem Z_i2b {x : Int} (hd : decode M.2.1 pc = .ok (.i2b, 1)) (k : Z d M F b (pc + 1) ls ((0, kbyte x) :: st) n σ) : Z d M F b pc ls ((0, x) :: st) n σ :=
  Z_op (st' := (0, kbyte x) :: st) (fun h => khc (by
      have h1 := (Int32.ofInt x).toInt8.le_toInt
      have h2 := (Int32.ofInt x).toInt8.toInt_lt
      exact ⟨by unfold kbyte; omega, by unfold kbyte; omega⟩) (kht h)) (fun p l e R s m args below meth c X H locs cells slots Q arr hF hl h kk => lv_i2b hF.1 hF.2.1 hd (by
    have h1 := (Int32.ofInt x).toInt8.le_toInt
    have h2 := (Int32.ofInt x).toInt8.toInt_lt
    apply k32_inj
    rw [Int8.toInt_toInt32, k32 ⟨by unfold kbyte; omega, by unfold kbyte; omega⟩]
    rfl) kk) k
theorem Z_lcmp {x y : Int} (hd : decode M.2.1 pc = .ok (.lcmp, 1)) (k : Z d M F b (pc + 1) ls ((0, klcmp x y) :: st) n σ) : Z d M F b pc ls ((1, y) :: (1, x) :: st) n σ :=
  Z_op (st' := (0, klcmp x y) :: st) (fun h => khc (by unfold klcmp; split <;> (try split) <;> exact ⟨by decide, by decide⟩) (kht (kht h))) (fun p l e R s m args below meth c X H locs cells slots Q arr hF hl h kk => W.lcmp hF.1 hF.2.1 hd (by
    have e0 : lg_cmp (Int64.ofInt x) (Int64.ofInt y) = Int32.ofInt (klcmp x y) := by
      unfold lg_cmp klcmp
      simp only [gt_iff_lt, k64_lt (kh1 h) (kh2 h), k64_eq (kh2 h) (kh1 h)]
      split
      · rfl
      · split <;> rfl
    rw [e0]
    exact kk)) k
theorem Z_dup {v : kV} (hd : decode M.2.1 pc = .ok (.dup, 1)) (hc : kcat v = 1) (k : Z d M F b (pc + 1) ls (v :: v :: st) n σ) : Z d M F b pc ls (v :: st) n σ :=
  Z_op (st' := v :: v :: st) (fun h => khc (kh1 h) h) (fun p l e R s m args below meth c X H locs cells slots Q arr hF hl h kk => lv_dup hF.1 hF.2.1 hd (by rw [kcat_cv]; exact hc) kk) k
theorem Z_pop {v : kV} (hd : decode M.2.1 pc = .ok (.pop, 1)) (hc : kcat v = 1) (k : Z d M F b (pc + 1) ls st n σ) : Z d M F b pc ls (v :: st) n σ :=
  Z_op (st' := st) (fun h => kht h) (fun p l e R s m args below meth c X H locs cells slots Q arr hF hl h kk => lv_pop hF.1 hF.2.1 hd (by rw [kcat_cv]; exact hc) kk) k
theorem Z_dup2 {v w : kV} (hd : decode M.2.1 pc = .ok (.dup2, 1)) (hc : kcat v = 1) (hc2 : kcat w = 1) (k : Z d M F b (pc + 1) ls (v :: w :: v :: w :: st) n σ) : Z d M F b pc ls (v :: w :: st) n σ :=
  Z_op (st' := v :: w :: v :: w :: st) (fun h => khc (kh1 h) (khc (kh2 h) h)) (fun p l e R s m args below meth c X H locs cells slots Q arr hF hl h kk => lv_dup2_11 hF.1 hF.2.1 hd (by rw [kcat_cv]; exact hc) (by rw [kcat_cv]; exact hc2) kk) k
theorem Z_goto {off : Int} {tgt : Nat} (hd : decode M.2.1 pc = .ok (.goto off, 3)) (ht : (pc : Int) + off = (tgt : Int)) (k : Z d M F b tgt ls st n σ) : Z d M F b pc ls st n σ :=
  Z_op (st' := st) (fun h => h) (fun p l e R s m args below meth c X H locs cells slots Q arr hF hl h kk => lv_goto hF.1 hF.2.1 hd ht kk) k
theorem Z_br {st' : List kV} {C : Prop} {p1 p2 : Nat} (hok : (∀ v ∈ st, kok v) → ∀ v ∈ st', kok v)
    (row : ∀ (p : Program) (l : Launch) (e : Env) (R : Room) (s : State) (m : MethodId) (args : Array Value) (below : List Frame) (meth : Method) (c : Code) (X : kX) (H : Heap) (locs : List Loc) (cells slots : Nat) (Q : State → Prop) (arr : Array Slot), p.tables.exec = Jvm.exec → c.code = M.2.1 → (∀ v ∈ st, kok v) →
      (C → W p l e R s m args below meth c H locs cells slots Q (F0 m p1 arr (st'.map (kcv X)))) → (¬ C → W p l e R s m args below meth c H locs cells slots Q (F0 m p2 arr (st'.map (kcv X)))) → W p l e R s m args below meth c H locs cells slots Q (F0 m pc arr (st.map (kcv X))))
    (k1 : C → Z d M F b p1 ls st' n σ) (k2 : ¬ C → Z d M F b p2 ls st' n σ) : Z d M F b pc ls st n σ := by
  intro p l e s m args below meth c X H locs cells slots mc ms Qc arr ⟨hF, hP, hl, h1, h2, h3⟩
  exact row p l e _ s m args below meth c X H locs cells slots _ arr hF.1 hF.2.1 h2 (fun hc => k1 hc p l e s m args below meth c X H locs cells slots mc ms Qc arr ⟨hF, hP, hl, h1, hok h2, h3⟩) (fun hc => k2 hc p l e s m args below meth c X H locs cells slots mc ms Qc arr ⟨hF, hP, hl, h1, hok h2, h3⟩)
theorem Z_if_eq {x off : Int} {tgt : Nat} (hd : decode M.2.1 pc = .ok (.ifCond .eq off, 3)) (ht : (pc : Int) + off = (tgt : Int)) (k1 : x = 0 → Z d M F b tgt ls st n σ) (k2 : ¬ (x = 0) → Z d M F b (pc + 3) ls st n σ) : Z d M F b pc ls ((0, x) :: st) n σ :=
  Z_br (st' := st) (fun h => kht h) (fun p l e R s m args below meth c X H locs cells slots Q arr hx hb h kt kf => lv_if_eq hx hb hd ht (fun h1 => kt ((k32_eq (kh1 h) k0ok).mp h1)) (fun h1 => kf (fun h2 => h1 ((k32_eq (kh1 h) k0ok).mpr h2)))) k1 k2
theorem Z_icmp_eq {x y off : Int} {tgt : Nat} (hd : decode M.2.1 pc = .ok (.if_icmp .eq off, 3)) (ht : (pc : Int) + off = (tgt : Int)) (k1 : x = y → Z d M F b tgt ls st n σ) (k2 : ¬ (x = y) → Z d M F b (pc + 3) ls st n σ) : Z d M F b pc ls ((0, y) :: (0, x) :: st) n σ :=
  Z_br (st' := st) (fun h => kht (kht h)) (fun p l e R s m args below meth c X H locs cells slots Q arr hx hb h kt kf => lv_icmp_eq hx hb hd ht (fun h1 => kt ((k32_eq (kh2 h) (kh1 h)).mp h1)) (fun h1 => kf (fun h2 => h1 ((k32_eq (kh2 h) (kh1 h)).mpr h2)))) k1 k2
theorem Z_if_ne {x off : Int} {tgt : Nat} (hd : decode M.2.1 pc = .ok (.ifCond .ne off, 3)) (ht : (pc : Int) + off = (tgt : Int)) (k1 : ¬ x = 0 → Z d M F b tgt ls st n σ) (k2 : ¬ (¬ x = 0) → Z d M F b (pc + 3) ls st n σ) : Z d M F b pc ls ((0, x) :: st) n σ :=
  Z_br (st' := st) (fun h => kht h) (fun p l e R s m args below meth c X H locs cells slots Q arr hx hb h kt kf => lv_if_ne hx hb hd ht (fun h1 => kt (fun h2 => h1 ((k32_eq (kh1 h) k0ok).mpr h2))) (fun h1 => kf (fun h2 => h2 ((k32_eq (kh1 h) k0ok).mp h1)))) k1 k2
theorem Z_icmp_ne {x y off : Int} {tgt : Nat} (hd : decode M.2.1 pc = .ok (.if_icmp .ne off, 3)) (ht : (pc : Int) + off = (tgt : Int)) (k1 : ¬ x = y → Z d M F b tgt ls st n σ) (k2 : ¬ (¬ x = y) → Z d M F b (pc + 3) ls st n σ) : Z d M F b pc ls ((0, y) :: (0, x) :: st) n σ :=
  Z_br (st' := st) (fun h => kht (kht h)) (fun p l e R s m args below meth c X H locs cells slots Q arr hx hb h kt kf => lv_icmp_ne hx hb hd ht (fun h1 => kt (fun h2 => h1 ((k32_eq (kh2 h) (kh1 h)).mpr h2))) (fun h1 => kf (fun h2 => h2 ((k32_eq (kh2 h) (kh1 h)).mp h1)))) k1 k2
theorem Z_if_lt {x off : Int} {tgt : Nat} (hd : decode M.2.1 pc = .ok (.ifCond .lt off, 3)) (ht : (pc : Int) + off = (tgt : Int)) (k1 : x < 0 → Z d M F b tgt ls st n σ) (k2 : ¬ (x < 0) → Z d M F b (pc + 3) ls st n σ) : Z d M F b pc ls ((0, x) :: st) n σ :=
  Z_br (st' := st) (fun h => kht h) (fun p l e R s m args below meth c X H locs cells slots Q arr hx hb h kt kf => lv_if_lt hx hb hd ht (fun h1 => kt ((k32_lt (kh1 h) k0ok).mp h1)) (fun h1 => kf (fun h2 => h1 ((k32_lt (kh1 h) k0ok).mpr h2)))) k1 k2
theorem Z_icmp_lt {x y off : Int} {tgt : Nat} (hd : decode M.2.1 pc = .ok (.if_icmp .lt off, 3)) (ht : (pc : Int) + off = (tgt : Int)) (k1 : x < y → Z d M F b tgt ls st n σ) (k2 : ¬ (x < y) → Z d M F b (pc + 3) ls st n σ) : Z d M F b pc ls ((0, y) :: (0, x) :: st) n σ :=
  Z_br (st' := st) (fun h => kht (kht h)) (fun p l e R s m args below meth c X H locs cells slots Q arr hx hb h kt kf => lv_icmp_lt hx hb hd ht (fun h1 => kt ((k32_lt (kh2 h) (kh1 h)).mp h1)) (fun h1 => kf (fun h2 => h1 ((k32_lt (kh2 h) (kh1 h)).mpr h2)))) k1 k2
theorem Z_if_ge {x off : Int} {tgt : Nat} (hd : decode M.2.1 pc = .ok (.ifCond .ge off, 3)) (ht : (pc : Int) + off = (tgt : Int)) (k1 : 0 ≤ x → Z d M F b tgt ls st n σ) (k2 : ¬ (0 ≤ x) → Z d M F b (pc + 3) ls st n σ) : Z d M F b pc ls ((0, x) :: st) n σ :=
  Z_br (st' := st) (fun h => kht h) (fun p l e R s m args below meth c X H locs cells slots Q arr hx hb h kt kf => lv_if_ge hx hb hd ht (fun h1 => kt ((k32_le k0ok (kh1 h)).mp h1)) (fun h1 => kf (fun h2 => h1 ((k32_le k0ok (kh1 h)).mpr h2)))) k1 k2
theorem Z_icmp_ge {x y off : Int} {tgt : Nat} (hd : decode M.2.1 pc = .ok (.if_icmp .ge off, 3)) (ht : (pc : Int) + off = (tgt : Int)) (k1 : y ≤ x → Z d M F b tgt ls st n σ) (k2 : ¬ (y ≤ x) → Z d M F b (pc + 3) ls st n σ) : Z d M F b pc ls ((0, y) :: (0, x) :: st) n σ :=
  Z_br (st' := st) (fun h => kht (kht h)) (fun p l e R s m args below meth c X H locs cells slots Q arr hx hb h kt kf => lv_icmp_ge hx hb hd ht (fun h1 => kt ((k32_le (kh1 h) (kh2 h)).mp h1)) (fun h1 => kf (fun h2 => h1 ((k32_le (kh1 h) (kh2 h)).mpr h2)))) k1 k2
theorem Z_if_gt {x off : Int} {tgt : Nat} (hd : decode M.2.1 pc = .ok (.ifCond .gt off, 3)) (ht : (pc : Int) + off = (tgt : Int)) (k1 : 0 < x → Z d M F b tgt ls st n σ) (k2 : ¬ (0 < x) → Z d M F b (pc + 3) ls st n σ) : Z d M F b pc ls ((0, x) :: st) n σ :=
  Z_br (st' := st) (fun h => kht h) (fun p l e R s m args below meth c X H locs cells slots Q arr hx hb h kt kf => lv_if_gt hx hb hd ht (fun h1 => kt ((k32_lt k0ok (kh1 h)).mp h1)) (fun h1 => kf (fun h2 => h1 ((k32_lt k0ok (kh1 h)).mpr h2)))) k1 k2
theorem Z_icmp_gt {x y off : Int} {tgt : Nat} (hd : decode M.2.1 pc = .ok (.if_icmp .gt off, 3)) (ht : (pc : Int) + off = (tgt : Int)) (k1 : y < x → Z d M F b tgt ls st n σ) (k2 : ¬ (y < x) → Z d M F b (pc + 3) ls st n σ) : Z d M F b pc ls ((0, y) :: (0, x) :: st) n σ :=
  Z_br (st' := st) (fun h => kht (kht h)) (fun p l e R s m args below meth c X H locs cells slots Q arr hx hb h kt kf => lv_icmp_gt hx hb hd ht (fun h1 => kt ((k32_lt (kh1 h) (kh2 h)).mp h1)) (fun h1 => kf (fun h2 => h1 ((k32_lt (kh1 h) (kh2 h)).mpr h2)))) k1 k2
theorem Z_if_le {x off : Int} {tgt : Nat} (hd : decode M.2.1 pc = .ok (.ifCond .le off, 3)) (ht : (pc : Int) + off = (tgt : Int)) (k1 : x ≤ 0 → Z d M F b tgt ls st n σ) (k2 : ¬ (x ≤ 0) → Z d M F b (pc + 3) ls st n σ) : Z d M F b pc ls ((0, x) :: st) n σ :=
  Z_br (st' := st) (fun h => kht h) (fun p l e R s m args below meth c X H locs cells slots Q arr hx hb h kt kf => lv_if_le hx hb hd ht (fun h1 => kt ((k32_le (kh1 h) k0ok).mp h1)) (fun h1 => kf (fun h2 => h1 ((k32_le (kh1 h) k0ok).mpr h2)))) k1 k2
theorem Z_icmp_le {x y off : Int} {tgt : Nat} (hd : decode M.2.1 pc = .ok (.if_icmp .le off, 3)) (ht : (pc : Int) + off = (tgt : Int)) (k1 : x ≤ y → Z d M F b tgt ls st n σ) (k2 : ¬ (x ≤ y) → Z d M F b (pc + 3) ls st n σ) : Z d M F b pc ls ((0, y) :: (0, x) :: st) n σ :=
  Z_br (st' := st) (fun h => kht (kht h)) (fun p l e R s m args below meth c X H locs cells slots Q arr hx hb h kt kf => lv_icmp_le hx hb hd ht (fun h1 => kt ((k32_le (kh2 h) (kh1 h)).mp h1)) (fun h1 => kf (fun h2 => h1 ((k32_le (kh2 h) (kh1 h)).mpr h2)))) k1 k2
theorem Z_sw1 {x dflt lo hi c off : Int} {offs : Array Int} {len tgt : Nat} (hd : decode M.2.1 pc = .ok (.tableswitch dflt lo hi offs, len)) (hx : x = c) (hc : lo ≤ c ∧ c ≤ hi) (ho : offs[(c - lo).toNat]? = some off) (ht : (pc : Int) + off = (tgt : Int)) (k : Z d M F b tgt ls st n σ) : Z d M F b pc ls ((0, x) :: st) n σ :=
  Z_op (st' := st) (fun h => kht h) (fun p l e R s m args below meth c' X H locs cells slots Q arr hF hl h kk => by
    have hi' : (Int32.ofInt x).toInt = c := by rw [k32 (kh1 h), hx]
    exact lv_tableIn hF.1 hF.2.1 hd (by rw [hi']; omega) (by rw [hi']; omega) (by rw [hi']; exact ho) ht kk) k
theorem Z_sw0 {x dflt lo hi : Int} {offs : Array Int} {len tgt : Nat} (hd : decode M.2.1 pc = .ok (.tableswitch dflt lo hi offs, len)) (hx : x < lo ∨ hi < x) (ht : (pc : Int) + dflt = (tgt : Int)) (k : Z d M F b tgt ls st n σ) : Z d M F b pc ls ((0, x) :: st) n σ :=
  Z_op (st' := st) (fun h => kht h) (fun p l e R s m args below meth c' X H locs cells slots Q arr hF hl h kk => by
    exact lv_tableOut hF.1 hF.2.1 hd (by rw [k32 (kh1 h)]; exact hx) ht kk) k
theorem Z_st {v : kV} {ls' : List (Nat × kV)} {pc' : Nat} (hok : kok v → (∀ q ∈ ls, kok q.2) → ∀ q ∈ ls', kok q.2)
    (row : ∀ (p : Program) (l : Launch) (e : Env) (R : Room) (s : State) (m : MethodId) (args : Array Value) (below : List Frame) (meth : Method) (c : Code) (X : kX) (H : Heap) (locs : List Loc) (cells slots : Nat) (Q : State → Prop) (arr : Array Slot), p.tables.exec = Jvm.exec → c.code = M.2.1 → lv_has arr M.2.2.1 (kcl X ls) →
      (∀ arr' : Array Slot, lv_has arr' M.2.2.1 (kcl X ls') → W p l e R s m args below meth c H locs cells slots Q (F0 m pc' arr' (st.map (kcv X)))) → W p l e R s m args below meth c H locs cells slots Q (F0 m pc arr (kcv X v :: st.map (kcv X))))
    (k : Z d M F b pc' ls' st n σ) : Z d M F b pc ls (v :: st) n σ := by
  intro p l e s m args below meth c X H locs cells slots mc ms Qc arr ⟨hF, hP, hl, h1, h2, h3⟩
  exact row p l e _ s m args below meth c X H locs cells slots _ arr hF.1 hF.2.1 hl (fun arr' hl' => k p l e s m args below meth c X H locs cells slots mc ms Qc arr' ⟨hF, hP, hl', hok (kh1 h2) h1, kht h2, h3⟩)
theorem Z_istore_n {j : Fin 4} {i : Nat} {x : Int} {ls' : List (Nat × kV)} (hd : decode M.2.1 pc = .ok (.istore_n j, 1)) (hi : (j : Nat) = i) (hn : i < M.2.2.1) (hl : ks1 i (0, x) ls = ls') (k : Z d M F b (pc + 1) ls' st n σ) : Z d M F b pc ls ((0, x) :: st) n σ := by
  subst hl
  exact Z_st (fun hv h => ks1_ok hv h) (fun p l e R s m args below meth c X H locs cells slots Q arr hx hb ha kk => lv_istore_n hx hb hd hi ha hn rfl fun a h => kk a (ks1_has (v := (0, x)) h)) k
theorem Z_istore {i : Nat} {x : Int} {ls' : List (Nat × kV)} (hd : decode M.2.1 pc = .ok (.istore i, 2)) (hn : i < M.2.2.1) (hl : ks1 i (0, x) ls = ls') (k : Z d M F b (pc + 2) ls' st n σ) : Z d M F b pc ls ((0, x) :: st) n σ := by
  subst hl
  exact Z_st (fun hv h => ks1_ok hv h) (fun p l e R s m args below meth c X H locs cells slots Q arr hx hb ha kk => lv_istore hx hb hd ha hn rfl fun a h => kk a (ks1_has (v := (0, x)) h)) k
theorem Z_lstore_n {j : Fin 4} {i : Nat} {x : Int} {ls' : List (Nat × kV)} (hd : decode M.2.1 pc = .ok (.lstore_n j, 1)) (hi : (j : Nat) = i) (hn : i + 1 < M.2.2.1) (hl : ks2 i (1, x) ls = ls') (k : Z d M F b (pc + 1) ls' st n σ) : Z d M F b pc ls ((1, x) :: st) n σ := by
  subst hl
  exact Z_st (fun hv h => ks2_ok hv h) (fun p l e R s m args below meth c X H locs cells slots Q arr hx hb ha kk => lv_lstore_n hx hb hd hi ha hn rfl fun a h => kk a (ks2_has (v := (1, x)) h)) k
theorem Z_lstore {i : Nat} {x : Int} {ls' : List (Nat × kV)} (hd : decode M.2.1 pc = .ok (.lstore i, 2)) (hn : i + 1 < M.2.2.1) (hl : ks2 i (1, x) ls = ls') (k : Z d M F b (pc + 2) ls' st n σ) : Z d M F b pc ls ((1, x) :: st) n σ := by
  subst hl
  exact Z_st (fun hv h => ks2_ok hv h) (fun p l e R s m args below meth c X H locs cells slots Q arr hx hb ha kk => lv_lstore hx hb hd ha hn rfl fun a h => kk a (ks2_has (v := (1, x)) h)) k
theorem Z_astore_n {j : Fin 4} {i : Nat} {x : Int} {ls' : List (Nat × kV)} (hd : decode M.2.1 pc = .ok (.astore_n j, 1)) (hi : (j : Nat) = i) (hn : i < M.2.2.1) (hl : ks1 i (2, x) ls = ls') (k : Z d M F b (pc + 1) ls' st n σ) : Z d M F b pc ls ((2, x) :: st) n σ := by
  subst hl
  exact Z_st (fun hv h => ks1_ok hv h) (fun p l e R s m args below meth c X H locs cells slots Q arr hx hb ha kk => by
    have kk' : ∀ arr' : Array Slot, lv_has arr' M.2.2.1 ((i, kcv X (2, x)) :: (kcl X ls).filter (fun q => !(q.1 == i) && !(q.1 + 1 == i && q.2.category == 2))) → W p l e R s m args below meth c H locs cells slots Q (F0 m (pc + 1) arr' (st.map (kcv X))) := fun a h => kk a (ks1_has (v := (2, x)) h)
    cases hr : kref X x with
    | none =>
      have e1 : kcv X (2, x) = .null := by show va_rf (kref X x) = _; rw [hr]; rfl
      rw [e1] at kk' ⊢
      exact lv_astore_nN hx hb hd hi ha hn rfl kk'
    | some q =>
      have e1 : kcv X (2, x) = .ref q := by show va_rf (kref X x) = _; rw [hr]; rfl
      rw [e1] at kk' ⊢
      exact lv_astore_n hx hb hd hi ha hn rfl kk') k
theorem Z_astore {i : Nat} {x : Int} {ls' : List (Nat × kV)} (hd : decode M.2.1 pc = .ok (.astore i, 2)) (hn : i < M.2.2.1) (hl : ks1 i (2, x) ls = ls') (k : Z d M F b (pc + 2) ls' st n σ) : Z d M F b pc ls ((2, x) :: st) n σ := by
  subst hl
  exact Z_st (fun hv h => ks1_ok hv h) (fun p l e R s m args below meth c X H locs cells slots Q arr hx hb ha kk => by
    have kk' : ∀ arr' : Array Slot, lv_has arr' M.2.2.1 ((i, kcv X (2, x)) :: (kcl X ls).filter (fun q => !(q.1 == i) && !(q.1 + 1 == i && q.2.category == 2))) → W p l e R s m args below meth c H locs cells slots Q (F0 m (pc + 2) arr' (st.map (kcv X))) := fun a h => kk a (ks1_has (v := (2, x)) h)
    cases hr : kref X x with
    | none =>
      have e1 : kcv X (2, x) = .null := by show va_rf (kref X x) = _; rw [hr]; rfl
      rw [e1] at kk' ⊢
      exact lv_astoreN hx hb hd ha hn rfl kk'
    | some q =>
      have e1 : kcv X (2, x) = .ref q := by show va_rf (kref X x) = _; rw [hr]; rfl
      rw [e1] at kk' ⊢
      exact lv_astore hx hb hd ha hn rfl kk') k
theorem Z_iinc {i : Nat} {a x : Int} {ls' : List (Nat × kV)} (k0 : Nat) (hd : decode M.2.1 pc = .ok (.iinc i a, 3)) (hk : ls[k0]? = some (i, (0, x))) (hr : -2147483648 ≤ x + a ∧ x + a ≤ 2147483647) (hn : i < M.2.2.1) (hl : ks1 i (0, x + a) ls = ls') (k : Z d M F b (pc + 3) ls' st n σ) : Z d M F b pc ls st n σ := by
  subst hl
  intro p l e s m args below meth c X H locs cells slots mc ms Qc arr ⟨hF, hP, hl, h1, h2, h3⟩
  refine lv_iinc (v := Int32.ofInt (x + a)) hF.1 hF.2.1 hd hl (k := k0) (x := Int32.ofInt x) ?_ (by rw [Int32.ofInt_add]) hn rfl fun arr' h' => k p l e s m args below meth c X H locs cells slots mc ms Qc arr' ⟨hF, hP, ks1_has (v := (0, x + a)) h', ks1_ok hr h1, h2, h3⟩
  show (ls.map _)[k0]? = _
  rw [List.getElem?_map, hk]
  rfl
theorem Z_fg {ls' : List (Nat × kV)} (hs : ∀ q ∈ ls', q ∈ ls) (k : Z d M F b pc ls' st n σ) : Z d M F b pc ls st n σ := by
  intro p l e s m args below meth c X H locs cells slots mc ms Qc arr ⟨hF, hP, hl, h1, h2, h3⟩
  refine k p l e s m args below meth c X H locs cells slots mc ms Qc arr ⟨hF, hP, ⟨hl.1, hl.2.1, fun q hq => ?_⟩, fun q hq => h1 q (hs q hq), h2, h3⟩
  obtain ⟨q', hq', rfl⟩ := List.mem_map.mp hq
  exact hl.2.2 _ (List.mem_map_of_mem (hs q' hq'))
theorem Z_pick {ls' : List (Nat × kV)} (ks : List Nat) (hs : kpick ls ks = ls') (k : Z d M F b pc ls' st n σ) : Z d M F b pc ls st n σ :=
  Z_fg (fun q hq => by
    subst hs
    obtain ⟨i, -, hi⟩ := List.mem_filterMap.mp hq
    exact List.mem_of_getElem? hi) k
theorem Z_getf {index c j N : Nat} {C : String} {T : u_T} {r : Int} (hd : decode M.2.1 pc = .ok (.getfield index, 3)) (hl : kFL M.1.cls index c j C T N) (hr : isO c n r)
    (k : Z d M F b (pc + 3) ls ((ktag (kkd c j), σ r j) :: st) n σ) : Z d M F b pc ls ((2, r) :: st) n σ := by
  intro p l e s m args below meth cd X H locs cells slots mc ms Qc arr ⟨hF, hP, hlv, h1, h2, h3⟩
  obtain ⟨q1, q2, q3, q4, q5, q6⟩ := hl
  obtain ⟨r1, r2, r3⟩ := hr
  have hlt : r.toNat < n := by omega
  have hat := kwl_at (X := X) (σ := σ) hlt
  rw [r3, kent_o q3, k_toNat r1, q4] at hat
  have hjk : j < (ksh r.toNat).2 := by rw [r3]; show j < (kfd.getD c []).length; omega
  have hv : kok (ktag (kkd c j), σ r j) := kok_of (by
    have := hP.2.2.1 r.toNat hlt j hjk
    rw [r3, k_toNat r1] at this
    exact this)
  have kk := k p l e s m args below meth cd X H locs cells slots mc ms Qc arr ⟨hF, hP, hlv, h1, khc hv (kht h2), h3⟩
  show W p l e (kRm d mc ms) s m args below meth cd H locs cells slots _ (F0 m pc arr (kcv X (2, r) :: st.map (kcv X)))
  rw [kcv_ref r1]
  obtain ⟨f1, f2, f3, f4, f5, f6, f7, f8, f9, f10⟩ := hF
  rcases q6 with q6 | ⟨host, q6⟩
  · exact va_get f1 f2 f8 q5 f6 f9 hP.1 r.toNat hat q1 j q2 (f8 _ q6) (fun x h => h) (by rw [List.getElem?_map, List.getElem?_range q2]; rfl) hd kk
  · exact va_getN f1 f2 f8 q5 f6 f9 hP.1 r.toNat hat q1 j q2 (f8 _ q6) (fun x h => h) (by rw [List.getElem?_map, List.getElem?_range q2]; rfl) hd kk
theorem Z_putf {index c j N : Nat} {C : String} {T : u_T} {ty0 : Nat → FieldType} {r x : Int} (hd : decode M.2.1 pc = .ok (.putfield index, 3)) (hl : kFL M.1.cls index c j C T N) (hT : kFT c T N ty0) (hfin : (T j).2.2.2 = false ∨ ((T j).2.2.2 = true ∧ M.1.name = "<init>" ∧ (T j).1 = M.1.cls ∧ Cond.fieldLink M.1.cls index (T j).1 (T j).2.1 (T j).2.2.1 ∈ TB)) (hr : isO c n r) (hx0 : kok (ktag (kkd c j), x) → kokk (kkd c j) x)
    (k : Z d M F b (pc + 3) ls st n (kst σ r j x)) : Z d M F b pc ls ((ktag (kkd c j), x) :: (2, r) :: st) n σ := by
  intro p l e s m args below meth cd X H locs cells slots mc ms Qc arr ⟨hF, hP, hlv, h1, h2, h3⟩
  obtain ⟨q1, q2, q3, q4, q5, q6⟩ := hl
  obtain ⟨r1, r2, r3⟩ := hr
  have hlt : r.toNat < n := by omega
  have hat := kwl_at (X := X) (σ := σ) hlt
  rw [r3, kent_o q3, k_toNat r1, q4] at hat
  have hF0 := hF
  show W p l e (kRm d mc ms) s m args below meth cd H locs cells slots _ (F0 m pc arr (kcv X (ktag (kkd c j), x) :: kcv X (2, r) :: st.map (kcv X)))
  rw [kcv_ref r1]
  obtain ⟨f1, f2, f3, f4, f5, f6, f7, f8, f9, f10⟩ := hF0
  have hx := hx0 (kh1 h2)
  obtain ⟨t1, t2⟩ := k_nf (X := X) (hT.2.2 j q2) hx
  have hap := va_apart (own := M.1.cls) f8 q5 ty0 hT.1 hT.2.1 f9 q1
  obtain ⟨rr, g1, cell, g2, g3, g4, g5⟩ := hP.1 r.toNat _ hat
  have hrr : rr = (C, T, N) := Option.some.inj (g1.symm.trans q1)
  subst hrr
  obtain ⟨hS, hfc, kC, hkC, hkind⟩ := f9.1 c _ q1
  obtain ⟨cf, kf, fi, f, hi, hsl⟩ := hS j q2
  have hst := (u_facts hfc hkC (u_lays f8 q5 q2) hi).1
  have hlen : j < ((List.range N).map fun i : Nat => kcv X (ktag (kkd c i), σ r i)).length := by simpa using q2
  have key : ∀ (H1 : Heap) (sl : Nat), H1[X.1 + r.toNat]? = some (cell.setSlot (X.2.2.1.2 c j) (kcv X (ktag (kkd c j), x))) → H1.size = H.size → (∀ q, q ≠ X.1 + r.toNat → H1[q]? = H[q]?) → W p l e (kRm d mc ms) s m args below meth cd H1 (locs ++ [⟨X.1 + r.toNat, sl⟩]) cells slots Qc (F0 m (pc + 3) arr (st.map (kcv X))) := fun H1 sl e1 e2 e3 => by
    refine k p l e s m args below meth cd X H1 _ cells slots mc ms Qc arr ⟨hF, hP.put r1 r2 e2 ?_ e3 (by rw [r3, Int.toNat_natCast]; exact hx) (by omega), hlv, h1, kht (kht h2), h3⟩
    rw [r3, kent_o q3, q4, ← k_setO q2]
    exact ⟨_, q1, t_OB.to (V := updV (vp_V _) j _) ⟨_, e1, g3, g4, t_set g5 hap q2 _⟩ (fun i _ => vp_updV_set hlen _ i)⟩
  have hhas := k2_hasslot (g5 j q2)
  rcases hfin with hfin | ⟨hfin, hin, hdecl, hw⟩
  · have hlay := f8 _ (q5 _ (u_in_lay q2))
    unfold u_lay at hlay
    rw [if_neg (by rw [hfin]; decide)] at hlay
    have h6 := u_store hfc hkC hkind hlay hi (hT.1 j q2) t1 t2
    rcases q6 with q6 | ⟨host, q6⟩
    · refine W.putK f1 f2 (f := f) ⟨f6, f8 _ q6, ⟨_, _, _, hi⟩, hst⟩ (by rw [g3]; exact h6) g2 g4 (by rw [hsl]; exact hhas) rfl rfl hd fun H' e1 e2 e3 => ?_
      rw [hsl] at e1
      exact key H' _ e1 e2 e3
    · refine va_WputK f1 f2 (f := f) f6 (f8 _ q6) hi hst (by rw [g3]; exact h6) g2 g4 (by rw [hsl]; exact hhas) rfl rfl hd fun H' e1 e2 e3 => ?_
      rw [hsl] at e1
      exact key H' _ e1 e2 e3
  · have hlay := f8 _ (q5 _ (u_in_lay q2))
    unfold u_lay at hlay
    rw [if_pos hfin] at hlay
    have hcf : m.cls = cf := by
      obtain ⟨_, _, c', _, _, _, -, -, hf', -, -, -, hown2, -⟩ := Cond.laysFinal_spec hlay
      have e1 : c' = cf := by have := hi.symm.trans hf'; simp at this; exact this.1.symm
      rw [hdecl] at hown2
      rw [← e1]; exact Option.some.inj (f6.symm.trans hown2)
    have h6 := u_fits hfc hkC hkind (Or.inr hlay) hi (hT.1 j q2) t1 t2
    refine W.putFinK f1 f2 f6 (f8 _ hw) hi hst hcf (by rw [f7]; exact hin) (by rw [g3]; exact h6) g2 g4 (by rw [hsl]; exact hhas) rfl rfl hd fun H' e1 e2 e3 => ?_
    rw [hsl] at e1
    exact key H' _ e1 e2 e3
theorem Z_iaload {a i : Int} (hd : decode M.2.1 pc = .ok (.iaload, 1)) (hA : isA 20 n a) (h0 : 0 ≤ i) (hlt : i < klen a) (k : Z d M F b (pc + 1) ls ((0, σ a i) :: st) n σ) : Z d M F b pc ls ((0, i) :: (2, a) :: st) n σ := by
  intro p l e s m args below meth cd X H locs cells slots mc ms Qc arr ⟨hF, hP, hlv, h1, h2, h3⟩
  obtain ⟨a1, a2, a3⟩ := hA
  have hn : a.toNat < n := by omega
  have hat := kwl_at (X := X) (σ := σ) hn
  rw [a3, kent_i (by omega) (by omega), k_toNat a1] at hat
  have hs := ksh_small a.toNat
  have hlt' : i < ((ksh a.toNat).2 : Int) := hlt
  have hi : i ≤ 2147483647 := by omega
  have hin := k_vin h0 hlt' hi
  have hv : kok (0, σ a i) := by
    have := hP.2.2.1 a.toNat hn i.toNat (by omega)
    rw [a3, k_toNat a1, k_toNat h0] at this
    exact this
  have kk := k p l e s m args below meth cd X H locs cells slots mc ms Qc arr ⟨hF, hP, hlv, h1, khc hv (kht (kht h2)), h3⟩
  show W p l e (kRm d mc ms) s m args below meth cd H locs cells slots _ (F0 m pc arr (kcv X (0, i) :: kcv X (2, a) :: st.map (kcv X)))
  rw [kcv_ref a1]
  refine va_iald hF.1 hF.2.1 hF.2.2.2.2.2.2.2.2.1 hP.1 a.toNat 0 hat rfl hin hd ?_
  rw [k_clamp h0 hi, k_toNat h0]
  exact kk
theorem Z_baload {a i : Int} (hd : decode M.2.1 pc = .ok (.baload, 1)) (hA : isA 21 n a ∨ isA 22 n a) (h0 : 0 ≤ i) (hlt : i < klen a) (k : Z d M F b (pc + 1) ls ((0, σ a i) :: st) n σ) : Z d M F b pc ls ((0, i) :: (2, a) :: st) n σ := by
  intro p l e s m args below meth cd X H locs cells slots mc ms Qc arr ⟨hF, hP, hlv, h1, h2, h3⟩
  have a1 : 0 ≤ a := hA.elim (fun h => h.1) (fun h => h.1)
  have a2 : a < n := hA.elim (fun h => h.2.1) (fun h => h.2.1)
  have hn : a.toNat < n := by omega
  have hat := kwl_at (X := X) (σ := σ) hn
  have hs := ksh_small a.toNat
  have hlt' : i < ((ksh a.toNat).2 : Int) := hlt
  have hi : i ≤ 2147483647 := by omega
  have hin := k_vin h0 hlt' hi
  have hq := hP.2.2.1 a.toNat hn i.toNat (by omega)
  rw [k_toNat a1, k_toNat h0] at hq
  rw [k_toNat a1] at hat
  show W p l e (kRm d mc ms) s m args below meth cd H locs cells slots _ (F0 m pc arr (kcv X (0, i) :: kcv X (2, a) :: st.map (kcv X)))
  rw [kcv_ref a1]
  rcases hA with ⟨-, -, a3⟩ | ⟨-, -, a3⟩
  · rw [a3] at hq
    rw [a3, kent_i (by omega) (by omega)] at hat
    have hv : kok (0, σ a i) := by
      have hq' : -128 ≤ σ a i ∧ σ a i ≤ 127 := hq
      exact ⟨by omega, by omega⟩
    have kk := k p l e s m args below meth cd X H locs cells slots mc ms Qc arr ⟨hF, hP, hlv, h1, khc hv (kht (kht h2)), h3⟩
    refine va_bald hF.1 hF.2.1 hF.2.2.2.2.2.2.2.2.1 hP.1 a.toNat 1 hat rfl hin hd ?_
    rw [k_clamp h0 hi, k_toNat h0]
    exact kk
  · rw [a3] at hq
    rw [a3, kent_i (by omega) (by omega)] at hat
    have hv : kok (0, σ a i) := by
      have hq' : 0 ≤ σ a i ∧ σ a i ≤ 1 := hq
      exact ⟨by omega, by omega⟩
    have kk := k p l e s m args below meth cd X H locs cells slots mc ms Qc arr ⟨hF, hP, hlv, h1, khc hv (kht (kht h2)), h3⟩
    refine va_zald hF.1 hF.2.1 hF.2.2.2.2.2.2.2.2.1 hP.1 a.toNat 2 hat rfl hin hd ?_
    rw [k_clamp h0 hi, k_toNat h0]
    exact kk
theorem Z_laload {a i : Int} (hd : decode M.2.1 pc = .ok (.laload, 1)) (hA : isA 23 n a) (h0 : 0 ≤ i) (hlt : i < klen a) (k : Z d M F b (pc + 1) ls ((1, σ a i) :: st) n σ) : Z d M F b pc ls ((0, i) :: (2, a) :: st) n σ := by
  intro p l e s m args below meth cd X H locs cells slots mc ms Qc arr ⟨hF, hP, hlv, h1, h2, h3⟩
  obtain ⟨a1, a2, a3⟩ := hA
  have hn : a.toNat < n := by omega
  have hat := kwl_at (X := X) (σ := σ) hn
  rw [a3, kent_l, k_toNat a1] at hat
  have hs := ksh_small a.toNat
  have hlt' : i < ((ksh a.toNat).2 : Int) := hlt
  have hi : i ≤ 2147483647 := by omega
  have hin := k_vin h0 hlt' hi
  have hv : kok (1, σ a i) := by
    have := hP.2.2.1 a.toNat hn i.toNat (by omega)
    rw [a3, k_toNat a1, k_toNat h0] at this
    exact this
  have kk := k p l e s m args below meth cd X H locs cells slots mc ms Qc arr ⟨hF, hP, hlv, h1, khc hv (kht (kht h2)), h3⟩
  show W p l e (kRm d mc ms) s m args below meth cd H locs cells slots _ (F0 m pc arr (kcv X (0, i) :: kcv X (2, a) :: st.map (kcv X)))
  rw [kcv_ref a1]
  refine va_lald hF.1 hF.2.1 hF.2.2.2.2.2.2.2.2.1 hP.1 a.toNat 3 hat rfl hin hd ?_
  rw [k_clamp h0 hi, k_toNat h0]
  exact kk
theorem Z_aaload {c : Nat} {a i : Int} (hd : decode M.2.1 pc = .ok (.aaload, 1)) (hc : 24 ≤ c ∧ c ≤ 28) (hA : isA c n a) (h0 : 0 ≤ i) (hlt : i < klen a) (k : Z d M F b (pc + 1) ls ((2, σ a i) :: st) n σ) : Z d M F b pc ls ((0, i) :: (2, a) :: st) n σ := by
  intro p l e s m args below meth cd X H locs cells slots mc ms Qc arr ⟨hF, hP, hlv, h1, h2, h3⟩
  obtain ⟨a1, a2, a3⟩ := hA
  have hn : a.toNat < n := by omega
  have hat := kwl_at (X := X) (σ := σ) hn
  rw [a3, kent_q hc.1, k_toNat a1] at hat
  have hs := ksh_small a.toNat
  have hlt' : i < ((ksh a.toNat).2 : Int) := hlt
  have hi : i ≤ 2147483647 := by omega
  have hin := k_vin h0 hlt' hi
  have hlt2 : (Int32.ofInt i).toNatClampNeg < (ksh a.toNat).2 := Nat.not_le.mp fun q => hin (Or.inr q)
  have kk := k p l e s m args below meth cd X H locs cells slots mc ms Qc arr ⟨hF, hP, hlv, h1, khc (v := (2, σ a i)) trivial (kht (kht h2)), h3⟩
  show W p l e (kRm d mc ms) s m args below meth cd H locs cells slots _ (F0 m pc arr (kcv X (0, i) :: kcv X (2, a) :: st.map (kcv X)))
  rw [kcv_ref a1]
  have hty : ∃ ty : FieldType, ty.isReference = true ∧ ∃ t0 : Nat, (ktys X)[t0]? = some (X.2.2.2 c, ty) := by
    rcases (show c = 24 ∨ c = 25 ∨ c = 26 ∨ c = 27 ∨ c = 28 by omega) with rfl | rfl | rfl | rfl | rfl
    · exact ⟨_, rfl, 4, rfl⟩
    · exact ⟨_, rfl, 5, rfl⟩
    · exact ⟨_, rfl, 6, rfl⟩
    · exact ⟨_, rfl, 7, rfl⟩
    · exact ⟨_, rfl, 8, rfl⟩
  obtain ⟨ty, hr, t0, ht⟩ := hty
  refine W.aald (v := va_rf (kref X (σ a i))) (ty := ty) hF.1 hF.2.1 (hP.1 a.toNat _ hat) (k_arrOf hF.2.2.2.2.2.2.2.2.1 t0 ht _ _) hr (fun q => by cases q) (by show ¬ (_ < 0 ∨ (arrV _ _ _).slots.size ≤ _); rw [arrV_size]; exact hin) (by show (arrV _ _ _).slots[_]? = _; rw [arrV_read _ _ hlt2, k_clamp h0 hi]; show some (va_rf (kref X (σ a (i.toNat : Int)))) = _; rw [k_toNat h0]) rfl rfl hd ?_
  exact kk
theorem Z_alen {c : Nat} {a : Int} (hd : decode M.2.1 pc = .ok (.arraylength, 1)) (hc : 20 ≤ c ∧ c ≤ 28) (hA : isA c n a) (k : Z d M F b (pc + 1) ls ((0, klen a) :: st) n σ) : Z d M F b pc ls ((2, a) :: st) n σ := by
  intro p l e s m args below meth cd X H locs cells slots mc ms Qc arr ⟨hF, hP, hlv, h1, h2, h3⟩
  obtain ⟨a1, a2, a3⟩ := hA
  have hn : a.toNat < n := by omega
  have hat := kwl_at (X := X) (σ := σ) hn
  rw [k_toNat a1] at hat
  have hs := ksh_small a.toNat
  have hv : kok (0, klen a) := ⟨by unfold klen; omega, by unfold klen; omega⟩
  have kk := k p l e s m args below meth cd X H locs cells slots mc ms Qc arr ⟨hF, hP, hlv, h1, khc hv (kht h2), h3⟩
  show W p l e (kRm d mc ms) s m args below meth cd H locs cells slots _ (F0 m pc arr (kcv X (2, a) :: st.map (kcv X)))
  rw [kcv_ref a1]
  have hK := hF.2.2.2.2.2.2.2.2.1
  have e1 : Int32.ofNat (ksh a.toNat).2 = Int32.ofInt (klen a) := by
    apply k32_inj
    rw [k32 hv, Int32.toInt_ofNat_of_lt (by omega)]
    rfl
  rcases (show c = 20 ∨ c = 21 ∨ c = 22 ∨ c = 23 ∨ c = 24 ∨ c = 25 ∨ c = 26 ∨ c = 27 ∨ c = 28 by omega) with rfl | rfl | rfl | rfl | rfl | rfl | rfl | rfl | rfl
  · rw [a3, kent_i (by omega) (by omega)] at hat
    exact va_alen hF.1 hF.2.1 hK hP.1 a.toNat 0 hat rfl e1 hd kk
  · rw [a3, kent_i (by omega) (by omega)] at hat
    exact va_alen hF.1 hF.2.1 hK hP.1 a.toNat 1 hat rfl e1 hd kk
  · rw [a3, kent_i (by omega) (by omega)] at hat
    exact va_alen hF.1 hF.2.1 hK hP.1 a.toNat 2 hat rfl e1 hd kk
  · rw [a3, kent_l] at hat
    exact va_alen hF.1 hF.2.1 hK hP.1 a.toNat 3 hat rfl e1 hd kk
  · rw [a3, kent_q (by omega)] at hat
    exact va_alen hF.1 hF.2.1 hK hP.1 a.toNat 4 hat rfl e1 hd kk
  · rw [a3, kent_q (by omega)] at hat
    exact va_alen hF.1 hF.2.1 hK hP.1 a.toNat 5 hat rfl e1 hd kk
  · rw [a3, kent_q (by omega)] at hat
    exact va_alen hF.1 hF.2.1 hK hP.1 a.toNat 6 hat rfl e1 hd kk
  · rw [a3, kent_q (by omega)] at hat
    exact va_alen hF.1 hF.2.1 hK hP.1 a.toNat 7 hat rfl e1 hd kk
  · rw [a3, kent_q (by omega)] at hat
    exact va_alen hF.1 hF.2.1 hK hP.1 a.toNat 8 hat rfl e1 hd kk
theorem Z_iastore {a i x : Int} (hd : decode M.2.1 pc = .ok (.iastore, 1)) (hA : isA 20 n a) (h0 : 0 ≤ i) (hlt : i < klen a) (k : Z d M F b (pc + 1) ls st n (kst σ a i x)) : Z d M F b pc ls ((0, x) :: (0, i) :: (2, a) :: st) n σ := by
  intro p l e s m args below meth cd X H locs cells slots mc ms Qc arr ⟨hF, hP, hlv, h1, h2, h3⟩
  obtain ⟨a1, a2, a3⟩ := hA
  have hn : a.toNat < n := by omega
  have hat := kwl_at (X := X) (σ := σ) hn
  rw [a3, kent_i (by omega) (by omega), k_toNat a1] at hat
  have hs := ksh_small a.toNat
  have hlt' : i < ((ksh a.toNat).2 : Int) := hlt
  have hi : i ≤ 2147483647 := by omega
  have hin := k_vin h0 hlt' hi
  show W p l e (kRm d mc ms) s m args below meth cd H locs cells slots _ (F0 m pc arr (kcv X (0, x) :: kcv X (0, i) :: kcv X (2, a) :: st.map (kcv X)))
  rw [kcv_ref a1]
  refine W.iast hF.1 hF.2.1 (hP.1 a.toNat _ hat) (k_arrOf hF.2.2.2.2.2.2.2.2.1 0 rfl _ _) (fun q => by cases q) (by show ¬ (_ < 0 ∨ (arrV _ _ _).slots.size ≤ _); rw [arrV_size]; exact hin) rfl rfl hd fun H1 e z oq => ?_
  refine k p l _ s m args below meth cd X H1 _ cells slots mc ms Qc arr ⟨hF, hP.put a1 a2 z ?_ oq (by rw [a3]; exact kh1 h2) h0, hlv, h1, kht (kht (kht h2)), h3⟩
  rw [a3, kent_i (by omega) (by omega), kst_self]
  show H1[X.1 + a.toNat]? = some (vp_cell _ _)
  rw [e]
  dsimp only
  rw [vp_cell_i, vp_cell_i]
  rw [arrV_store, k_clamp h0 hi]
  refine congrArg (fun f => some (arrV _ _ f)) (funext fun q => ?_)
  unfold updV
  by_cases hq : q = i.toNat
  · rw [if_pos hq, if_pos (by omega)]
  · rw [if_neg hq, if_neg (by omega)]
theorem Z_bastore {a i x : Int} (hd : decode M.2.1 pc = .ok (.bastore, 1)) (hA : (isA 21 n a ∧ -128 ≤ x ∧ x ≤ 127) ∨ (isA 22 n a ∧ 0 ≤ x ∧ x ≤ 1)) (h0 : 0 ≤ i) (hlt : i < klen a) (k : Z d M F b (pc + 1) ls st n (kst σ a i x)) : Z d M F b pc ls ((0, x) :: (0, i) :: (2, a) :: st) n σ := by
  intro p l e s m args below meth cd X H locs cells slots mc ms Qc arr ⟨hF, hP, hlv, h1, h2, h3⟩
  have a1 : 0 ≤ a := hA.elim (fun h => h.1.1) (fun h => h.1.1)
  have a2 : a < n := hA.elim (fun h => h.1.2.1) (fun h => h.1.2.1)
  have hn : a.toNat < n := by omega
  have hat := kwl_at (X := X) (σ := σ) hn
  have hs := ksh_small a.toNat
  have hlt' : i < ((ksh a.toNat).2 : Int) := hlt
  have hi : i ≤ 2147483647 := by omega
  have hin := k_vin h0 hlt' hi
  rw [k_toNat a1] at hat
  show W p l e (kRm d mc ms) s m args below meth cd H locs cells slots _ (F0 m pc arr (kcv X (0, x) :: kcv X (0, i) :: kcv X (2, a) :: st.map (kcv X)))
  rw [kcv_ref a1]
  rcases hA with ⟨⟨-, -, a3⟩, x1, x2⟩ | ⟨⟨-, -, a3⟩, x1, x2⟩
  · rw [a3, kent_i (by omega) (by omega)] at hat
    have hnar : narrow .byte (.int (Int32.ofInt x)) = .int (Int32.ofInt x) := by
      show Value.int (Int32.ofInt x).toInt8.toInt32 = _
      refine congrArg Value.int (k32_inj ?_)
      rw [Int8.toInt_toInt32, Int32.toInt_toInt8, k32 ⟨by omega, by omega⟩]
      show Int.bmod _ 256 = _
      exact Int.bmod_eq_of_le (by omega) (by omega)
    refine W.bast hF.1 hF.2.1 (hP.1 a.toNat _ hat) (k_arrOf hF.2.2.2.2.2.2.2.2.1 1 rfl _ _) (fun q => by cases q) (by show ¬ (_ < 0 ∨ (arrV _ _ _).slots.size ≤ _); rw [arrV_size]; exact hin) rfl rfl hd fun H1 e z oq => ?_
    refine k p l _ s m args below meth cd X H1 _ cells slots mc ms Qc arr ⟨hF, hP.put a1 a2 z ?_ oq (by rw [a3]; exact ⟨x1, x2⟩) h0, hlv, h1, kht (kht (kht h2)), h3⟩
    rw [a3, kent_i (by omega) (by omega), kst_self]
    show H1[X.1 + a.toNat]? = some (vp_cell _ _)
    rw [e, hnar]
    dsimp only
    rw [vp_cell_i, vp_cell_i]
    rw [arrV_store, k_clamp h0 hi]
    refine congrArg (fun f => some (arrV _ _ f)) (funext fun q => ?_)
    unfold updV
    by_cases hq : q = i.toNat
    · rw [if_pos hq, if_pos (by omega)]
    · rw [if_neg hq, if_neg (by omega)]
  · rw [a3, kent_i (by omega) (by omega)] at hat
    have hnar : narrow .boolean (.int (Int32.ofInt x)) = .int (Int32.ofInt x) := by
      rcases (show x = 0 ∨ x = 1 by omega) with rfl | rfl <;> rfl
    refine W.zast hF.1 hF.2.1 (hP.1 a.toNat _ hat) (k_arrOf hF.2.2.2.2.2.2.2.2.1 2 rfl _ _) (fun q => by cases q) (by show ¬ (_ < 0 ∨ (arrV _ _ _).slots.size ≤ _); rw [arrV_size]; exact hin) rfl rfl hd fun H1 e z oq => ?_
    refine k p l _ s m args below meth cd X H1 _ cells slots mc ms Qc arr ⟨hF, hP.put a1 a2 z ?_ oq (by rw [a3]; exact ⟨x1, x2⟩) h0, hlv, h1, kht (kht (kht h2)), h3⟩
    rw [a3, kent_i (by omega) (by omega), kst_self]
    show H1[X.1 + a.toNat]? = some (vp_cell _ _)
    rw [e, hnar]
    dsimp only
    rw [vp_cell_i, vp_cell_i]
    rw [arrV_store, k_clamp h0 hi]
    refine congrArg (fun f => some (arrV _ _ f)) (funext fun q => ?_)
    unfold updV
    by_cases hq : q = i.toNat
    · rw [if_pos hq, if_pos (by omega)]
    · rw [if_neg hq, if_neg (by omega)]
theorem Z_lastore {a i x : Int} (hd : decode M.2.1 pc = .ok (.lastore, 1)) (hA : isA 23 n a) (h0 : 0 ≤ i) (hlt : i < klen a) (k : Z d M F b (pc + 1) ls st n (kst σ a i x)) : Z d M F b pc ls ((1, x) :: (0, i) :: (2, a) :: st) n σ := by
  intro p l e s m args below meth cd X H locs cells slots mc ms Qc arr ⟨hF, hP, hlv, h1, h2, h3⟩
  obtain ⟨a1, a2, a3⟩ := hA
  have hn : a.toNat < n := by omega
  have hat := kwl_at (X := X) (σ := σ) hn
  rw [a3, kent_l, k_toNat a1] at hat
  have hs := ksh_small a.toNat
  have hlt' : i < ((ksh a.toNat).2 : Int) := hlt
  have hi : i ≤ 2147483647 := by omega
  have hin := k_vin h0 hlt' hi
  show W p l e (kRm d mc ms) s m args below meth cd H locs cells slots _ (F0 m pc arr (kcv X (1, x) :: kcv X (0, i) :: kcv X (2, a) :: st.map (kcv X)))
  rw [kcv_ref a1]
  refine W.last hF.1 hF.2.1 (hP.1 a.toNat _ hat) (k_arrOf hF.2.2.2.2.2.2.2.2.1 3 rfl _ _) (fun q => by cases q) (by show ¬ (_ < 0 ∨ (arrV _ _ _).slots.size ≤ _); rw [arrV_size]; exact hin) rfl rfl hd fun H1 e z oq => ?_
  refine k p l _ s m args below meth cd X H1 _ cells slots mc ms Qc arr ⟨hF, hP.put a1 a2 z ?_ oq (by rw [a3]; exact kh1 h2) h0, hlv, h1, kht (kht (kht h2)), h3⟩
  rw [a3, kent_l, kst_self]
  show H1[X.1 + a.toNat]? = some (vp_cell _ _)
  rw [e]
  dsimp only
  rw [vp_cell_l, vp_cell_l]
  rw [arrV_store, k_clamp h0 hi]
  refine congrArg (fun f => some (arrV _ _ f)) (funext fun q => ?_)
  unfold updV
  by_cases hq : q = i.toNat
  · rw [if_pos hq, if_pos (by omega)]
  · rw [if_neg hq, if_neg (by omega)]
theorem Z_acmp_ne {x y off : Int} {tgt : Nat} (hd : decode M.2.1 pc = .ok (.if_acmp .ne off, 3)) (ht : (pc : Int) + off = (tgt : Int)) (hx : -1 ≤ x) (hy : -1 ≤ y) (k1 : ¬ x = y → Z d M F b tgt ls st n σ) (k2 : ¬ ¬ x = y → Z d M F b (pc + 3) ls st n σ) : Z d M F b pc ls ((2, y) :: (2, x) :: st) n σ := by
  intro p l e s m args below meth cd X H locs cells slots mc ms Qc arr ⟨hF, hP, hlv, h1, h2, h3⟩
  exact lv_acmp_ne hF.1 hF.2.1 hd ht (fun h => k1 (fun e => h ((kref_inj hx hy).mpr e)) p l e s m args below meth cd X H locs cells slots mc ms Qc arr ⟨hF, hP, hlv, h1, kht (kht h2), h3⟩) (fun h => k2 (fun e => e ((kref_inj hx hy).mp h)) p l e s m args below meth cd X H locs cells slots mc ms Qc arr ⟨hF, hP, hlv, h1, kht (kht h2), h3⟩)
theorem Z_ifnonnull {x off : Int} {tgt : Nat} (hd : decode M.2.1 pc = .ok (.ifnonnull off, 3)) (ht : (pc : Int) + off = (tgt : Int)) (k1 : ¬ x = -1 → Z d M F b tgt ls st n σ) (k2 : ¬ ¬ x = -1 → Z d M F b (pc + 3) ls st n σ) : Z d M F b pc ls ((2, x) :: st) n σ := by
  intro p l e s m args below meth cd X H locs cells slots mc ms Qc arr ⟨hF, hP, hlv, h1, h2, h3⟩
  show W p l e (kRm d mc ms) s m args below meth cd H locs cells slots _ (F0 m pc arr (va_rf (kref X x) :: st.map (kcv X)))
  by_cases hx : x = -1
  · have e1 : kref X x = none := by unfold kref; rw [if_pos hx]
    rw [e1]
    exact lv_ifnonnullN hF.1 hF.2.1 hd (k2 (fun h => h hx) p l e s m args below meth cd X H locs cells slots mc ms Qc arr ⟨hF, hP, hlv, h1, kht h2, h3⟩)
  · have e1 : ∃ q, kref X x = some q := by
      unfold kref
      rw [if_neg hx]
      by_cases h : x < 0
      · exact ⟨_, if_pos h⟩
      · exact ⟨_, if_neg h⟩
    obtain ⟨q, e1⟩ := e1
    rw [e1]
    exact lv_ifnonnull hF.1 hF.2.1 hd ht (k1 hx p l e s m args below meth cd X H locs cells slots mc ms Qc arr ⟨hF, hP, hlv, h1, kht h2, h3⟩)
theorem Z_gsE {i : Nat} (hd : decode M.2.1 pc = .ok (.getstatic i, 3)) (hw : Cond.fieldLink M.1.cls i "OldRoads" "EAST" "[I" ∈ TB) (k : Z d M F b (pc + 3) ls ((2, -2) :: st) n σ) : Z d M F b pc ls st n σ := by
  intro p l e s m args below meth cd X H locs cells slots mc ms Qc arr ⟨hF, hP, hlv, h1, h2, h3⟩
  refine va_gets hF.1 hF.2.1 hF.2.2.2.2.2.2.2.2.2.1.1 hP.2.1 hF.2.2.2.2.2.1 (hF.2.2.2.2.2.2.2.1 _ hw) (fun x h => h) hd ?_
  exact k p l e s m args below meth cd X H locs cells slots mc ms Qc arr ⟨hF, hP, hlv, h1, khc (v := (2, -2)) trivial h2, h3⟩
theorem Z_gsS {i : Nat} (hd : decode M.2.1 pc = .ok (.getstatic i, 3)) (hw : Cond.fieldLink M.1.cls i "OldRoads" "SOUTH" "[I" ∈ TB) (k : Z d M F b (pc + 3) ls ((2, -3) :: st) n σ) : Z d M F b pc ls st n σ := by
  intro p l e s m args below meth cd X H locs cells slots mc ms Qc arr ⟨hF, hP, hlv, h1, h2, h3⟩
  refine va_gets hF.1 hF.2.1 hF.2.2.2.2.2.2.2.2.2.2.1.1 hP.2.1 hF.2.2.2.2.2.1 (hF.2.2.2.2.2.2.2.1 _ hw) (fun x h => h) hd ?_
  exact k p l e s m args below meth cd X H locs cells slots mc ms Qc arr ⟨hF, hP, hlv, h1, khc (v := (2, -3)) trivial h2, h3⟩
theorem Z_ialE {i : Int} (hd : decode M.2.1 pc = .ok (.iaload, 1)) (h0 : 0 ≤ i) (hlt : i < 8) (k : Z d M F b (pc + 1) ls ((0, kEast.getD i.toNat 0) :: st) n σ) : Z d M F b pc ls ((0, i) :: (2, -2) :: st) n σ := by
  intro p l e s m args below meth cd X H locs cells slots mc ms Qc arr ⟨hF, hP, hlv, h1, h2, h3⟩
  refine va_ti hF.1 hF.2.1 hF.2.2.2.2.2.2.2.2.2.1.2 hP.2.1 (k_vin h0 hlt (by omega)) (v := .int (Int32.ofInt (kEast.getD i.toNat 0))) (by rw [k_clamp h0 (by omega)]; rfl) hd ?_
  refine k p l e s m args below meth cd X H locs cells slots mc ms Qc arr ⟨hF, hP, hlv, h1, khc ?_ (kht (kht h2)), h3⟩
  rcases (show i = 0 ∨ i = 1 ∨ i = 2 ∨ i = 3 ∨ i = 4 ∨ i = 5 ∨ i = 6 ∨ i = 7 by omega) with rfl | rfl | rfl | rfl | rfl | rfl | rfl | rfl <;> exact ⟨by decide, by decide⟩
theorem Z_ialS {i : Int} (hd : decode M.2.1 pc = .ok (.iaload, 1)) (h0 : 0 ≤ i) (hlt : i < 8) (k : Z d M F b (pc + 1) ls ((0, kSouth.getD i.toNat 0) :: st) n σ) : Z d M F b pc ls ((0, i) :: (2, -3) :: st) n σ := by
  intro p l e s m args below meth cd X H locs cells slots mc ms Qc arr ⟨hF, hP, hlv, h1, h2, h3⟩
  refine va_ti hF.1 hF.2.1 hF.2.2.2.2.2.2.2.2.2.2.1.2 hP.2.1 (k_vin h0 hlt (by omega)) (v := .int (Int32.ofInt (kSouth.getD i.toNat 0))) (by rw [k_clamp h0 (by omega)]; rfl) hd ?_
  refine k p l e s m args below meth cd X H locs cells slots mc ms Qc arr ⟨hF, hP, hlv, h1, khc ?_ (kht (kht h2)), h3⟩
  rcases (show i = 0 ∨ i = 1 ∨ i = 2 ∨ i = 3 ∨ i = 4 ∨ i = 5 ∨ i = 6 ∨ i = 7 by omega) with rfl | rfl | rfl | rfl | rfl | rfl | rfl | rfl <;> exact ⟨by decide, by decide⟩
theorem Z_sld {i : Int} (hd : decode M.2.1 pc = .ok (.iaload, 1)) (h0 : 0 ≤ i) (hlt : i < σ (-4) (-1)) (k : Z d M F b (pc + 1) ls ((0, σ (-4) i) :: st) n σ) : Z d M F b pc ls ((0, i) :: (2, -4) :: st) n σ := by
  intro p l e s m args below meth cd X H locs cells slots mc ms Qc arr ⟨hF, hP, hlv, h1, h2, h3⟩
  obtain ⟨g1, g2, g3, g4⟩ := hP.2.2.2.2.2
  have hlt2 : X.2.1 (-4) < s.heap.size := by obtain ⟨c, hc, -⟩ := g1; exact (Array.getElem?_eq_some_iff.mp hc).1
  refine va_sld hF.1 hF.2.1 g1 hlt2 g2 hP.2.1 (k_vin h0 (by omega) (by omega)) hd ?_
  rw [k_clamp h0 (by omega)]
  have kk := k p l e s m args below meth cd X H locs cells slots mc ms Qc arr ⟨hF, hP, hlv, h1, khc (v := (0, σ (-4) i)) (g4 i h0 hlt) (kht (kht h2)), h3⟩
  show W p l e (kRm d mc ms) s m args below meth cd H locs cells slots _ (F0 m (pc + 1) arr (.int (Int32.ofInt (σ (-4) (i.toNat : Int))) :: st.map (kcv X)))
  rw [k_toNat h0]
  exact kk
theorem Z_slen (hd : decode M.2.1 pc = .ok (.arraylength, 1)) (k : Z d M F b (pc + 1) ls ((0, σ (-4) (-1)) :: st) n σ) : Z d M F b pc ls ((2, -4) :: st) n σ := by
  intro p l e s m args below meth cd X H locs cells slots mc ms Qc arr ⟨hF, hP, hlv, h1, h2, h3⟩
  obtain ⟨g1, g2, g3, g4⟩ := hP.2.2.2.2.2
  have hlt2 : X.2.1 (-4) < s.heap.size := by obtain ⟨c, hc, -⟩ := g1; exact (Array.getElem?_eq_some_iff.mp hc).1
  have hv : kok (0, σ (-4) (-1)) := ⟨by omega, by omega⟩
  have e1 : Int32.ofNat (σ (-4) (-1)).toNat = Int32.ofInt (σ (-4) (-1)) := by
    apply k32_inj
    rw [k32 hv, Int32.toInt_ofNat_of_lt (by omega)]
    omega
  refine va_slen hF.1 hF.2.1 g1 hlt2 g2 hP.2.1 hd ?_
  rw [e1]
  exact k p l e s m args below meth cd X H locs cells slots mc ms Qc arr ⟨hF, hP, hlv, h1, khc hv (kht h2), h3⟩
theorem Z_callV {d' : Nat} {M' : kM} {b' : Nat × Nat} {c : Nat} {T : u_T} {N idx n0 : Nat} {r : Int} {as stk : List kV} {Post' : Option kV → Nat → kS → Prop} (hd : decode M.2.1 pc = .ok (.invokevirtual idx, 3)) (hdd : d' + 1 ≤ d) (hb : b'.1 ≤ b.1 ∧ b'.2 ≤ b.2)
    (hc : kcls[c]? = some (M'.1.cls, T, N)) (hC : kCL M' n0) (hL : kLK M.1.cls idx M' ∧ Cond.instanceMethod M'.1 ∈ TB ∧ Cond.selects M'.1.cls M'.1 M'.1 ∈ TB) (hn : as.length = n0) (hs : stk = as.reverse ++ (2, r) :: st) (hcat : (st.map kcat).sum ≤ 8) (hr : isO c n r)
    (hT : (∀ v ∈ (2, r) :: as, kok v) → kokw n σ → Tri d' M' b' ((2, r) :: as) n σ Post')
    (k : ∀ (v : Option kV) (n' : Nat) (σ' : kS), (∀ w, v = some w → kok w) → kokw n' σ' → Post' v n' σ' → scrEq σ σ' → Z d M F (b.1 - b'.1, b.2 - b'.2) (pc + 3) ls (v.toList ++ st) n' σ') : Z d M F b pc ls stk n σ := by
  subst hs
  intro p l e s m args below meth cd X H locs cells slots mc ms Qc arr hG
  obtain ⟨hF, hP, hlv, h1, h2, h3, h4, h5⟩ := id hG
  obtain ⟨f1, f2, f3, f4, f5, f6, f7, f8, f9, f10⟩ := id hF
  obtain ⟨r1, r2, r3⟩ := hr
  have hlt : r.toNat < n := by omega
  have hat := kwl_at (X := X) (σ := σ) hlt
  have hc13 : c < 13 := (List.getElem?_eq_some_iff.mp hc).1
  rw [r3, kent_o hc13] at hat
  have hst : ∀ v ∈ st, kok v := fun v hv => h2 v (List.mem_append_right _ (List.mem_cons_of_mem _ hv))
  have hak : ∀ v ∈ (2, r) :: as, kok v := fun v hv => by
    rcases List.mem_cons.mp hv with rfl | hv
    · trivial
    · exact h2 v (List.mem_append_left _ (List.mem_reverse.mpr hv))
  have hM := hT hak hP.2.2.1 hak hP.2.2.1 l X
  have hpre := k_pre (as := (2, r) :: as) hF hP
  have hkm : ((2, r) :: as : List kV).map (kcv X) = .ref (X.1 + r.toNat) :: as.map (kcv X) := by rw [List.map_cons, kcv_ref r1]
  have hstack : (as.reverse ++ (2, r) :: st).map (kcv X) = (as.map (kcv X)).reverse ++ .ref (X.1 + r.toNat) :: st.map (kcv X) := by
    rw [List.map_append, List.map_reverse, List.map_cons, kcv_ref r1]
  obtain ⟨c1, c2, c3, c4, c5⟩ := hC
  have hn2 : ∀ sig, parseMethodDescriptor M'.1.desc = some sig → n0 = sig.parameters.length := fun sig h => by rw [h] at c4; exact (Option.some.inj c4).symm
  have hroom : (kRm d' b'.1 b'.2).frames + 1 ≤ (kRm d mc ms).frames ∧ 8 + (M'.2.2.1 + 11) + (kRm d' b'.1 b'.2).locals ≤ (kRm d mc ms).locals := ⟨hdd, by show 8 + (M'.2.2.1 + 11) + 64 * d' ≤ 64 * d; omega⟩
  have hcells : cells + b'.1 ≤ (kRm d mc ms).cells ∧ slots + b'.2 ≤ (kRm d mc ms).slots := ⟨by show cells + b'.1 ≤ mc; omega, by show slots + b'.2 ≤ ms; omega⟩
  have hpv : PreV s H M'.1.cls (X.1 + r.toNat) (kPc X ((2, r) :: as) n σ) (as.map (kcv X)) := ⟨k_blind, va_recv f9 hP.1 hc hat, fun U hU hW => by rw [← hkm]; exact hpre U hU hW⟩
  have hcw := k_warm f8 (M' := M') (n' := n0) ⟨c1, c2, c3, c4, c5⟩
  rcases hL.1 with hl | ⟨host, hl⟩
  · refine z_after (va_runV (Ts := TB) (As := as.map (kcv X)) (rest := st.map (kcv X)) ⟨f1, f2, f3, f6, f8⟩ hM ⟨⟨rfl, rfl, hroom.1, hroom.2, hcw, List.mem_cons_self, f8 _ c1, f8 _ c2, c3, hn2, f8 _ hl⟩, f8 _ hL.2.1, f8 _ hL.2.2⟩ hpv rfl (by rw [List.length_map]; exact hn) hlv.1 hstack (k_cat hcat) hd hcells) ⟨hF, hP, hlv, h1, hst, h3, h4, h5⟩ hb k
  · refine z_after (va_runVN (Ts := TB) (As := as.map (kcv X)) (rest := st.map (kcv X)) ⟨f1, f2, f3, f6, f8⟩ hM ⟨⟨⟨rfl, rfl, hroom.1, hroom.2, hcw, List.mem_cons_self⟩, f8 _ c1, f8 _ c2, c3, hn2, f8 _ hl⟩, f8 _ hL.2.1, f8 _ hL.2.2⟩ hpv rfl (by rw [List.length_map]; exact hn) hlv.1 hstack (k_cat hcat) hd hcells) ⟨hF, hP, hlv, h1, hst, h3, h4, h5⟩ hb k
theorem Z_callS {d' : Nat} {M' : kM} {b' : Nat × Nat} {idx n0 : Nat} {as stk : List kV} {Post' : Option kV → Nat → kS → Prop} (hd : decode M.2.1 pc = .ok (.invokestatic idx, 3)) (hdd : d' + 1 ≤ d) (hb : b'.1 ≤ b.1 ∧ b'.2 ≤ b.2)
    (hC : kCL M' n0) (hL : kLK M.1.cls idx M' ∧ Cond.static M'.1 ∈ TB) (hn : as.length = n0) (hs : stk = as.reverse ++ st) (hcat : (st.map kcat).sum ≤ 8)
    (hT : (∀ v ∈ as, kok v) → kokw n σ → Tri d' M' b' as n σ Post')
    (k : ∀ (v : Option kV) (n' : Nat) (σ' : kS), (∀ w, v = some w → kok w) → kokw n' σ' → Post' v n' σ' → scrEq σ σ' → Z d M F (b.1 - b'.1, b.2 - b'.2) (pc + 3) ls (v.toList ++ st) n' σ') : Z d M F b pc ls stk n σ := by
  subst hs
  intro p l e s m args below meth cd X H locs cells slots mc ms Qc arr hG
  obtain ⟨hF, hP, hlv, h1, h2, h3, h4, h5⟩ := id hG
  obtain ⟨f1, f2, f3, f4, f5, f6, f7, f8, f9, f10⟩ := id hF
  have hst : ∀ v ∈ st, kok v := fun v hv => h2 v (List.mem_append_right _ hv)
  have hak : ∀ v ∈ as, kok v := fun v hv => h2 v (List.mem_append_left _ (List.mem_reverse.mpr hv))
  have hM := hT hak hP.2.2.1 hak hP.2.2.1 l X
  have hpre := k_pre (as := as) hF hP
  have hstack : (as.reverse ++ st).map (kcv X) = (as.map (kcv X)).reverse ++ st.map (kcv X) := by
    rw [List.map_append, List.map_reverse]
  obtain ⟨c1, c2, c3, c4, c5⟩ := hC
  have hn2 : ∀ sig, parseMethodDescriptor M'.1.desc = some sig → n0 = sig.parameters.length := fun sig h => by rw [h] at c4; exact (Option.some.inj c4).symm
  have hroom : (kRm d' b'.1 b'.2).frames + 1 ≤ (kRm d mc ms).frames ∧ 8 + (M'.2.2.1 + 11) + (kRm d' b'.1 b'.2).locals ≤ (kRm d mc ms).locals := ⟨hdd, by show 8 + (M'.2.2.1 + 11) + 64 * d' ≤ 64 * d; omega⟩
  have hcells : cells + b'.1 ≤ (kRm d mc ms).cells ∧ slots + b'.2 ≤ (kRm d mc ms).slots := ⟨by show cells + b'.1 ≤ mc; omega, by show slots + b'.2 ≤ ms; omega⟩
  have hpv : PreS s H (kPc X as n σ) (as.map (kcv X)) := ⟨k_blind, hpre⟩
  have hcw := k_warm f8 (M' := M') (n' := n0) ⟨c1, c2, c3, c4, c5⟩
  rcases hL.1 with hl | ⟨host, hl⟩
  · refine z_after (va_runS (Ts := TB) (As := as.map (kcv X)) (rest := st.map (kcv X)) ⟨f1, f2, f3, f6, f8⟩ hM ⟨⟨rfl, rfl, hroom.1, hroom.2, hcw, List.mem_cons_self, f8 _ c1, f8 _ c2, c3, hn2, f8 _ hl⟩, f8 _ hL.2⟩ hpv rfl (by rw [List.length_map]; exact hn) hlv.1 hstack (k_cat hcat) hd hcells) ⟨hF, hP, hlv, h1, hst, h3, h4, h5⟩ hb k
  · refine z_after (va_runSN (Ts := TB) (As := as.map (kcv X)) (rest := st.map (kcv X)) ⟨f1, f2, f3, f6, f8⟩ hM ⟨⟨⟨rfl, rfl, hroom.1, hroom.2, hcw, List.mem_cons_self⟩, f8 _ c1, f8 _ c2, c3, hn2, f8 _ hl⟩, f8 _ hL.2, trivial⟩ hpv rfl (by rw [List.length_map]; exact hn) hlv.1 hstack (k_cat hcat) hd hcells) ⟨hF, hP, hlv, h1, hst, h3, h4, h5⟩ hb k
theorem Z_callI {d' : Nat} {y : MethodName} {code' : ByteArray} {mL : Nat} {b' : Nat × Nat} {idx n0 : Nat} {r : Int} {as stk : List kV} {Post' : Option kV → Nat → kS → Prop} (hd : decode M.2.1 pc = .ok (.invokespecial idx, 3)) (hdd : d' + 1 ≤ d) (hb : b'.1 ≤ b.1 ∧ b'.2 ≤ b.2)
    (hC : kCL (y, code', mL, none) n0) (hL : kLK M.1.cls idx (y, code', mL, none) ∧ y.name = "<init>" ∧ Cond.instanceMethod y ∈ TB) (hn : as.length = n0) (hs : stk = as.reverse ++ (2, r) :: st) (hcat : (st.map kcat).sum ≤ 8) (hr : 0 ≤ r)
    (hT : (∀ v ∈ (2, r) :: as, kok v) → kokw n σ → Tri d' (y, code', mL, none) b' ((2, r) :: as) n σ Post')
    (k : ∀ (v : Option kV) (n' : Nat) (σ' : kS), (∀ w, v = some w → kok w) → kokw n' σ' → Post' v n' σ' → scrEq σ σ' → Z d M F (b.1 - b'.1, b.2 - b'.2) (pc + 3) ls (v.toList ++ st) n' σ') : Z d M F b pc ls stk n σ := by
  subst hs
  intro p l e s m args below meth cd X H locs cells slots mc ms Qc arr hG
  obtain ⟨hF, hP, hlv, h1, h2, h3, h4, h5⟩ := id hG
  obtain ⟨f1, f2, f3, f4, f5, f6, f7, f8, f9, f10⟩ := id hF
  have hst : ∀ v ∈ st, kok v := fun v hv => h2 v (List.mem_append_right _ (List.mem_cons_of_mem _ hv))
  have hak : ∀ v ∈ (2, r) :: as, kok v := fun v hv => by
    rcases List.mem_cons.mp hv with rfl | hv
    · trivial
    · exact h2 v (List.mem_append_left _ (List.mem_reverse.mpr hv))
  have hM := hT hak hP.2.2.1 hak hP.2.2.1 l X
  have hpre := k_pre (as := (2, r) :: as) hF hP
  have hkm : ((2, r) :: as : List kV).map (kcv X) = .ref (X.1 + r.toNat) :: as.map (kcv X) := by rw [List.map_cons, kcv_ref hr]
  have hstack : (as.reverse ++ (2, r) :: st).map (kcv X) = (as.map (kcv X)).reverse ++ .ref (X.1 + r.toNat) :: st.map (kcv X) := by
    rw [List.map_append, List.map_reverse, List.map_cons, kcv_ref hr]
  obtain ⟨c1, c2, c3, c4, c5⟩ := hC
  have hn2 : ∀ sig, parseMethodDescriptor y.desc = some sig → n0 = sig.parameters.length := fun sig h => by
    have c4' : (parseMethodDescriptor y.desc).map (fun d => d.parameters.length) = some n0 := c4
    rw [h] at c4'; exact (Option.some.inj c4').symm
  have c5' : mL ≤ 45 := c5
  have hroom : (kRm d' b'.1 b'.2).frames + 1 ≤ (kRm d mc ms).frames ∧ 8 + (mL + 11) + (kRm d' b'.1 b'.2).locals ≤ (kRm d mc ms).locals := ⟨hdd, by show 8 + (mL + 11) + 64 * d' ≤ 64 * d; omega⟩
  have hcells : cells + b'.1 ≤ (kRm d mc ms).cells ∧ slots + b'.2 ≤ (kRm d mc ms).slots := ⟨by show cells + b'.1 ≤ mc; omega, by show slots + b'.2 ≤ ms; omega⟩
  have hpv : PreS s H (kPc X ((2, r) :: as) n σ) (.ref (X.1 + r.toNat) :: as.map (kcv X)) := ⟨k_blind, fun U hU hW => by rw [← hkm]; exact hpre U hU hW⟩
  have hcw := k_warm f8 (M' := (y, code', mL, none)) (n' := n0) ⟨c1, c2, c3, c4, c5⟩
  rcases hL.1 with hl | ⟨host, hl⟩
  · refine z_after (va_runI (Ts := TB) (As := as.map (kcv X)) (rest := st.map (kcv X)) ⟨f1, f2, f3, f6, f8⟩ hM ⟨⟨rfl, rfl, hroom.1, hroom.2, hcw, List.mem_cons_self, f8 _ c1, f8 _ c2, c3, hn2, f8 _ hl⟩, hL.2.1, f8 _ hL.2.2⟩ hpv rfl (by rw [List.length_map]; exact hn) hlv.1 hstack (k_cat hcat) hd hcells) ⟨hF, hP, hlv, h1, hst, h3, h4, h5⟩ hb k
  · refine z_after (va_runIN (Ts := TB) (As := as.map (kcv X)) (rest := st.map (kcv X)) ⟨f1, f2, f3, f6, f8⟩ hM ⟨⟨⟨rfl, rfl, hroom.1, hroom.2, hcw, List.mem_cons_self⟩, f8 _ c1, f8 _ c2, c3, hn2, f8 _ hl⟩, hL.2.1, f8 _ hL.2.2⟩ hpv rfl (by rw [List.length_map]; exact hn) hlv.1 hstack (k_cat hcat) hd hcells) ⟨hF, hP, hlv, h1, hst, h3, h4, h5⟩ hb k
theorem Z_new {idx c N : Nat} {C : String} {T : u_T} {ty0 : Nat → FieldType} (hd : decode M.2.1 pc = .ok (.new idx, 3)) (hw : Cond.classLink M.1.cls idx C ∈ TB ∧ Cond.instantiable C N ∈ TB ∧ Cond.initialized C ∈ TB) (hc : kcls[c]? = some (C, T, N)) (hu : ∀ w ∈ u_ws C T N, w ∈ TB) (hT : kFT c T N ty0) (hn : n < kN) (hs : ksh n = (c, N)) (hb : 1 ≤ b.1 ∧ N ≤ b.2)
    (k : Z d M F (b.1 - 1, b.2 - N) (pc + 3) ls ((2, (n : Int)) :: st) (n + 1) (kini σ n)) : Z d M F b pc ls st n σ := by
  intro p l e s m args below meth cd X H locs cells slots mc ms Qc arr ⟨hF, hP, hlv, h1, h2, h3, h4, h5⟩
  obtain ⟨f1, f2, f3, f4, f5, f6, f7, f8, f9, f10⟩ := id hF
  have hKn := f9.1 c _ hc
  have hc13 : c < 13 := (List.getElem?_eq_some_iff.mp hc).1
  refine W.newcK f1 f2 f6 (f8 _ hw.1) (f8 _ hw.2.1) (f8 _ hw.2.2) rfl hd (by show cells + 1 ≤ mc; omega) (by show slots + N ≤ ms; omega) hKn.2.1 (hP.2.2.2.1 hn) fun H1 kC hkC e1 z1 o1 => ?_
  have hsz := hP.2.2.2.1 hn
  have hpic : kPic X (n + 1) (kini σ n) s H1 locs := by
    refine hP.make hn ?_ (by rw [z1, hsz]) (fun q hq => o1 q (by rw [← hsz]; exact hq))
    rw [hs, kent_o hc13]
    refine ⟨_, hc, (u_born ty0 f8 hu hKn hkC e1 hT.1).to (fun j hj => ?_)⟩
    have hj' : j < ((List.range N).map fun j : Nat => kcv X (ktag (kkd c j), kini σ n n j)).length := by simpa using hj
    show _ = ((List.range N).map fun j : Nat => kcv X (ktag (kkd c j), kini σ n n j)).getD j .null
    rw [List.getD_eq_getElem?_getD, List.getElem?_map, List.getElem?_range hj]
    show _ = kcv X (ktag (kkd c j), kini σ n n j)
    rw [kini_at, hs, kcv_def]
    rcases hT.2.2 j hj with ⟨a, b⟩ | ⟨a, b⟩ | ⟨a, b⟩ | ⟨a, ⟨C', b⟩ | ⟨t, b⟩⟩ <;> rw [a, b] <;> rfl
  have kk := k p l e s m args below meth cd X H1 locs (cells + 1) (slots + N) mc ms Qc arr ⟨hF, hpic, hlv, h1, khc (v := (2, (n : Int))) trivial h2, by simp only; omega, by simp only; omega, h5⟩
  have e2 : kcv X (2, (n : Int)) = .ref (X.1 + n) := by rw [kcv_ref (by omega), Int.toNat_natCast]
  rw [List.map_cons, e2] at kk
  exact kk
theorem Z_newarr {atype : ArrayType} {c : Nat} {L : Int} {ty : FieldType} {t0 : Nat} {v : Value} (hd : decode M.2.1 pc = .ok (.newarray atype, 2)) (hty : _root_.Jvm.Op.newarray.typeOf atype = ty) (hc : 20 ≤ c) (ht : ∀ X : kX, (ktys X)[t0]? = some (X.2.2.2 c, ty)) (hv : defaultValue ty = v ∧ v = (if c = 23 then .long 0 else if c < 23 then .int 0 else .null)) (hne : ∀ C, ty ≠ .object C) (hcb : componentBytes ty ≤ 8) (hw : Cond.arrayClass ty ∈ TB) (hn : n < kN) (h0 : 0 ≤ L) (hs : ksh n = (c, L.toNat)) (hb : 1 ≤ b.1 ∧ L.toNat ≤ b.2)
    (k : Z d M F (b.1 - 1, b.2 - L.toNat) (pc + 2) ls ((2, (n : Int)) :: st) (n + 1) (kini σ n)) : Z d M F b pc ls ((0, L) :: st) n σ := by
  intro p l e s m args below meth cd X H locs cells slots mc ms Qc arr ⟨hF, hP, hlv, h1, h2, h3, h4, h5⟩
  obtain ⟨f1, f2, f3, f4, f5, f6, f7, f8, f9, f10⟩ := id hF
  subst hty
  have hsm := ksh_small n
  rw [hs] at hsm
  have hsm' : L.toNat ≤ 100000 := hsm
  have hLb : L ≤ 2147483647 := by omega
  have hmul : L.toNat * componentBytes (_root_.Jvm.Op.newarray.typeOf atype) ≤ 100000 * 8 := Nat.mul_le_mul hsm' hcb
  have hsz := hP.2.2.2.1 hn
  refine va_newaK f1 f2 (f8 _ hw) rfl hd rfl (fun q => by rw [Int32.lt_iff_toInt_lt, k32 ⟨by omega, hLb⟩, Int32.toInt_zero] at q; omega) (k_clamp h0 hLb) (by omega) (by show cells + 1 ≤ mc; omega) (by show slots + L.toNat ≤ ms; omega) hsz fun H1 cA e1 z1 o1 hAr hNm => ?_
  have hcA := k_tyU f9 t0 (ht X) hne hNm
  subst hcA
  have hpic : kPic X (n + 1) (kini σ n) s H1 locs := by
    refine hP.make hn ?_ (by rw [z1, hsz]) (fun q hq => o1 q (by rw [← hsz]; exact hq))
    rw [hs]
    obtain ⟨a, ea, eb⟩ := k_vparr (X := X) (c := c) (N := L.toNat) (f := kini σ n n) (v := v) hc hv.2 (fun j => by rw [kini_at, hs])
    rw [ea]
    show H1[X.1 + n]? = some (vp_cell _ a)
    rw [eb, e1, hv.1]
  have kk := k p l e s m args below meth cd X H1 locs (cells + 1) (slots + L.toNat) mc ms Qc arr ⟨hF, hpic, hlv, h1, khc (v := (2, (n : Int))) trivial (kht h2), by simp only; omega, by simp only; omega, h5⟩
  have e2 : kcv X (2, (n : Int)) = .ref (X.1 + n) := by rw [kcv_ref (by omega), Int.toNat_natCast]
  rw [List.map_cons, e2] at kk
  exact kk
theorem Z_anew {idx c : Nat} {L : Int} {C : String} {t0 : Nat} (hd : decode M.2.1 pc = .ok (.anewarray idx, 3)) (hw : Cond.classLink M.1.cls idx C ∈ TB) (hao : ∀ (X : kX) (s : State), kEx X s s.heap → va_AO C s) (hc : 24 ≤ c) (ht : ∀ X : kX, (ktys X)[t0]? = some (X.2.2.2 c, .object C)) (hn : n < kN) (h0 : 0 ≤ L) (hs : ksh n = (c, L.toNat)) (hb : 1 ≤ b.1 ∧ L.toNat ≤ b.2)
    (k : Z d M F (b.1 - 1, b.2 - L.toNat) (pc + 3) ls ((2, (n : Int)) :: st) (n + 1) (kini σ n)) : Z d M F b pc ls ((0, L) :: st) n σ := by
  intro p l e s m args below meth cd X H locs cells slots mc ms Qc arr ⟨hF, hP, hlv, h1, h2, h3, h4, h5⟩
  obtain ⟨f1, f2, f3, f4, f5, f6, f7, f8, f9, f10⟩ := id hF
  have hsm := ksh_small n
  rw [hs] at hsm
  have hsm' : L.toNat ≤ 100000 := hsm
  have hLb : L ≤ 2147483647 := by omega
  have hsz := hP.2.2.2.1 hn
  have hcl := k_clamp h0 hLb
  refine W.anew f1 f2 f6 (f8 _ hw) (va_AO.use (hao X s f10)) rfl hd rfl (fun q => by rw [Int32.lt_iff_toInt_lt, k32 ⟨by omega, hLb⟩, Int32.toInt_zero] at q; omega) (by rw [hcl]; omega) (by show cells + 1 ≤ mc; omega) (by rw [hcl]; show slots + L.toNat ≤ ms; omega) fun cA kA comp g1 g2 g3 g4 => ?_
  rw [hcl]
  generalize hH1 : H.push ({ cls := cA, slots := Array.replicate L.toNat .null, vm := .none } : Cell) = H1
  have z1 : H1.size = H.size + 1 := by rw [← hH1, Array.size_push]
  have e1 : H1[H.size]? = some (arrV cA L.toNat (fun _ => .null)) := by rw [← hH1, Array.getElem?_push_size, ← arrV_new]
  have o1 : ∀ q : Nat, q < H.size → H1[q]? = H[q]? := fun q hq => by rw [← hH1, Array.getElem?_push, if_neg (Nat.ne_of_lt hq)]
  have hcA := k_tyO f9 t0 (ht X) g1
  subst hcA
  have hpic : kPic X (n + 1) (kini σ n) s H1 locs := by
    refine hP.make hn ?_ z1 o1
    rw [hs]
    obtain ⟨a, ea, eb⟩ := k_vparr (X := X) (c := c) (N := L.toNat) (f := kini σ n n) (v := .null) (by omega) (by rw [if_neg (by omega), if_neg (by omega)]) (fun j => by rw [kini_at, hs])
    rw [ea]
    show H1[X.1 + n]? = some (vp_cell _ a)
    rw [eb, ← hsz, e1]
  have kk := k p l e s m args below meth cd X H1 locs (cells + 1) (slots + L.toNat) mc ms Qc arr ⟨hF, hpic, hlv, h1, khc (v := (2, (n : Int))) trivial (kht h2), by simp only; omega, by simp only; omega, h5⟩
  have e2 : kcv X (2, (n : Int)) = .ref H.size := by rw [kcv_ref (by omega), Int.toNat_natCast, hsz]
  rw [List.map_cons, e2] at kk
  exact kk
end ZP
