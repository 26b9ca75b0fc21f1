/-! K: THE MACHINE OVER A WORLD OF WHOLE NUMBERS. Values are pairs (kind, number): 0 int, 1 long, 2 reference (-1 null, 0 .. the cells of our world in the order of their making, below -1 things of old). -/
abbrev kV : Type := Nat × Int
abbrev kS : Type := Int → Int → Int
abbrev kX : Type := Nat × (Int → Nat) × va_G × (Nat → ClassId)
abbrev kM : Type := MethodName × ByteArray × Nat × Option FieldType
def kref (X : kX) (x : Int) : Option Nat := if x = -1 then none else if x < 0 then some (X.2.1 x) else some (X.1 + x.toNat)
def kcv (X : kX) : kV → Value
  | (0, x) => .int (Int32.ofInt x)
  | (1, x) => .long (Int64.ofInt x)
  | (_ + 2, x) => va_rf (kref X x)
def kcl (X : kX) (ls : List (Nat × kV)) : List (Nat × Value) := ls.map fun q => (q.1, kcv X q.2)
def kok : kV → Prop
  | (0, x) => -2147483648 ≤ x ∧ x ≤ 2147483647
  | (1, x) => -9223372036854775808 ≤ x ∧ x ≤ 9223372036854775807
  | (_ + 2, _) => True
/-! the classes, in the order of their tables; the kinds of their fields: 0 int, 1 long, 2 reference, 3 boolean, 4 byte -/
def kcls : List vw_C := [(RX0, TX0, 3), (RX1, TX1, 5), (RX2, TX2, 3), (RX3, TX3, 5), (RX4, TX4, 3), (RX5, TX5, 1), (RX6, TX6, 2), (RX7, TX7, 3), (RX8, TX8, 2), (RX9, TX9, 4), (RX10, TX10, 15), (RX11, TX11, 20), (RX12, TX12, 69)]
def kfd : List (List Nat) := [[2, 2, 0], [2, 1, 0, 0, 3], [2, 2, 2], [2, 2, 0, 0, 2], [2, 2, 0], [2], [2, 0], [2, 2, 2], [2, 0], [2, 2, 2, 2], [2, 2, 2, 2, 2, 0, 2, 2, 2, 2, 2, 0, 3, 2, 2], [2, 2, 0, 2, 2, 2, 0, 2, 0, 2, 2, 0, 2, 2, 2, 2, 2, 2, 2, 2], [0, 2, 2, 0, 2, 2, 2, 2, 2, 2, 2, 2, 2, 0, 0, 0, 0, 0, 0, 0, 0, 0, 0, 2, 2, 3, 2, 2, 2, 2, 0, 2, 2, 2, 0, 2, 2, 2, 0, 2, 2, 0, 2, 2, 2, 2, 2, 2, 2, 0, 2, 2, 2, 2, 0, 2, 2, 2, 0, 2, 2, 0, 0, 3, 1, 2, 2, 2, 0]]
def kkd (c j : Nat) : Nat := if c < 13 then (kfd.getD c []).getD j 0 else if c = 20 then 0 else if c = 21 then 4 else if c = 22 then 3 else if c = 23 then 1 else 2
def ktag (k : Nat) : Nat := if k = 1 then 1 else if k = 2 then 2 else 0
def kokk (k : Nat) (x : Int) : Prop := if k = 0 then -2147483648 ≤ x ∧ x ≤ 2147483647 else if k = 1 then -9223372036854775808 ≤ x ∧ x ≤ 9223372036854775807 else if k = 3 then 0 ≤ x ∧ x ≤ 1 else if k = 2 then True else -128 ≤ x ∧ x ≤ 127
/-! the shapes of the cells, in the order of their making: a code (a class below 13; 20 int[], 21 byte[], 22 boolean[], 23 long[], 24 int[][], 25 Land[], 26 Goer[], 27 Book[], 28 Row[]) and how many slots -/
def kshl : List (Nat × Nat) := [(11, 20), (5, 1), (24, 4), (20, 120), (20, 120), (20, 120), (20, 120), (25, 4), (8, 2), (20, 120), (4, 3), (3, 5), (20, 120), (20, 120), (20, 6), (8, 2), (20, 0), (26, 6), (27, 5), (8, 2), (20, 8), (28, 10), (8, 2), (20, 6), (8, 2), (20, 32), (10, 15), (20, 960), (20, 960), (20, 120), (20, 120), (20, 120), (20, 120), (20, 120), (20, 8), (20, 3184), (8, 2), (20, 120), (8, 2), (20, 120), (9, 4), (20, 120), (20, 120), (8, 2), (20, 120), (8, 2), (20, 128), (2, 3), (8, 2), (20, 30), (8, 2), (20, 30), (8, 2), (20, 30), (7, 3), (8, 2), (20, 6), (8, 2), (20, 6), (8, 2), (20, 6), (1, 5), (20, 120), (6, 2), (24, 8), (20, 8), (20, 8), (20, 8), (20, 8), (20, 8), (20, 8), (20, 8), (20, 8), (5, 1), (24, 4), (20, 120), (20, 120), (20, 120), (20, 120), (5, 1), (24, 4), (20, 120), (20, 120), (20, 120), (20, 120), (5, 1), (24, 4), (20, 120), (20, 120), (20, 120), (20, 120), (5, 1), (24, 4), (20, 120), (20, 120), (20, 120), (20, 120), (3, 5), (20, 120), (20, 120), (20, 6), (3, 5), (20, 120), (20, 120), (20, 6), (3, 5), (20, 120), (20, 120), (20, 6), (3, 5), (20, 120), (20, 120), (20, 6), (3, 5), (20, 120), (20, 120), (20, 6), (3, 5), (20, 120), (20, 120), (20, 6), (0, 3), (8, 2), (20, 120), (8, 2), (20, 120), (0, 3), (8, 2), (20, 120), (8, 2), (20, 120), (0, 3), (8, 2), (20, 120), (8, 2), (20, 120), (0, 3), (8, 2), (20, 120), (8, 2), (20, 120), (0, 3), (8, 2), (20, 120), (8, 2), (20, 120), (8, 2), (20, 128), (8, 2), (20, 128), (8, 2), (20, 128), (8, 2), (20, 128), (8, 2), (20, 128), (8, 2), (20, 128), (8, 2), (20, 128), (8, 2), (20, 128), (8, 2), (20, 128), (8, 2), (20, 128), (12, 69), (20, 480), (20, 8), (21, 120), (21, 720), (20, 6), (20, 128), (20, 5), (20, 300), (20, 300), (20, 300), (20, 960), (20, 120), (20, 120), (20, 140), (20, 120), (20, 10), (20, 1400), (20, 30), (20, 30), (20, 30), (20, 6), (20, 36), (20, 6), (20, 6), (20, 840), (20, 6), (20, 64), (20, 6), (20, 6), (20, 8), (20, 8), (20, 8), (20, 8), (20, 28), (20, 28), (20, 28), (20, 120), (20, 960), (20, 1920), (20, 480), (22, 120), (23, 1)]
def kN : Nat := 209
def ksh (k : Nat) : Nat × Nat := kshl.getD k (99, 0)
def kent (X : kX) (c n : Nat) (f : Int → Int) : va_E :=
  if c < 13 then .inr (c, (List.range n).map fun j => kcv X (ktag (kkd c j), f j))
  else if c < 23 then .inl (X.2.2.2 c, n, .inl fun j => Int32.ofInt (f j))
  else if c = 23 then .inl (X.2.2.2 c, n, .inr (.inl fun j => Int64.ofInt (f j)))
  else .inl (X.2.2.2 c, n, .inr (.inr (.inr (.inr fun j => kref X (f j)))))
def kwl (X : kX) (n : Nat) (σ : kS) : va_W := (List.range n).map fun k => (X.1 + k, kent X (ksh k).1 (ksh k).2 (σ k))
def ktys (X : kX) : List (ClassId × FieldType) := [(X.2.2.2 20, .int), (X.2.2.2 21, .byte), (X.2.2.2 22, .boolean), (X.2.2.2 23, .long), (X.2.2.2 24, .array .int), (X.2.2.2 25, .object RX5), (X.2.2.2 26, .object RX3), (X.2.2.2 27, .object RX0), (X.2.2.2 28, .object RX8)]
def kokw (n : Nat) (σ : kS) : Prop := ∀ k : Nat, k < n → ∀ j : Nat, j < (ksh k).2 → kokk (kkd (ksh k).1 j) (σ k j)
def kst (σ : kS) (k j v : Int) : kS := fun k' => if k' = k then (fun j' => if j' = j then v else σ k j') else σ k'
theorem kst_k {σ : kS} {k j v k' : Int} (h : k' ≠ k) : kst σ k j v k' = σ k' := if_neg h
theorem kst_kj {σ : kS} {k j v j' : Int} (h : j' ≠ j) : kst σ k j v k j' = σ k j' := by simp [kst, h]
theorem kst_eq {σ : kS} {k j v : Int} : kst σ k j v k j = v := by simp [kst]
theorem kst_ap {σ : kS} {k j v k' j' : Int} : kst σ k j v k' j' = if k' = k ∧ j' = j then v else σ k' j' := by
  by_cases h : k' = k
  · subst h; by_cases h2 : j' = j <;> simp [kst, h2]
  · simp [kst, h]
/-! the words -/
def kgw : Cond → Bool
  | .arrayClass _ => true
  | w => w.onTables && w.keepsH
def TB : List Cond := lw_tbl.filter kgw
theorem tb_warm {s U : State} {args a' : Array Value} (hW : s.WarmedH U.vm) {w : Cond} (h1 : w ∈ TB) (h : w.before args s = true) : w.before a' U = true := by
  have h2 : kgw w = true := (List.mem_filter.mp h1).2
  have key : (w.onTables && w.keepsH) = true → w.before a' U = true := fun hc => by
    simp only [Bool.and_eq_true] at hc
    have h3 := Cond.onTables_warmH (T := U) (args' := a') hW hc.1 hc.2 h
    rwa [State.setVm_self] at h3
  cases w <;> first | exact key h2 | exact word_at hW (Or.inr ⟨_, rfl⟩) h
def kWs (M : kM) : List Cond := .code M.1 M.2.1 M.2.2.1 M.2.2.2 :: TB
def kRm (d mc ms : Nat) : Room := { frames := d, cells := mc, slots := ms, locals := 64 * d }
/-! things of old: static arrays, the script, the texts -/
def kA (X : kX) : Nat → Prop := fun q => X.1 ≤ q
/-- what the tables say of int[][] -/
def kAOI (U : State) : Prop := (Cond.arrayOver (.array .int)).before #[] U = true
theorem kAOI.spec {U : State} (h : kAOI U) : ∃ comp c k, U.vm.findClass (FieldType.array .int).toString = some comp ∧ (U.vm.classes.findIdx? fun (x : Class) => match x.kind with | .array component _ => component == comp | _ => false) = some c ∧ U.vm.classes[c]? = some k ∧ k.kind = .array comp (.array .int) ∧ U.vm.findClass ("[" ++ (FieldType.array .int).toString) = some c := by
  unfold kAOI Cond.before at h
  simp only [Cond.holds, Cond.value, beq_iff_eq] at h
  cases hc : U.vm.findClass (FieldType.array .int).toString with
  | none => simp [hc] at h
  | some comp =>
    simp only [hc, Option.bind_some, Option.bind_eq_some_iff, Option.map_eq_some_iff] at h
    obtain ⟨c, hi, k, hk, hb⟩ := h
    obtain ⟨hlt, hp, -⟩ := Array.findIdx?_eq_some_iff_getElem.mp hi
    have hkk : U.vm.classes[c] = k := (Array.getElem?_eq_some_iff.mp hk).2
    rw [hkk] at hp
    cases hkind : k.kind with
    | array component ty =>
      rw [hkind] at hb hp
      simp at hb hp
      exact ⟨comp, c, k, rfl, hi, hk, by rw [hkind, hp, hb.1], hb.2⟩
    | _ => rw [hkind] at hb; simp at hb
theorem kAOI.moved {u U : State} (hvm : u.vm.Alike U.vm) (h : kAOI u) : kAOI U := by
  obtain ⟨comp, c, k, h1, h2, h3, h4, h5⟩ := h.spec
  obtain ⟨k', hk', he⟩ := hvm.2.2 _ _ h3
  have hi : (U.vm.classes.findIdx? fun (x : Class) => match x.kind with | .array component _ => component == comp | _ => false) = some c := by
    have b1 := va_idx_bare U.vm comp
    have b2 := va_idx_bare u.vm comp
    have b3 : U.vm.bare = u.vm.bare := by first | exact hvm.bare_eq | exact hvm.bare_eq.symm
    rw [b3] at b1
    exact (b1.symm.trans b2).trans h2
  have hkind : k'.kind = .array comp (.array .int) := by rw [he]; exact h4
  have f1 : U.vm.findClass (FieldType.array .int).toString = some comp := by rw [hvm.findClass]; exact h1
  have f2 : U.vm.findClass ("[" ++ (FieldType.array .int).toString) = some c := by rw [hvm.findClass]; exact h5
  unfold kAOI Cond.before Cond.holds
  simp only [Cond.value]
  rw [f1, Option.bind_some]
  refine (congrArg (fun o : Option Nat => (o.bind (fun c => (U.vm.classes[c]?).map fun (k : Class) => match k.kind with | .array _ ty => decide (ty = FieldType.array .int) && decide (U.vm.findClass ("[" ++ (FieldType.array .int).toString) = some c) | _ => false) == some true)) hi).trans ?_
  simp [hk', hkind, f2]
/-- the two texts, and what their methods look at -/
def kEs (X : kX) (U : State) (H : Heap) : Prop :=
  vk_R "OldRoadsModel" 44 "y" (X.2.1 (-5)) U ∧ vk_R "OldRoadsModel" 50 "udwfmsgt" (X.2.1 (-6)) U ∧
  vk_S 2 [1, 8] [[121], [117, 100, 119, 102, 109, 115, 103, 116]] (fun i => X.2.1 (-5 - i)) (fun i => X.2.1 (-7 - i)) (kA X) U H ∧
  va_Z "java/lang/String" "COMPACT_STRINGS" "Z" (.int 1) (kA X) U H ∧ va_Zq "jdk/internal/util/Preconditions" "SIOOBE_FORMATTER" "Ljava/util/function/BiFunction;" (kA X) U H ∧
  (va_AO RX5 U ∧ va_AO RX3 U ∧ va_AO RX0 U ∧ va_AO RX8 U ∧ kAOI U)
def kEx (X : kX) (U : State) (H : Heap) : Prop :=
  (va_Z "OldRoads" "EAST" "[I" (.ref (X.2.1 (-2))) (kA X) U H ∧ va_T .int (X.2.1 (-2)) 8 (fun j => .int (Int32.ofInt (([0, 1, 1, 1, 0, -1, -1, -1] : List Int).getD j 0))) (kA X) U H) ∧
  (va_Z "OldRoads" "SOUTH" "[I" (.ref (X.2.1 (-3))) (kA X) U H ∧ va_T .int (X.2.1 (-3)) 8 (fun j => .int (Int32.ofInt (([-1, -1, 0, 1, 1, 1, 0, -1] : List Int).getD j 0))) (kA X) U H) ∧ kEs X U H
theorem kEx.warm {X : kX} {s U : State} {H : Heap} (hW : s.WarmedH U.vm) (h : kEx X s H) : kEx X U H := by
  have hvm := hW.alike
  obtain ⟨⟨a1, a2⟩, ⟨b1, b2⟩, c1, c2, c3, c4, c5, c6, c7, c8, c9, c10⟩ := h
  exact ⟨⟨a1.moved hvm, a2.moved hvm⟩, ⟨b1.moved hvm, b2.moved hvm⟩, c1.warm hW, c2.warm hW, c3.moved hvm, c4.moved hvm, c5.moved hvm, c6.moved hvm, c7.moved hvm, c8.moved hvm, c9.moved hvm, c10.moved hvm⟩
theorem kEx.same {X : kX} {u U : State} {H : Heap} (hv : U.vm = u.vm) (h : kEx X u H) : kEx X U H := by
  have hvm : u.vm.Alike U.vm := by rw [hv]; exact Vm.Alike.refl _
  obtain ⟨⟨a1, a2⟩, ⟨b1, b2⟩, c1, c2, c3, c4, c5, c6, c7, c8, c9, c10⟩ := h
  exact ⟨⟨a1.moved hvm, a2.moved hvm⟩, ⟨b1.moved hvm, b2.moved hvm⟩, c1.same hv, c2.same hv, c3.moved hvm, c4.moved hvm, c5.moved hvm, c6.moved hvm, c7.moved hvm, c8.moved hvm, c9.moved hvm, c10.moved hvm⟩
theorem kEx.kept {X : kX} {U : State} {H H1 : Heap} (h : kEx X U H) (hq : ∀ a : Nat, a < H.size → ¬ kA X a → H1[a]? = H[a]?) : kEx X U H1 := by
  obtain ⟨⟨a1, a2⟩, ⟨b1, b2⟩, c1, c2, c3, c4, c5, c6⟩ := h
  exact ⟨⟨a1.kept hq, a2.kept hq⟩, ⟨b1.kept hq, b2.kept hq⟩, c1, c2, c3.kept hq, c4.kept hq, c5.kept hq, c6⟩
/-- the script: what the world says of it lies at -4: its length at -1, its numbers at 0 .. -/
def kSc (X : kX) (σ : kS) (U : State) (H : Heap) : Prop :=
  va_X (X.2.1 (-4)) (σ (-4) (-1)).toNat (fun j => Int32.ofInt (σ (-4) j)) U H ∧ ¬ kA X (X.2.1 (-4)) ∧ (0 ≤ σ (-4) (-1) ∧ σ (-4) (-1) ≤ 4096) ∧ ∀ j : Int, 0 ≤ j → j < σ (-4) (-1) → -2147483648 ≤ σ (-4) j ∧ σ (-4) j ≤ 2147483647
theorem kSc.moved {X : kX} {σ : kS} {u U : State} {H : Heap} (hvm : u.vm.Alike U.vm) (h : kSc X σ u H) : kSc X σ U H := ⟨h.1.moved hvm, h.2⟩
theorem kSc.kept {X : kX} {σ : kS} {U : State} {H H1 : Heap} (h : kSc X σ U H) (hq : ∀ a : Nat, a < H.size → ¬ kA X a → H1[a]? = H[a]?) : kSc X σ U H1 :=
  ⟨h.1.kept (hq _ (by obtain ⟨c, hc, -⟩ := h.1; exact (Array.getElem?_eq_some_iff.mp hc).1) h.2.1), h.2⟩
theorem kSc.put {X : kX} {σ : kS} {U : State} {H : Heap} {a i v : Int} (ha : 0 ≤ a) (h : kSc X σ U H) : kSc X (kst σ a i v) U H := by
  unfold kSc at h ⊢
  rw [kst_k (show (-4 : Int) ≠ a by omega)]
  exact h
/-! the picture of the heap; what a method stands on -/
def kPic (X : kX) (n : Nat) (σ : kS) (s : State) (H : Heap) (locs : List Loc) : Prop :=
  va_P X.2.2.1 kcls (kwl X n σ) H ∧ va_S (kA X) s.heap H locs ∧ kokw n σ ∧ (n < kN → H.size = X.1 + n) ∧ X.1 ≤ s.heap.size ∧ kSc X σ s s.heap
def kFix (p : Program) (s : State) (m : MethodId) (args : Array Value) (meth : Method) (c : Code) (M : kM) (X : kX) : Prop :=
  p.tables.exec = Jvm.exec ∧ c.code = M.2.1 ∧ c.maxLocals = M.2.2.1 ∧ meth.sig.returnType = M.2.2.2 ∧ meth.locks = false ∧ s.vm.findClass M.1.cls = some m.cls ∧ meth.name = M.1.name ∧ (∀ w ∈ TB, w.before args s = true) ∧ va_K X.2.2.1 kcls (ktys X) s ∧ kEx X s s.heap
def kG (d : Nat) (M : kM) (Post : Option kV → Nat → kS → Prop) (b : Nat × Nat) (ls : List (Nat × kV)) (st : List kV) (n : Nat) (σ : kS)
    (p : Program) (s : State) (m : MethodId) (args : Array Value) (meth : Method) (c : Code) (X : kX) (H : Heap) (locs : List Loc) (cells slots mc ms : Nat) (Qc : Array Value → State → Outcome → State → Prop) (arr : Array Slot) : Prop :=
  kFix p s m args meth c M X ∧ kPic X n σ s H locs ∧ lv_has arr M.2.2.1 (kcl X ls) ∧ (∀ q ∈ ls, kok q.2) ∧ (∀ v ∈ st, kok v) ∧ cells + b.1 ≤ mc ∧ slots + b.2 ≤ ms ∧
  (∀ v n' σ' (t : State), s.vm.Alike t.vm → Post v n' σ' → kPic X n' σ' s t.heap [] → (∀ w, v = some w → kok w) → Qc args s (.returned (v.map (kcv X))) t)
/-- from here the method ends, with Post -/
def K (d : Nat) (M : kM) (Post : Option kV → Nat → kS → Prop) (b : Nat × Nat) (pc : Nat) (ls : List (Nat × kV)) (st : List kV) (n : Nat) (σ : kS) : Prop :=
  ∀ (p : Program) (l : Launch) (e : Env) (s : State) (m : MethodId) (args : Array Value) (below : List Frame) (meth : Method) (c : Code) (X : kX) (H : Heap) (locs : List Loc) (cells slots mc ms : Nat) (Qc : Array Value → State → Outcome → State → Prop) (arr : Array Slot),
    kG d M Post b ls st n σ p s m args meth c X H locs cells slots mc ms Qc arr →
    W p l e (kRm d mc ms) s m args below meth c H locs cells slots (MQ below Qc args s mc ms (kA X)) (F0 m pc arr (st.map (kcv X)))
/-! numbers -/
theorem k32 {x : Int} (h : -2147483648 ≤ x ∧ x ≤ 2147483647) : (Int32.ofInt x).toInt = x := by
  rw [Int32.toInt_ofInt]; show x.bmod 4294967296 = x; exact Int.bmod_eq_of_le (by omega) (by omega)
theorem k64 {x : Int} (h : -9223372036854775808 ≤ x ∧ x ≤ 9223372036854775807) : (Int64.ofInt x).toInt = x := by
  rw [Int64.toInt_ofInt]; show x.bmod 18446744073709551616 = x; exact Int.bmod_eq_of_le (by omega) (by omega)
