/-! THE CLAIM OUT OF ONE WALK OF THE LAW'S BODY. Your part is whole_start (and what it stands on); all else here is the same for every law, but numbers. -/
def R_law : String := "OldRoadsLaw"
def lw_P (b : Addr) (xs : List Int32) (args : Array Value) (s : State) : Prop := args = #[.ref b] ∧ s.IntsAt b xs ∧ xs.length ≤ 4096 ∧ (Jvm.Cond.and given_1 narrow_1).before args s = true
def lw_Q (_ : Array Value) (s : State) (o : Outcome) (t : State) : Prop := o = .returned (some (.int 1)) ∧ Framed s o t [] 601024 7293034
def lw_Z (below : List Frame) (a : Array Value) (s : State) : State → Prop := fun t => ∃ o, t.status = .running ∧ Ended t below o ∧ lw_Q a s o t
/-- the law's own end, with 1 on the stack, nothing written that was there before, its room as the claim has it -/
theorem lw_ret {p : Program} {l : Launch} {e : Env} {s : State} {m : MethodId} {below : List Frame} {meth : Method} {c : Code} {b : Nat} (hx : p.tables.exec = Jvm.exec) (hb : c.code = code) (hr : meth.sig.returnType = ret) (hlocks : meth.locks = false) {pc : Nat} {H : Heap} {ls : Array Slot} (hdg : decode code pc = .ok (.ireturn, 1)) : W p l e room_1 s m #[Value.ref b] below meth c H [] 601024 7293034 (lw_Z below #[Value.ref b] s) (F0 m pc ls [.int 1]) := by
  intro T hT X
  obtain ⟨fs, hret, hrun, hended, hW, hframe⟩ := X.leave (v := some (.int 1)) (hlocks := hlocks) (fun h => by rw [hr] at h; cases h)
  have hmeth' : T.vm.method? m = some meth := X.method'
  refine ⟨T.setFrames fs, ?_, .returned (some (.int 1)), hrun, hended, rfl, ⟨_, rfl⟩, hW, hframe⟩
  jvm_step X.here [X.here.top, hx, hb, hdg, hmeth', hr, ret, narrow_b1]
  (try refine ⟨rfl, ?_⟩); (try refine ⟨rfl, ?_⟩)
  first | (intro acts; rw [hret _ acts rfl rfl rfl]) | rw [hret _ _ rfl rfl rfl]
  exact Steps.refl _
/-- what holds at the law's entry: the machine, the code, the tables' words (any of lw_tbl by 'hts w (by decide +kernel)'), the script of L ints xs at the cell b, what the Statement gives of the start (any of its parts by flat_of_before) -/
def lw_At (p : Program) (s : State) (m : MethodId) (meth : Method) (c : Code) (b L : Nat) (xs : Nat → Int32) : Prop :=
  p.tables.exec = Jvm.exec ∧ c.code = code ∧ meth.sig.returnType = ret ∧ c.maxLocals = 7 ∧ s.vm.findClass R_law = some m.cls ∧ (∀ w ∈ lw_tbl, w.before #[Value.ref b] s = true) ∧ va_X b L xs s s.heap ∧ b < s.heap.size ∧ meth.locks = false ∧ (Jvm.Cond.and given_1 narrow_1).before #[Value.ref b] s = true
/-! the start -/
theorem room_mono {s : State} {pl : Platform} {R R' : Room} (h : s.hasRoom pl R = true) (h1 : R'.frames ≤ R.frames) (h2 : R'.locals ≤ R.locals) (h3 : R'.cells ≤ R.cells) (h4 : R'.slots ≤ R.slots) : s.hasRoom pl R' = true := by
  unfold State.hasRoom at h ⊢
  simp only [Bool.and_eq_true, decide_eq_true_eq] at h ⊢
  repeat' apply And.intro
  all_goals first | omega | exact h.2 | exact h.1.2 | exact h.1.1.2
theorem W_room {p : Program} {l : Launch} {e : Env} {R R' : Room} {s : State} {m : MethodId} {args : Array Value} {below : List Frame} {meth : Method} {c : Code} {H : Heap} {locs : List Loc} {cells slots : Nat} {Q Q' : State → Prop} {g : JFrame} (h1 : R'.frames ≤ R.frames) (h2 : R'.locals ≤ R.locals) (h3 : R'.cells ≤ R.cells) (h4 : R'.slots ≤ R.slots) (hq : ∀ t, Q' t → Q t) (k : W p l e R' s m args below meth c H locs cells slots Q' g) : W p l e R s m args below meth c H locs cells slots Q g := fun T hT X => by
  obtain ⟨t, a, b⟩ := k T hT { X with room := room_mono X.room h1 h2 h3 h4 }
  exact ⟨t, a, hq t b⟩
theorem lw_end {X : kX} {below : List Frame} {a : Array Value} {s t : State} (hX : X.1 = s.heap.size) (h : MQ below (fun _ _ o _ => o = .returned (some (.int 1))) a s 601024 7293034 (kA X) t) : lw_Z below a s t := by
  obtain ⟨o, h1, h2, h3, L, ⟨g1, g2, g3⟩, hL⟩ := h
  exact ⟨o, h1, h2, h3, ⟨_, h3⟩, g2, g3.weaken (fun y hy hlt => absurd hlt (Nat.not_lt.mpr (by
    have h9 : X.1 ≤ y.base := hL y hy
    rw [← hX]
    exact h9))) (Nat.le_refl _) (Nat.le_refl _)⟩
theorem k_cls {s : State} {args : Array Value} (hT : ∀ w ∈ TB, w.before args s = true) : ∃ (D1 : Nat → ClassId) (D2 : Nat → Nat → Nat), ∀ (c : Nat) (q : vw_C), kcls[c]? = some q → u_Kn s q.1 q.2.1 q.2.2 (D1 c) (D2 c) := by
  obtain ⟨a0, f0, h0⟩ := u_known hT uw0 (hT _ (tb2 54 rfl rfl))
  obtain ⟨a1, f1, h1⟩ := u_known hT uw1 (hT _ (tb2 14 rfl rfl))
  obtain ⟨a2, f2, h2⟩ := u_known hT uw2 (hT _ (tb1 216 rfl rfl))
  obtain ⟨a3, f3, h3⟩ := u_known hT uw3 (hT _ (tb1 79 rfl rfl))
  obtain ⟨a4, f4, h4⟩ := u_known hT uw4 (hT _ (tb1 73 rfl rfl))
  obtain ⟨a5, f5, h5⟩ := u_known hT uw5 (hT _ (tb1 35 rfl rfl))
  obtain ⟨a6, f6, h6⟩ := u_known hT uw6 (hT _ (tb2 40 rfl rfl))
  obtain ⟨a7, f7, h7⟩ := u_known hT uw7 (hT _ (tb1 235 rfl rfl))
  obtain ⟨a8, f8, h8⟩ := u_known hT uw8 (hT _ (tb1 49 rfl rfl))
  obtain ⟨a9, f9, h9⟩ := u_known hT uw9 (hT _ (tb1 193 rfl rfl))
  obtain ⟨a10, f10, h10⟩ := u_known hT uw10 (hT _ (tb1 123 rfl rfl))
  obtain ⟨a11, f11, h11⟩ := u_known hT uw11 (hT _ (tb1 27 rfl rfl))
  obtain ⟨a12, f12, h12⟩ := u_known hT uw12 (hT _ (tb5 219 rfl rfl))
  have h : ∀ c : Nat, ∃ z : ClassId × (Nat → Nat), ∀ q : vw_C, kcls[c]? = some q → u_Kn s q.1 q.2.1 q.2.2 z.1 z.2 := by
    intro c
    match c with
    | 0 => exact ⟨(a0, f0), fun q hq => by cases hq; exact h0⟩
    | 1 => exact ⟨(a1, f1), fun q hq => by cases hq; exact h1⟩
    | 2 => exact ⟨(a2, f2), fun q hq => by cases hq; exact h2⟩
    | 3 => exact ⟨(a3, f3), fun q hq => by cases hq; exact h3⟩
    | 4 => exact ⟨(a4, f4), fun q hq => by cases hq; exact h4⟩
    | 5 => exact ⟨(a5, f5), fun q hq => by cases hq; exact h5⟩
    | 6 => exact ⟨(a6, f6), fun q hq => by cases hq; exact h6⟩
    | 7 => exact ⟨(a7, f7), fun q hq => by cases hq; exact h7⟩
    | 8 => exact ⟨(a8, f8), fun q hq => by cases hq; exact h8⟩
    | 9 => exact ⟨(a9, f9), fun q hq => by cases hq; exact h9⟩
    | 10 => exact ⟨(a10, f10), fun q hq => by cases hq; exact h10⟩
    | 11 => exact ⟨(a11, f11), fun q hq => by cases hq; exact h11⟩
    | 12 => exact ⟨(a12, f12), fun q hq => by cases hq; exact h12⟩
    | c + 13 => exact ⟨(a0, f0), fun q hq => by
        have h1 := (List.getElem?_eq_some_iff.mp hq).1
        have h2 : kcls.length = 13 := rfl
        omega⟩
  obtain ⟨f, hf⟩ := Classical.axiomOfChoice h
  exact ⟨fun c => (f c).1, fun c => (f c).2, fun c q hq => hf c q hq⟩
theorem k_arP {s : State} {args : Array Value} {ty : FieldType} (h : (Cond.arrayClass ty).before args s = true) (hn : ∀ C, ty ≠ .object C) : ∃ cA, ArrOfT s cA ty ∧ va_RA s cA ty := by
  obtain ⟨c, k, comp, h1, h2, h3⟩ := Cond.arrayClass_spec h
  refine ⟨c, fun n z => ⟨(fun k h => by cases h), k, h2, comp, h3⟩, ?_⟩
  cases ty with
  | object C => exact absurd rfl (hn C)
  | _ => exact h1
theorem k_arO {s : State} {C : String} (h : va_AO C s) : ∃ cA, ArrOfT s cA (.object C) ∧ va_RA s cA (.object C) := by
  obtain ⟨comp, c, k, h1, -, h3, h4, h5⟩ := Cond.arrayOver_spec (args := #[]) (va_AO.use h)
  exact ⟨c, fun n z => ⟨(fun k h => by cases h), k, h3, comp, h4⟩, k, comp, h3, h4, h1, h5⟩
theorem k_arA {s : State} (h : kAOI s) : ∃ cA, ArrOfT s cA (.array .int) ∧ va_RA s cA (.array .int) := by
  obtain ⟨comp, c, k, h1, h2, h3, h4, h5⟩ := h.spec
  exact ⟨c, fun n z => ⟨(fun k h => by cases h), k, h3, comp, h4⟩, h5⟩
def kIds (a0 a1 a2 a3 a4 a5 a6 a7 a8 : ClassId) : Nat → ClassId := fun c => if c = 20 then a0 else if c = 21 then a1 else if c = 22 then a2 else if c = 23 then a3 else if c = 24 then a4 else if c = 25 then a5 else if c = 26 then a6 else if c = 27 then a7 else a8
def kOld (tE tS b k0 k1 v0 v1 : Nat) : Int → Nat := fun x => if x = -2 then tE else if x = -3 then tS else if x = -4 then b else if x = -5 then k0 else if x = -6 then k1 else if x = -7 then v0 else v1
def kW0 (L : Nat) (xs : Nat → Int32) : kS := fun _ j => if j = -1 then (L : Int) else (xs j.toNat).toInt
/-- what is known of the start besides the classes -/
theorem k_start {s : State} {b : Nat} (hts : ∀ w ∈ lw_tbl, w.before #[Value.ref b] s = true) (hpre : (Jvm.Cond.and given_1 narrow_1).before #[Value.ref b] s = true) (D : va_G) (ids : Nat → ClassId) :
    ∃ tE tS k0 k1 v0 v1 : Nat, kEx (s.heap.size, kOld tE tS b k0 k1 v0 v1, D, ids) s s.heap ∧ kZh (s.heap.size, kOld tE tS b k0 k1 v0 v1, D, ids) s s.heap := by
  have hs := flat_of_before _ hpre
  have hA : ∀ a : Nat, a < s.heap.size → ¬ (fun q : Nat => s.heap.size ≤ q) a := fun a h => Nat.not_le_of_lt h
  obtain ⟨tE, hE1, hE2⟩ := va_Tof (tm := .static "OldRoads" "EAST" "[I") (ty := .int) (N := 8) (f := fun j => .int (Int32.ofInt (([0, 1, 1, 1, 0, -1, -1, -1] : List Int).getD j 0))) (A := fun q : Nat => s.heap.size ≤ q) (by decide) (hs _ (by decide +kernel)) (va_eqt (hs _ (by decide +kernel))) (fun j hj => by
    rcases (show j = 0 ∨ j = 1 ∨ j = 2 ∨ j = 3 ∨ j = 4 ∨ j = 5 ∨ j = 6 ∨ j = 7 by omega) with rfl | rfl | rfl | rfl | rfl | rfl | rfl | rfl <;> exact va_eqt (hs _ (by decide +kernel))) hA
  obtain ⟨tS, hS1, hS2⟩ := va_Tof (tm := .static "OldRoads" "SOUTH" "[I") (ty := .int) (N := 8) (f := fun j => .int (Int32.ofInt (([-1, -1, 0, 1, 1, 1, 0, -1] : List Int).getD j 0))) (A := fun q : Nat => s.heap.size ≤ q) (by decide) (hs _ (by decide +kernel)) (va_eqt (hs _ (by decide +kernel))) (fun j hj => by
    rcases (show j = 0 ∨ j = 1 ∨ j = 2 ∨ j = 3 ∨ j = 4 ∨ j = 5 ∨ j = 6 ∨ j = 7 by omega) with rfl | rfl | rfl | rfl | rfl | rfl | rfl | rfl <;> exact va_eqt (hs _ (by decide +kernel))) hA
  have zE := va_Zof (A := fun q : Nat => s.heap.size ≤ q) (hts (.laysStatic "OldRoads" "EAST" "[I") (by decide +kernel)) (hts (.initialized "OldRoads") (by decide +kernel)) hE1 hA
  have zS := va_Zof (A := fun q : Nat => s.heap.size ≤ q) (hts (.laysStatic "OldRoads" "SOUTH" "[I") (by decide +kernel)) (hts (.initialized "OldRoads") (by decide +kernel)) hS1 hA
  have zC := va_Zof (A := fun q : Nat => s.heap.size ≤ q) (hts (.laysStatic "java/lang/String" "COMPACT_STRINGS" "Z") (by decide +kernel)) (hts (.initialized "java/lang/String") (by decide +kernel)) (va_eqi (z := 1) (hs _ (by decide +kernel))) hA
  have zP := va_Zqof (A := fun q : Nat => s.heap.size ≤ q) (C := "jdk/internal/util/Preconditions") (n := "SIOOBE_FORMATTER") (d := "Ljava/util/function/BiFunction;") (hts _ (by decide +kernel)) (hts _ (by decide +kernel)) (hs _ (by decide +kernel)) hA
  have zU := vx_Zqof (A := fun q : Nat => s.heap.size ≤ q) (C := Bundle.tN) (n := "UNASSIGNED_STACK") (d := Bundle.steD) (hts _ (by decide +kernel)) (hts _ (by decide +kernel)) (hs _ (by decide +kernel)) hA
  have zN := vx_Zqof (A := fun q : Nat => s.heap.size ≤ q) (C := Bundle.tN) (n := "SUPPRESSED_SENTINEL") (d := Bundle.listD) (hts _ (by decide +kernel)) (hts _ (by decide +kernel)) (hs _ (by decide +kernel)) hA
  obtain ⟨adK, adV, hS, hev⟩ := vk_Sof (N := 2) (tm := fun i => if i = 0 then .string "OldRoadsModel" 44 else .string "OldRoadsModel" 50) (len := [1, 8]) (byt := [[121], [117, 100, 119, 102, 109, 115, 103, 116]]) (A := fun q : Nat => s.heap.size ≤ q) (args := #[Value.ref b]) (s := s)
    (fun i hi => by rcases (show i = 0 ∨ i = 1 by omega) with rfl | rfl <;> decide)
    (fun i hi => by rcases (show i = 0 ∨ i = 1 by omega) with rfl | rfl <;> exact hs _ (by decide +kernel))
    (fun i hi => by rcases (show i = 0 ∨ i = 1 by omega) with rfl | rfl <;> exact hs _ (by decide +kernel))
    (fun i hi => by rcases (show i = 0 ∨ i = 1 by omega) with rfl | rfl <;> exact hs _ (by decide +kernel))
    (fun i hi => by rcases (show i = 0 ∨ i = 1 by omega) with rfl | rfl <;> exact hs _ (by decide +kernel))
    (fun i hi j hj => by
      rcases (show i = 0 ∨ i = 1 by omega) with rfl | rfl
      · have hj : j < 1 := hj
        have e : j = 0 := by omega
        subst e
        exact hs _ (by decide +kernel)
      · have hj : j < 8 := hj
        rcases (show j = 0 ∨ j = 1 ∨ j = 2 ∨ j = 3 ∨ j = 4 ∨ j = 5 ∨ j = 6 ∨ j = 7 by omega) with rfl | rfl | rfl | rfl | rfl | rfl | rfl | rfl <;> exact hs _ (by decide +kernel))
    (fun i j hi hj hne => by
      rcases (show (i = 0 ∧ j = 1) ∨ (i = 1 ∧ j = 0) by omega) with ⟨rfl, rfl⟩ | ⟨rfl, rfl⟩
      · exact Or.inl (hs _ (by decide +kernel))
      · exact Or.inr (hs _ (by decide +kernel))) hA
  refine ⟨tE, tS, adK 0, adK 1, adV 0, adV 1, ⟨⟨?_, ?_⟩, ⟨?_, ?_⟩, ?_, ?_, ?_, zC, zP, va_AO.of (hts _ (by decide +kernel)), va_AO.of (hts _ (by decide +kernel)), va_AO.of (hts _ (by decide +kernel)), va_AO.of (hts _ (by decide +kernel)), ?_⟩, zU, zN, ?_⟩
  · exact zE
  · exact hE2
  · exact zS
  · exact hS2
  · exact vk_R.of (hts (.stringRef "OldRoadsModel" 44 "y") (by decide +kernel)) (hev 0 (by decide))
  · exact vk_R.of (hts (.stringRef "OldRoadsModel" 50 "udwfmsgt") (by decide +kernel)) (hev 1 (by decide))
  · refine ⟨fun i hi => ?_, fun i j hi hj he => ?_⟩
    · rcases (show i = 0 ∨ i = 1 by omega) with rfl | rfl
      · exact hS.1 0 (by decide)
      · exact hS.1 1 (by decide)
    · rcases (show i = 0 ∨ i = 1 by omega) with rfl | rfl <;> rcases (show j = 0 ∨ j = 1 by omega) with rfl | rfl
      · rfl
      · exact hS.2 0 1 (by decide) (by decide) he
      · exact hS.2 1 0 (by decide) (by decide) he
      · rfl
  · exact hts (.arrayOver (.array .int)) (by decide +kernel)
  · intro w hw a
    have h1 : w ∈ lw_tbl := by
      simp only [kDec, List.mem_cons, List.not_mem_nil, or_false] at hw
      rcases hw with rfl | rfl | rfl | rfl <;> decide +kernel
    have h2 : w.onTables = true := by
      simp only [kDec, List.mem_cons, List.not_mem_nil, or_false] at hw
      rcases hw with rfl | rfl | rfl | rfl <;> rfl
    exact va_tabs h2 (rfl : s.vm = s.vm) (hts w h1)
theorem whole_start {p : Program} {e : Env} {s : State} {m : MethodId} {below : List Frame} {meth : Method} {c : Code} (l : Launch) (hflags : l.flags = flags0) {b L : Nat} {xs : Nat → Int32} (hL : L ≤ 4096) (C0 : lw_At p s m meth c b L xs) : W p l e room_1 s m #[Value.ref b] below meth c s.heap [] 0 0 (lw_Z below #[Value.ref b] s) (entryFrame m ([Value.ref b] : List Value).toArray 7) := by
  obtain ⟨hx, hb, hr, hml, hown, hts, hXs, hbl, hlk, hpre⟩ := C0
  have hTB : ∀ w ∈ TB, w.before #[Value.ref b] s = true := fun w hw => hts w (List.mem_filter.mp hw).1
  obtain ⟨D1, D2, hD⟩ := k_cls hTB
  have hl0 : l.stackTraces = false := by
    unfold Launch.stackTraces
    rw [hflags]
    decide +kernel
  obtain ⟨a0, p0⟩ := k_arP (hTB _ (tb1 46 rfl rfl)) (fun C h => by cases h)
  obtain ⟨a1, p1⟩ := k_arP (hTB _ (tb6 194 rfl rfl)) (fun C h => by cases h)
  obtain ⟨a2, p2⟩ := k_arP (hTB _ (tb6 195 rfl rfl)) (fun C h => by cases h)
  obtain ⟨a3, p3⟩ := k_arP (hTB _ (tb9 68 rfl rfl)) (fun C h => by cases h)
  obtain ⟨a4, p4⟩ := k_arA (s := s) (hts (.arrayOver (.array .int)) (by decide +kernel))
  obtain ⟨a5, p5⟩ := k_arO (s := s) (C := RX5) (va_AO.of (hts (.arrayOver (.object RX5)) (by decide +kernel)))
  obtain ⟨a6, p6⟩ := k_arO (s := s) (C := RX3) (va_AO.of (hts (.arrayOver (.object RX3)) (by decide +kernel)))
  obtain ⟨a7, p7⟩ := k_arO (s := s) (C := RX0) (va_AO.of (hts (.arrayOver (.object RX0)) (by decide +kernel)))
  obtain ⟨a8, p8⟩ := k_arO (s := s) (C := RX8) (va_AO.of (hts (.arrayOver (.object RX8)) (by decide +kernel)))
  obtain ⟨tE, tS, k0, k1, v0, v1, hEx, hZh⟩ := k_start hts hpre (D1, D2) (kIds a0 a1 a2 a3 a4 a5 a6 a7 a8)
  obtain ⟨X, hX⟩ : ∃ X : kX, X = (s.heap.size, kOld tE tS b k0 k1 v0 v1, (D1, D2), kIds a0 a1 a2 a3 a4 a5 a6 a7 a8) := ⟨_, rfl⟩
  rw [← hX] at hEx hZh
  have x1 : X.1 = s.heap.size := by rw [hX]
  have x4 : X.2.1 (-4) = b := by rw [hX]; rfl
  have hK : va_K X.2.2.1 kcls (ktys X) s := by
    rw [hX]
    refine ⟨hD, fun k q hk => ?_⟩
    match k, hk with
    | 0, hk => cases hk; exact p0
    | 1, hk => cases hk; exact p1
    | 2, hk => cases hk; exact p2
    | 3, hk => cases hk; exact p3
    | 4, hk => cases hk; exact p4
    | 5, hk => cases hk; exact p5
    | 6, hk => cases hk; exact p6
    | 7, hk => cases hk; exact p7
    | 8, hk => cases hk; exact p8
    | k + 9, hk =>
      have h1 := (List.getElem?_eq_some_iff.mp hk).1
      have h2 : k + 9 < 9 := h1
      omega
  have w1 : kW0 L xs (-4) (-1) = L := by unfold kW0; rw [if_pos rfl]
  have wj : ∀ j : Int, 0 ≤ j → kW0 L xs (-4) j = (xs j.toNat).toInt := fun j hj => by unfold kW0; rw [if_neg (by omega)]
  have hrg : ∀ j : Int, 0 ≤ j → -2147483648 ≤ kW0 L xs (-4) j ∧ kW0 L xs (-4) j ≤ 2147483647 := fun j hj => by rw [wj j hj]; exact k32r _
  have hScR : ScR (kW0 L xs) := ⟨by rw [w1]; omega, fun j hj _ => hrg j hj⟩
  have hSc : kSc X (kW0 L xs) s s.heap := by
    refine ⟨?_, ?_, by rw [w1]; omega, fun j hj _ => hrg j hj⟩
    · rw [x4, w1, show ((L : Int)).toNat = L from Int.toNat_natCast L]
      have e : (fun j : Nat => Int32.ofInt (kW0 L xs (-4) j)) = xs := funext fun j => by
        rw [wj j (by omega), Int.toNat_natCast]
        exact Int32.ofInt_toInt _
      rw [e]
      exact hXs
    · rw [x4]
      show ¬ X.1 ≤ b
      rw [x1]
      omega
  have hZ := L_start (d := 1311) (nm := meth.name) (by decide) hScR
  have hl := lv_entry ([Value.ref b] : List Value) (n := 7) (show 1 ≤ 7 by decide)
  rw [lg_entry_eq]
  generalize (lg_sl [Value.ref b] ++ List.replicate (7 - (lg_sl [Value.ref b]).length) Slot.unset).toArray = arr at hl ⊢
  have hl2 : lv_has arr 7 (kcl X [(0, (2, -4))]) := by
    have e : kcl X [(0, (2, -4))] = [(0, Value.ref b)] := by
      show [(0, va_rf (some (X.2.1 (-4))))] = _
      rw [x4]
      rfl
    rw [e]
    exact hl
  refine W_room (R' := kRm 1312 601024 7293034) (by decide) (by decide) (by decide) (by decide) (fun t ht => lw_end x1 ht) (hZ p l e s m #[Value.ref b] below meth c X s.heap [] 0 0 601024 7293034 _ arr ⟨⟨hx, hb, hml, hr, hlk, hown, rfl, hTB, hK, hEx⟩, ⟨fun k q hk => ?_, va_S.rf, fun k hk => absurd hk (Nat.not_lt_zero k), fun _ => by rw [x1]; rfl, by rw [x1]; exact Nat.le_refl _, hSc⟩, hl2, fun q hq => ?_, (fun v hv => nomatch hv), by decide, by decide, ⟨hl0, hZh⟩, _, rfl, fun v n' σ' t _ hp _ _ => ?_⟩)
  · cases hk
  · simp only [List.mem_cons, List.not_mem_nil, or_false] at hq
    subst hq
    trivial
  · have hp : v = some (0, 1) := hp
    subst hp
    rfl
set_option maxHeartbeats 4000000 in
theorem lw_walk (l : Launch) (hflags : l.flags = flags0) (b : Addr) (xs : List Int32) : MetFree l x (headSpec (Jvm.Cond.code x code maxLocals ret :: tables_1) room_1) (lw_P b xs) (fun _ _ _ _ _ => True) lw_Q := by
  refine MetFree.of_bodyS (code := code) (maxLocals := maxLocals) (ret := ret) (by decide) ?_ ?_
  · intro args s m h hn
    obtain ⟨meth, c, h1, h2, h3, h4, h5, h6, -, -⟩ := Cond.code_spec hn (atoms_spec (ws := Jvm.Cond.code x code maxLocals ret :: tables_1) h _ List.mem_cons_self)
    exact ⟨meth, c, h1, h2, h3, h4, h5, h6⟩
  · intro p e s m args below meth c s₁ B hml0 hP _
    obtain ⟨rfl, hx, hbd, hgv⟩ := hP
    obtain ⟨scr, harrAt, hlist, hof, hsmall⟩ := hx
    obtain ⟨hcb, hkn, -, -⟩ := State.arrayAt?_spec harrAt
    have hown : s.vm.findClass R_law = some m.cls := findClass_of_methodNamed B.named
    have hts0 : ∀ c ∈ (Jvm.Cond.code x code maxLocals ret :: tables_1), c.before #[Value.ref b] s = true := atoms_spec (ws := Jvm.Cond.code x code maxLocals ret :: tables_1) B.pre
    have hts : ∀ w ∈ lw_tbl, w.before #[Value.ref b] s = true := k2_hts_sels lw_privs (fun w hw => hts0 w (List.mem_cons_of_mem _ hw)) lw_privs_ok
    have hml : c.maxLocals = 7 := B.maxLocals_eq (hts0 _ List.mem_cons_self)
    have X₀ : Stand p l e room_1 s m #[Value.ref b] below meth c s₁ [] 0 0 := Stand.of_body B
    have hh0 : s₁.heap = s.heap := by rw [B.state]; rfl
    have hsz : scr.slots.size = xs.length := by rw [← Array.length_toList, hlist, List.length_map]
    have hval : ∀ j : Nat, j < xs.length → scr.slots[j]? = some (.int (xs.getD j 0)) := fun j hj => by
      rw [← Array.getElem?_toList, hlist]
      simp [hj]
    have hbl : b < s.heap.size := (Array.getElem?_eq_some_iff.mp hcb).1
    have hX : va_X b xs.length (fun j => xs.getD j 0) s s.heap := ⟨scr, hcb, hof, hkn, hsz, hval⟩
    have K : W p l e room_1 s m #[Value.ref b] below meth c s₁.heap [] 0 0 (lw_Z below #[Value.ref b] s) (entryFrame m ([Value.ref b] : List Value).toArray 7) := by
      rw [hh0]
      exact whole_start l hflags hbd ⟨B.exec, B.bytes, B.returns, hml, hown, hts, hX, hbl, B.notSynchronized, hgv⟩
    obtain ⟨t, a1, o, b1, b2, b3⟩ := K s₁ rfl X₀
    exact ⟨t, o, a1, b1, b2, b3⟩
theorem lw_pre_spec {args : Array Value} {s : State} (h : (Jvm.Cond.and given_1 narrow_1).before args s = true) (hr : rest_1_c.before args s = true) : ∃ (b : Addr) (xs : List Int32), lw_P b xs args s := by
  have hs := flat_of_before _ h
  have hq := flat_of_before _ hr
  have hc : (Cond.count 1).before args s = true := hs _ (by decide +kernel)
  have harr : (Cond.arrayOf (.arg 0) .int).before args s = true := hs _ (by decide +kernel)
  have hle : (Cond.le (.length (.arg 0)) (.int 4096)).before args s = true := hs _ (by decide +kernel)
  have hlen : (Cond.isInt (.length (.arg 0))).before args s = true := hq _ (by decide +kernel)
  have hall : (Cond.all (.arg 0) (.isInt (.elem (.arg 0) (.index 0)))).before args s = true := hq _ (by decide +kernel)
  obtain ⟨b, xs, hb, hx⟩ := State.ints_of_pre rfl harr hlen hall
  have hsm : xs.length < 2 ^ 31 := hx.choose_spec.2.2.2
  have hev : (Term.length (.arg 0)).eval args s none [] s = some (.int xs.length.toInt32) := hx.length_eval hb
  have hv := Cond.le_ints hev (show (Term.int 4096).eval args s none [] s = some (.int 4096) from rfl)
  have hd : xs.length.toInt32 ≤ 4096 := by
    simpa [Cond.before, Cond.holds, hv] using hle
  have hN : xs.length ≤ 4096 := (Int32.ofNat_le_ofNat hsm (by decide)).mp (show Int32.ofNat xs.length ≤ Int32.ofNat 4096 from hd)
  exact ⟨b, xs, Cond.one_arg hc (show args[0]? = some (.ref b) from hb), hx, hN, h⟩
theorem lw_comes (l : Launch) (hflags : l.flags = flags0) : Comes l x (Jvm.Cond.code x code maxLocals ret :: tables_1) room_1 (fun tb e args s => Calls_1 tb e args s ∧ rest_1 tb e args s ∧ Pre_1 tb e args s)
    (fun _ _ args s o t => lw_Q args s o t) := by
  intro p e ha hc hk s m args below hf hfit hheap happ hpre
  obtain ⟨b, xs, hP⟩ := lw_pre_spec hpre.2.2 hpre.2.1
  obtain ⟨k, o, h1, h2, h3, hQ⟩ := lw_walk l hflags b xs p e ha hc hk s m args below hf ((Spec.applies_iff_loose hf).mp happ).1 hP trivial
  exact ⟨k, o, h1, h2, h3, hQ⟩
theorem lw_frame {s t : State} {o : Outcome} {args : Array Value} (h : Framed s o t [] 601024 7293034) :
    Framed s o t (fieldLocs frame_1_writes args s ++ arrayLocs frame_1_arrays args s ++ staticLocs frame_1_statics s) 601024 7293034 := h
theorem lw_limb (L : Cond) (hL : ∀ (args : Array Value) (s t : State), L.after args s (.returned (some (.int 1))) t = true) :
    ArmFor flags0 classFile x code maxLocals ret World_1 tables_1 room_1 Calls_1 rest_1 Pre_1
      (fun tb e a s o t => postC L tb e a s o t ∧ Framed s o t (fieldLocs frame_1_writes a s ++ arrayLocs frame_1_arrays a s ++ staticLocs frame_1_statics s) 601024 7293034) := by
  intro l hflags _ _ p e ha hc hk s m args below hf hfit hheap happ hpre
  obtain ⟨k, o, h1, h2, h3, rfl, hF⟩ := lw_comes l hflags p e ha hc hk s m args below hf hfit hheap happ hpre
  exact ⟨k, _, h1, h2, h3, hL args s _, lw_frame hF⟩
theorem i_vc : Claimed_1_1 ∧ Claimed_1_2 := ⟨lw_limb limb_1_1 (fun args s t => by simp [limb_1_1, Cond.after, Cond.holds, Cond.value]), lw_limb limb_1_2 (fun args s t => Cond.after_iff.mpr (by
  first | (rw [show limb_1_2 = Cond.eq .result (.int 1) from rfl, Cond.eq_ints (x := 1) (y := 1) rfl rfl]; simp; done) | (simp [limb_1_2, Cond.value, Term.eval]; done)))⟩
