/-! contracts, returns, calls -/
def kPc (X : kX) (as : List kV) (n : Nat) (σ : kS) : Array Value → State → Prop := fun v U =>
  v = (as.map (kcv X)).toArray ∧ va_P X.2.2.1 kcls (kwl X n σ) U.heap ∧ va_K X.2.2.1 kcls (ktys X) U ∧ kEx X U U.heap ∧ (n < kN → U.heap.size = X.1 + n) ∧ X.1 ≤ U.heap.size ∧ kSc X σ U U.heap
def kQc (X : kX) (Post : Option kV → Nat → kS → Prop) : Array Value → State → Outcome → State → Prop := fun _ st o t =>
  ∃ (v : Option kV) (n' : Nat) (σ' : kS), o = .returned (v.map (kcv X)) ∧ Post v n' σ' ∧ (∀ w, v = some w → kok w) ∧ kokw n' σ' ∧ va_P X.2.2.1 kcls (kwl X n' σ') t.heap ∧ (n' < kN → t.heap.size = X.1 + n') ∧ va_F (kA X) st t ∧ kSc X σ' t t.heap
/-- the contract of a method at these arguments and this world: it returns, with Post -/
def Tri (d : Nat) (M : kM) (b : Nat × Nat) (as : List kV) (n : Nat) (σ : kS) (Post : Option kV → Nat → kS → Prop) : Prop :=
  (∀ v ∈ as, kok v) → kokw n σ → ∀ (l : Launch) (X : kX), Met l M.1 (kWs M) (kRm d b.1 b.2) (kPc X as n σ) (kQc X Post) b.1 b.2 (kA X)
def kargs : Nat → List kV → List (Nat × kV)
  | _, [] => []
  | i, v :: vs => (i, v) :: kargs (i + kcat v) vs
theorem kargs_cl {X : kX} : ∀ (i : Nat) (as : List kV), kcl X (kargs i as) = lv_args i (as.map (kcv X))
  | _, [] => rfl
  | i, v :: vs => by
    show (i, kcv X v) :: kcl X (kargs (i + kcat v) vs) = (i, kcv X v) :: lv_args (if (kcv X v).category = 2 then i + 2 else i + 1) (vs.map (kcv X))
    rw [kargs_cl, kcat_cv]
    congr 2
    unfold kcat
    by_cases h : v.1 = 1 <;> simp [h]
theorem kargs_mem : ∀ {i : Nat} {as : List kV} {q : Nat × kV}, q ∈ kargs i as → q.2 ∈ as
  | _, [], _, h => by cases h
  | i, v :: vs, q, h => by
    rcases List.mem_cons.mp h with rfl | h
    · exact List.mem_cons_self
    · exact List.mem_cons_of_mem _ (kargs_mem h)
theorem klg_len {X : kX} (as : List kV) : (lg_sl (as.map (kcv X))).length = (as.map kcat).sum := by
  induction as with
  | nil => rfl
  | cons v vs ih =>
    show (lg_sl (kcv X v :: vs.map (kcv X))).length = kcat v + (vs.map kcat).sum
    rw [← ih]
    simp only [lg_sl, List.flatMap_cons, List.length_append, kcat_cv]
    congr 1
    unfold kcat
    by_cases h : v.1 = 1 <;> simp [h]
theorem k_ofW {l : Launch} {y : MethodName} {ws ws' : List Cond} {rm : Room} {Pc : Array Value → State → Prop} {Qc : Array Value → State → Outcome → State → Prop} {mc ms : Nat} {free : Addr → Prop} {cc : ByteArray} {maxL : Nat} {ret : Option FieldType}
    (hy : plainFor y = true) (hw : ws = Cond.code y cc maxL ret :: ws')
    (body : ∀ p e s m args below meth c s₁, BodyLoose p l y (headSpec ws rm) cc maxL ret e s m args below meth c s₁ → c.maxLocals = maxL → Pc args s →
      W p l e (headSpec ws rm).room s m args below meth c s.heap [] 0 0 (MQ below Qc args s mc ms free) (entryFrame m args maxL)) : Met l y ws rm Pc Qc mc ms free := by
  refine MetFree.of_bodySF (code := cc) (maxLocals := maxL) (ret := ret) hy ?_ ?_
  · intro args s m h hn
    obtain ⟨meth, c, h1, h2, h3, h4, h5, h6, -, -⟩ := Cond.code_spec hn (atoms_spec (ws := ws) h _ (by rw [hw]; exact List.mem_cons_self))
    exact ⟨meth, c, h1, h2, h3, h4, h5, h6⟩
  · intro p e s m args below meth c s₁ B hml hP _
    have hh0 : s₁.heap = s.heap := by rw [B.state]; rfl
    obtain ⟨t, a1, o, b1, b2, b3⟩ := body p e s m args below meth c s₁ B hml hP s₁ hh0 (Stand.of_body B)
    exact ⟨t, o, a1, b1, b2, ⟨b3.1, b3.2⟩⟩
theorem Tri_of {d : Nat} {M : kM} {b : Nat × Nat} {as : List kV} {n : Nat} {σ : kS} {Post : Option kV → Nat → kS → Prop} (hy : plainFor M.1 = true) (hls : (as.map kcat).sum ≤ M.2.2.1)
    (k : (∀ v ∈ as, kok v) → kokw n σ → K d M Post b 0 (kargs 0 as) [] n σ) : Tri d M b as n σ Post := by
  intro hok hw l X
  refine k_ofW hy rfl ?_
  intro p e s m args below meth c s₁ B hml hv
  obtain ⟨rfl, hP, hK, hE, hsz, hbs, hsc⟩ := hv
  have hts := atoms_spec (ws := kWs M) B.pre
  have hl := lv_entry (as.map (kcv X)) (n := M.2.2.1) (by rw [klg_len]; exact hls)
  rw [lg_entry_eq]
  generalize (lg_sl (as.map (kcv X)) ++ List.replicate (M.2.2.1 - (lg_sl (as.map (kcv X))).length) Slot.unset).toArray = arr at hl ⊢
  rw [← kargs_cl] at hl
  refine k hok hw p l e s m _ below meth c X s.heap [] 0 0 b.1 b.2 (kQc X Post) arr ⟨⟨B.exec, B.bytes, hml, B.returns, B.notSynchronized, findClass_of_methodNamed B.named, (name_of_methodNamed B.named B.method).1, fun w h => hts w (List.mem_cons_of_mem _ h), hK, hE⟩, ⟨hP, va_S.rf, hw, hsz, hbs, hsc⟩, hl, fun q hq => hok _ (kargs_mem hq), (fun v hv => absurd hv List.not_mem_nil), by omega, by omega, ?_⟩
  intro v n' σ' t hvm hp hPic hvok
  obtain ⟨g1, g2, g3, g4, g5, g6⟩ := hPic
  exact ⟨v, n', σ', rfl, hp, hvok, g3, g1, g4, g2.F rfl, (kSc.kept g6 (fun a h1 h2 => g2.2.1 a h1 h2)).moved hvm⟩
theorem Tri.conseq {d : Nat} {M : kM} {b : Nat × Nat} {as : List kV} {n : Nat} {σ : kS} {Post Post' : Option kV → Nat → kS → Prop} (h : Tri d M b as n σ Post) (hp : ∀ v n' σ', (∀ w, v = some w → kok w) → kokw n' σ' → Post v n' σ' → Post' v n' σ') : Tri d M b as n σ Post' := by
  intro h1 h2 l X p e ha hc hk s m args below hf happ hpre hK
  obtain ⟨k, o, a1, a2, a3, ⟨⟨v, n', σ', q1, q2, q3, q4, q5⟩, L, hL⟩⟩ := h h1 h2 l X p e ha hc hk s m args below hf happ hpre hK
  exact ⟨k, o, a1, a2, a3, ⟨⟨v, n', σ', q1, hp v n' σ' q3 q4 q2, q3, q4, q5⟩, L, hL⟩⟩
theorem kPic.forget {X : kX} {n : Nat} {σ : kS} {s : State} {H H1 : Heap} {locs : List Loc} (h : kPic X n σ s H locs) (e : H1 = H) : kPic X n σ s H1 [] := by
  subst e
  exact ⟨h.1, ⟨h.2.1.1, h.2.1.2.1, fun _ hq => by cases hq⟩, h.2.2⟩
section KP
variable {d : Nat} {M : kM} {Post : Option kV → Nat → kS → Prop} {b : Nat × Nat} {pc : Nat} {ls : List (Nat × kV)} {st : List kV} {n : Nat} {σ : kS}
theorem K_ireturn {x : Int} (hd : decode M.2.1 pc = .ok (.ireturn, 1)) (hr : M.2.2.2 = some .int) (k : Post (some (0, x)) n σ) : K d M Post b pc ls [(0, x)] n σ := by
  intro p l e s m args below meth c X H locs cells slots mc ms Qc arr ⟨hF, hP, hlv, h1, h2, h3, h4, h5⟩
  refine W.widen (k := mc) (n := ms) (by omega) (by omega) ?_
  exact W.iret hF.1 hF.2.1 (hF.2.2.2.1.trans hr) (fun t ht hw => h5 (some (0, x)) n σ t hw.alike k (hP.forget ht) (fun w hw => by cases hw; exact kh1 h2)) hP.2.1.2.2 hd hF.2.2.2.2.1
theorem K_zreturn {x : Int} (hd : decode M.2.1 pc = .ok (.ireturn, 1)) (hr : M.2.2.2 = some .boolean) (hx : x = 0 ∨ x = 1) (k : Post (some (0, x)) n σ) : K d M Post b pc ls [(0, x)] n σ := by
  intro p l e s m args below meth c X H locs cells slots mc ms Qc arr ⟨hF, hP, hlv, h1, h2, h3, h4, h5⟩
  refine W.widen (k := mc) (n := ms) (by omega) (by omega) ?_
  exact W.zret hF.1 hF.2.1 (hF.2.2.2.1.trans hr) (by rcases hx with rfl | rfl <;> rfl) (fun t ht hw => h5 (some (0, x)) n σ t hw.alike k (hP.forget ht) (fun w hw => by cases hw; exact kh1 h2)) hP.2.1.2.2 hd hF.2.2.2.2.1
theorem K_lreturn {x : Int} (hd : decode M.2.1 pc = .ok (.lreturn, 1)) (hr : M.2.2.2 = some .long) (k : Post (some (1, x)) n σ) : K d M Post b pc ls [(1, x)] n σ := by
  intro p l e s m args below meth c X H locs cells slots mc ms Qc arr ⟨hF, hP, hlv, h1, h2, h3, h4, h5⟩
  refine W.widen (k := mc) (n := ms) (by omega) (by omega) ?_
  exact W.lret hF.1 hF.2.1 (hF.2.2.2.1.trans hr) (fun t ht hw => h5 (some (1, x)) n σ t hw.alike k (hP.forget ht) (fun w hw => by cases hw; exact kh1 h2)) hP.2.1.2.2 hd hF.2.2.2.2.1
theorem K_return (hd : decode M.2.1 pc = .ok (.return_, 1)) (hr : M.2.2.2 = none) (k : Post none n σ) : K d M Post b pc ls [] n σ := by
  intro p l e s m args below meth c X H locs cells slots mc ms Qc arr ⟨hF, hP, hlv, h1, h2, h3, h4, h5⟩
  refine W.widen (k := mc) (n := ms) (by omega) (by omega) ?_
  exact W.vret hF.1 hF.2.1 (hF.2.2.2.1.trans hr) (fun t ht hw => h5 none n σ t hw.alike k (hP.forget ht) (fun w hw => by cases hw)) hP.2.1.2.2 hd hF.2.2.2.2.1
/-- what the words say of a callee -/
def kCL (M' : kM) (n : Nat) : Prop := Cond.code M'.1 M'.2.1 M'.2.2.1 M'.2.2.2 ∈ TB ∧ Cond.initialized M'.1.cls ∈ TB ∧ (M'.1.cls ≠ "java/lang/invoke/MethodHandle" ∧ M'.1.cls ≠ "java/lang/invoke/VarHandle") ∧ (parseMethodDescriptor M'.1.desc).map (fun d => d.parameters.length) = some n ∧ M'.2.2.1 ≤ 45
def kLK (own : String) (idx : Nat) (M' : kM) : Prop := Cond.methodLink own idx M'.1 ∈ TB ∨ ∃ host, Cond.methodLinkNest own idx M'.1 host ∈ TB
theorem k_warm {s : State} {args : Array Value} {M' : kM} {n' : Nat} (hts : ∀ w ∈ TB, w.before args s = true) (h : kCL M' n') : ∀ w ∈ kWs M', ∀ (a' : Array Value) (U : State), s.WarmedH U.vm → w.before a' U = true := fun w hw a' U hW => by
  rcases List.mem_cons.mp hw with rfl | hw
  · exact tb_warm hW h.1 (hts _ h.1)
  · exact tb_warm hW hw (hts _ hw)
theorem k_blind {X : kX} {as : List kV} : FrameBlind (kPc X as n σ) := fun a U g mk h => by
  obtain ⟨h1, h2, h3, h4, h5, h6, h7⟩ := h
  exact ⟨h1, h2, va_K.moved (u := U) (U := U.calling g mk a) (Vm.Alike.refl U.vm) h3, kEx.same (u := U) (U := U.calling g mk a) rfl h4, h5, h6, kSc.moved (u := U) (U := U.calling g mk a) (Vm.Alike.refl U.vm) h7⟩
theorem k_pre {X : kX} {as : List kV} {p : Program} {s : State} {m : MethodId} {args : Array Value} {meth : Method} {c : Code} {H : Heap} {locs : List Loc} (hF : kFix p s m args meth c M X) (hP : kPic X n σ s H locs) : ∀ U : State, U.heap = H → s.WarmedH U.vm → kPc X as n σ (as.map (kcv X)).toArray U := fun U hU hW => by
  subst hU
  obtain ⟨f1, f2, f3, f4, f5, f6, f7, f8, f9, f10⟩ := hF
  obtain ⟨p1, p2, p3, p4, p5, p6⟩ := hP
  exact ⟨rfl, p1, va_K.moved hW.alike f9, (kEx.kept f10 (fun a h1 h2 => p2.2.1 a h1 h2)).warm hW, p4, Nat.le_trans p5 p2.1, (kSc.kept p6 (fun a h1 h2 => p2.2.1 a h1 h2)).moved hW.alike⟩
theorem k_after {d : Nat} {M : kM} {Post Post' : Option kV → Nat → kS → Prop} {b b' : Nat × Nat} {pc : Nat} {ls : List (Nat × kV)} {st : List kV} {n : Nat} {σ : kS} {p : Program} {l : Launch} {e : Env} {s : State} {m : MethodId} {args : Array Value} {below : List Frame} {meth : Method} {c : Code} {X : kX} {H : Heap} {locs : List Loc} {cells slots mc ms : Nat} {Qc : Array Value → State → Outcome → State → Prop} {arr : Array Slot} {st0 : List Value} {a : Array Value}
    (hr : va_Run p l e (kRm d mc ms) s m args below meth c H locs cells slots b'.1 b'.2 (F0 m pc arr st0) (st.map (kcv X)) (kQc X Post' a) (kA X))
    (hG : kG d M Post b ls st n σ p s m args meth c X H locs cells slots mc ms Qc arr) (hb : b'.1 ≤ b.1 ∧ b'.2 ≤ b.2)
    (k : ∀ (v : Option kV) (n' : Nat) (σ' : kS), (∀ w, v = some w → kok w) → kokw n' σ' → Post' v n' σ' → K d M Post (b.1 - b'.1, b.2 - b'.2) (pc + 3) ls (v.toList ++ st) n' σ') :
    W p l e (kRm d mc ms) s m args below meth c H locs cells slots (MQ below Qc args s mc ms (kA X)) (F0 m pc arr st0) := by
  intro T hT XT
  obtain ⟨hF, hP, hlv, h1, h2, h3, h4, h5⟩ := hG
  obtain ⟨v, st₀, t, T', L, h0, X', hL, e1, e2, ⟨v', n', σ', hv, hp, hvok, hok, hP', hsz, ⟨hF1, hF2⟩, hsc⟩, hst⟩ := hr T hT XT
  have hv' : v = v'.map (kcv X) := by cases hv; rfl
  subst hv'
  rw [h0] at hF1 hF2
  obtain ⟨p1, p2, p3, p4, p5, p6⟩ := hP
  have hpic : kPic X n' σ' s T'.heap (locs ++ L) := by
    refine ⟨by rw [e1]; exact hP', ⟨by rw [e1]; exact Nat.le_trans p2.1 hF1, fun q q1 q2 => ?_, fun q hq => ?_⟩, hok, fun hn => by rw [e1]; exact hsz hn, p5, ?_⟩
    · rw [e1, hF2 q (Nat.lt_of_lt_of_le q1 p2.1) q2]
      exact p2.2.1 q q1 q2
    · rcases List.mem_append.mp hq with h | h
      · exact p2.2.2 q h
      · exact hL q h
    · have p6b := p6.2.1
      have hlt : X.2.1 (-4) < s.heap.size := by obtain ⟨cc, hc, -⟩ := p6.1; exact (Array.getElem?_eq_some_iff.mp hc).1
      have hv1 : s.vm.Alike t.vm := by rw [← e2]; exact X'.warmed.alike
      obtain ⟨z1, z2⟩ := hsc
      refine ⟨(z1.moved hv1.symm).kept ?_, z2⟩
      rw [hF2 _ (Nat.lt_of_lt_of_le hlt p2.1) p6b]
      exact (p2.2.1 _ hlt p6b).symm
  have hstk : ∀ w ∈ v'.toList ++ st, kok w := fun w hw => by
    rcases List.mem_append.mp hw with h | h
    · exact hvok w (by simpa using h)
    · exact h2 w h
  obtain ⟨t2, a1, b1⟩ := k v' n' σ' hvok hok hp p l e s m args below meth c X T'.heap (locs ++ L) (cells + b'.1) (slots + b'.2) mc ms Qc arr ⟨hF, hpic, hlv, h1, hstk, by simp only; omega, by simp only; omega, h5⟩ T' rfl X'
  refine ⟨t2, hst t2 ?_, b1⟩
  have e3 : (v'.map (kcv X)).toList ++ st.map (kcv X) = (v'.toList ++ st).map (kcv X) := by cases v' <;> simp
  rw [e3]
  exact a1
theorem k_cat {X : kX} {st : List kV} (h : (st.map kcat).sum ≤ 8) {pc : Nat} {arr : Array Slot} {rest : List Value} {m : MethodId} : 2 * (F0 m pc arr rest).monitorRoom + ((st.map (kcv X)).map fun v => v.category).sum ≤ 8 := by
  rw [List.map_map, show (fun v : Value => v.category) ∘ kcv X = kcat from funext fun v => kcat_cv X v]
  show 2 * 0 + _ ≤ 8
  omega
theorem K_callV {d' : Nat} {M' : kM} {b' : Nat × Nat} {c : Nat} {T : u_T} {N idx n0 : Nat} {r : Int} {as stk : List kV} {Post' : Option kV → Nat → kS → Prop} (hd : decode M.2.1 pc = .ok (.invokevirtual idx, 3)) (hdd : d' + 1 ≤ d) (hb : b'.1 ≤ b.1 ∧ b'.2 ≤ b.2)
    (hc : kcls[c]? = some (M'.1.cls, T, N)) (hC : kCL M' n0) (hL : kLK M.1.cls idx M' ∧ Cond.instanceMethod M'.1 ∈ TB ∧ Cond.selects M'.1.cls M'.1 M'.1 ∈ TB) (hn : as.length = n0) (hs : stk = as.reverse ++ (2, r) :: st) (hcat : (st.map kcat).sum ≤ 8) (hr : isO c n r)
    (hT : (∀ v ∈ (2, r) :: as, kok v) → kokw n σ → Tri d' M' b' ((2, r) :: as) n σ Post')
    (k : ∀ (v : Option kV) (n' : Nat) (σ' : kS), (∀ w, v = some w → kok w) → kokw n' σ' → Post' v n' σ' → K d M Post (b.1 - b'.1, b.2 - b'.2) (pc + 3) ls (v.toList ++ st) n' σ') : K d M Post b pc ls stk n σ := by
  subst hs
  intro p l e s m args below meth cd X H locs cells slots mc ms Qc arr hG
  obtain ⟨hF, hP, hlv, h1, h2, h3, h4, h5⟩ := id hG
  obtain ⟨f1, f2, f3, f4, f5, f6, f7, f8, f9, f10⟩ := id hF
  obtain ⟨r1, r2, r3⟩ := hr
  have hlt : r.toNat < n := by omega
  have hat := kwl_at (X := X) (σ := σ) hlt
  have hc13 : c < 13 := (List.getElem?_eq_some_iff.mp hc).1
  rw [r3, kent_o hc13] at hat
  have hst : ∀ v ∈ st, kok v := fun v hv => h2 v (List.mem_append_right _ (List.mem_cons_of_mem _ hv))
  have hak : ∀ v ∈ (2, r) :: as, kok v := fun v hv => by
    rcases List.mem_cons.mp hv with rfl | hv
    · trivial
    · exact h2 v (List.mem_append_left _ (List.mem_reverse.mpr hv))
  have hM := hT hak hP.2.2.1 hak hP.2.2.1 l X
  have hpre := k_pre (as := (2, r) :: as) hF hP
  have hkm : ((2, r) :: as : List kV).map (kcv X) = .ref (X.1 + r.toNat) :: as.map (kcv X) := by rw [List.map_cons, kcv_ref r1]
  have hstack : (as.reverse ++ (2, r) :: st).map (kcv X) = (as.map (kcv X)).reverse ++ .ref (X.1 + r.toNat) :: st.map (kcv X) := by
    rw [List.map_append, List.map_reverse, List.map_cons, kcv_ref r1]
  obtain ⟨c1, c2, c3, c4, c5⟩ := hC
  have hn2 : ∀ sig, parseMethodDescriptor M'.1.desc = some sig → n0 = sig.parameters.length := fun sig h => by rw [h] at c4; exact (Option.some.inj c4).symm
  have hroom : (kRm d' b'.1 b'.2).frames + 1 ≤ (kRm d mc ms).frames ∧ 8 + (M'.2.2.1 + 11) + (kRm d' b'.1 b'.2).locals ≤ (kRm d mc ms).locals := ⟨hdd, by show 8 + (M'.2.2.1 + 11) + 64 * d' ≤ 64 * d; omega⟩
  have hcells : cells + b'.1 ≤ (kRm d mc ms).cells ∧ slots + b'.2 ≤ (kRm d mc ms).slots := ⟨by show cells + b'.1 ≤ mc; omega, by show slots + b'.2 ≤ ms; omega⟩
  have hpv : PreV s H M'.1.cls (X.1 + r.toNat) (kPc X ((2, r) :: as) n σ) (as.map (kcv X)) := ⟨k_blind, va_recv f9 hP.1 hc hat, fun U hU hW => by rw [← hkm]; exact hpre U hU hW⟩
  have hcw := k_warm f8 (M' := M') (n' := n0) ⟨c1, c2, c3, c4, c5⟩
  rcases hL.1 with hl | ⟨host, hl⟩
  · refine k_after (va_runV (Ts := TB) (As := as.map (kcv X)) (rest := st.map (kcv X)) ⟨f1, f2, f3, f6, f8⟩ hM ⟨⟨rfl, rfl, hroom.1, hroom.2, hcw, List.mem_cons_self, f8 _ c1, f8 _ c2, c3, hn2, f8 _ hl⟩, f8 _ hL.2.1, f8 _ hL.2.2⟩ hpv rfl (by rw [List.length_map]; exact hn) hlv.1 hstack (k_cat hcat) hd hcells) ⟨hF, hP, hlv, h1, hst, h3, h4, h5⟩ hb k
  · refine k_after (va_runVN (Ts := TB) (As := as.map (kcv X)) (rest := st.map (kcv X)) ⟨f1, f2, f3, f6, f8⟩ hM ⟨⟨⟨rfl, rfl, hroom.1, hroom.2, hcw, List.mem_cons_self⟩, f8 _ c1, f8 _ c2, c3, hn2, f8 _ hl⟩, f8 _ hL.2.1, f8 _ hL.2.2⟩ hpv rfl (by rw [List.length_map]; exact hn) hlv.1 hstack (k_cat hcat) hd hcells) ⟨hF, hP, hlv, h1, hst, h3, h4, h5⟩ hb k
theorem K_callS {d' : Nat} {M' : kM} {b' : Nat × Nat} {idx n0 : Nat} {as stk : List kV} {Post' : Option kV → Nat → kS → Prop} (hd : decode M.2.1 pc = .ok (.invokestatic idx, 3)) (hdd : d' + 1 ≤ d) (hb : b'.1 ≤ b.1 ∧ b'.2 ≤ b.2)
    (hC : kCL M' n0) (hL : kLK M.1.cls idx M' ∧ Cond.static M'.1 ∈ TB) (hn : as.length = n0) (hs : stk = as.reverse ++ st) (hcat : (st.map kcat).sum ≤ 8)
    (hT : (∀ v ∈ as, kok v) → kokw n σ → Tri d' M' b' as n σ Post')
    (k : ∀ (v : Option kV) (n' : Nat) (σ' : kS), (∀ w, v = some w → kok w) → kokw n' σ' → Post' v n' σ' → K d M Post (b.1 - b'.1, b.2 - b'.2) (pc + 3) ls (v.toList ++ st) n' σ') : K d M Post b pc ls stk n σ := by
  subst hs
  intro p l e s m args below meth cd X H locs cells slots mc ms Qc arr hG
  obtain ⟨hF, hP, hlv, h1, h2, h3, h4, h5⟩ := id hG
  obtain ⟨f1, f2, f3, f4, f5, f6, f7, f8, f9, f10⟩ := id hF
  have hst : ∀ v ∈ st, kok v := fun v hv => h2 v (List.mem_append_right _ hv)
  have hak : ∀ v ∈ as, kok v := fun v hv => h2 v (List.mem_append_left _ (List.mem_reverse.mpr hv))
  have hM := hT hak hP.2.2.1 hak hP.2.2.1 l X
  have hpre := k_pre (as := as) hF hP
  have hstack : (as.reverse ++ st).map (kcv X) = (as.map (kcv X)).reverse ++ st.map (kcv X) := by
    rw [List.map_append, List.map_reverse]
  obtain ⟨c1, c2, c3, c4, c5⟩ := hC
  have hn2 : ∀ sig, parseMethodDescriptor M'.1.desc = some sig → n0 = sig.parameters.length := fun sig h => by rw [h] at c4; exact (Option.some.inj c4).symm
  have hroom : (kRm d' b'.1 b'.2).frames + 1 ≤ (kRm d mc ms).frames ∧ 8 + (M'.2.2.1 + 11) + (kRm d' b'.1 b'.2).locals ≤ (kRm d mc ms).locals := ⟨hdd, by show 8 + (M'.2.2.1 + 11) + 64 * d' ≤ 64 * d; omega⟩
  have hcells : cells + b'.1 ≤ (kRm d mc ms).cells ∧ slots + b'.2 ≤ (kRm d mc ms).slots := ⟨by show cells + b'.1 ≤ mc; omega, by show slots + b'.2 ≤ ms; omega⟩
  have hpv : PreS s H (kPc X as n σ) (as.map (kcv X)) := ⟨k_blind, hpre⟩
  have hcw := k_warm f8 (M' := M') (n' := n0) ⟨c1, c2, c3, c4, c5⟩
  rcases hL.1 with hl | ⟨host, hl⟩
  · refine k_after (va_runS (Ts := TB) (As := as.map (kcv X)) (rest := st.map (kcv X)) ⟨f1, f2, f3, f6, f8⟩ hM ⟨⟨rfl, rfl, hroom.1, hroom.2, hcw, List.mem_cons_self, f8 _ c1, f8 _ c2, c3, hn2, f8 _ hl⟩, f8 _ hL.2⟩ hpv rfl (by rw [List.length_map]; exact hn) hlv.1 hstack (k_cat hcat) hd hcells) ⟨hF, hP, hlv, h1, hst, h3, h4, h5⟩ hb k
  · refine k_after (va_runSN (Ts := TB) (As := as.map (kcv X)) (rest := st.map (kcv X)) ⟨f1, f2, f3, f6, f8⟩ hM ⟨⟨⟨rfl, rfl, hroom.1, hroom.2, hcw, List.mem_cons_self⟩, f8 _ c1, f8 _ c2, c3, hn2, f8 _ hl⟩, f8 _ hL.2, trivial⟩ hpv rfl (by rw [List.length_map]; exact hn) hlv.1 hstack (k_cat hcat) hd hcells) ⟨hF, hP, hlv, h1, hst, h3, h4, h5⟩ hb k
theorem K_callI {d' : Nat} {y : MethodName} {code' : ByteArray} {mL : Nat} {b' : Nat × Nat} {idx n0 : Nat} {r : Int} {as stk : List kV} {Post' : Option kV → Nat → kS → Prop} (hd : decode M.2.1 pc = .ok (.invokespecial idx, 3)) (hdd : d' + 1 ≤ d) (hb : b'.1 ≤ b.1 ∧ b'.2 ≤ b.2)
    (hC : kCL (y, code', mL, none) n0) (hL : kLK M.1.cls idx (y, code', mL, none) ∧ y.name = "<init>" ∧ Cond.instanceMethod y ∈ TB) (hn : as.length = n0) (hs : stk = as.reverse ++ (2, r) :: st) (hcat : (st.map kcat).sum ≤ 8) (hr : 0 ≤ r)
    (hT : (∀ v ∈ (2, r) :: as, kok v) → kokw n σ → Tri d' (y, code', mL, none) b' ((2, r) :: as) n σ Post')
    (k : ∀ (v : Option kV) (n' : Nat) (σ' : kS), (∀ w, v = some w → kok w) → kokw n' σ' → Post' v n' σ' → K d M Post (b.1 - b'.1, b.2 - b'.2) (pc + 3) ls (v.toList ++ st) n' σ') : K d M Post b pc ls stk n σ := by
  subst hs
  intro p l e s m args below meth cd X H locs cells slots mc ms Qc arr hG
  obtain ⟨hF, hP, hlv, h1, h2, h3, h4, h5⟩ := id hG
  obtain ⟨f1, f2, f3, f4, f5, f6, f7, f8, f9, f10⟩ := id hF
  have hst : ∀ v ∈ st, kok v := fun v hv => h2 v (List.mem_append_right _ (List.mem_cons_of_mem _ hv))
  have hak : ∀ v ∈ (2, r) :: as, kok v := fun v hv => by
    rcases List.mem_cons.mp hv with rfl | hv
    · trivial
    · exact h2 v (List.mem_append_left _ (List.mem_reverse.mpr hv))
  have hM := hT hak hP.2.2.1 hak hP.2.2.1 l X
  have hpre := k_pre (as := (2, r) :: as) hF hP
  have hkm : ((2, r) :: as : List kV).map (kcv X) = .ref (X.1 + r.toNat) :: as.map (kcv X) := by rw [List.map_cons, kcv_ref hr]
  have hstack : (as.reverse ++ (2, r) :: st).map (kcv X) = (as.map (kcv X)).reverse ++ .ref (X.1 + r.toNat) :: st.map (kcv X) := by
    rw [List.map_append, List.map_reverse, List.map_cons, kcv_ref hr]
  obtain ⟨c1, c2, c3, c4, c5⟩ := hC
  have hn2 : ∀ sig, parseMethodDescriptor y.desc = some sig → n0 = sig.parameters.length := fun sig h => by
    have c4' : (parseMethodDescriptor y.desc).map (fun d => d.parameters.length) = some n0 := c4
    rw [h] at c4'; exact (Option.some.inj c4').symm
  have c5' : mL ≤ 45 := c5
  have hroom : (kRm d' b'.1 b'.2).frames + 1 ≤ (kRm d mc ms).frames ∧ 8 + (mL + 11) + (kRm d' b'.1 b'.2).locals ≤ (kRm d mc ms).locals := ⟨hdd, by show 8 + (mL + 11) + 64 * d' ≤ 64 * d; omega⟩
  have hcells : cells + b'.1 ≤ (kRm d mc ms).cells ∧ slots + b'.2 ≤ (kRm d mc ms).slots := ⟨by show cells + b'.1 ≤ mc; omega, by show slots + b'.2 ≤ ms; omega⟩
  have hpv : PreS s H (kPc X ((2, r) :: as) n σ) (.ref (X.1 + r.toNat) :: as.map (kcv X)) := ⟨k_blind, fun U hU hW => by rw [← hkm]; exact hpre U hU hW⟩
  have hcw := k_warm f8 (M' := (y, code', mL, none)) (n' := n0) ⟨c1, c2, c3, c4, c5⟩
  rcases hL.1 with hl | ⟨host, hl⟩
  · refine k_after (va_runI (Ts := TB) (As := as.map (kcv X)) (rest := st.map (kcv X)) ⟨f1, f2, f3, f6, f8⟩ hM ⟨⟨rfl, rfl, hroom.1, hroom.2, hcw, List.mem_cons_self, f8 _ c1, f8 _ c2, c3, hn2, f8 _ hl⟩, hL.2.1, f8 _ hL.2.2⟩ hpv rfl (by rw [List.length_map]; exact hn) hlv.1 hstack (k_cat hcat) hd hcells) ⟨hF, hP, hlv, h1, hst, h3, h4, h5⟩ hb k
  · refine k_after (va_runIN (Ts := TB) (As := as.map (kcv X)) (rest := st.map (kcv X)) ⟨f1, f2, f3, f6, f8⟩ hM ⟨⟨⟨rfl, rfl, hroom.1, hroom.2, hcw, List.mem_cons_self⟩, f8 _ c1, f8 _ c2, c3, hn2, f8 _ hl⟩, hL.2.1, f8 _ hL.2.2⟩ hpv rfl (by rw [List.length_map]; exact hn) hlv.1 hstack (k_cat hcat) hd hcells) ⟨hF, hP, hlv, h1, hst, h3, h4, h5⟩ hb k
end KP
