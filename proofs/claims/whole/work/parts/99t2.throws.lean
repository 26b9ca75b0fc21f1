/-! methods that throw: their contracts, the throw, a call of such a method under a handler -/
def kXC (X : kX) (PX : kS → Prop) (EX : String) : String → State → State → Prop := fun E st t => E = EX ∧ ∃ σ' : kS, PX σ' ∧ kokw kN σ' ∧ va_P X.2.2.1 kcls (kwl X kN σ') t.heap ∧ va_F (kA X) st t ∧ kSc X σ' t t.heap
def kPcZ (X : kX) (as : List kV) (n : Nat) (σ : kS) : Array Value → State → Prop := fun v U => kPc X as n σ v U ∧ kZh X U U.heap
theorem kz_blind {X : kX} {as : List kV} {n : Nat} {σ : kS} : FrameBlind (kPcZ X as n σ) := fun a U g mk h => ⟨k_blind a U g mk h.1, kZh.moved (u := U) (U := U.calling g mk a) (Vm.Alike.refl U.vm) h.2⟩
theorem kz_pre {X : kX} {as : List kV} {p : Program} {s : State} {m : MethodId} {args : Array Value} {meth : Method} {c : Code} {H : Heap} {locs : List Loc} {M : kM} {n : Nat} {σ : kS} {l : Launch} (hF : kFix p s m args meth c M X) (hP : kPic X n σ s H locs) (hz : kZ l X s) : ∀ U : State, U.heap = H → s.WarmedH U.vm → kPcZ X as n σ (as.map (kcv X)).toArray U := fun U hU hW => ⟨k_pre hF hP U hU hW, by
  subst hU
  exact (hz.2.kept (fun a h1 h2 => hP.2.1.2.1 a h1 h2)).moved hW.alike⟩
/-- the contract of a method at these arguments and this world: it returns, with Post, or throws EX, with PX -/
def TriX (d : Nat) (M : kM) (b : Nat × Nat) (as : List kV) (n : Nat) (σ : kS) (Post : Option kV → Nat → kS → Prop) (PX : kS → Prop) (EX : String) : Prop :=
  (∀ v ∈ as, kok v) → kokw n σ → ∀ (l : Launch) (X : kX), l.stackTraces = false → vx_Met l M.1 (kWs M) (kRm d b.1 b.2) (kPcZ X as n σ) (kQc X Post) (kXC X PX EX) b.1 b.2 (kA X)
theorem TriX_of {d : Nat} {M : kM} {b : Nat × Nat} {as : List kV} {n : Nat} {σ : kS} {Post : Option kV → Nat → kS → Prop} {PX : kS → Prop} {EX : String} (hy : plainName M.1.cls = true) (hls : (as.map kcat).sum ≤ M.2.2.1)
    (k : (∀ v ∈ as, kok v) → kokw n σ → Z d M (zFinX Post PX EX) b 0 (kargs 0 as) [] n σ) : TriX d M b as n σ Post PX EX := by
  intro hok hw l X hl0
  refine vx_ofW hy rfl ?_
  intro p e s m args below meth c s₁ B hml ht hv
  obtain ⟨⟨rfl, hP, hK, hE, hsz, hbs, hsc⟩, hz⟩ := hv
  have hts := atoms_spec (ws := kWs M) B.pre
  have hl := lv_entry (as.map (kcv X)) (n := M.2.2.1) (by rw [klg_len]; exact hls)
  rw [lg_entry_eq]
  generalize (lg_sl (as.map (kcv X)) ++ List.replicate (M.2.2.1 - (lg_sl (as.map (kcv X))).length) Slot.unset).toArray = arr at hl ⊢
  rw [← kargs_cl] at hl
  refine k hok hw p l e s m _ below meth c X s.heap [] 0 0 b.1 b.2 _ arr ⟨⟨B.exec, B.bytes, hml, B.returns, B.notSynchronized, findClass_of_methodNamed B.named, (name_of_methodNamed B.named B.method).1, fun w h => hts w (List.mem_cons_of_mem _ h), hK, hE⟩, ⟨hP, va_S.rf, hw, hsz, hbs, hsc⟩, hl, fun q hq => hok _ (kargs_mem hq), (fun v hv => absurd hv List.not_mem_nil), by omega, by omega, ⟨hl0, hz⟩, ht, kQc X Post, kXC X PX EX, rfl, ?_, ?_⟩
  · intro v n' σ' t hvm hp hPic hvok
    obtain ⟨g1, g2, g3, g4, g5, g6⟩ := hPic
    exact ⟨v, n', σ', rfl, hp, hvok, g3, g1, g4, g2.F rfl, (kSc.kept g6 (fun a h1 h2 => g2.2.1 a h1 h2)).moved hvm⟩
  · intro σ' t hvm hp hPic
    obtain ⟨g1, g2, g3, g4, g5, g6⟩ := hPic
    exact ⟨rfl, σ', hp, g3, g1, g2.F rfl, (kSc.kept g6 (fun a h1 h2 => g2.2.1 a h1 h2)).moved hvm⟩
/-! the throw -/
def nseW : List Cond := Cond.classLink "OldRoads" 176 kNSE :: Cond.initialized kNSE :: vx_at0 "OldRoads" 178 kNSE kNS
theorem nse_all : (nseW.all fun w => (kgw w && (decide (w ∈ tables_1_5) || decide (w ∈ tables_1_1) || decide (w ∈ tables_1_9))) || decide (w ∈ kDec)) = true := by decide +kernel
theorem nse_good : (nseW.all vx_ot) = true := by decide +kernel
theorem nse_in {s : State} {args : Array Value} (hT : ∀ w ∈ TB, w.before args s = true) (hD : kDq s) : ∀ w ∈ nseW, w.before args s = true := by
  intro w hw
  have h := List.all_eq_true.mp nse_all w hw
  simp only [Bool.or_eq_true, Bool.and_eq_true, decide_eq_true_eq] at h
  rcases h with ⟨hg, (h | h) | h⟩ | h
  · obtain ⟨i, hi⟩ := List.getElem?_of_mem h
    exact hT w (tb5 i hi hg)
  · obtain ⟨i, hi⟩ := List.getElem?_of_mem h
    exact hT w (tb1 i hi hg)
  · obtain ⟨i, hi⟩ := List.getElem?_of_mem h
    exact hT w (tb9 i hi hg)
  · exact hD w h args
section ZX
variable {d : Nat} {M : kM} {F : kFin} {b : Nat × Nat} {pc : Nat} {ls : List (Nat × kV)} {st : List kV} {n : Nat} {σ : kS}
theorem Z_throw {Post : Option kV → Nat → kS → Prop} {PX : kS → Prop} (hM : M.1.cls = "OldRoads") (d0 : decode M.2.1 pc = .ok (.new 176, 3)) (d3 : decode M.2.1 (pc + 3) = .ok (.dup, 1)) (d4 : decode M.2.1 (pc + 4) = .ok (.invokespecial 178, 3)) (d7 : decode M.2.1 (pc + 7) = .ok (.athrow, 1)) (hd : 8 ≤ d) (hb : 1 ≤ b.1 ∧ 6 ≤ b.2) (hcat : (st.map kcat).sum ≤ 8) (k : PX σ) : Z d M (zFinX Post PX kNSE) b pc ls st kN σ := by
  intro p l e s m args below meth c X H locs cells slots mc ms Q arr ⟨hF, hP, hlv, h1, h2, h3, h4, hz, ht, Qc, XC, hQ, _, hx⟩
  subst hQ
  obtain ⟨f1, f2, f3, f4, f5, f6, f7, f8, f9, f10⟩ := hF
  obtain ⟨p1, p2, p3, p4, p5, p6⟩ := hP
  have hw := nse_in f8 hz.2.2.2
  have hk : ((st.map (kcv X)).map fun v => v.category).sum ≤ 8 := by
    rw [List.map_map, show (fun v : Value => v.category) ∘ kcv X = kcat from funext fun v => kcat_cv X v]
    exact hcat
  refine vx_throw0 (names := kNS) (cls := kNSE) (own := "OldRoads") (ik := 176) (ic := 178) (A := kA X) f1 f2 hz.1 (hM ▸ f6) (by decide +kernel) (by decide +kernel) (hw _ List.mem_cons_self) (hw _ (List.mem_cons_of_mem _ List.mem_cons_self)) (fun w h => hw w (List.mem_cons_of_mem _ (List.mem_cons_of_mem _ h))) (fun w h => List.all_eq_true.mp nse_good w h) hz.2.1 hz.2.2.1 p2 (hlv.1.trans f3.symm) d0 d3 d4 d7 (fun x hx => (ht x hx).elim) ?_ ?_ ?_ ?_ f5 ?_ p2.2.2 ?_ ?_
  · show 2 + 3 < d
    omega
  · show _ + (13 * (2 + 1) + 42) ≤ 64 * d
    omega
  · show cells + 1 ≤ mc
    omega
  · show slots + 6 ≤ ms
    omega
  · intro t hvm hz1 ho
    exact hx σ t hvm k ⟨p1.kept (fun k q hq => ho q.1 ((p1 k q hq).lt)), ⟨Nat.le_trans p2.1 hz1, fun q q1 q2 => by rw [ho q (Nat.lt_of_lt_of_le q1 p2.1)]; exact p2.2.1 q q1 q2, fun _ hq => by cases hq⟩, p3, fun h => absurd h (Nat.lt_irrefl _), p5, p6⟩
  · omega
  · omega
/-- behind a call, the one that returned -/
theorem z_back {Post' : Option kV → Nat → kS → Prop} {b' : Nat × Nat} {p : Program} {l : Launch} {e : Env} {s : State} {m : MethodId} {args : Array Value} {below : List Frame} {meth : Method} {c : Code} {X : kX} {H : Heap} {locs : List Loc} {cells slots mc ms : Nat} {Qc : State → Prop} {arr : Array Slot} {g : JFrame} {a : Array Value} {T : State}
    (hr : ∃ (v : Option Value) (st₀ t T' : State) (L : List Loc), st₀.heap = H ∧ Stand p l e (kRm d mc ms) s m args below meth c T' (locs ++ L) (cells + b'.1) (slots + b'.2) ∧ (∀ q ∈ L, (kA X) q.base) ∧ T'.heap = t.heap ∧ T'.vm = t.vm ∧ kQc X Post' a st₀ (.returned v) t ∧ Goes p e below T g T' (F0 m (pc + 3) arr (v.toList ++ st.map (kcv X))))
    (hG : zG d M F b ls st n σ p l e s m args below meth c X H locs cells slots mc ms Qc arr) (hb : b'.1 ≤ b.1 ∧ b'.2 ≤ b.2)
    (k : ∀ (v : Option kV) (n' : Nat) (σ' : kS), (∀ w, v = some w → kok w) → kokw n' σ' → Post' v n' σ' → scrEq σ σ' → Z d M F (b.1 - b'.1, b.2 - b'.2) (pc + 3) ls (v.toList ++ st) n' σ') :
    ∃ t, Steps p.tables e below (T.setTop g) t ∧ Qc t := by
  obtain ⟨hF, hP, hlv, h1, h2, h3, h4, h5⟩ := hG
  obtain ⟨v, st₀, t, T', L, h0, X', hL, e1, e2, ⟨v', n', σ', hv, hp, hvok, hok, hP', hsz, ⟨hF1, hF2⟩, hsc⟩, hst⟩ := hr
  have hv' : v = v'.map (kcv X) := by cases hv; rfl
  subst hv'
  rw [h0] at hF1 hF2
  obtain ⟨p1, p2, p3, p4, p5, p6⟩ := hP
  have hpic : kPic X n' σ' s T'.heap (locs ++ L) := by
    refine ⟨by rw [e1]; exact hP', ⟨by rw [e1]; exact Nat.le_trans p2.1 hF1, fun q q1 q2 => ?_, fun q hq => ?_⟩, hok, fun hn => by rw [e1]; exact hsz hn, p5, ?_⟩
    · rw [e1, hF2 q (Nat.lt_of_lt_of_le q1 p2.1) q2]
      exact p2.2.1 q q1 q2
    · rcases List.mem_append.mp hq with h | h
      · exact p2.2.2 q h
      · exact hL q h
    · have p6b := p6.2.1
      have hlt : X.2.1 (-4) < s.heap.size := by obtain ⟨cc, hc, -⟩ := p6.1; exact (Array.getElem?_eq_some_iff.mp hc).1
      have hv1 : s.vm.Alike t.vm := by rw [← e2]; exact X'.warmed.alike
      obtain ⟨z1, z2⟩ := hsc
      refine ⟨(z1.moved hv1.symm).kept ?_, z2⟩
      rw [hF2 _ (Nat.lt_of_lt_of_le hlt p2.1) p6b]
      exact (p2.2.1 _ hlt p6b).symm
  have hse : scrEq σ σ' := scr_eq p6 hpic.2.2.2.2.2
  have hstk : ∀ w ∈ v'.toList ++ st, kok w := fun w hw => by
    rcases List.mem_append.mp hw with h | h
    · exact hvok w (by simpa using h)
    · exact h2 w h
  obtain ⟨t2, a1, b1⟩ := k v' n' σ' hvok hok hp hse p l e s m args below meth c X T'.heap (locs ++ L) (cells + b'.1) (slots + b'.2) mc ms Qc arr ⟨hF, hpic, hlv, h1, hstk, by simp only; omega, by simp only; omega, h5⟩ T' rfl X'
  refine ⟨t2, hst t2 ?_, b1⟩
  have e3 : (v'.map (kcv X)).toList ++ st.map (kcv X) = (v'.toList ++ st).map (kcv X) := by cases v' <;> simp
  rw [e3]
  exact a1
theorem Z_callVX {d' : Nat} {M' : kM} {b' : Nat × Nat} {c : Nat} {T : u_T} {N idx n0 i : Nat} {r : Int} {as stk : List kV} {Post' : Option kV → Nat → kS → Prop} {PX : kS → Prop} {x : ExceptionTableEntry}
    (hd : decode M.2.1 pc = .ok (.invokevirtual idx, 3)) (hdd : d' + 1 ≤ d) (hb : b'.1 ≤ b.1 ∧ b'.2 ≤ b.2)
    (hc : kcls[c]? = some (M'.1.cls, T, N)) (hC : kCL M' n0) (hL : Cond.methodLink M.1.cls idx M'.1 ∈ TB ∧ Cond.instanceMethod M'.1 ∈ TB ∧ Cond.selects M'.1.cls M'.1 M'.1 ∈ TB) (hn : as.length = n0) (hs : stk = as.reverse ++ (2, r) :: st) (hcat : (st.map kcat).sum ≤ 8) (hr : isO c n r)
    (hT : (∀ v ∈ (2, r) :: as, kok v) → kokw n σ → TriX d' M' b' ((2, r) :: as) n σ Post' PX kNSE)
    (htab : ∀ p l e s m args below meth c X mc ms Q, F p l e s m args below meth c X mc ms Q → c.exceptionTable.toList = [x]) (hx : covers x pc = true) (h0 : x.catchType ≠ 0) (hlk : Cond.classLink M.1.cls x.catchType kNSE ∈ TB)
    (hda : decode M.2.1 x.handlerPc = .ok (.astore i, 2)) (hi : i < M.2.2.1)
    (kx : ∀ σ' : kS, PX σ' → kokw kN σ' → scrEq σ σ' → Z d M F (b.1 - b'.1, b.2 - b'.2) (x.handlerPc + 2) [] [] kN σ')
    (k : ∀ (v : Option kV) (n' : Nat) (σ' : kS), (∀ w, v = some w → kok w) → kokw n' σ' → Post' v n' σ' → scrEq σ σ' → Z d M F (b.1 - b'.1, b.2 - b'.2) (pc + 3) ls (v.toList ++ st) n' σ') : Z d M F b pc ls stk n σ := by
  subst hs
  intro p l e s m args below meth cd X H locs cells slots mc ms Q arr hG
  obtain ⟨hF, hP, hlv, h1, h2, h3, h4, hz, h5⟩ := id hG
  obtain ⟨f1, f2, f3, f4, f5, f6, f7, f8, f9, f10⟩ := id hF
  obtain ⟨r1, r2, r3⟩ := hr
  have hlt : r.toNat < n := by omega
  have hat := kwl_at (X := X) (σ := σ) hlt
  have hc13 : c < 13 := (List.getElem?_eq_some_iff.mp hc).1
  rw [r3, kent_o hc13] at hat
  have hst : ∀ v ∈ st, kok v := fun v hv => h2 v (List.mem_append_right _ (List.mem_cons_of_mem _ hv))
  have hak : ∀ v ∈ (2, r) :: as, kok v := fun v hv => by
    rcases List.mem_cons.mp hv with rfl | hv
    · trivial
    · exact h2 v (List.mem_append_left _ (List.mem_reverse.mpr hv))
  have hM := hT hak hP.2.2.1 hak hP.2.2.1 l X hz.1
  have hpre := kz_pre (as := (2, r) :: as) hF hP hz
  have hkm : ((2, r) :: as : List kV).map (kcv X) = .ref (X.1 + r.toNat) :: as.map (kcv X) := by rw [List.map_cons, kcv_ref r1]
  have hstack : (as.reverse ++ (2, r) :: st).map (kcv X) = (as.map (kcv X)).reverse ++ .ref (X.1 + r.toNat) :: st.map (kcv X) := by
    rw [List.map_append, List.map_reverse, List.map_cons, kcv_ref r1]
  obtain ⟨c1, c2, c3, c4, c5⟩ := hC
  have hn2 : ∀ sig, parseMethodDescriptor M'.1.desc = some sig → n0 = sig.parameters.length := fun sig h => by rw [h] at c4; exact (Option.some.inj c4).symm
  have hroom : (kRm d' b'.1 b'.2).frames + 1 ≤ (kRm d mc ms).frames ∧ 8 + (M'.2.2.1 + 11) + (kRm d' b'.1 b'.2).locals ≤ (kRm d mc ms).locals := ⟨hdd, by show 8 + (M'.2.2.1 + 11) + 64 * d' ≤ 64 * d; omega⟩
  have hcells : cells + b'.1 ≤ (kRm d mc ms).cells ∧ slots + b'.2 ≤ (kRm d mc ms).slots := ⟨by show cells + b'.1 ≤ mc; omega, by show slots + b'.2 ≤ ms; omega⟩
  have hpv : PreV s H M'.1.cls (X.1 + r.toNat) (kPcZ X ((2, r) :: as) n σ) (as.map (kcv X)) := ⟨kz_blind, va_recv f9 hP.1 hc hat, fun U hU hW => by rw [← hkm]; exact hpre U hU hW⟩
  have hcw := k_warm f8 (M' := M') (n' := n0) ⟨c1, c2, c3, c4, c5⟩
  have hrun := vx_runV (e := e) (meth := meth) (Ts := TB) (As := as.map (kcv X)) (rest := st.map (kcv X)) (cells := cells) (slots := slots) (locs := locs) (below := below) (g := F0 m pc arr ((as.reverse ++ (2, r) :: st).map (kcv X))) ⟨f1, f2, f3, f6, f8⟩ hM ⟨⟨rfl, rfl, hroom.1, hroom.2, hcw, List.mem_cons_self, f8 _ c1, f8 _ c2, c3, hn2, f8 _ hL.1⟩, f8 _ hL.2.1, f8 _ hL.2.2⟩ hpv rfl (by rw [List.length_map]; exact hn) hlv.1 hstack (k_cat hcat) hd hcells
  intro T0 hT0 XT
  rcases hrun T0 hT0 XT with hr | ⟨q, st₀, t, T', L, E, ce, e0, X', hL, e1, e2, ⟨rfl, σ', hp, hok, hP', ⟨hF1, hF2⟩, hsc⟩, hce, hcv, hcl, hst9⟩
  · exact z_back hr ⟨hF, hP, hlv, h1, hst, h3, h4, hz, h5⟩ hb k
  · rw [e0] at hF1 hF2
    obtain ⟨p1, p2, p3, p4, p5, p6⟩ := hP
    have hpic : kPic X kN σ' s T'.heap (locs ++ L) := by
      refine ⟨by rw [e1]; exact hP', ⟨by rw [e1]; exact Nat.le_trans p2.1 hF1, fun q q1 q2 => ?_, fun q hq => ?_⟩, hok, fun h => absurd h (Nat.lt_irrefl _), p5, ?_⟩
      · rw [e1, hF2 q (Nat.lt_of_lt_of_le q1 p2.1) q2]
        exact p2.2.1 q q1 q2
      · rcases List.mem_append.mp hq with h | h
        · exact p2.2.2 q h
        · exact hL q h
      · have p6b := p6.2.1
        have hlt : X.2.1 (-4) < s.heap.size := by obtain ⟨cc, hc, -⟩ := p6.1; exact (Array.getElem?_eq_some_iff.mp hc).1
        have hv1 : s.vm.Alike t.vm := by rw [← e2]; exact X'.warmed.alike
        obtain ⟨z1, z2⟩ := hsc
        refine ⟨(z1.moved hv1.symm).kept ?_, z2⟩
        rw [hF2 _ (Nat.lt_of_lt_of_le hlt p2.1) p6b]
        exact (p2.2.1 _ hlt p6b).symm
    have hse : scrEq σ σ' := scr_eq p6 hpic.2.2.2.2.2
    have hkk : vx_W p l e (kRm d mc ms) s m args below meth cd T'.heap (locs ++ L) (cells + b'.1) (slots + b'.2) Q (F0 m pc arr (st.map (kcv X))) q := by
      refine vx_catch (own := M.1.cls) (name := kNSE) (E := kNSE) (ce := ce) f6 [] x [] (htab _ _ _ _ _ _ _ _ _ _ _ _ _ h5) (fun z hz => by cases hz) hx h0 (f8 _ hlk) (hz.2.2.2 _ (by simp [kDec]) args) (by rw [e1]; exact hce) hcv hcl ?_
      refine lv_astore f1 f2 hda hlv hi rfl fun arr' ha' => ?_
      exact kx σ' hp hok hse p l e s m args below meth cd X T'.heap (locs ++ L) (cells + b'.1) (slots + b'.2) mc ms Q arr' ⟨hF, hpic, ⟨ha'.1, ha'.2.1, fun q hq => nomatch hq⟩, (fun q hq => nomatch hq), (fun q hq => nomatch hq), by simp only; omega, by simp only; omega, hz, h5⟩
    obtain ⟨t2, a1, b1⟩ := hkk T' rfl X'
    exact ⟨t2, hst9.trans a1, b1⟩
/-! a static method with a table that only returns -/
def kWsH (M : kM) (hh : List (Nat × Nat × Nat × Nat)) : List Cond := .codeWith M.1 M.2.1 M.2.2.1 M.2.2.2 hh :: TB
def TriH (d : Nat) (M : kM) (hh : List (Nat × Nat × Nat × Nat)) (b : Nat × Nat) (as : List kV) (n : Nat) (σ : kS) (Post : Option kV → Nat → kS → Prop) : Prop :=
  (∀ v ∈ as, kok v) → kokw n σ → ∀ (l : Launch) (X : kX), l.stackTraces = false → Met l M.1 (kWsH M hh) (kRm d b.1 b.2) (kPcZ X as n σ) (kQc X Post) b.1 b.2 (kA X)
theorem TriH_of {hh : List (Nat × Nat × Nat × Nat)} {as : List kV} {Post : Option kV → Nat → kS → Prop} (hy : plainName M.1.cls = true) (hls : (as.map kcat).sum ≤ M.2.2.1)
    (k : (∀ v ∈ as, kok v) → kokw n σ → Z d M (zFinT hh Post) b 0 (kargs 0 as) [] n σ) : TriH d M hh b as n σ Post := by
  intro hok hw l X hl0
  refine MetFree.of_bodyS (code := M.2.1) (maxLocals := M.2.2.1) (ret := M.2.2.2) hy ?_ ?_
  · intro args s m h hn
    obtain ⟨m9, meth, c, hn9, h1, h2, h3, h4, -, h5, h6, -⟩ := Cond.codeWith_spec (atoms_spec (ws := kWsH M hh) h _ List.mem_cons_self)
    cases hn.symm.trans hn9
    exact ⟨meth, c, h1, h2, h3, h4, h5, h6⟩
  · intro p e s m args below meth c s₁ B hml hv _
    have hh0 : s₁.heap = s.heap := by rw [B.state]; rfl
    obtain ⟨⟨rfl, hP, hK, hE, hsz, hbs, hsc⟩, hz⟩ := hv
    have hts := atoms_spec (ws := kWsH M hh) B.pre
    have htb := vx_table (x := M.1) B (hts _ List.mem_cons_self)
    have hl := lv_entry (as.map (kcv X)) (n := M.2.2.1) (by rw [klg_len]; exact hls)
    rw [← kargs_cl] at hl
    have key := k hok hw p l e s m (as.map (kcv X)).toArray below meth c X s.heap [] 0 0 b.1 b.2 (MQ below (kQc X Post) (as.map (kcv X)).toArray s b.1 b.2 (kA X)) (lg_sl (as.map (kcv X)) ++ List.replicate (M.2.2.1 - (lg_sl (as.map (kcv X))).length) Slot.unset).toArray ⟨⟨B.exec, B.bytes, hml, B.returns, B.notSynchronized, findClass_of_methodNamed B.named, (name_of_methodNamed B.named B.method).1, fun w h => hts w (List.mem_cons_of_mem _ h), hK, hE⟩, ⟨hP, va_S.rf, hw, hsz, hbs, hsc⟩, hl, fun q hq => hok _ (kargs_mem hq), (fun v hv => absurd hv List.not_mem_nil), by omega, by omega, ⟨hl0, hz⟩, htb, kQc X Post, rfl, fun v n' σ' t hvm hp hPic hvok => ⟨v, n', σ', rfl, hp, hvok, hPic.2.2.1, hPic.1, hPic.2.2.2.1, hPic.2.1.F rfl, (kSc.kept hPic.2.2.2.2.2 (fun a h1 h2 => hPic.2.1.2.1 a h1 h2)).moved hvm⟩⟩
    rw [List.map_nil, ← lg_entry_eq] at key
    obtain ⟨t, a1, o, b1, b2, b3⟩ := key s₁ hh0 (Stand.of_body B)
    exact ⟨t, o, a1, b1, b2, ⟨b3.1, b3.2⟩⟩
/-- what the words say of such a callee -/
def kCLH (M' : kM) (hh : List (Nat × Nat × Nat × Nat)) (n : Nat) : Prop := Cond.codeWith M'.1 M'.2.1 M'.2.2.1 M'.2.2.2 hh ∈ TB ∧ Cond.initialized M'.1.cls ∈ TB ∧ (M'.1.cls ≠ "java/lang/invoke/MethodHandle" ∧ M'.1.cls ≠ "java/lang/invoke/VarHandle") ∧ (parseMethodDescriptor M'.1.desc).map (fun d => d.parameters.length) = some n ∧ M'.2.2.1 ≤ 45
theorem Z_callSH {d' : Nat} {M' : kM} {hh : List (Nat × Nat × Nat × Nat)} {b' : Nat × Nat} {idx n0 : Nat} {as stk : List kV} {Post' : Option kV → Nat → kS → Prop} (hd : decode M.2.1 pc = .ok (.invokestatic idx, 3)) (hdd : d' + 1 ≤ d) (hb : b'.1 ≤ b.1 ∧ b'.2 ≤ b.2)
    (hC : kCLH M' hh n0) (hL : Cond.methodLink M.1.cls idx M'.1 ∈ TB ∧ Cond.static M'.1 ∈ TB) (hn : as.length = n0) (hs : stk = as.reverse ++ st) (hcat : (st.map kcat).sum ≤ 8)
    (hT : (∀ v ∈ as, kok v) → kokw n σ → TriH d' M' hh b' as n σ Post')
    (k : ∀ (v : Option kV) (n' : Nat) (σ' : kS), (∀ w, v = some w → kok w) → kokw n' σ' → Post' v n' σ' → scrEq σ σ' → Z d M F (b.1 - b'.1, b.2 - b'.2) (pc + 3) ls (v.toList ++ st) n' σ') : Z d M F b pc ls stk n σ := by
  subst hs
  intro p l e s m args below meth cd X H locs cells slots mc ms Q arr hG
  obtain ⟨hF, hP, hlv, h1, h2, h3, h4, hz, h5⟩ := id hG
  obtain ⟨f1, f2, f3, f4, f5, f6, f7, f8, f9, f10⟩ := id hF
  have hst : ∀ v ∈ st, kok v := fun v hv => h2 v (List.mem_append_right _ hv)
  have hak : ∀ v ∈ as, kok v := fun v hv => h2 v (List.mem_append_left _ (List.mem_reverse.mpr hv))
  have hM := hT hak hP.2.2.1 hak hP.2.2.1 l X hz.1
  have hpre := kz_pre (as := as) hF hP hz
  have hstack : (as.reverse ++ st).map (kcv X) = (as.map (kcv X)).reverse ++ st.map (kcv X) := by
    rw [List.map_append, List.map_reverse]
  obtain ⟨c1, c2, c3, c4, c5⟩ := hC
  have hn2 : ∀ sig, parseMethodDescriptor M'.1.desc = some sig → n0 = sig.parameters.length := fun sig h => by rw [h] at c4; exact (Option.some.inj c4).symm
  have hroom : (kRm d' b'.1 b'.2).frames + 1 ≤ (kRm d mc ms).frames ∧ 8 + (M'.2.2.1 + 11) + (kRm d' b'.1 b'.2).locals ≤ (kRm d mc ms).locals := ⟨hdd, by show 8 + (M'.2.2.1 + 11) + 64 * d' ≤ 64 * d; omega⟩
  have hcells : cells + b'.1 ≤ (kRm d mc ms).cells ∧ slots + b'.2 ≤ (kRm d mc ms).slots := ⟨by show cells + b'.1 ≤ mc; omega, by show slots + b'.2 ≤ ms; omega⟩
  have hpv : PreS s H (kPcZ X as n σ) (as.map (kcv X)) := ⟨kz_blind, hpre⟩
  have hcw : ∀ w ∈ kWsH M' hh, ∀ (a' : Array Value) (U : State), s.WarmedH U.vm → w.before a' U = true := fun w hw a' U hW => by
    rcases List.mem_cons.mp hw with rfl | hw
    · exact tb_warm hW c1 (f8 _ c1)
    · exact tb_warm hW hw (f8 _ hw)
  exact z_after (vx_runSW (Ts := TB) (As := as.map (kcv X)) (rest := st.map (kcv X)) ⟨f1, f2, f3, f6, f8⟩ hM ⟨⟨rfl, rfl, hroom.1, hroom.2, hcw, List.mem_cons_self⟩, f8 _ c1, f8 _ c2, c3, hn2, f8 _ hL.1, f8 _ hL.2⟩ hpv rfl (by rw [List.length_map]; exact hn) hlv.1 hstack (k_cat hcat) hd hcells) ⟨hF, hP, hlv, h1, hst, h3, h4, hz, h5⟩ hb k
end ZX
