/-! rows of K: cells that are made -/
def kini (σ : kS) (n : Nat) : kS := fun k => if k = (n : Int) then (fun j => if kkd (ksh n).1 j.toNat = 2 then -1 else 0) else σ k
theorem kwl_succ {X : kX} {n : Nat} {σ σ' : kS} (h : ∀ k : Int, k ≠ n → σ' k = σ k) : kwl X (n + 1) σ' = kwl X n σ ++ [(X.1 + n, kent X (ksh n).1 (ksh n).2 (σ' n))] := by
  unfold kwl
  rw [List.range_succ, List.map_append]
  congr 1
  apply List.map_congr_left
  intro k hk
  rw [h k (by have := List.mem_range.mp hk; omega)]
theorem kini_ne {σ : kS} {n : Nat} {k : Int} (h : k ≠ n) : kini σ n k = σ k := if_neg h
theorem kini_at {σ : kS} {n : Nat} {j : Nat} : kini σ n n j = if kkd (ksh n).1 j = 2 then -1 else 0 := by unfold kini; rw [if_pos rfl, Int.toNat_natCast]
theorem kokk_def (kd : Nat) : kokk kd (if kd = 2 then -1 else 0) := by
  unfold kokk
  by_cases h2 : kd = 2
  · subst h2; simp
  · rw [if_neg h2]
    by_cases h0 : kd = 0
    · simp [h0]
    · by_cases h1 : kd = 1
      · simp [h1]
      · by_cases h3 : kd = 3
        · simp [h3]
        · simp [h0, h1, h2, h3]
theorem kcv_def {X : kX} (kd : Nat) : kcv X (ktag kd, if kd = 2 then -1 else 0) = if kd = 2 then .null else if kd = 1 then .long 0 else .int 0 := by
  unfold ktag
  by_cases h2 : kd = 2
  · subst h2
    show va_rf (kref X (-1)) = _
    rfl
  · by_cases h1 : kd = 1
    · subst h1; rfl
    · rw [if_neg h1, if_neg h2, if_neg h2, if_neg h2, if_neg h1]; rfl
/-- the picture behind a cell that is made -/
theorem kPic.make {X : kX} {n : Nat} {σ : kS} {s : State} {H H1 : Heap} {locs : List Loc} (hP : kPic X n σ s H locs) (hn : n < kN) (he : va_at X.2.2.1 kcls (X.1 + n, kent X (ksh n).1 (ksh n).2 (kini σ n n)) H1) (hz : H1.size = H.size + 1) (ho : ∀ q : Nat, q < H.size → H1[q]? = H[q]?) : kPic X (n + 1) (kini σ n) s H1 locs := by
  obtain ⟨p1, p2, p3, p4, p5, p6⟩ := hP
  refine ⟨?_, ⟨by rw [hz]; exact Nat.le_succ_of_le p2.1, fun q q1 q2 => by rw [ho q (Nat.lt_of_lt_of_le q1 p2.1)]; exact p2.2.1 q q1 q2, p2.2.2⟩, fun k hk j hj => ?_, fun h => by rw [hz, p4 hn]; omega, p5, ?_⟩
  · rw [kwl_succ (σ := σ) (fun k hk => kini_ne hk)]
    refine (p1.kept (fun k q hq => ho q.1 ((p1 k q hq).lt))).app (fun k q hq => ?_)
    have h0 : k < 1 := (List.getElem?_eq_some_iff.mp hq).1
    rw [show k = 0 by omega] at hq
    cases hq
    exact he
  · by_cases hkn : k = n
    · subst hkn
      rw [kini_at]
      exact kokk_def _
    · rw [kini_ne (by omega)]
      exact p3 k (by omega) j hj
  · unfold kSc at p6 ⊢
    rw [kini_ne (by omega)]
    exact p6
section KP
variable {d : Nat} {M : kM} {Post : Option kV → Nat → kS → Prop} {b : Nat × Nat} {pc : Nat} {ls : List (Nat × kV)} {st : List kV} {n : Nat} {σ : kS}
theorem K_new {idx c N : Nat} {C : String} {T : u_T} {ty0 : Nat → FieldType} (hd : decode M.2.1 pc = .ok (.new idx, 3)) (hw : Cond.classLink M.1.cls idx C ∈ TB ∧ Cond.instantiable C N ∈ TB ∧ Cond.initialized C ∈ TB) (hc : kcls[c]? = some (C, T, N)) (hu : ∀ w ∈ u_ws C T N, w ∈ TB) (hT : kFT c T N ty0) (hn : n < kN) (hs : ksh n = (c, N)) (hb : 1 ≤ b.1 ∧ N ≤ b.2)
    (k : K d M Post (b.1 - 1, b.2 - N) (pc + 3) ls ((2, (n : Int)) :: st) (n + 1) (kini σ n)) : K d M Post b pc ls st n σ := by
  intro p l e s m args below meth cd X H locs cells slots mc ms Qc arr ⟨hF, hP, hlv, h1, h2, h3, h4, h5⟩
  obtain ⟨f1, f2, f3, f4, f5, f6, f7, f8, f9, f10⟩ := id hF
  have hKn := f9.1 c _ hc
  have hc13 : c < 13 := (List.getElem?_eq_some_iff.mp hc).1
  refine W.newcK f1 f2 f6 (f8 _ hw.1) (f8 _ hw.2.1) (f8 _ hw.2.2) rfl hd (by show cells + 1 ≤ mc; omega) (by show slots + N ≤ ms; omega) hKn.2.1 (hP.2.2.2.1 hn) fun H1 kC hkC e1 z1 o1 => ?_
  have hsz := hP.2.2.2.1 hn
  have hpic : kPic X (n + 1) (kini σ n) s H1 locs := by
    refine hP.make hn ?_ (by rw [z1, hsz]) (fun q hq => o1 q (by rw [← hsz]; exact hq))
    rw [hs, kent_o hc13]
    refine ⟨_, hc, (u_born ty0 f8 hu hKn hkC e1 hT.1).to (fun j hj => ?_)⟩
    have hj' : j < ((List.range N).map fun j : Nat => kcv X (ktag (kkd c j), kini σ n n j)).length := by simpa using hj
    show _ = ((List.range N).map fun j : Nat => kcv X (ktag (kkd c j), kini σ n n j)).getD j .null
    rw [List.getD_eq_getElem?_getD, List.getElem?_map, List.getElem?_range hj]
    show _ = kcv X (ktag (kkd c j), kini σ n n j)
    rw [kini_at, hs, kcv_def]
    rcases hT.2.2 j hj with ⟨a, b⟩ | ⟨a, b⟩ | ⟨a, b⟩ | ⟨a, ⟨C', b⟩ | ⟨t, b⟩⟩ <;> rw [a, b] <;> rfl
  have kk := k p l e s m args below meth cd X H1 locs (cells + 1) (slots + N) mc ms Qc arr ⟨hF, hpic, hlv, h1, khc (v := (2, (n : Int))) trivial h2, by simp only; omega, by simp only; omega, h5⟩
  have e2 : kcv X (2, (n : Int)) = .ref (X.1 + n) := by rw [kcv_ref (by omega), Int.toNat_natCast]
  rw [List.map_cons, e2] at kk
  exact kk
theorem k_vparr {X : kX} {c N : Nat} {f : Int → Int} {v : Value} (hc : 20 ≤ c) (hv : v = if c = 23 then .long 0 else if c < 23 then .int 0 else .null) (hf : ∀ j : Nat, f j = if kkd c j = 2 then -1 else 0) : ∃ a : vp_A, kent X c N f = .inl (X.2.2.2 c, a) ∧ vp_cell (X.2.2.2 c) a = arrV (X.2.2.2 c) N (fun _ => v) := by
  have hk : ∀ j, kkd c j = if c = 20 then 0 else if c = 21 then 4 else if c = 22 then 3 else if c = 23 then 1 else 2 := fun j => by unfold kkd; rw [if_neg (by omega)]
  by_cases h23 : c = 23
  · subst h23
    refine ⟨_, kent_l, ?_⟩
    rw [vp_cell_l]
    refine congrArg (arrV _ _) (funext fun j => ?_)
    rw [hf j, hk j, hv]
    rfl
  · by_cases hlt : c < 23
    · refine ⟨_, kent_i (by omega) hlt, ?_⟩
      rw [vp_cell_i]
      refine congrArg (arrV _ _) (funext fun j => ?_)
      rw [hf j, hv, if_neg h23, if_pos hlt]
      rcases (show c = 20 ∨ c = 21 ∨ c = 22 by omega) with rfl | rfl | rfl <;> rfl
    · refine ⟨_, kent_q (by omega), ?_⟩
      rw [vp_cell_q]
      refine congrArg (arrV _ _) (funext fun j => ?_)
      have e2 : kkd c j = 2 := by rw [hk j, if_neg (by omega), if_neg (by omega), if_neg (by omega), if_neg h23]
      rw [hf j, e2, hv, if_neg h23, if_neg hlt]
      rfl
theorem k_tyU {X : kX} {s : State} {D : va_G} {cl : List vw_C} (hK : va_K D cl (ktys X) s) {c : Nat} {cA : ClassId} {ty : FieldType} (t0 : Nat) (ht : (ktys X)[t0]? = some (X.2.2.2 c, ty)) (hne : ∀ C, ty ≠ .object C) (h : s.vm.findClass ("[" ++ ty.toString) = some cA) : X.2.2.2 c = cA := by
  have h2 := (hK.2 t0 _ ht).2
  cases ty with
  | object C => exact absurd rfl (hne C)
  | _ => exact Option.some.inj (Eq.trans (Eq.symm h2) h)
theorem k_tyO {X : kX} {s : State} {D : va_G} {cl : List vw_C} (hK : va_K D cl (ktys X) s) {c : Nat} {cA : ClassId} {C : String} (t0 : Nat) (ht : (ktys X)[t0]? = some (X.2.2.2 c, .object C)) (h : s.vm.findClass ("[" ++ (FieldType.object C).toString) = some cA) : X.2.2.2 c = cA := by
  obtain ⟨kA, comp, -, -, -, h2⟩ := (hK.2 t0 _ ht).2
  exact Option.some.inj (Eq.trans (Eq.symm h2) h)
theorem K_newarr {atype : ArrayType} {c : Nat} {L : Int} {ty : FieldType} {t0 : Nat} {v : Value} (hd : decode M.2.1 pc = .ok (.newarray atype, 2)) (hty : newarray.typeOf atype = ty) (hc : 20 ≤ c) (ht : ∀ X : kX, (ktys X)[t0]? = some (X.2.2.2 c, ty)) (hv : defaultValue ty = v ∧ v = (if c = 23 then .long 0 else if c < 23 then .int 0 else .null)) (hne : ∀ C, ty ≠ .object C) (hcb : componentBytes ty ≤ 8) (hw : Cond.arrayClass ty ∈ TB) (hn : n < kN) (h0 : 0 ≤ L) (hs : ksh n = (c, L.toNat)) (hb : 1 ≤ b.1 ∧ L.toNat ≤ b.2)
    (k : K d M Post (b.1 - 1, b.2 - L.toNat) (pc + 2) ls ((2, (n : Int)) :: st) (n + 1) (kini σ n)) : K d M Post b pc ls ((0, L) :: st) n σ := by
  intro p l e s m args below meth cd X H locs cells slots mc ms Qc arr ⟨hF, hP, hlv, h1, h2, h3, h4, h5⟩
  obtain ⟨f1, f2, f3, f4, f5, f6, f7, f8, f9, f10⟩ := id hF
  subst hty
  have hsm := ksh_small n
  rw [hs] at hsm
  have hsm' : L.toNat ≤ 100000 := hsm
  have hLb : L ≤ 2147483647 := by omega
  have hmul : L.toNat * componentBytes (newarray.typeOf atype) ≤ 100000 * 8 := Nat.mul_le_mul hsm' hcb
  have hsz := hP.2.2.2.1 hn
  refine va_newaK f1 f2 (f8 _ hw) rfl hd rfl (fun q => by rw [Int32.lt_iff_toInt_lt, k32 ⟨by omega, hLb⟩, Int32.toInt_zero] at q; omega) (k_clamp h0 hLb) (by omega) (by show cells + 1 ≤ mc; omega) (by show slots + L.toNat ≤ ms; omega) hsz fun H1 cA e1 z1 o1 hAr hNm => ?_
  have hcA := k_tyU f9 t0 (ht X) hne hNm
  subst hcA
  have hpic : kPic X (n + 1) (kini σ n) s H1 locs := by
    refine hP.make hn ?_ (by rw [z1, hsz]) (fun q hq => o1 q (by rw [← hsz]; exact hq))
    rw [hs]
    obtain ⟨a, ea, eb⟩ := k_vparr (X := X) (c := c) (N := L.toNat) (f := kini σ n n) (v := v) hc hv.2 (fun j => by rw [kini_at, hs])
    rw [ea]
    show H1[X.1 + n]? = some (vp_cell _ a)
    rw [eb, e1, hv.1]
  have kk := k p l e s m args below meth cd X H1 locs (cells + 1) (slots + L.toNat) mc ms Qc arr ⟨hF, hpic, hlv, h1, khc (v := (2, (n : Int))) trivial (kht h2), by simp only; omega, by simp only; omega, h5⟩
  have e2 : kcv X (2, (n : Int)) = .ref (X.1 + n) := by rw [kcv_ref (by omega), Int.toNat_natCast]
  rw [List.map_cons, e2] at kk
  exact kk
theorem K_anew {idx c : Nat} {L : Int} {C : String} {t0 : Nat} (hd : decode M.2.1 pc = .ok (.anewarray idx, 3)) (hw : Cond.classLink M.1.cls idx C ∈ TB) (hao : ∀ (X : kX) (s : State), kEx X s s.heap → va_AO C s) (hc : 24 ≤ c) (ht : ∀ X : kX, (ktys X)[t0]? = some (X.2.2.2 c, .object C)) (hn : n < kN) (h0 : 0 ≤ L) (hs : ksh n = (c, L.toNat)) (hb : 1 ≤ b.1 ∧ L.toNat ≤ b.2)
    (k : K d M Post (b.1 - 1, b.2 - L.toNat) (pc + 3) ls ((2, (n : Int)) :: st) (n + 1) (kini σ n)) : K d M Post b pc ls ((0, L) :: st) n σ := by
  intro p l e s m args below meth cd X H locs cells slots mc ms Qc arr ⟨hF, hP, hlv, h1, h2, h3, h4, h5⟩
  obtain ⟨f1, f2, f3, f4, f5, f6, f7, f8, f9, f10⟩ := id hF
  have hsm := ksh_small n
  rw [hs] at hsm
  have hsm' : L.toNat ≤ 100000 := hsm
  have hLb : L ≤ 2147483647 := by omega
  have hsz := hP.2.2.2.1 hn
  have hcl := k_clamp h0 hLb
  refine W.anew f1 f2 f6 (f8 _ hw) (va_AO.use (hao X s f10)) rfl hd rfl (fun q => by rw [Int32.lt_iff_toInt_lt, k32 ⟨by omega, hLb⟩, Int32.toInt_zero] at q; omega) (by rw [hcl]; omega) (by show cells + 1 ≤ mc; omega) (by rw [hcl]; show slots + L.toNat ≤ ms; omega) fun cA kA comp g1 g2 g3 g4 => ?_
  rw [hcl]
  generalize hH1 : H.push ({ cls := cA, slots := Array.replicate L.toNat .null, vm := .none } : Cell) = H1
  have z1 : H1.size = H.size + 1 := by rw [← hH1, Array.size_push]
  have e1 : H1[H.size]? = some (arrV cA L.toNat (fun _ => .null)) := by rw [← hH1, Array.getElem?_push_size, ← arrV_new]
  have o1 : ∀ q : Nat, q < H.size → H1[q]? = H[q]? := fun q hq => by rw [← hH1, Array.getElem?_push, if_neg (Nat.ne_of_lt hq)]
  have hcA := k_tyO f9 t0 (ht X) g1
  subst hcA
  have hpic : kPic X (n + 1) (kini σ n) s H1 locs := by
    refine hP.make hn ?_ z1 o1
    rw [hs]
    obtain ⟨a, ea, eb⟩ := k_vparr (X := X) (c := c) (N := L.toNat) (f := kini σ n n) (v := .null) (by omega) (by rw [if_neg (by omega), if_neg (by omega)]) (fun j => by rw [kini_at, hs])
    rw [ea]
    show H1[X.1 + n]? = some (vp_cell _ a)
    rw [eb, ← hsz, e1]
  have kk := k p l e s m args below meth cd X H1 locs (cells + 1) (slots + L.toNat) mc ms Qc arr ⟨hF, hpic, hlv, h1, khc (v := (2, (n : Int))) trivial (kht h2), by simp only; omega, by simp only; omega, h5⟩
  have e2 : kcv X (2, (n : Int)) = .ref H.size := by rw [kcv_ref (by omega), Int.toNat_natCast, hsz]
  rw [List.map_cons, e2] at kk
  exact kk
theorem tb_obj : Cond.instanceMethod objectInit ∈ TB ∧ Cond.code objectInit ⟨#[0xb1]⟩ 1 none ∈ TB := ⟨tb1 32 rfl rfl, tb1 33 rfl rfl⟩
/-- Object's constructor -/
theorem K_oinit {idx : Nat} {r : Int} (hd : decode M.2.1 pc = .ok (.invokespecial idx, 3)) (hw : Cond.methodLink M.1.cls idx objectInit ∈ TB) (hr : 0 ≤ r) (hcat : (st.map kcat).sum ≤ 8) (k : K (d + 1) M Post b (pc + 3) ls st n σ) : K (d + 1) M Post b pc ls ((2, r) :: st) n σ := by
  intro p l e s m args below meth cd X H locs cells slots mc ms Qc arr ⟨hF, hP, hlv, h1, h2, h3⟩
  obtain ⟨f1, f2, f3, f4, f5, f6, f7, f8, f9, f10⟩ := id hF
  show W p l e (kRm (d + 1) mc ms) s m args below meth cd H locs cells slots _ (F0 m pc arr (kcv X (2, r) :: st.map (kcv X)))
  rw [kcv_ref hr]
  refine W.objInit f1 f2 f6 (f8 _ hw) (f8 _ tb_obj.1) (f8 _ tb_obj.2) rfl (by rw [f3]; exact hlv.1) rfl hd (Nat.succ_le_succ (Nat.zero_le d)) ?_ ?_
  · rw [List.map_map, show (fun v : Value => v.category) ∘ kcv X = kcat from funext fun v => kcat_cv X v]
    show 2 * 0 + (st.map kcat).sum + 12 ≤ 64 * (d + 1)
    omega
  · exact k p l e s m args below meth cd X H locs cells slots mc ms Qc arr ⟨hF, hP, hlv, h1, kht h2, h3⟩
end KP
