/-! arrays of arrays -/
def kmini (σ : kS) (n N : Nat) : kS := fun k => if k = (n : Int) then (fun j => (n : Int) + 1 + j) else if (n : Int) < k ∧ k ≤ (n : Int) + N then (fun _ => 0) else σ k
theorem kwl_add {X : kX} {n m : Nat} {σ σ' : kS} (h : ∀ k : Nat, k < n → σ' k = σ k) : kwl X (n + m) σ' = kwl X n σ ++ (List.range m).map fun i => (X.1 + (n + i), kent X (ksh (n + i)).1 (ksh (n + i)).2 (σ' ((n + i : Nat) : Int))) := by
  unfold kwl
  rw [List.range_add, List.map_append, List.map_map]
  congr 1
  apply List.map_congr_left
  intro k hk
  rw [h k (List.mem_range.mp hk)]
theorem kPic.makeN {X : kX} {n m : Nat} {σ σ' : kS} {s : State} {H H1 : Heap} {locs : List Loc} (hP : kPic X n σ s H locs) (hn : n < kN) (h4 : σ' (-4) = σ (-4)) (hs : ∀ k : Nat, k < n → σ' k = σ k) (he : ∀ i : Nat, i < m → va_at X.2.2.1 kcls (X.1 + (n + i), kent X (ksh (n + i)).1 (ksh (n + i)).2 (σ' ((n + i : Nat) : Int))) H1) (hk : ∀ i : Nat, i < m → ∀ j : Nat, j < (ksh (n + i)).2 → kokk (kkd (ksh (n + i)).1 j) (σ' ((n + i : Nat) : Int) j)) (hz : H1.size = H.size + m) (ho : ∀ q : Nat, q < H.size → H1[q]? = H[q]?) : kPic X (n + m) σ' s H1 locs := by
  obtain ⟨p1, p2, p3, p4, p5, p6⟩ := hP
  refine ⟨?_, ⟨by rw [hz]; exact Nat.le_trans p2.1 (Nat.le_add_right _ _), fun q q1 q2 => by rw [ho q (Nat.lt_of_lt_of_le q1 p2.1)]; exact p2.2.1 q q1 q2, p2.2.2⟩, fun k hkk j hj => ?_, fun h => by rw [hz, p4 hn]; omega, p5, ?_⟩
  · rw [kwl_add (σ := σ) hs]
    refine (p1.kept (fun k q hq => ho q.1 ((p1 k q hq).lt))).app (fun k q hq => ?_)
    have h0 : k < m := by
      have := (List.getElem?_eq_some_iff.mp hq).1
      simpa using this
    rw [List.getElem?_map, List.getElem?_range h0] at hq
    cases hq
    exact he k h0
  · by_cases hkn : k < n
    · rw [hs k hkn]
      exact p3 k hkn j hj
    · obtain ⟨i, rfl⟩ : ∃ i, k = n + i := ⟨k - n, by omega⟩
      exact hk i (by omega) j hj
  · unfold kSc at p6 ⊢
    rw [h4]
    exact p6
theorem outer_shape (cA : ClassId) (N h0 : Nat) : ∀ i, ∃ sl : Array Value, Jvm.Free.Multi.outerC cA N h0 i = { cls := cA, slots := sl, vm := .none }
  | 0 => ⟨_, rfl⟩
  | i + 1 => by
    obtain ⟨sl, h⟩ := outer_shape cA N h0 i
    refine ⟨(({ cls := cA, slots := sl, vm := .none } : Cell).setSlot i (.ref (h0 + 1 + i))).slots, ?_⟩
    show (Jvm.Free.Multi.outerC cA N h0 i).setSlot i (.ref (h0 + 1 + i)) = _
    rw [h]
    rfl
theorem outer_eq (cA : ClassId) (N h0 : Nat) : Jvm.Free.Multi.outerC cA N h0 N = arrV cA N (fun j => .ref (h0 + 1 + j)) := by
  obtain ⟨o1, o2, o3⟩ := Jvm.Free.Multi.outerC_facts cA N h0 N
  have o4 := Jvm.Free.Multi.outerC_slot cA N h0 N
  obtain ⟨sl, h⟩ := outer_shape cA N h0 N
  rw [h] at o3 o4 ⊢
  show ({ cls := cA, slots := sl, vm := .none } : Cell) = { cls := cA, slots := Array.ofFn (n := N) fun j => .ref (h0 + 1 + j.val), vm := .none }
  congr 1
  refine Array.ext_getElem? fun i => ?_
  by_cases hi : i < N
  · have h9 := o4 i hi
    rw [if_pos hi] at h9
    rw [Array.getElem?_ofFn, dif_pos hi]
    exact h9
  · have h3 : sl.size = N := o3
    rw [Array.getElem?_eq_none (by omega), Array.getElem?_eq_none (by rw [Array.size_ofFn]; omega)]
section KM
variable {d : Nat} {M : kM} {Post : Option kV → Nat → kS → Prop} {b : Nat × Nat} {pc : Nat} {ls : List (Nat × kV)} {st : List kV} {n : Nat} {σ : kS}
theorem K_mnew {idx : Nat} {L1 L2 : Int} (hd : decode M.2.1 pc = .ok (.multianewarray idx 2, 4)) (hw : Cond.classLink M.1.cls idx "[[I" ∈ TB) (hn : n + 1 + L1.toNat ≤ kN) (h01 : 0 ≤ L1) (h02 : 0 ≤ L2) (hs : ksh n = (24, L1.toNat)) (hi : ∀ j : Nat, j < L1.toNat → ksh (n + 1 + j) = (20, L2.toNat)) (hL : L1.toNat ≤ 1000 ∧ L2.toNat ≤ 100000) (hb : 1 + L1.toNat ≤ b.1 ∧ L1.toNat + L1.toNat * L2.toNat ≤ b.2)
    (k : K d M Post (b.1 - (1 + L1.toNat), b.2 - (L1.toNat + L1.toNat * L2.toNat)) (pc + 4) ls ((2, (n : Int)) :: st) (n + (1 + L1.toNat)) (kmini σ n L1.toNat)) : K d M Post b pc ls ((0, L2) :: (0, L1) :: st) n σ := by
  intro p l e s m args below meth cd X H locs cells slots mc ms Qc arr ⟨hF, hP, hlv, h1, h2, h3, h4, h5⟩
  obtain ⟨f1, f2, f3, f4, f5, f6, f7, f8, f9, f10⟩ := id hF
  have hn' : n < kN := by omega
  have hsz := hP.2.2.2.1 hn'
  have c1 : (Int32.ofInt L1).toNatClampNeg = L1.toNat := k_clamp h01 (by omega)
  have c2 : (Int32.ofInt L2).toNatClampNeg = L2.toNat := k_clamp h02 (by omega)
  have hov : (Cond.arrayOver (.array .int)).before args s = true := f10.2.2.2.2.2.2.2.2.2.2.2
  intro T hT XT
  obtain ⟨vm₁, cA, comp, -, hfA, hfC, -, -, X1, step⟩ := XT.multianewarray2F f1 (own := M.1.cls) (index := idx) (ty := .int) f6 (f8 _ hw) hov (f8 _ (tb1 46 rfl rfl))
    (g := F0 m pc arr (.int (Int32.ofInt L2) :: .int (Int32.ofInt L1) :: st.map (kcv X))) rfl (by rw [f2]; exact hd) (n := Int32.ofInt L1) (k := Int32.ofInt L2) (rest := st.map (kcv X)) rfl
    (fun q => by rw [Int32.lt_iff_toInt_lt, k32 ⟨by omega, by omega⟩, Int32.toInt_zero] at q; omega) (fun q => by rw [Int32.lt_iff_toInt_lt, k32 ⟨by omega, by omega⟩, Int32.toInt_zero] at q; omega)
    (by rw [c1]; omega) (by rw [c2]; show L2.toNat * 4 ≤ _; omega) (by rw [c2]; omega) rfl rfl (by rw [c1]; show cells + (1 + L1.toNat) ≤ mc; omega) (by rw [c1, c2]; show slots + (L1.toNat + L1.toNat * L2.toNat) ≤ ms; omega)
  rw [c1, c2] at X1 step
  obtain ⟨z1, e1, -, -⟩ := Jvm.Free.Multi.fill_facts (T.setVm vm₁) cA comp L1.toNat L2.toNat (defaultValue .int) L1.toNat
  have ein := Jvm.Free.Multi.fill_inner (T.setVm vm₁) cA comp L1.toNat L2.toNat (defaultValue .int) L1.toNat
  have eo := fun (a : Nat) (ha : a < (T.setVm vm₁).heap.size) => Jvm.Free.Multi.fill_old (T.setVm vm₁) cA comp L1.toNat L2.toNat (defaultValue .int) ha L1.toNat
  have hTs : (T.setVm vm₁).heap = H := hT
  rw [hTs] at z1 e1 ein eo
  generalize hT9 : Jvm.Free.Multi.fill (T.setVm vm₁) cA comp L1.toNat L2.toNat (defaultValue .int) L1.toNat = T9 at z1 e1 ein eo X1 step
  have hcA := k_tyU f9 (c := 24) (ty := .array .int) 4 rfl (fun C h => by cases h) hfA
  have hcI := k_tyU f9 (c := 20) (ty := .int) 0 rfl (fun C h => by cases h) (show s.vm.findClass ("[" ++ FieldType.int.toString) = some comp from hfC)
  have hpic : kPic X (n + (1 + L1.toNat)) (kmini σ n L1.toNat) s T9.heap locs := by
    refine hP.makeN hn' ?_ (fun k hk => ?_) (fun i hi9 => ?_) (fun i hi9 j hj => ?_) (by rw [z1]; omega) (fun q hq => eo q hq)
    · unfold kmini
      rw [if_neg (by omega), if_neg (by omega)]
    · unfold kmini
      rw [if_neg (by omega), if_neg (by omega)]
    · by_cases hi0 : i = 0
      · subst hi0
        rw [Nat.add_zero, hs]
        show va_at _ _ (_, kent X 24 L1.toNat _) _
        rw [kent_q (by decide)]
        show T9.heap[X.1 + n]? = some (vp_cell (X.2.2.2 24) _)
        rw [vp_cell_q, ← hsz, e1, outer_eq, hcA]
        refine congrArg some (congrArg (arrV cA L1.toNat) (funext fun j => ?_))
        have ek : kmini σ n L1.toNat ((n : Nat) : Int) ((j : Nat) : Int) = (n : Int) + 1 + j := by unfold kmini; rw [if_pos rfl]
        rw [ek]
        unfold kref
        rw [if_neg (by omega), if_neg (by omega), hsz]
        have e9 : ((n : Int) + 1 + j).toNat = n + 1 + j := by omega
        rw [e9]
        show Value.ref (X.1 + n + 1 + j) = Value.ref (X.1 + (n + 1 + j))
        rw [show X.1 + n + 1 + j = X.1 + (n + 1 + j) by omega]
      · obtain ⟨j, rfl⟩ : ∃ j, i = 1 + j := ⟨i - 1, by omega⟩
        have hj : j < L1.toNat := by omega
        have h9 := hi j hj
        rw [show n + (1 + j) = n + 1 + j by omega, h9]
        show va_at _ _ (_, kent X 20 L2.toNat _) _
        rw [kent_i (by decide) (by decide)]
        show T9.heap[X.1 + (n + 1 + j)]? = some (vp_cell (X.2.2.2 20) _)
        rw [vp_cell_i, show X.1 + (n + 1 + j) = H.size + 1 + j by omega, ein j hj, hcI]
        unfold Jvm.Free.Multi.innerC
        rw [arrV_new]
        refine congrArg some (congrArg (arrV comp L2.toNat) (funext fun q => ?_))
        have ek : kmini σ n L1.toNat ((n + 1 + j : Nat) : Int) ((q : Nat) : Int) = 0 := by unfold kmini; rw [if_neg (by omega), if_pos (by omega)]
        rw [ek]
        rfl
    · by_cases hi0 : i = 0
      · subst hi0
        rw [Nat.add_zero, hs]
        trivial
      · obtain ⟨q, rfl⟩ : ∃ j, i = 1 + j := ⟨i - 1, by omega⟩
        have h9 := hi q (by omega)
        rw [show n + (1 + q) = n + 1 + q by omega, h9]
        have ek : kmini σ n L1.toNat ((n + 1 + q : Nat) : Int) ((j : Nat) : Int) = 0 := by unfold kmini; rw [if_neg (by omega), if_pos (by omega)]
        rw [ek]
        show kokk 0 0
        unfold kokk
        decide
  have e2 : kcv X (2, (n : Int)) = .ref T.heap.size := by rw [kcv_ref (by omega), Int.toNat_natCast, hT, hsz]
  obtain ⟨t, a1, b1⟩ := k p l e s m args below meth cd X T9.heap locs (cells + 1 + L1.toNat) (slots + L1.toNat + L1.toNat * L2.toNat) mc ms Qc arr ⟨hF, hpic, hlv, h1, khc (v := (2, (n : Int))) trivial (kht (kht h2)), by simp only; omega, by simp only; omega, h5⟩ T9 rfl X1
  rw [List.map_cons, e2] at a1
  exact ⟨t, step t a1, b1⟩
end KM
