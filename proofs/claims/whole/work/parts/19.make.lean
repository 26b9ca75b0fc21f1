/-! rows of K: cells that are made -/
def kini (σ : kS) (n : Nat) : kS := fun k => if k = (n : Int) then (fun j => if kkd (ksh n).1 j.toNat = 2 then -1 else 0) else σ k
theorem kwl_succ {X : kX} {n : Nat} {σ σ' : kS} (h : ∀ k : Int, k ≠ n → σ' k = σ k) : kwl X (n + 1) σ' = kwl X n σ ++ [(X.1 + n, kent X (ksh n).1 (ksh n).2 (σ' n))] := by
  unfold kwl
  rw [List.range_succ, List.map_append]
  congr 1
  apply List.map_congr_left
  intro k hk
  rw [h k (by have := List.mem_range.mp hk; omega)]
theorem kini_ne {σ : kS} {n : Nat} {k : Int} (h : k ≠ n) : kini σ n k = σ k := if_neg h
theorem kini_at {σ : kS} {n : Nat} {j : Nat} : kini σ n n j = if kkd (ksh n).1 j = 2 then -1 else 0 := by unfold kini; rw [if_pos rfl, Int.toNat_natCast]
theorem kokk_def (kd : Nat) : kokk kd (if kd = 2 then -1 else 0) := by
  unfold kokk
  by_cases h2 : kd = 2
  · subst h2; simp
  · rw [if_neg h2]
    by_cases h0 : kd = 0
    · simp [h0]
    · by_cases h1 : kd = 1
      · simp [h1]
      · by_cases h3 : kd = 3
        · simp [h3]
        · simp [h0, h1, h2, h3]
theorem kcv_def {X : kX} (kd : Nat) : kcv X (ktag kd, if kd = 2 then -1 else 0) = if kd = 2 then .null else if kd = 1 then .long 0 else .int 0 := by
  unfold ktag
  by_cases h2 : kd = 2
  · subst h2
    show va_rf (kref X (-1)) = _
    rfl
  · by_cases h1 : kd = 1
    · subst h1; rfl
    · rw [if_neg h1, if_neg h2, if_neg h2, if_neg h2, if_neg h1]; rfl
/-- the picture behind a cell that is made -/
theorem kPic.make {X : kX} {n : Nat} {σ : kS} {s : State} {H H1 : Heap} {locs : List Loc} (hP : kPic X n σ s H locs) (hn : n < kN) (he : va_at X.2.2.1 kcls (X.1 + n, kent X (ksh n).1 (ksh n).2 (kini σ n n)) H1) (hz : H1.size = H.size + 1) (ho : ∀ q : Nat, q < H.size → H1[q]? = H[q]?) : kPic X (n + 1) (kini σ n) s H1 locs := by
  obtain ⟨p1, p2, p3, p4, p5, p6⟩ := hP
  refine ⟨?_, ⟨by rw [hz]; exact Nat.le_succ_of_le p2.1, fun q q1 q2 => by rw [ho q (Nat.lt_of_lt_of_le q1 p2.1)]; exact p2.2.1 q q1 q2, p2.2.2⟩, fun k hk j hj => ?_, fun h => by rw [hz, p4 hn]; omega, p5, ?_⟩
  · rw [kwl_succ (σ := σ) (fun k hk => kini_ne hk)]
    refine (p1.kept (fun k q hq => ho q.1 ((p1 k q hq).lt))).app (fun k q hq => ?_)
    have h0 : k < 1 := (List.getElem?_eq_some_iff.mp hq).1
    rw [show k = 0 by omega] at hq
    cases hq
    exact he
  · by_cases hkn : k = n
    · subst hkn
      rw [kini_at]
      exact kokk_def _
    · rw [kini_ne (by omega)]
      exact p3 k (by omega) j hj
  · unfold kSc at p6 ⊢
    rw [kini_ne (by omega)]
    exact p6
section KP
variable {d : Nat} {M : kM} {Post : Option kV → Nat → kS → Prop} {b : Nat × Nat} {pc : Nat} {ls : List (Nat × kV)} {st : List kV} {n : Nat} {σ : kS}
theorem K_new {idx c N : Nat} {C : String} {T : u_T} {ty0 : Nat → FieldType} (hd : decode M.2.1 pc = .ok (.new idx, 3)) (hw : Cond.classLink M.1.cls idx C ∈ TB ∧ Cond.instantiable C N ∈ TB ∧ Cond.initialized C ∈ TB) (hc : kcls[c]? = some (C, T, N)) (hu : ∀ w ∈ u_ws C T N, w ∈ TB) (hT : kFT c T N ty0) (hn : n < kN) (hs : ksh n = (c, N)) (hb : 1 ≤ b.1 ∧ N ≤ b.2)
    (k : K d M Post (b.1 - 1, b.2 - N) (pc + 3) ls ((2, (n : Int)) :: st) (n + 1) (kini σ n)) : K d M Post b pc ls st n σ := by
  intro p l e s m args below meth cd X H locs cells slots mc ms Qc arr ⟨hF, hP, hlv, h1, h2, h3, h4, h5⟩
  obtain ⟨f1, f2, f3, f4, f5, f6, f7, f8, f9, f10⟩ := id hF
  have hKn := f9.1 c _ hc
  have hc13 : c < 13 := (List.getElem?_eq_some_iff.mp hc).1
  refine W.newcK f1 f2 f6 (f8 _ hw.1) (f8 _ hw.2.1) (f8 _ hw.2.2) rfl hd (by show cells + 1 ≤ mc; omega) (by show slots + N ≤ ms; omega) hKn.2.1 (hP.2.2.2.1 hn) fun H1 kC hkC e1 z1 o1 => ?_
  have hsz := hP.2.2.2.1 hn
  have hpic : kPic X (n + 1) (kini σ n) s H1 locs := by
    refine hP.make hn ?_ (by rw [z1, hsz]) (fun q hq => o1 q (by rw [← hsz]; exact hq))
    rw [hs, kent_o hc13]
    refine ⟨_, hc, (u_born ty0 f8 hu hKn hkC e1 hT.1).to (fun j hj => ?_)⟩
    have hj' : j < ((List.range N).map fun j : Nat => kcv X (ktag (kkd c j), kini σ n n j)).length := by simpa using hj
    show _ = ((List.range N).map fun j : Nat => kcv X (ktag (kkd c j), kini σ n n j)).getD j .null
    rw [List.getD_eq_getElem?_getD, List.getElem?_map, List.getElem?_range hj]
    show _ = kcv X (ktag (kkd c j), kini σ n n j)
    rw [kini_at, hs, kcv_def]
    rcases hT.2.2 j hj with ⟨a, b⟩ | ⟨a, b⟩ | ⟨a, b⟩ | ⟨a, ⟨C', b⟩ | ⟨t, b⟩⟩ <;> rw [a, b] <;> rfl
  have kk := k p l e s m args below meth cd X H1 locs (cells + 1) (slots + N) mc ms Qc arr ⟨hF, hpic, hlv, h1, khc (v := (2, (n : Int))) trivial h2, by simp only; omega, by simp only; omega, h5⟩
  have e2 : kcv X (2, (n : Int)) = .ref (X.1 + n) := by rw [kcv_ref (by omega), Int.toNat_natCast]
  rw [List.map_cons, e2] at kk
  exact kk
theorem k_vparr {X : kX} {c N : Nat} {f : Int → Int} {v : Value} (hc : 13 ≤ c) (hv : v = if c = 23 then .long 0 else if c < 23 then .int 0 else .null) (hf : ∀ j : Nat, f j = if kkd c j = 2 then -1 else 0) : ∃ a : vp_A, kent X c N f = .inl (X.2.2.2 c, a) ∧ vp_cell (X.2.2.2 c) a = arrV (X.2.2.2 c) N (fun _ => v) := by
  have hk : ∀ j, kkd c j = if c = 20 then 0 else if c = 21 then 4 else if c = 22 then 3 else if c = 23 then 1 else 2 := fun j => by unfold kkd; rw [if_neg (by omega)]
  by_cases h23 : c = 23
  · subst h23
    refine ⟨_, kent_l, ?_⟩
    rw [vp_cell_l]
    refine congrArg (arrV _ _) (funext fun j => ?_)
    rw [hf j, hk j, hv]
    rfl
  · by_cases hlt : c < 23
    · refine ⟨_, kent_i hc hlt, ?_⟩
      rw [vp_cell_i]
      refine congrArg (arrV _ _) (funext fun j => ?_)
      rw [hf j, hk j, hv, if_neg h23, if_pos hlt]
      by_cases h20 : c = 20
      · rw [if_pos h20]; rfl
      · rw [if_neg h20]
        by_cases h21 : c = 21
        · rw [if_pos h21]; rfl
        · rw [if_neg h21]
          by_cases h22 : c = 22
          · rw [if_pos h22]; rfl
          · rw [if_neg h22, if_neg h23]
            sorry
    · refine ⟨_, kent_q (by omega), ?_⟩
      rw [vp_cell_q]
      refine congrArg (arrV _ _) (funext fun j => ?_)
      rw [hf j, hk j, hv, if_neg h23, if_neg hlt, if_neg (by omega), if_neg (by omega), if_neg (by omega), if_neg h23]
      rfl
end KP
