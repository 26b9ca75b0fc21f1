/-! constructors: storing references, contracts of constructors, the fresh world -/
section KC
variable {d : Nat} {M : kM} {Post : Option kV → Nat → kS → Prop} {b : Nat × Nat} {pc : Nat} {ls : List (Nat × kV)} {st : List kV} {n : Nat} {σ : kS}
theorem K_aastore {c co t0 : Nat} {r : vw_C} {a i x : Int} (hd : decode M.2.1 pc = .ok (.aastore, 1)) (hA : isA c n a) (hc24 : 24 ≤ c) (h0 : 0 ≤ i) (hlt : i < klen a) (hO : isO co n x) (ht : ∀ X : kX, (ktys X)[t0]? = some (X.2.2.2 c, .object r.1)) (hc : kcls[co]? = some r)
    (k : ∀ s, s = kst σ a i x → K d M Post b (pc + 1) ls st n s) : K d M Post b pc ls ((2, x) :: (0, i) :: (2, a) :: st) n σ := by
  intro p l e s m args below meth cd X H locs cells slots mc ms Qc arr ⟨hF, hP, hlv, h1, h2, h3⟩
  obtain ⟨a1, a2, a3⟩ := hA
  obtain ⟨x1, x2, x3⟩ := hO
  have hn : a.toNat < n := by omega
  have hat := kwl_at (X := X) (σ := σ) hn
  rw [a3, kent_q hc24, k_toNat a1] at hat
  have hnx : x.toNat < n := by omega
  have hatv := kwl_at (X := X) (σ := σ) hnx
  have hc13 : co < 13 := (List.getElem?_eq_some_iff.mp hc).1
  rw [x3, kent_o hc13] at hatv
  have hs := ksh_small a.toNat
  have hlt' : i < ((ksh a.toNat).2 : Int) := hlt
  have hi : i ≤ 2147483647 := by omega
  have hin := k_vin h0 hlt' hi
  have hlt2 : (Int32.ofInt i).toNatClampNeg < (ksh a.toNat).2 := Nat.not_le.mp fun q => hin (Or.inr q)
  have h02 : ¬ (Int32.ofInt i) < 0 := fun q => hin (Or.inl q)
  have hK := hF.2.2.2.2.2.2.2.2.1
  obtain ⟨r', hr', cellV, g1, g2, g3, -⟩ := hP.1 x.toNat _ hatv
  have hcls := (hK.1 co r hc).2
  obtain ⟨kA, comp, k1, k2, k3, -⟩ := (hK.2 t0 _ (ht X)).2
  have hcomp : comp = X.2.2.1.1 co := Option.some.inj (k3.symm.trans hcls.1)
  subst hcomp
  obtain ⟨kC, hkC, -⟩ := hcls.2
  show W p l e (kRm d mc ms) s m args below meth cd H locs cells slots _ (F0 m pc arr (kcv X (2, x) :: kcv X (0, i) :: kcv X (2, a) :: st.map (kcv X)))
  rw [kcv_ref a1, kcv_ref x1]
  refine W.aast hF.1 hF.2.1 (hP.1 a.toNat _ hat) (fun q h => by cases h) (fun h => by cases h) k1 k2 rfl hkC ⟨h02, by show _ < (arrV _ _ _).slots.size; rw [arrV_size]; exact hlt2⟩ g1 (fun q h => by rw [g3] at h; cases h) (by rw [g2]; exact hkC) (by rw [g2]; exact va_assign hcls) rfl rfl hd fun H1 e z oq => ?_
  refine k _ rfl p l _ s m args below meth cd X H1 _ cells slots mc ms Qc arr ⟨hF, hP.put a1 a2 z ?_ oq ?_ h0, hlv, h1, kht (kht (kht h2)), h3⟩
  · rw [a3, kent_q hc24, kst_self]
    show H1[X.1 + a.toNat]? = some (vp_cell _ _)
    rw [e]
    dsimp only
    rw [vp_cell_q, vp_cell_q, arrV_store, k_clamp h0 hi]
    refine congrArg (fun f => some (arrV _ _ f)) (funext fun q => ?_)
    unfold updV
    by_cases hq : q = i.toNat
    · have e9 : kref X x = some (X.1 + x.toNat) := by unfold kref; rw [if_neg (by omega), if_neg (by omega)]
      rw [if_pos hq, if_pos (by omega), e9]
      rfl
    · rw [if_neg hq, if_neg (by omega)]
  · have e2 : kkd (ksh a.toNat).1 i.toNat = 2 := by
      rw [a3]
      unfold kkd
      rw [if_neg (by omega), if_neg (by omega), if_neg (by omega), if_neg (by omega), if_neg (by omega)]
    rw [e2]
    unfold kokk
    rw [if_neg (by decide), if_neg (by decide), if_neg (by decide), if_pos rfl]
    trivial
/-- the contract of a constructor: n1 cells behind it, with Q -/
def Ni (d : Nat) (M : kM) (b : Nat × Nat) (as : List kV) (n : Nat) (σ : kS) (n1 : Nat) (Q : kS → Prop) : Prop := Tri d M b as n σ (fun v n' s => v = none ∧ n' = n1 ∧ Q s)
theorem Ni.mono {as : List kV} {n1 : Nat} {Q Q' : kS → Prop} (h : Ni d M b as n σ n1 Q) (hq : ∀ s, Q s → Q' s) : Ni d M b as n σ n1 Q' :=
  Tri.conseq h fun v n' s _ _ ⟨h1, h2, h3⟩ => ⟨h1, h2, hq s h3⟩
theorem K_nI {y : MethodName} {code' : ByteArray} {mL : Nat} {b' b2 : Nat × Nat} {idx n0 n1 : Nat} {r : Int} {as stk : List kV} (hd : decode M.2.1 pc = .ok (.invokespecial idx, 3)) (hb : b'.1 ≤ b.1 ∧ b'.2 ≤ b.2)
    (hC : kCL (y, code', mL, none) n0) (hL : kLK M.1.cls idx (y, code', mL, none) ∧ y.name = "<init>" ∧ Cond.instanceMethod y ∈ TB) (hn : as.length = n0) (hs : stk = as.reverse ++ (2, r) :: st) (hcat : (st.map kcat).sum ≤ 8) (hr : 0 ≤ r) (hb2 : (b.1 - b'.1, b.2 - b'.2) = b2)
    (h : Ni d (y, code', mL, none) b' ((2, r) :: as) n σ n1 (fun s => K (d + 1) M Post b2 (pc + 3) ls st n1 s)) : K (d + 1) M Post b pc ls stk n σ :=
  K_callI (d' := d) (b' := b') hd (Nat.le_refl _) hb hC hL hn hs hcat hr (fun _ _ => h) (fun v n' σ' _ _ ⟨h1, h2, h3⟩ => by subst h1; subst h2; subst hb2; exact h3)
theorem K_bSi {M' : kM} {idx n0 : Nat} {as stk : List kV} (hd : decode M.2.1 pc = .ok (.invokestatic idx, 3)) (hC : kCL M' n0) (hL : kLK M.1.cls idx M' ∧ Cond.static M'.1 ∈ TB) (hn : as.length = n0) (hs : stk = as.reverse ++ st) (hcat : (st.map kcat).sum ≤ 8)
    (h : Ci d M' as n σ (fun x s => K (d + 1) M Post b (pc + 3) ls ((0, x) :: st) n s)) : K (d + 1) M Post b pc ls stk n σ :=
  K_callS (d' := d) (b' := (0, 0)) hd (Nat.le_refl _) ⟨Nat.zero_le _, Nat.zero_le _⟩ hC hL hn hs hcat (fun _ _ => h) (fun v n' σ' _ _ ⟨h1, x, h2, h3⟩ => by subst h1; subst h2; exact h3)
theorem K_newi {L : Int} {b2 : Nat × Nat} (hd : decode M.2.1 pc = .ok (.newarray .int, 2)) (hn : n < kN) (h0 : 0 ≤ L) (hs : ksh n = (20, L.toNat)) (hb : 1 ≤ b.1 ∧ L.toNat ≤ b.2) (hb2 : (b.1 - 1, b.2 - L.toNat) = b2)
    (k : ∀ s, s = kini σ n → K d M Post b2 (pc + 2) ls ((2, (n : Int)) :: st) (n + 1) s) : K d M Post b pc ls ((0, L) :: st) n σ :=
  K_newarr (ty := .int) (c := 20) (t0 := 0) (v := .int 0) hd rfl (by decide) (fun _ => rfl) ⟨rfl, rfl⟩ (fun C h => by cases h) (by decide) (tb1 46 rfl rfl) hn h0 hs hb (by subst hb2; exact k _ rfl)
end KC
theorem isO.mono {c n m : Nat} {r : Int} (h : isO c n r) (hm : n ≤ m) : isO c m r := ⟨h.1, by have := h.2.1; omega, h.2.2⟩
/-! the fresh world: its references, its ones -/
def w0L : List (Int × Int × Int) := layL ++ [(10, 1, 15), (11, 3, 1), (97, 3, 1), (101, 3, 1), (105, 3, 1), (109, 3, 1), (113, 3, 1), (117, 3, 1), (166, 12, 169), (166, 23, -5), (166, 24, -6)]
def w0 (k j : Int) : Int := if k = 27 then stp (j / 8) (j % 8) else match w0L.find? (fun q => decide (q.1 = k) && decide (q.2.1 = j)) with
  | some q => q.2.2
  | none => if kkd (ksh k.toNat).1 j.toNat = 2 then -1 else 0
/-- so far the world is fresh, but for the fields P -/
def Ag (n : Nat) (P : List (Int × Int)) (F : Bool) (σ : kS) : Prop := ∀ k : Nat, k < n → (k = 27 → F = true) → ∀ j : Nat, j < (ksh k).2 → ((k : Int), (j : Int)) ∉ P → σ k j = w0 k j
theorem w0_def {k j : Int} (hk : k ≠ 27) (h : ∀ q ∈ w0L, ¬ (q.1 = k ∧ q.2.1 = j)) : w0 k j = if kkd (ksh k.toNat).1 j.toNat = 2 then -1 else 0 := by
  unfold w0
  rw [if_neg hk]
  have : w0L.find? (fun q => decide (q.1 = k) && decide (q.2.1 = j)) = none := by
    rw [List.find?_eq_none]
    intro q hq
    simpa using h q hq
  rw [this]
/-- what the pending fields must hold when cell n is made -/
def agN (n : Nat) (P P' : List (Int × Int)) : Bool := P.all (fun q => decide (q ∈ P')) && w0L.all (fun q => decide (q.1 ≠ n) || decide ((q.1, q.2.1) ∈ P'))
def agP (P P' : List (Int × Int)) (k j v : Int) : Bool := decide (k ≠ 27) && decide (w0 k j = v) && P.all (fun q => decide (q = (k, j)) || decide (q ∈ P'))
theorem Ag.new {n : Nat} {P P' : List (Int × Int)} {F : Bool} {σ : kS} (h : Ag n P F σ) (hc : agN n P P' = true) (hF : n ≠ 27 ∨ F = false := by decide) : Ag (n + 1) P' F (kini σ n) := by
  intro k hk h27 j hj hnP
  simp only [agN, Bool.and_eq_true, List.all_eq_true, Bool.or_eq_true, decide_eq_true_eq] at hc
  by_cases hkn : k = n
  · subst hkn
    have h27' : k ≠ 27 := fun e => by
      rcases hF with h | h
      · exact h e
      · have := h27 e; rw [h] at this; cases this
    have h9 : ∀ q ∈ w0L, ¬ (q.1 = ((k : Nat) : Int) ∧ q.2.1 = ((j : Nat) : Int)) := fun q hq ⟨e1, e2⟩ => by
      rcases hc.2 q hq with h | h
      · exact h e1
      · rw [e1, e2] at h
        exact hnP h
    rw [kini_at, w0_def (by omega) h9]
    rfl
  · rw [kini_ne (by omega)]
    exact h k (by omega) h27 j hj (fun hp => hnP (hc.1 _ hp))
theorem Ag.put {n : Nat} {P P' : List (Int × Int)} {F : Bool} {σ : kS} {k j v : Int} (h : Ag n P F σ) (hc : agP P P' k j v = true) : Ag n P' F (kst σ k j v) := by
  intro k' hk h27 j' hj hnP
  simp only [agP, Bool.and_eq_true, List.all_eq_true, Bool.or_eq_true, decide_eq_true_eq] at hc
  by_cases e : (k' : Int) = k ∧ (j' : Int) = j
  · rw [kst_ap, if_pos e, e.1, e.2]
    exact hc.1.2.symm
  · rw [kst_ap, if_neg e]
    refine h k' hk h27 j' hj (fun hp => ?_)
    rcases hc.2 _ hp with h | h
    · exact e ⟨congrArg Prod.fst h, congrArg Prod.snd h⟩
    · exact hnP h
theorem Ag.put27 {n : Nat} {P : List (Int × Int)} {σ : kS} {j v : Int} (h : Ag n P false σ) : Ag n P false (kst σ 27 j v) := by
  intro k' hk h27 j' hj hnP
  have : k' ≠ 27 := fun e => by have := h27 e; cases this
  rw [kst_k (by omega)]
  exact h k' hk h27 j' hj hnP
theorem Ag.flag {n : Nat} {P : List (Int × Int)} {σ : kS} (h : Ag n P false σ) (hb : ∀ j : Nat, j < 960 → σ 27 j = w0 27 j) : Ag n P true σ := by
  intro k' hk h27 j' hj hnP
  by_cases e : k' = 27
  · subst e
    exact hb j' hj
  · exact h k' hk (fun e9 => absurd e9 e) j' hj hnP
def agM (n N : Nat) (P : List (Int × Int)) : Bool := w0L.all (fun q => decide (q.1 < n) || decide (n + N < q.1) || (decide (q.1 = n) && decide (q.2.2 = n + 1 + q.2.1))) && (List.range N).all (fun j => decide (w0 n j = n + 1 + j)) && decide (27 < n ∨ n + N < 27)
theorem Ag.mini {n N : Nat} {P : List (Int × Int)} {F : Bool} {σ : kS} (h : Ag n P F σ) (hc : agM n N P = true) (hs : ksh n = (24, N)) (hi : ∀ j : Nat, j < N → (ksh (n + 1 + j)).1 = 20) : Ag (n + (1 + N)) P F (kmini σ n N) := by
  intro k hk h27 j hj hnP
  simp only [agM, Bool.and_eq_true, List.all_eq_true, Bool.or_eq_true, decide_eq_true_eq] at hc
  obtain ⟨⟨c1, c2⟩, c3⟩ := hc
  unfold kmini
  by_cases hkn : k = n
  · subst hkn
    rw [if_pos rfl]
    rw [hs] at hj
    exact (c2 j (List.mem_range.mpr hj)).symm
  · rw [if_neg (by omega)]
    by_cases hkk : n < k
    · rw [if_pos (by omega), w0_def (by omega) (fun q hq ⟨e1, e2⟩ => by
        rcases c1 q hq with (h | h) | h
        · omega
        · omega
        · have := h.1; omega)]
      have h9 := hi (k - n - 1) (by omega)
      rw [show n + 1 + (k - n - 1) = k by omega] at h9
      rw [Int.toNat_natCast, h9]
      rfl
    · rw [if_neg (by omega)]
      exact h k (by omega) h27 j hj hnP
