/-! rows of K: cells -/
def isO (c n : Nat) (r : Int) : Prop := 0 ≤ r ∧ r < n ∧ ksh r.toNat = (c, (kfd.getD c []).length)
def isA (c n : Nat) (a : Int) : Prop := 0 ≤ a ∧ a < n ∧ (ksh a.toNat).1 = c
def klen (a : Int) : Int := ((ksh a.toNat).2 : Int)
theorem kwl_len {X : kX} {n : Nat} {σ : kS} : (kwl X n σ).length = n := by simp [kwl]
theorem kwl_at {X : kX} {n : Nat} {σ : kS} {k : Nat} (h : k < n) : (kwl X n σ)[k]? = some (X.1 + k, kent X (ksh k).1 (ksh k).2 (σ k)) := by
  unfold kwl
  rw [List.getElem?_map, List.getElem?_range h]
  rfl
theorem kwl_at' {X : kX} {n : Nat} {σ : kS} {k : Nat} {q : Nat × va_E} (h : (kwl X n σ)[k]? = some q) : k < n ∧ q = (X.1 + k, kent X (ksh k).1 (ksh k).2 (σ k)) := by
  have h1 : k < n := by rw [← kwl_len (X := X) (n := n) (σ := σ)]; exact (List.getElem?_eq_some_iff.mp h).1
  rw [kwl_at h1] at h
  exact ⟨h1, (Option.some.inj h).symm⟩
theorem kwl_set {X : kX} {n : Nat} {σ σ' : kS} {k : Nat} {e : va_E} (he : e = kent X (ksh k).1 (ksh k).2 (σ' k)) (ho : ∀ j : Int, j ≠ k → σ' j = σ j) : (kwl X n σ).set k (X.1 + k, e) = kwl X n σ' := by
  apply List.ext_getElem?
  intro i
  by_cases hi : i < n
  · rw [List.getElem?_set, kwl_at hi, kwl_at hi]
    by_cases hk : k = i
    · subst hk
      rw [if_pos rfl, if_pos (by rw [kwl_len]; exact hi), he]
    · rw [if_neg hk, ho (i : Int) (by omega)]
  · rw [List.getElem?_eq_none (by rw [List.length_set, kwl_len]; omega), List.getElem?_eq_none (by rw [kwl_len]; omega)]
theorem kwl_D {X : kX} {n : Nat} {σ : kS} : va_D (kA X) (kwl X n σ) := by
  refine ⟨fun i j p q hi hj h => ?_, fun k q hk => ?_⟩
  · obtain ⟨-, rfl⟩ := kwl_at' hi
    obtain ⟨-, rfl⟩ := kwl_at' hj
    simp only at h
    omega
  · obtain ⟨-, rfl⟩ := kwl_at' hk
    exact Nat.le_add_right _ _
theorem k_toNat {a : Int} (h : 0 ≤ a) : ((a.toNat : Nat) : Int) = a := Int.toNat_of_nonneg h
theorem kref_of {X : kX} {a : Int} (h : 0 ≤ a) : kref X a = some (X.1 + a.toNat) := by
  unfold kref
  rw [if_neg (by omega), if_neg (by omega)]
theorem kcv_ref {X : kX} {a : Int} (h : 0 ≤ a) : kcv X (2, a) = .ref (X.1 + a.toNat) := by
  show va_rf (kref X a) = _
  rw [kref_of h]
  rfl
theorem k_clamp {i : Int} (h0 : 0 ≤ i) (h1 : i ≤ 2147483647) : (Int32.ofInt i).toNatClampNeg = i.toNat := by
  show (Int32.ofInt i).toInt.toNat = _
  rw [k32 ⟨by omega, h1⟩]
theorem k_vin {i : Int} {N : Nat} (h0 : 0 ≤ i) (h1 : i < N) (h2 : i ≤ 2147483647) : vp_in (Int32.ofInt i) N := by
  rw [vp_in_iff, k32 ⟨by omega, h2⟩]
  exact ⟨h0, h1⟩
theorem kshl_small : (kshl.all fun q => Nat.ble q.2 100000) = true := by decide +kernel
theorem ksh_small (k : Nat) : (ksh k).2 ≤ 100000 := by
  unfold ksh
  rw [List.getD_eq_getElem?_getD]
  cases h : kshl[k]? with
  | none => simp
  | some q => exact Nat.le_of_ble_eq_true (List.all_eq_true.mp kshl_small q (List.mem_of_getElem? h))
theorem kent_i {X : kX} {c n : Nat} {f : Int → Int} (h1 : 13 ≤ c) (h2 : c < 23) : kent X c n f = .inl (X.2.2.2 c, n, .inl fun j => Int32.ofInt (f j)) := by
  unfold kent
  rw [if_neg (by omega), if_pos h2]
theorem kent_o {X : kX} {c n : Nat} {f : Int → Int} (h1 : c < 13) : kent X c n f = .inr (c, (List.range n).map fun j => kcv X (ktag (kkd c j), f j)) := by
  unfold kent
  rw [if_pos h1]
theorem kent_l {X : kX} {n : Nat} {f : Int → Int} : kent X 23 n f = .inl (X.2.2.2 23, n, .inr (.inl fun j => Int64.ofInt (f j))) := rfl
theorem kent_q {X : kX} {c n : Nat} {f : Int → Int} (h1 : 24 ≤ c) : kent X c n f = .inl (X.2.2.2 c, n, .inr (.inr (.inr (.inr fun j => kref X (f j))))) := by
  unfold kent
  rw [if_neg (by omega), if_neg (by omega), if_neg (by omega)]
/-- the picture behind a store -/
theorem kPic.put {X : kX} {n : Nat} {σ : kS} {s : State} {H H1 : Heap} {locs : List Loc} {a i v : Int} {sl : Nat} (hP : kPic X n σ s H locs) (ha : 0 ≤ a) (han : a < n)
    (hz : H1.size = H.size) (he : va_at X.2.2.1 kcls (X.1 + a.toNat, kent X (ksh a.toNat).1 (ksh a.toNat).2 (kst σ a i v a)) H1) (oq : ∀ q : Nat, q ≠ X.1 + a.toNat → H1[q]? = H[q]?)
    (hok : kokk (kkd (ksh a.toNat).1 i.toNat) v) (hi : 0 ≤ i) : kPic X n (kst σ a i v) s H1 (locs ++ [⟨X.1 + a.toNat, sl⟩]) := by
  obtain ⟨p1, p2, p3, p4, p5, p6⟩ := hP
  have hta := k_toNat ha
  have hlt : a.toNat < n := by omega
  refine ⟨?_, p2.put hz oq (Nat.le_add_right _ _), fun k hk j hj => ?_, fun hn => by rw [hz]; exact p4 hn, p5, p6.put ha⟩
  · have h1 := p1.set kwl_D (kwl_at hlt) he oq
    rw [kwl_set (σ' := kst σ a i v) (by rw [hta]) (fun j hj => kst_k (by rw [hta] at hj; exact hj))] at h1
    exact h1
  · rw [kst_ap]
    by_cases hc : ((k : Int) = a ∧ (j : Int) = i)
    · rw [if_pos hc]
      have e1 : k = a.toNat := by omega
      have e2 : j = i.toNat := by omega
      rw [e1, e2]
      exact hok
    · rw [if_neg hc]
      exact p3 k hk j hj
theorem kf_set {X : kX} {N : Nat} {g : Nat → Value} {k : Nat} {v : Value} (h : k < N) : ((List.range N).map g).set k v = (List.range N).map (fun j => if j = k then v else g j) := by
  apply List.ext_getElem?
  intro i
  by_cases hi : i < N
  · rw [List.getElem?_set, List.getElem?_map, List.getElem?_map, List.getElem?_range hi]
    by_cases hk : k = i
    · subst hk
      simp [h]
    · simp [hk, Ne.symm hk]
  · rw [List.getElem?_eq_none (by simp; omega), List.getElem?_eq_none (by simp; omega)]
/-- a field's link, by the words -/
def kFL (own : String) (index c j : Nat) (C : String) (T : u_T) (N : Nat) : Prop :=
  kcls[c]? = some (C, T, N) ∧ j < N ∧ c < 13 ∧ (kfd.getD c []).length = N ∧ (∀ w ∈ u_ws C T N, w ∈ TB) ∧ (Cond.fieldLink own index (T j).1 (T j).2.1 (T j).2.2.1 ∈ TB ∨ ∃ host, Cond.fieldLinkNest own index (T j).1 (T j).2.1 (T j).2.2.1 host ∈ TB)
/-- what may be stored there -/
def kFT (c : Nat) (T : u_T) (N : Nat) (ty0 : Nat → FieldType) : Prop :=
  (∀ k, k < N → parseFieldDescriptor (T k).2.2.1 = some (ty0 k)) ∧ (∀ a, a < N → ∀ b, b < N → a ≠ b → (T a).2.1 ≠ (T b).2.1) ∧
  ∀ k, k < N → (kkd c k = 0 ∧ ty0 k = .int) ∨ (kkd c k = 1 ∧ ty0 k = .long) ∨ (kkd c k = 3 ∧ ty0 k = .boolean) ∨ (kkd c k = 2 ∧ ((∃ C, ty0 k = .object C) ∨ ∃ t, ty0 k = .array t))
theorem k_nf {X : kX} {kd : Nat} {ty : FieldType} {x : Int} (h : (kd = 0 ∧ ty = .int) ∨ (kd = 1 ∧ ty = .long) ∨ (kd = 3 ∧ ty = .boolean) ∨ (kd = 2 ∧ ((∃ C, ty = .object C) ∨ ∃ t, ty = .array t))) (hx : kokk kd x) : narrow ty (kcv X (ktag kd, x)) = kcv X (ktag kd, x) ∧ fits ty (kcv X (ktag kd, x)) = true := by
  rcases h with ⟨rfl, rfl⟩ | ⟨rfl, rfl⟩ | ⟨rfl, rfl⟩ | ⟨rfl, h⟩
  · exact ⟨rfl, rfl⟩
  · exact ⟨rfl, rfl⟩
  · have hx' : 0 ≤ x ∧ x ≤ 1 := hx
    rcases (show x = 0 ∨ x = 1 by omega) with rfl | rfl
    · exact ⟨rfl, rfl⟩
    · exact ⟨rfl, rfl⟩
  · show narrow ty (va_rf (kref X x)) = va_rf (kref X x) ∧ fits ty (va_rf (kref X x)) = true
    rcases h with ⟨C, rfl⟩ | ⟨t, rfl⟩ <;> cases kref X x <;> exact ⟨rfl, rfl⟩
section KP
variable {d : Nat} {M : kM} {Post : Option kV → Nat → kS → Prop} {b : Nat × Nat} {pc : Nat} {ls : List (Nat × kV)} {st : List kV} {n : Nat} {σ : kS}
theorem kok_of {kd : Nat} {x : Int} (h : kokk kd x) : kok (ktag kd, x) := by
  unfold kokk at h
  unfold ktag
  by_cases h1 : kd = 1
  · subst h1
    exact h
  · rw [if_neg h1] at h ⊢
    by_cases h2 : kd = 2
    · subst h2
      trivial
    · rw [if_neg h2]
      show -2147483648 ≤ x ∧ x ≤ 2147483647
      by_cases h0 : kd = 0
      · rw [if_pos h0] at h; exact h
      · rw [if_neg h0] at h
        by_cases h3 : kd = 3
        · rw [if_pos h3] at h; omega
        · rw [if_neg h3, if_neg h2] at h; omega
theorem K_getf {index c j N : Nat} {C : String} {T : u_T} {r : Int} (hd : decode M.2.1 pc = .ok (.getfield index, 3)) (hl : kFL M.1.cls index c j C T N) (hr : isO c n r)
    (k : K d M Post b (pc + 3) ls ((ktag (kkd c j), σ r j) :: st) n σ) : K d M Post b pc ls ((2, r) :: st) n σ := by
  intro p l e s m args below meth cd X H locs cells slots mc ms Qc arr ⟨hF, hP, hlv, h1, h2, h3⟩
  obtain ⟨q1, q2, q3, q4, q5, q6⟩ := hl
  obtain ⟨r1, r2, r3⟩ := hr
  have hlt : r.toNat < n := by omega
  have hat := kwl_at (X := X) (σ := σ) hlt
  rw [r3, kent_o q3, k_toNat r1, q4] at hat
  have hjk : j < (ksh r.toNat).2 := by rw [r3]; show j < (kfd.getD c []).length; omega
  have hv : kok (ktag (kkd c j), σ r j) := kok_of (by
    have := hP.2.2.1 r.toNat hlt j hjk
    rw [r3, k_toNat r1] at this
    exact this)
  have kk := k p l e s m args below meth cd X H locs cells slots mc ms Qc arr ⟨hF, hP, hlv, h1, khc hv (kht h2), h3⟩
  show W p l e (kRm d mc ms) s m args below meth cd H locs cells slots _ (F0 m pc arr (kcv X (2, r) :: st.map (kcv X)))
  rw [kcv_ref r1]
  obtain ⟨f1, f2, f3, f4, f5, f6, f7, f8, f9, f10⟩ := hF
  rcases q6 with q6 | ⟨host, q6⟩
  · exact va_get f1 f2 f8 q5 f6 f9 hP.1 r.toNat hat q1 j q2 (f8 _ q6) (fun x h => h) (by rw [List.getElem?_map, List.getElem?_range q2]; rfl) hd kk
  · exact va_getN f1 f2 f8 q5 f6 f9 hP.1 r.toNat hat q1 j q2 (f8 _ q6) (fun x h => h) (by rw [List.getElem?_map, List.getElem?_range q2]; rfl) hd kk
theorem k_setO {X : kX} {c j N : Nat} {r x : Int} (q2 : j < N) : ((List.range N).map fun i : Nat => kcv X (ktag (kkd c i), σ r i)).set j (kcv X (ktag (kkd c j), x)) = (List.range N).map fun i : Nat => kcv X (ktag (kkd c i), kst σ r j x r i) := by
  rw [kf_set (X := X) q2]
  apply List.map_congr_left
  intro i _
  rw [kst_ap]
  by_cases hij : i = j
  · subst hij; simp
  · rw [if_neg hij, if_neg (by omega)]
theorem K_putf {index c j N : Nat} {C : String} {T : u_T} {ty0 : Nat → FieldType} {r x : Int} (hd : decode M.2.1 pc = .ok (.putfield index, 3)) (hl : kFL M.1.cls index c j C T N) (hT : kFT c T N ty0) (hfin : (T j).2.2.2 = false ∨ ((T j).2.2.2 = true ∧ M.1.name = "<init>" ∧ (T j).1 = M.1.cls ∧ Cond.fieldLink M.1.cls index (T j).1 (T j).2.1 (T j).2.2.1 ∈ TB)) (hr : isO c n r) (hx0 : kok (ktag (kkd c j), x) → kokk (kkd c j) x)
    (k : K d M Post b (pc + 3) ls st n (kst σ r j x)) : K d M Post b pc ls ((ktag (kkd c j), x) :: (2, r) :: st) n σ := by
  intro p l e s m args below meth cd X H locs cells slots mc ms Qc arr ⟨hF, hP, hlv, h1, h2, h3⟩
  obtain ⟨q1, q2, q3, q4, q5, q6⟩ := hl
  obtain ⟨r1, r2, r3⟩ := hr
  have hlt : r.toNat < n := by omega
  have hat := kwl_at (X := X) (σ := σ) hlt
  rw [r3, kent_o q3, k_toNat r1, q4] at hat
  have hF0 := hF
  show W p l e (kRm d mc ms) s m args below meth cd H locs cells slots _ (F0 m pc arr (kcv X (ktag (kkd c j), x) :: kcv X (2, r) :: st.map (kcv X)))
  rw [kcv_ref r1]
  obtain ⟨f1, f2, f3, f4, f5, f6, f7, f8, f9, f10⟩ := hF0
  have hx := hx0 (kh1 h2)
  obtain ⟨t1, t2⟩ := k_nf (X := X) (hT.2.2 j q2) hx
  have hap := va_apart (own := M.1.cls) f8 q5 ty0 hT.1 hT.2.1 f9 q1
  obtain ⟨rr, g1, cell, g2, g3, g4, g5⟩ := hP.1 r.toNat _ hat
  have hrr : rr = (C, T, N) := Option.some.inj (g1.symm.trans q1)
  subst hrr
  obtain ⟨hS, hfc, kC, hkC, hkind⟩ := f9.1 c _ q1
  obtain ⟨cf, kf, fi, f, hi, hsl⟩ := hS j q2
  have hst := (u_facts hfc hkC (u_lays f8 q5 q2) hi).1
  have hlen : j < ((List.range N).map fun i : Nat => kcv X (ktag (kkd c i), σ r i)).length := by simpa using q2
  have key : ∀ (H1 : Heap) (sl : Nat), H1[X.1 + r.toNat]? = some (cell.setSlot (X.2.2.1.2 c j) (kcv X (ktag (kkd c j), x))) → H1.size = H.size → (∀ q, q ≠ X.1 + r.toNat → H1[q]? = H[q]?) → W p l e (kRm d mc ms) s m args below meth cd H1 (locs ++ [⟨X.1 + r.toNat, sl⟩]) cells slots (MQ below Qc args s mc ms (kA X)) (F0 m (pc + 3) arr (st.map (kcv X))) := fun H1 sl e1 e2 e3 => by
    refine k p l e s m args below meth cd X H1 _ cells slots mc ms Qc arr ⟨hF, hP.put r1 r2 e2 ?_ e3 (by rw [r3, Int.toNat_natCast]; exact hx) (by omega), hlv, h1, kht (kht h2), h3⟩
    rw [r3, kent_o q3, q4, ← k_setO q2]
    exact ⟨_, q1, t_OB.to (V := updV (vp_V _) j _) ⟨_, e1, g3, g4, t_set g5 hap q2 _⟩ (fun i _ => vp_updV_set hlen _ i)⟩
  have hhas := k2_hasslot (g5 j q2)
  rcases hfin with hfin | ⟨hfin, hin, hdecl, hw⟩
  · have hlay := f8 _ (q5 _ (u_in_lay q2))
    unfold u_lay at hlay
    rw [if_neg (by rw [hfin]; decide)] at hlay
    have h6 := u_store hfc hkC hkind hlay hi (hT.1 j q2) t1 t2
    rcases q6 with q6 | ⟨host, q6⟩
    · refine W.putK f1 f2 (f := f) ⟨f6, f8 _ q6, ⟨_, _, _, hi⟩, hst⟩ (by rw [g3]; exact h6) g2 g4 (by rw [hsl]; exact hhas) rfl rfl hd fun H' e1 e2 e3 => ?_
      rw [hsl] at e1
      exact key H' _ e1 e2 e3
    · refine va_WputK f1 f2 (f := f) f6 (f8 _ q6) hi hst (by rw [g3]; exact h6) g2 g4 (by rw [hsl]; exact hhas) rfl rfl hd fun H' e1 e2 e3 => ?_
      rw [hsl] at e1
      exact key H' _ e1 e2 e3
  · have hlay := f8 _ (q5 _ (u_in_lay q2))
    unfold u_lay at hlay
    rw [if_pos hfin] at hlay
    have hcf : m.cls = cf := by
      obtain ⟨_, _, c', _, _, _, -, -, hf', -, -, -, hown2, -⟩ := Cond.laysFinal_spec hlay
      have e1 : c' = cf := by have := hi.symm.trans hf'; simp at this; exact this.1.symm
      rw [hdecl] at hown2
      rw [← e1]; exact Option.some.inj (f6.symm.trans hown2)
    have h6 := u_fits hfc hkC hkind (Or.inr hlay) hi (hT.1 j q2) t1 t2
    refine W.putFinK f1 f2 f6 (f8 _ hw) hi hst hcf (by rw [f7]; exact hin) (by rw [g3]; exact h6) g2 g4 (by rw [hsl]; exact hhas) rfl rfl hd fun H' e1 e2 e3 => ?_
    rw [hsl] at e1
    exact key H' _ e1 e2 e3
/-! arrays -/
theorem k_arrOf {X : kX} {s : State} {D : va_G} {cl : List vw_C} (hK : va_K D cl (ktys X) s) (t0 : Nat) {c : Nat} {ty : FieldType} (ht : (ktys X)[t0]? = some (X.2.2.2 c, ty)) (N : Nat) (z : Nat → Value) : s.isArrayOf (arrV (X.2.2.2 c) N z) ty := (hK.2 t0 _ ht).1 N z
theorem K_iaload {a i : Int} (hd : decode M.2.1 pc = .ok (.iaload, 1)) (hA : isA 20 n a) (h0 : 0 ≤ i) (hlt : i < klen a) (k : K d M Post b (pc + 1) ls ((0, σ a i) :: st) n σ) : K d M Post b pc ls ((0, i) :: (2, a) :: st) n σ := by
  intro p l e s m args below meth cd X H locs cells slots mc ms Qc arr ⟨hF, hP, hlv, h1, h2, h3⟩
  obtain ⟨a1, a2, a3⟩ := hA
  have hn : a.toNat < n := by omega
  have hat := kwl_at (X := X) (σ := σ) hn
  rw [a3, kent_i (by omega) (by omega), k_toNat a1] at hat
  have hs := ksh_small a.toNat
  have hlt' : i < ((ksh a.toNat).2 : Int) := hlt
  have hi : i ≤ 2147483647 := by omega
  have hin := k_vin h0 hlt' hi
  have hv : kok (0, σ a i) := by
    have := hP.2.2.1 a.toNat hn i.toNat (by omega)
    rw [a3, k_toNat a1, k_toNat h0] at this
    exact this
  have kk := k p l e s m args below meth cd X H locs cells slots mc ms Qc arr ⟨hF, hP, hlv, h1, khc hv (kht (kht h2)), h3⟩
  show W p l e (kRm d mc ms) s m args below meth cd H locs cells slots _ (F0 m pc arr (kcv X (0, i) :: kcv X (2, a) :: st.map (kcv X)))
  rw [kcv_ref a1]
  refine va_iald hF.1 hF.2.1 hF.2.2.2.2.2.2.2.2.1 hP.1 a.toNat 0 hat rfl hin hd ?_
  rw [k_clamp h0 hi, k_toNat h0]
  exact kk
/-- bytes or booleans -/
theorem K_baload {a i : Int} (hd : decode M.2.1 pc = .ok (.baload, 1)) (hA : isA 21 n a ∨ isA 22 n a) (h0 : 0 ≤ i) (hlt : i < klen a) (k : K d M Post b (pc + 1) ls ((0, σ a i) :: st) n σ) : K d M Post b pc ls ((0, i) :: (2, a) :: st) n σ := by
  intro p l e s m args below meth cd X H locs cells slots mc ms Qc arr ⟨hF, hP, hlv, h1, h2, h3⟩
  have a1 : 0 ≤ a := hA.elim (fun h => h.1) (fun h => h.1)
  have a2 : a < n := hA.elim (fun h => h.2.1) (fun h => h.2.1)
  have hn : a.toNat < n := by omega
  have hat := kwl_at (X := X) (σ := σ) hn
  have hs := ksh_small a.toNat
  have hlt' : i < ((ksh a.toNat).2 : Int) := hlt
  have hi : i ≤ 2147483647 := by omega
  have hin := k_vin h0 hlt' hi
  have hq := hP.2.2.1 a.toNat hn i.toNat (by omega)
  rw [k_toNat a1, k_toNat h0] at hq
  rw [k_toNat a1] at hat
  show W p l e (kRm d mc ms) s m args below meth cd H locs cells slots _ (F0 m pc arr (kcv X (0, i) :: kcv X (2, a) :: st.map (kcv X)))
  rw [kcv_ref a1]
  rcases hA with ⟨-, -, a3⟩ | ⟨-, -, a3⟩
  · rw [a3] at hq
    rw [a3, kent_i (by omega) (by omega)] at hat
    have hv : kok (0, σ a i) := by
      have hq' : -128 ≤ σ a i ∧ σ a i ≤ 127 := hq
      exact ⟨by omega, by omega⟩
    have kk := k p l e s m args below meth cd X H locs cells slots mc ms Qc arr ⟨hF, hP, hlv, h1, khc hv (kht (kht h2)), h3⟩
    refine va_bald hF.1 hF.2.1 hF.2.2.2.2.2.2.2.2.1 hP.1 a.toNat 1 hat rfl hin hd ?_
    rw [k_clamp h0 hi, k_toNat h0]
    exact kk
  · rw [a3] at hq
    rw [a3, kent_i (by omega) (by omega)] at hat
    have hv : kok (0, σ a i) := by
      have hq' : 0 ≤ σ a i ∧ σ a i ≤ 1 := hq
      exact ⟨by omega, by omega⟩
    have kk := k p l e s m args below meth cd X H locs cells slots mc ms Qc arr ⟨hF, hP, hlv, h1, khc hv (kht (kht h2)), h3⟩
    refine va_zald hF.1 hF.2.1 hF.2.2.2.2.2.2.2.2.1 hP.1 a.toNat 2 hat rfl hin hd ?_
    rw [k_clamp h0 hi, k_toNat h0]
    exact kk
end KP
