/-! rows of K: more of cells -/
section KP
variable {d : Nat} {M : kM} {Post : Option kV → Nat → kS → Prop} {b : Nat × Nat} {pc : Nat} {ls : List (Nat × kV)} {st : List kV} {n : Nat} {σ : kS}
theorem K_laload {a i : Int} (hd : decode M.2.1 pc = .ok (.laload, 1)) (hA : isA 23 n a) (h0 : 0 ≤ i) (hlt : i < klen a) (k : K d M Post b (pc + 1) ls ((1, σ a i) :: st) n σ) : K d M Post b pc ls ((0, i) :: (2, a) :: st) n σ := by
  intro p l e s m args below meth cd X H locs cells slots mc ms Qc arr ⟨hF, hP, hlv, h1, h2, h3⟩
  obtain ⟨a1, a2, a3⟩ := hA
  have hn : a.toNat < n := by omega
  have hat := kwl_at (X := X) (σ := σ) hn
  rw [a3, kent_l, k_toNat a1] at hat
  have hs := ksh_small a.toNat
  have hlt' : i < ((ksh a.toNat).2 : Int) := hlt
  have hi : i ≤ 2147483647 := by omega
  have hin := k_vin h0 hlt' hi
  have hv : kok (1, σ a i) := by
    have := hP.2.2.1 a.toNat hn i.toNat (by omega)
    rw [a3, k_toNat a1, k_toNat h0] at this
    exact this
  have kk := k p l e s m args below meth cd X H locs cells slots mc ms Qc arr ⟨hF, hP, hlv, h1, khc hv (kht (kht h2)), h3⟩
  show W p l e (kRm d mc ms) s m args below meth cd H locs cells slots _ (F0 m pc arr (kcv X (0, i) :: kcv X (2, a) :: st.map (kcv X)))
  rw [kcv_ref a1]
  refine va_lald hF.1 hF.2.1 hF.2.2.2.2.2.2.2.2.1 hP.1 a.toNat 3 hat rfl hin hd ?_
  rw [k_clamp h0 hi, k_toNat h0]
  exact kk
/-- a row of references: code 24 int[][], 25 .. rows of objects -/
theorem K_aaload {c : Nat} {a i : Int} (hd : decode M.2.1 pc = .ok (.aaload, 1)) (hc : 24 ≤ c ∧ c ≤ 28) (hA : isA c n a) (h0 : 0 ≤ i) (hlt : i < klen a) (k : K d M Post b (pc + 1) ls ((2, σ a i) :: st) n σ) : K d M Post b pc ls ((0, i) :: (2, a) :: st) n σ := by
  intro p l e s m args below meth cd X H locs cells slots mc ms Qc arr ⟨hF, hP, hlv, h1, h2, h3⟩
  obtain ⟨a1, a2, a3⟩ := hA
  have hn : a.toNat < n := by omega
  have hat := kwl_at (X := X) (σ := σ) hn
  rw [a3, kent_q hc.1, k_toNat a1] at hat
  have hs := ksh_small a.toNat
  have hlt' : i < ((ksh a.toNat).2 : Int) := hlt
  have hi : i ≤ 2147483647 := by omega
  have hin := k_vin h0 hlt' hi
  have hlt2 : (Int32.ofInt i).toNatClampNeg < (ksh a.toNat).2 := Nat.not_le.mp fun q => hin (Or.inr q)
  have kk := k p l e s m args below meth cd X H locs cells slots mc ms Qc arr ⟨hF, hP, hlv, h1, khc (v := (2, σ a i)) trivial (kht (kht h2)), h3⟩
  show W p l e (kRm d mc ms) s m args below meth cd H locs cells slots _ (F0 m pc arr (kcv X (0, i) :: kcv X (2, a) :: st.map (kcv X)))
  rw [kcv_ref a1]
  have hty : ∃ ty : FieldType, ty.isReference = true ∧ ∃ t0 : Nat, (ktys X)[t0]? = some (X.2.2.2 c, ty) := by
    rcases (show c = 24 ∨ c = 25 ∨ c = 26 ∨ c = 27 ∨ c = 28 by omega) with rfl | rfl | rfl | rfl | rfl
    · exact ⟨_, rfl, 4, rfl⟩
    · exact ⟨_, rfl, 5, rfl⟩
    · exact ⟨_, rfl, 6, rfl⟩
    · exact ⟨_, rfl, 7, rfl⟩
    · exact ⟨_, rfl, 8, rfl⟩
  obtain ⟨ty, hr, t0, ht⟩ := hty
  refine W.aald (v := va_rf (kref X (σ a i))) (ty := ty) hF.1 hF.2.1 (hP.1 a.toNat _ hat) (k_arrOf hF.2.2.2.2.2.2.2.2.1 t0 ht _ _) hr (fun q => by cases q) (by show ¬ (_ < 0 ∨ (arrV _ _ _).slots.size ≤ _); rw [arrV_size]; exact hin) (by show (arrV _ _ _).slots[_]? = _; rw [arrV_read _ _ hlt2, k_clamp h0 hi]; show some (va_rf (kref X (σ a (i.toNat : Int)))) = _; rw [k_toNat h0]) rfl rfl hd ?_
  exact kk
theorem K_alen {c : Nat} {a : Int} (hd : decode M.2.1 pc = .ok (.arraylength, 1)) (hc : 20 ≤ c ∧ c ≤ 28) (hA : isA c n a) (k : K d M Post b (pc + 1) ls ((0, klen a) :: st) n σ) : K d M Post b pc ls ((2, a) :: st) n σ := by
  intro p l e s m args below meth cd X H locs cells slots mc ms Qc arr ⟨hF, hP, hlv, h1, h2, h3⟩
  obtain ⟨a1, a2, a3⟩ := hA
  have hn : a.toNat < n := by omega
  have hat := kwl_at (X := X) (σ := σ) hn
  rw [k_toNat a1] at hat
  have hs := ksh_small a.toNat
  have hv : kok (0, klen a) := ⟨by unfold klen; omega, by unfold klen; omega⟩
  have kk := k p l e s m args below meth cd X H locs cells slots mc ms Qc arr ⟨hF, hP, hlv, h1, khc hv (kht h2), h3⟩
  show W p l e (kRm d mc ms) s m args below meth cd H locs cells slots _ (F0 m pc arr (kcv X (2, a) :: st.map (kcv X)))
  rw [kcv_ref a1]
  have hK := hF.2.2.2.2.2.2.2.2.1
  have e1 : Int32.ofNat (ksh a.toNat).2 = Int32.ofInt (klen a) := by
    apply k32_inj
    rw [k32 hv, Int32.toInt_ofNat_of_lt (by omega)]
    rfl
  rcases (show c = 20 ∨ c = 21 ∨ c = 22 ∨ c = 23 ∨ c = 24 ∨ c = 25 ∨ c = 26 ∨ c = 27 ∨ c = 28 by omega) with rfl | rfl | rfl | rfl | rfl | rfl | rfl | rfl | rfl
  · rw [a3, kent_i (by omega) (by omega)] at hat
    exact va_alen hF.1 hF.2.1 hK hP.1 a.toNat 0 hat rfl e1 hd kk
  · rw [a3, kent_i (by omega) (by omega)] at hat
    exact va_alen hF.1 hF.2.1 hK hP.1 a.toNat 1 hat rfl e1 hd kk
  · rw [a3, kent_i (by omega) (by omega)] at hat
    exact va_alen hF.1 hF.2.1 hK hP.1 a.toNat 2 hat rfl e1 hd kk
  · rw [a3, kent_l] at hat
    exact va_alen hF.1 hF.2.1 hK hP.1 a.toNat 3 hat rfl e1 hd kk
  · rw [a3, kent_q (by omega)] at hat
    exact va_alen hF.1 hF.2.1 hK hP.1 a.toNat 4 hat rfl e1 hd kk
  · rw [a3, kent_q (by omega)] at hat
    exact va_alen hF.1 hF.2.1 hK hP.1 a.toNat 5 hat rfl e1 hd kk
  · rw [a3, kent_q (by omega)] at hat
    exact va_alen hF.1 hF.2.1 hK hP.1 a.toNat 6 hat rfl e1 hd kk
  · rw [a3, kent_q (by omega)] at hat
    exact va_alen hF.1 hF.2.1 hK hP.1 a.toNat 7 hat rfl e1 hd kk
  · rw [a3, kent_q (by omega)] at hat
    exact va_alen hF.1 hF.2.1 hK hP.1 a.toNat 8 hat rfl e1 hd kk
theorem k_updI {f : Int → Int} {i x : Int} {j : Nat} (h0 : 0 ≤ i) : (if j = i.toNat then Int32.ofInt x else Int32.ofInt (f j)) = Int32.ofInt (if (j : Int) = i then x else f j) := by
  by_cases h : j = i.toNat
  · rw [if_pos h, if_pos (by omega)]
  · rw [if_neg h, if_neg (by omega)]
theorem kst_self {σ : kS} {a i x : Int} : kst σ a i x a = fun j' => if j' = i then x else σ a j' := by simp [kst]
theorem K_iastore {a i x : Int} (hd : decode M.2.1 pc = .ok (.iastore, 1)) (hA : isA 20 n a) (h0 : 0 ≤ i) (hlt : i < klen a) (k : K d M Post b (pc + 1) ls st n (kst σ a i x)) : K d M Post b pc ls ((0, x) :: (0, i) :: (2, a) :: st) n σ := by
  intro p l e s m args below meth cd X H locs cells slots mc ms Qc arr ⟨hF, hP, hlv, h1, h2, h3⟩
  obtain ⟨a1, a2, a3⟩ := hA
  have hn : a.toNat < n := by omega
  have hat := kwl_at (X := X) (σ := σ) hn
  rw [a3, kent_i (by omega) (by omega), k_toNat a1] at hat
  have hs := ksh_small a.toNat
  have hlt' : i < ((ksh a.toNat).2 : Int) := hlt
  have hi : i ≤ 2147483647 := by omega
  have hin := k_vin h0 hlt' hi
  show W p l e (kRm d mc ms) s m args below meth cd H locs cells slots _ (F0 m pc arr (kcv X (0, x) :: kcv X (0, i) :: kcv X (2, a) :: st.map (kcv X)))
  rw [kcv_ref a1]
  refine W.iast hF.1 hF.2.1 (hP.1 a.toNat _ hat) (k_arrOf hF.2.2.2.2.2.2.2.2.1 0 rfl _ _) (fun q => by cases q) (by show ¬ (_ < 0 ∨ (arrV _ _ _).slots.size ≤ _); rw [arrV_size]; exact hin) rfl rfl hd fun H1 e z oq => ?_
  refine k p l _ s m args below meth cd X H1 _ cells slots mc ms Qc arr ⟨hF, hP.put a1 a2 z ?_ oq (by rw [a3]; exact kh1 h2) h0, hlv, h1, kht (kht (kht h2)), h3⟩
  rw [a3, kent_i (by omega) (by omega), kst_self]
  show H1[X.1 + a.toNat]? = some (vp_cell _ _)
  rw [e]
  dsimp only
  rw [vp_cell_i, vp_cell_i]
  rw [arrV_store, k_clamp h0 hi]
  refine congrArg (fun f => some (arrV _ _ f)) (funext fun q => ?_)
  unfold updV
  by_cases hq : q = i.toNat
  · rw [if_pos hq, if_pos (by omega)]
  · rw [if_neg hq, if_neg (by omega)]
theorem K_bastore {a i x : Int} (hd : decode M.2.1 pc = .ok (.bastore, 1)) (hA : (isA 21 n a ∧ -128 ≤ x ∧ x ≤ 127) ∨ (isA 22 n a ∧ 0 ≤ x ∧ x ≤ 1)) (h0 : 0 ≤ i) (hlt : i < klen a) (k : K d M Post b (pc + 1) ls st n (kst σ a i x)) : K d M Post b pc ls ((0, x) :: (0, i) :: (2, a) :: st) n σ := by
  intro p l e s m args below meth cd X H locs cells slots mc ms Qc arr ⟨hF, hP, hlv, h1, h2, h3⟩
  have a1 : 0 ≤ a := hA.elim (fun h => h.1.1) (fun h => h.1.1)
  have a2 : a < n := hA.elim (fun h => h.1.2.1) (fun h => h.1.2.1)
  have hn : a.toNat < n := by omega
  have hat := kwl_at (X := X) (σ := σ) hn
  have hs := ksh_small a.toNat
  have hlt' : i < ((ksh a.toNat).2 : Int) := hlt
  have hi : i ≤ 2147483647 := by omega
  have hin := k_vin h0 hlt' hi
  rw [k_toNat a1] at hat
  show W p l e (kRm d mc ms) s m args below meth cd H locs cells slots _ (F0 m pc arr (kcv X (0, x) :: kcv X (0, i) :: kcv X (2, a) :: st.map (kcv X)))
  rw [kcv_ref a1]
  rcases hA with ⟨⟨-, -, a3⟩, x1, x2⟩ | ⟨⟨-, -, a3⟩, x1, x2⟩
  · rw [a3, kent_i (by omega) (by omega)] at hat
    have hnar : narrow .byte (.int (Int32.ofInt x)) = .int (Int32.ofInt x) := by
      show Value.int (Int32.ofInt x).toInt8.toInt32 = _
      refine congrArg Value.int (k32_inj ?_)
      rw [Int8.toInt_toInt32, Int32.toInt_toInt8, k32 ⟨by omega, by omega⟩]
      show Int.bmod _ 256 = _
      exact Int.bmod_eq_of_le (by omega) (by omega)
    refine W.bast hF.1 hF.2.1 (hP.1 a.toNat _ hat) (k_arrOf hF.2.2.2.2.2.2.2.2.1 1 rfl _ _) (fun q => by cases q) (by show ¬ (_ < 0 ∨ (arrV _ _ _).slots.size ≤ _); rw [arrV_size]; exact hin) rfl rfl hd fun H1 e z oq => ?_
    refine k p l _ s m args below meth cd X H1 _ cells slots mc ms Qc arr ⟨hF, hP.put a1 a2 z ?_ oq (by rw [a3]; exact ⟨x1, x2⟩) h0, hlv, h1, kht (kht (kht h2)), h3⟩
    rw [a3, kent_i (by omega) (by omega), kst_self]
    show H1[X.1 + a.toNat]? = some (vp_cell _ _)
    rw [e, hnar]
    dsimp only
    rw [vp_cell_i, vp_cell_i]
    rw [arrV_store, k_clamp h0 hi]
    refine congrArg (fun f => some (arrV _ _ f)) (funext fun q => ?_)
    unfold updV
    by_cases hq : q = i.toNat
    · rw [if_pos hq, if_pos (by omega)]
    · rw [if_neg hq, if_neg (by omega)]
  · rw [a3, kent_i (by omega) (by omega)] at hat
    have hnar : narrow .boolean (.int (Int32.ofInt x)) = .int (Int32.ofInt x) := by
      rcases (show x = 0 ∨ x = 1 by omega) with rfl | rfl <;> rfl
    refine W.zast hF.1 hF.2.1 (hP.1 a.toNat _ hat) (k_arrOf hF.2.2.2.2.2.2.2.2.1 2 rfl _ _) (fun q => by cases q) (by show ¬ (_ < 0 ∨ (arrV _ _ _).slots.size ≤ _); rw [arrV_size]; exact hin) rfl rfl hd fun H1 e z oq => ?_
    refine k p l _ s m args below meth cd X H1 _ cells slots mc ms Qc arr ⟨hF, hP.put a1 a2 z ?_ oq (by rw [a3]; exact ⟨x1, x2⟩) h0, hlv, h1, kht (kht (kht h2)), h3⟩
    rw [a3, kent_i (by omega) (by omega), kst_self]
    show H1[X.1 + a.toNat]? = some (vp_cell _ _)
    rw [e, hnar]
    dsimp only
    rw [vp_cell_i, vp_cell_i]
    rw [arrV_store, k_clamp h0 hi]
    refine congrArg (fun f => some (arrV _ _ f)) (funext fun q => ?_)
    unfold updV
    by_cases hq : q = i.toNat
    · rw [if_pos hq, if_pos (by omega)]
    · rw [if_neg hq, if_neg (by omega)]
theorem K_lastore {a i x : Int} (hd : decode M.2.1 pc = .ok (.lastore, 1)) (hA : isA 23 n a) (h0 : 0 ≤ i) (hlt : i < klen a) (k : K d M Post b (pc + 1) ls st n (kst σ a i x)) : K d M Post b pc ls ((1, x) :: (0, i) :: (2, a) :: st) n σ := by
  intro p l e s m args below meth cd X H locs cells slots mc ms Qc arr ⟨hF, hP, hlv, h1, h2, h3⟩
  obtain ⟨a1, a2, a3⟩ := hA
  have hn : a.toNat < n := by omega
  have hat := kwl_at (X := X) (σ := σ) hn
  rw [a3, kent_l, k_toNat a1] at hat
  have hs := ksh_small a.toNat
  have hlt' : i < ((ksh a.toNat).2 : Int) := hlt
  have hi : i ≤ 2147483647 := by omega
  have hin := k_vin h0 hlt' hi
  show W p l e (kRm d mc ms) s m args below meth cd H locs cells slots _ (F0 m pc arr (kcv X (1, x) :: kcv X (0, i) :: kcv X (2, a) :: st.map (kcv X)))
  rw [kcv_ref a1]
  refine W.last hF.1 hF.2.1 (hP.1 a.toNat _ hat) (k_arrOf hF.2.2.2.2.2.2.2.2.1 3 rfl _ _) (fun q => by cases q) (by show ¬ (_ < 0 ∨ (arrV _ _ _).slots.size ≤ _); rw [arrV_size]; exact hin) rfl rfl hd fun H1 e z oq => ?_
  refine k p l _ s m args below meth cd X H1 _ cells slots mc ms Qc arr ⟨hF, hP.put a1 a2 z ?_ oq (by rw [a3]; exact kh1 h2) h0, hlv, h1, kht (kht (kht h2)), h3⟩
  rw [a3, kent_l, kst_self]
  show H1[X.1 + a.toNat]? = some (vp_cell _ _)
  rw [e]
  dsimp only
  rw [vp_cell_l, vp_cell_l]
  rw [arrV_store, k_clamp h0 hi]
  refine congrArg (fun f => some (arrV _ _ f)) (funext fun q => ?_)
  unfold updV
  by_cases hq : q = i.toNat
  · rw [if_pos hq, if_pos (by omega)]
  · rw [if_neg hq, if_neg (by omega)]
/-! references compared -/
theorem kref_inj {X : kX} {x y : Int} (hx : -1 ≤ x) (hy : -1 ≤ y) : kref X x = kref X y ↔ x = y := by
  unfold kref
  constructor
  · intro h
    by_cases h1 : x = -1
    · by_cases h2 : y = -1
      · omega
      · rw [if_pos h1, if_neg h2, if_neg (by omega)] at h
        cases h
    · rw [if_neg h1, if_neg (by omega)] at h
      by_cases h2 : y = -1
      · rw [if_pos h2] at h; cases h
      · rw [if_neg h2, if_neg (by omega)] at h
        have := Option.some.inj h
        omega
  · intro h; rw [h]
theorem K_acmp_ne {x y off : Int} {tgt : Nat} (hd : decode M.2.1 pc = .ok (.if_acmp .ne off, 3)) (ht : (pc : Int) + off = (tgt : Int)) (hx : -1 ≤ x) (hy : -1 ≤ y) (k1 : ¬ x = y → K d M Post b tgt ls st n σ) (k2 : ¬ ¬ x = y → K d M Post b (pc + 3) ls st n σ) : K d M Post b pc ls ((2, y) :: (2, x) :: st) n σ := by
  intro p l e s m args below meth cd X H locs cells slots mc ms Qc arr ⟨hF, hP, hlv, h1, h2, h3⟩
  exact lv_acmp_ne hF.1 hF.2.1 hd ht (fun h => k1 (fun e => h ((kref_inj hx hy).mpr e)) p l e s m args below meth cd X H locs cells slots mc ms Qc arr ⟨hF, hP, hlv, h1, kht (kht h2), h3⟩) (fun h => k2 (fun e => e ((kref_inj hx hy).mp h)) p l e s m args below meth cd X H locs cells slots mc ms Qc arr ⟨hF, hP, hlv, h1, kht (kht h2), h3⟩)
theorem K_ifnonnull {x off : Int} {tgt : Nat} (hd : decode M.2.1 pc = .ok (.ifnonnull off, 3)) (ht : (pc : Int) + off = (tgt : Int)) (k1 : ¬ x = -1 → K d M Post b tgt ls st n σ) (k2 : ¬ ¬ x = -1 → K d M Post b (pc + 3) ls st n σ) : K d M Post b pc ls ((2, x) :: st) n σ := by
  intro p l e s m args below meth cd X H locs cells slots mc ms Qc arr ⟨hF, hP, hlv, h1, h2, h3⟩
  show W p l e (kRm d mc ms) s m args below meth cd H locs cells slots _ (F0 m pc arr (va_rf (kref X x) :: st.map (kcv X)))
  by_cases hx : x = -1
  · have e1 : kref X x = none := by unfold kref; rw [if_pos hx]
    rw [e1]
    exact lv_ifnonnullN hF.1 hF.2.1 hd (k2 (fun h => h hx) p l e s m args below meth cd X H locs cells slots mc ms Qc arr ⟨hF, hP, hlv, h1, kht h2, h3⟩)
  · have e1 : ∃ q, kref X x = some q := by
      unfold kref
      rw [if_neg hx]
      by_cases h : x < 0
      · exact ⟨_, if_pos h⟩
      · exact ⟨_, if_neg h⟩
    obtain ⟨q, e1⟩ := e1
    rw [e1]
    exact lv_ifnonnull hF.1 hF.2.1 hd ht (k1 hx p l e s m args below meth cd X H locs cells slots mc ms Qc arr ⟨hF, hP, hlv, h1, kht h2, h3⟩)
/-! the two static arrays -/
def kEast : List Int := [0, 1, 1, 1, 0, -1, -1, -1]
def kSouth : List Int := [-1, -1, 0, 1, 1, 1, 0, -1]
theorem kref_ex {X : kX} {a : Int} (h : a < -1) : kref X a = some (X.2.1 a) := by
  unfold kref
  rw [if_neg (by omega), if_pos (by omega)]
theorem K_gsE {i : Nat} (hd : decode M.2.1 pc = .ok (.getstatic i, 3)) (hw : Cond.fieldLink M.1.cls i "OldRoads" "EAST" "[I" ∈ TB) (k : K d M Post b (pc + 3) ls ((2, -2) :: st) n σ) : K d M Post b pc ls st n σ := by
  intro p l e s m args below meth cd X H locs cells slots mc ms Qc arr ⟨hF, hP, hlv, h1, h2, h3⟩
  refine va_gets hF.1 hF.2.1 hF.2.2.2.2.2.2.2.2.2.1.1 hP.2.1 hF.2.2.2.2.2.1 (hF.2.2.2.2.2.2.2.1 _ hw) (fun x h => h) hd ?_
  exact k p l e s m args below meth cd X H locs cells slots mc ms Qc arr ⟨hF, hP, hlv, h1, khc (v := (2, -2)) trivial h2, h3⟩
theorem K_gsS {i : Nat} (hd : decode M.2.1 pc = .ok (.getstatic i, 3)) (hw : Cond.fieldLink M.1.cls i "OldRoads" "SOUTH" "[I" ∈ TB) (k : K d M Post b (pc + 3) ls ((2, -3) :: st) n σ) : K d M Post b pc ls st n σ := by
  intro p l e s m args below meth cd X H locs cells slots mc ms Qc arr ⟨hF, hP, hlv, h1, h2, h3⟩
  refine va_gets hF.1 hF.2.1 hF.2.2.2.2.2.2.2.2.2.2.1.1 hP.2.1 hF.2.2.2.2.2.1 (hF.2.2.2.2.2.2.2.1 _ hw) (fun x h => h) hd ?_
  exact k p l e s m args below meth cd X H locs cells slots mc ms Qc arr ⟨hF, hP, hlv, h1, khc (v := (2, -3)) trivial h2, h3⟩
theorem K_ialE {i : Int} (hd : decode M.2.1 pc = .ok (.iaload, 1)) (h0 : 0 ≤ i) (hlt : i < 8) (k : K d M Post b (pc + 1) ls ((0, kEast.getD i.toNat 0) :: st) n σ) : K d M Post b pc ls ((0, i) :: (2, -2) :: st) n σ := by
  intro p l e s m args below meth cd X H locs cells slots mc ms Qc arr ⟨hF, hP, hlv, h1, h2, h3⟩
  refine va_ti hF.1 hF.2.1 hF.2.2.2.2.2.2.2.2.2.1.2 hP.2.1 (k_vin h0 hlt (by omega)) (v := .int (Int32.ofInt (kEast.getD i.toNat 0))) (by rw [k_clamp h0 (by omega)]; rfl) hd ?_
  refine k p l e s m args below meth cd X H locs cells slots mc ms Qc arr ⟨hF, hP, hlv, h1, khc ?_ (kht (kht h2)), h3⟩
  rcases (show i = 0 ∨ i = 1 ∨ i = 2 ∨ i = 3 ∨ i = 4 ∨ i = 5 ∨ i = 6 ∨ i = 7 by omega) with rfl | rfl | rfl | rfl | rfl | rfl | rfl | rfl <;> exact ⟨by decide, by decide⟩
theorem K_ialS {i : Int} (hd : decode M.2.1 pc = .ok (.iaload, 1)) (h0 : 0 ≤ i) (hlt : i < 8) (k : K d M Post b (pc + 1) ls ((0, kSouth.getD i.toNat 0) :: st) n σ) : K d M Post b pc ls ((0, i) :: (2, -3) :: st) n σ := by
  intro p l e s m args below meth cd X H locs cells slots mc ms Qc arr ⟨hF, hP, hlv, h1, h2, h3⟩
  refine va_ti hF.1 hF.2.1 hF.2.2.2.2.2.2.2.2.2.2.1.2 hP.2.1 (k_vin h0 hlt (by omega)) (v := .int (Int32.ofInt (kSouth.getD i.toNat 0))) (by rw [k_clamp h0 (by omega)]; rfl) hd ?_
  refine k p l e s m args below meth cd X H locs cells slots mc ms Qc arr ⟨hF, hP, hlv, h1, khc ?_ (kht (kht h2)), h3⟩
  rcases (show i = 0 ∨ i = 1 ∨ i = 2 ∨ i = 3 ∨ i = 4 ∨ i = 5 ∨ i = 6 ∨ i = 7 by omega) with rfl | rfl | rfl | rfl | rfl | rfl | rfl | rfl <;> exact ⟨by decide, by decide⟩
/-! the script -/
theorem K_sld {i : Int} (hd : decode M.2.1 pc = .ok (.iaload, 1)) (h0 : 0 ≤ i) (hlt : i < σ (-4) (-1)) (k : K d M Post b (pc + 1) ls ((0, σ (-4) i) :: st) n σ) : K d M Post b pc ls ((0, i) :: (2, -4) :: st) n σ := by
  intro p l e s m args below meth cd X H locs cells slots mc ms Qc arr ⟨hF, hP, hlv, h1, h2, h3⟩
  obtain ⟨g1, g2, g3, g4⟩ := hP.2.2.2.2.2
  have hlt2 : X.2.1 (-4) < s.heap.size := by obtain ⟨c, hc, -⟩ := g1; exact (Array.getElem?_eq_some_iff.mp hc).1
  refine va_sld hF.1 hF.2.1 g1 hlt2 g2 hP.2.1 (k_vin h0 (by omega) (by omega)) hd ?_
  rw [k_clamp h0 (by omega)]
  have kk := k p l e s m args below meth cd X H locs cells slots mc ms Qc arr ⟨hF, hP, hlv, h1, khc (v := (0, σ (-4) i)) (g4 i h0 hlt) (kht (kht h2)), h3⟩
  show W p l e (kRm d mc ms) s m args below meth cd H locs cells slots _ (F0 m (pc + 1) arr (.int (Int32.ofInt (σ (-4) (i.toNat : Int))) :: st.map (kcv X)))
  rw [k_toNat h0]
  exact kk
theorem K_slen (hd : decode M.2.1 pc = .ok (.arraylength, 1)) (k : K d M Post b (pc + 1) ls ((0, σ (-4) (-1)) :: st) n σ) : K d M Post b pc ls ((2, -4) :: st) n σ := by
  intro p l e s m args below meth cd X H locs cells slots mc ms Qc arr ⟨hF, hP, hlv, h1, h2, h3⟩
  obtain ⟨g1, g2, g3, g4⟩ := hP.2.2.2.2.2
  have hlt2 : X.2.1 (-4) < s.heap.size := by obtain ⟨c, hc, -⟩ := g1; exact (Array.getElem?_eq_some_iff.mp hc).1
  have hv : kok (0, σ (-4) (-1)) := ⟨by omega, by omega⟩
  have e1 : Int32.ofNat (σ (-4) (-1)).toNat = Int32.ofInt (σ (-4) (-1)) := by
    apply k32_inj
    rw [k32 hv, Int32.toInt_ofNat_of_lt (by omega)]
    omega
  refine va_slen hF.1 hF.2.1 g1 hlt2 g2 hP.2.1 hd ?_
  rw [e1]
  exact k p l e s m args below meth cd X H locs cells slots mc ms Qc arr ⟨hF, hP, hlv, h1, khc hv (kht h2), h3⟩
/-! the two texts -/
theorem K_ldcY (hd : decode M.2.1 pc = .ok (.ldc 44, 2)) (ho : M.1.cls = "OldRoadsModel") (k : K d M Post b (pc + 2) ls ((2, -5) :: st) n σ) : K d M Post b pc ls st n σ := by
  intro p l e s m args below meth cd X H locs cells slots mc ms Qc arr ⟨hF, hP, hlv, h1, h2, h3⟩
  have f6 := hF.2.2.2.2.2.1
  rw [ho] at f6
  refine va_ldcS hF.1 hF.2.1 f6 hF.2.2.2.2.2.2.2.2.2.2.2.1 hd ?_
  exact k p l e s m args below meth cd X H locs cells slots mc ms Qc arr ⟨hF, hP, hlv, h1, khc (v := (2, -5)) trivial h2, h3⟩
theorem K_ldcU (hd : decode M.2.1 pc = .ok (.ldc 50, 2)) (ho : M.1.cls = "OldRoadsModel") (k : K d M Post b (pc + 2) ls ((2, -6) :: st) n σ) : K d M Post b pc ls st n σ := by
  intro p l e s m args below meth cd X H locs cells slots mc ms Qc arr ⟨hF, hP, hlv, h1, h2, h3⟩
  have f6 := hF.2.2.2.2.2.1
  rw [ho] at f6
  refine va_ldcS hF.1 hF.2.1 f6 hF.2.2.2.2.2.2.2.2.2.2.2.2.1 hd ?_
  exact k p l e s m args below meth cd X H locs cells slots mc ms Qc arr ⟨hF, hP, hlv, h1, khc (v := (2, -6)) trivial h2, h3⟩
end KP
