/-! sights: the class's trace -/
def hopK (a b : Int) (k : Nat) : List Int := (List.range k).map fun j : Nat => btw a b ((j : Int) + 1) (apart a b)
theorem hopK_s {a b : Int} {k : Nat} : hopK a b (k + 1) = hopK a b k ++ [btw a b ((k : Int) + 1) (apart a b)] := by
  unfold hopK
  rw [List.range_succ, List.map_append]
  rfl
theorem hopK_len {a b : Int} {k : Nat} : (hopK a b k).length = k := by
  unfold hopK
  rw [List.length_map, List.length_range]
def trL (y : Nat → Int) : Nat → List Int
  | 0 => [y 0]
  | m + 1 => trL y m ++ hopK (y m) (y (m + 1)) (apart (y m) (y (m + 1))).toNat
theorem trL_len {y : Nat → Int} : ∀ m : Nat, (∀ j, j ≤ m → 0 ≤ y j ∧ y j < 120) → (trL y m).length ≤ 1 + 11 * m := by
  intro m
  induction m with
  | zero => intro _; exact Nat.le_refl _
  | succ m ih =>
    intro h
    have h1 := ih (fun j hj => h j (by omega))
    have h2 := apart_cells (h m (by omega)) (h (m + 1) (by omega))
    rw [trL, List.length_append, hopK_len]
    omega
theorem X_trace {d : Nat} (hd : 4 ≤ d) {σ : kS} {m : Nat} {Q : kS → Prop} (hL : Lay σ) (hr : RowC σ 43) (hm : σ 43 1 = (m : Int) + 1) (hm11 : m ≤ 11) (h45 : RowOK σ 45) (h : ∀ s, off [45, 46] σ s → Lay s → RowOK s 45 → rowL s 45 = trL (fun j : Nat => σ 44 j) m → Q s) : Cv d MX9_trace [(2, 40)] kN σ Q := by
  obtain ⟨d, rfl⟩ : ∃ e, d = e + 1 := ⟨d - 1, by omega⟩
  have k46 : klen (45 + 1) = 128 := kl_46
  have hcell : ∀ j : Nat, j ≤ m → 0 ≤ σ 44 (j : Int) ∧ σ 44 (j : Int) < 120 := fun j hj => hr.2 j (by omega) (by omega)
  have hlen : ∀ j : Nat, j ≤ m → (trL (fun j : Nat => σ 44 j) j).length ≤ 1 + 11 * j := fun j hj => trL_len j (fun i hi => hcell i (by omega))
  have key27 : ∀ i : Int, ∀ v : kS, 1 ≤ i → i ≤ (m : Int) + 1 → off [45, 46] σ v → Lay v → RowOK v 45 → rowL v 45 = trL (fun j : Nat => σ 44 j) (i - 1).toNat → LX9_trace_27 d kN Q 40 i v := by
    refine up_to (e := (m : Int) + 1) ?_
    intro i ih v i1 im ho hLv h45v hrow
    have e43 : v 43 = σ 43 := ho 43 (by decide)
    have e44 : v 44 = σ 44 := ho 44 (by decide)
    have hrv : RowC v 43 := hr.cong e43 e44
    refine SX9_trace_27 ⟨o_40, ?_⟩
    rw [ly_40_2 hLv, e43, hm]
    refine ⟨o_43, fun q => ?_, fun q => ⟨by omega, Row_atI (by omega) hLv hrv.1 (by rw [e43, hm]; omega) ?_⟩⟩
    · rw [show i = (m : Int) + 1 by omega, show ((m : Int) + 1 - 1).toNat = m by omega] at hrow
      exact h v ho hLv h45v hrow
    · obtain ⟨j, hj⟩ : ∃ j : Nat, i = (j : Int) + 1 := ⟨(i - 1).toNat, by omega⟩
      have hjm : j + 1 ≤ m := by omega
      have c0 := hcell j (by omega)
      have c1 := hcell (j + 1) hjm
      have ei0 : i - 1 = (j : Int) := by omega
      have ei1 : i = ((j + 1 : Nat) : Int) := by omega
      have hap := apart_cells c0 c1
      have hap0 := apart_nn (a := σ 44 (j : Int)) (b := σ 44 ((j + 1 : Nat) : Int))
      have at0 : v (43 + 1) (i - 1) = σ 44 (j : Int) := by rw [ei0]; exact congrFun e44 _
      have at1 : v (43 + 1) i = σ 44 ((j + 1 : Nat) : Int) := by
        rw [show v (43 + 1) i = v 44 i from rfl, e44, ei1]
      rw [at0, ly_40_2 hLv]
      refine ⟨o_43, Row_atI (by omega) hLv hrv.1 (by rw [e43, hm]; omega) ?_⟩
      rw [at1]
      refine X_apart (by omega) c0.1 c1.1 ?_
      have key62 : ∀ k : Int, ∀ w : kS, 1 ≤ k → k ≤ apart (σ 44 (j : Int)) (σ 44 ((j + 1 : Nat) : Int)) + 1 → off [45, 46] σ w → Lay w → RowOK w 45 → rowL w 45 = trL (fun j : Nat => σ 44 j) j ++ hopK (σ 44 (j : Int)) (σ 44 ((j + 1 : Nat) : Int)) (k - 1).toNat → LX9_trace_62 d kN Q 40 i (apart (σ 44 (j : Int)) (σ 44 ((j + 1 : Nat) : Int))) k w := by
        refine up_to (e := apart (σ 44 (j : Int)) (σ 44 ((j + 1 : Nat) : Int)) + 1) ?_
        intro k ihk w k1 kn how hLw h45w hroww
        have f43 : w 43 = σ 43 := how 43 (by decide)
        have f44 : w 44 = σ 44 := how 44 (by decide)
        have hrw : RowC w 43 := hr.cong f43 f44
        refine SX9_trace_62 ⟨fun q2 => ⟨by omega, ih (by omega) w (by omega) (by omega) how hLw h45w ?_⟩, fun q2 => ⟨o_40, by omega, ?_⟩⟩
        · rw [hroww, show (i + 1 - 1).toNat = j + 1 by omega, trL, show (k - 1).toNat = (apart (σ 44 (j : Int)) (σ 44 ((j + 1 : Nat) : Int))).toNat by omega]
        · have bt0 : w (43 + 1) (i - 1) = σ 44 (j : Int) := by rw [ei0]; exact congrFun f44 _
          have bt1 : w (43 + 1) i = σ 44 ((j + 1 : Nat) : Int) := by
            rw [show w (43 + 1) i = w 44 i from rfl, f44, ei1]
          rw [ly_40_2 hLw]
          refine ⟨o_43, Row_atI (by omega) hLw hrw.1 (by rw [f43, hm]; omega) ?_⟩
          rw [bt0, ly_40_2 hLw]
          refine ⟨o_43, Row_atI (by omega) hLw hrw.1 (by rw [f43, hm]; omega) ?_⟩
          rw [bt1]
          refine Sight_cellBetween (by omega) c0 c1 (by omega) (by omega) ?_
          rw [ly_40_3 hLw]
          have hl1 := hlen j (by omega)
          have hl2 : (rowL w 45).length = (trL (fun j : Nat => σ 44 j) j).length + (k - 1).toNat := by rw [hroww, List.length_append, hopK_len]
          rw [rowL_len] at hl2
          have hw45 := h45w.2
          refine ⟨o_45, Row_add (by omega) hLw h45w (fun z => ⟨by omega, ihk (by omega) _ (by omega) (by omega) (rowPush_off how (by decide) (by decide)) ((hLw.kstA a_46).kstO 1 o_45 (by decide)) ⟨o_45, by rw [rowPush_0]; omega, by rw [rowPush_0]; omega⟩ ?_⟩) (fun z => by omega)⟩
          rw [rowPush_L hw45.1, hroww, List.append_assoc, show (k + 1 - 1).toNat = (k - 1).toNat + 1 by omega, hopK_s, show (((k - 1).toNat : Nat) : Int) + 1 = k by omega]
      refine key62 1 v (by omega) (by omega) ho hLv h45v ?_
      rw [hrow, ei0, show ((j : Int)).toNat = j by omega]
      show trL (fun j : Nat => σ 44 j) j = trL (fun j : Nat => σ 44 j) j ++ []
      rw [List.append_nil]
  refine EX9_trace fun _ => SX9_trace_0 ⟨o_40, ?_⟩
  rw [ly_40_3 hL]
  refine ⟨o_45, Row_cut (by omega) o_45 (fun _ _ => ?_) (fun z => by have := h45.2; omega)⟩
  have L1 : Lay (kst σ 45 1 0) := hL.kstO 1 o_45 (by decide)
  have e0 : kst σ 45 1 0 45 1 = 0 := kst_eq
  have e43 : kst σ 45 1 0 43 = σ 43 := kst_k (by decide)
  have e44 : kst σ 45 1 0 44 = σ 44 := kst_k (by decide)
  rw [ly_40_2 L1]
  refine ⟨o_43, Row_atI (by omega) L1 (hr.1.cong e43) (by rw [e43, hm]; omega) ?_⟩
  rw [ly_40_3 L1]
  have at0 : kst σ 45 1 0 (43 + 1) 0 = σ 44 0 := congrFun e44 0
  rw [at0]
  refine ⟨o_45, Row_add (by omega) L1 ⟨o_45, by rw [e0]; omega, by rw [e0]; omega⟩ (fun _ => ?_) (fun z => by rw [e0] at z; omega)⟩
  refine key27 1 _ (by omega) (by omega) (rowPush_off (off.rfl'.kst (by decide)) (by decide) (by decide)) ((L1.kstA a_46).kstO 1 o_45 (by decide)) ⟨o_45, by rw [rowPush_0, e0]; omega, by rw [rowPush_0, e0]; omega⟩ ?_
  rw [rowPush_L (by rw [e0]; omega), cut_L]
  rfl
