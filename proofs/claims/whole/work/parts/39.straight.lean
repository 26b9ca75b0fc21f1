/-! Sight: hopStraight -/
theorem cut_L {σ : kS} {r : Int} : rowL (kst σ r 1 0) r = [] := by
  rw [rowL_seg, kst_eq]
  exact seg_nil (Int.le_refl 0)
theorem Sight_hopStraight {d : Nat} (hd : 2 ≤ d) {σ : kS} {a b : Int} {Q : kS → Prop} (hL : Lay σ) (h43 : 0 ≤ σ 43 1) (h : ∀ s, off [43, 44] σ s → Lay s → RowOK s 43 → rowL s 43 = (if a = b then [a] else [a, b]) → Q s) : Cv d MX9_hopStraight [(2, 40), (0, a), (0, b)] kN σ Q := by
  obtain ⟨d, rfl⟩ : ∃ e, d = e + 1 := ⟨d - 1, by omega⟩
  have k44 : klen (43 + 1) = 120 := kl_44
  refine EX9_hopStraight fun _ _ _ => SX9_hopStraight_0 ?_
  rw [ly_40_2 hL]
  refine ⟨o_40, o_43, Row_cut (by omega) o_43 (fun _ _ => ?_) (fun e => by omega)⟩
  have hL1 : Lay (kst σ 43 1 0) := hL.kstO 1 o_43 (by decide)
  have e0 : kst σ 43 1 0 43 1 = 0 := kst_eq
  have o1 : off [43, 44] σ (kst σ 43 1 0) := off.rfl'.kst (by decide)
  rw [ly_40_2 hL1]
  refine ⟨o_43, Row_add (by omega) hL1 ⟨o_43, by omega, by omega⟩ (fun _ => ?_) (fun e => by omega)⟩
  have hL2 := lay_row (L := hL1) (x := a) o_43
  have e1 : rowPush (kst σ 43 1 0) 43 a 43 1 = 1 := by rw [rowPush_0, e0]; rfl
  have o2 : off [43, 44] σ (rowPush (kst σ 43 1 0) 43 a) := rowPush_off o1 (by decide) (by decide)
  have l2 : rowL (rowPush (kst σ 43 1 0) 43 a) 43 = [a] := by rw [rowPush_L (by omega), cut_L]; rfl
  refine ⟨fun e => h _ o2 hL2 ⟨o_43, by omega, by omega⟩ (by rw [l2, if_pos e]), fun e => ?_⟩
  rw [ly_40_2 hL2]
  refine ⟨o_43, Row_add (by omega) hL2 ⟨o_43, by omega, by omega⟩ (fun _ => ?_) (fun e => by omega)⟩
  have e2 := rowPush_0 (σ := rowPush (kst σ 43 1 0) 43 a) (r := 43) (x := b)
  exact h _ (rowPush_off o2 (by decide) (by decide)) (lay_row (L := hL2) o_43) ⟨o_43, by omega, by omega⟩ (by rw [rowPush_L (by omega), l2, if_neg e]; rfl)
