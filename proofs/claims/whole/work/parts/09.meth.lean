/-! the words of the tables among TB, the methods, their links: by program -/
theorem tb1 {w : Cond} (i : Nat) (hi : tables_1_1[i]? = some w) (hg : kgw w = true) : w ∈ TB := by
  have h : w ∈ tables_1_1 := List.mem_of_getElem? hi
  have h2 : w ∈ tables_1 := List.mem_append_left _ h
  exact List.mem_filter.mpr ⟨List.mem_append_right _ h2, hg⟩
theorem tb2 {w : Cond} (i : Nat) (hi : tables_1_2[i]? = some w) (hg : kgw w = true) : w ∈ TB := by
  have h : w ∈ tables_1_2 := List.mem_of_getElem? hi
  have h2 : w ∈ tables_1 := List.mem_append_right _ (List.mem_append_left _ h)
  exact List.mem_filter.mpr ⟨List.mem_append_right _ h2, hg⟩
theorem tb3 {w : Cond} (i : Nat) (hi : tables_1_3[i]? = some w) (hg : kgw w = true) : w ∈ TB := by
  have h : w ∈ tables_1_3 := List.mem_of_getElem? hi
  have h2 : w ∈ tables_1 := List.mem_append_right _ (List.mem_append_right _ (List.mem_append_left _ h))
  exact List.mem_filter.mpr ⟨List.mem_append_right _ h2, hg⟩
theorem tb4 {w : Cond} (i : Nat) (hi : tables_1_4[i]? = some w) (hg : kgw w = true) : w ∈ TB := by
  have h : w ∈ tables_1_4 := List.mem_of_getElem? hi
  have h2 : w ∈ tables_1 := List.mem_append_right _ (List.mem_append_right _ (List.mem_append_right _ (List.mem_append_left _ h)))
  exact List.mem_filter.mpr ⟨List.mem_append_right _ h2, hg⟩
theorem tb5 {w : Cond} (i : Nat) (hi : tables_1_5[i]? = some w) (hg : kgw w = true) : w ∈ TB := by
  have h : w ∈ tables_1_5 := List.mem_of_getElem? hi
  have h2 : w ∈ tables_1 := List.mem_append_right _ (List.mem_append_right _ (List.mem_append_right _ (List.mem_append_right _ (List.mem_append_left _ h))))
  exact List.mem_filter.mpr ⟨List.mem_append_right _ h2, hg⟩
theorem tb6 {w : Cond} (i : Nat) (hi : tables_1_6[i]? = some w) (hg : kgw w = true) : w ∈ TB := by
  have h : w ∈ tables_1_6 := List.mem_of_getElem? hi
  have h2 : w ∈ tables_1 := List.mem_append_right _ (List.mem_append_right _ (List.mem_append_right _ (List.mem_append_right _ (List.mem_append_right _ (List.mem_append_left _ h)))))
  exact List.mem_filter.mpr ⟨List.mem_append_right _ h2, hg⟩
theorem tb7 {w : Cond} (i : Nat) (hi : tables_1_7[i]? = some w) (hg : kgw w = true) : w ∈ TB := by
  have h : w ∈ tables_1_7 := List.mem_of_getElem? hi
  have h2 : w ∈ tables_1 := List.mem_append_right _ (List.mem_append_right _ (List.mem_append_right _ (List.mem_append_right _ (List.mem_append_right _ (List.mem_append_right _ (List.mem_append_left _ h))))))
  exact List.mem_filter.mpr ⟨List.mem_append_right _ h2, hg⟩
theorem tb8 {w : Cond} (i : Nat) (hi : tables_1_8[i]? = some w) (hg : kgw w = true) : w ∈ TB := by
  have h : w ∈ tables_1_8 := List.mem_of_getElem? hi
  have h2 : w ∈ tables_1 := List.mem_append_right _ (List.mem_append_right _ (List.mem_append_right _ (List.mem_append_right _ (List.mem_append_right _ (List.mem_append_right _ (List.mem_append_right _ (List.mem_append_left _ h)))))))
  exact List.mem_filter.mpr ⟨List.mem_append_right _ h2, hg⟩
theorem tb9 {w : Cond} (i : Nat) (hi : tables_1_9[i]? = some w) (hg : kgw w = true) : w ∈ TB := by
  have h : w ∈ tables_1_9 := List.mem_of_getElem? hi
  have h2 : w ∈ tables_1 := List.mem_append_right _ (List.mem_append_right _ (List.mem_append_right _ (List.mem_append_right _ (List.mem_append_right _ (List.mem_append_right _ (List.mem_append_right _ (List.mem_append_right _ (h))))))))
  exact List.mem_filter.mpr ⟨List.mem_append_right _ h2, hg⟩
theorem tbS {w : Cond} (i : Nat) (hi : (k2_sels lw_privs)[i]? = some w) (hg : kgw w = true) : w ∈ TB := List.mem_filter.mpr ⟨List.mem_append_left _ (List.mem_of_getElem? hi), hg⟩
theorem kdA {cc : ByteArray} {l : List (Nat × Instr × Nat)} (h : l.all (fun q => decide (decode cc q.1 = .ok q.2)) = true) (i : Nat) {pc : Nat} {x : Instr × Nat} (hi : l[i]? = some (pc, x)) : decode cc pc = .ok x :=
  of_decide_eq_true (List.all_eq_true.mp h (pc, x) (List.mem_of_getElem? hi))
theorem uw0 : ∀ w ∈ u_ws RX0 TX0 3, w ∈ TB := by
  have h : (u_ws RX0 TX0 3).all (fun w => decide (w ∈ lw_tbl) && kgw w) = true := by decide +kernel
  intro w hw
  have h1 := List.all_eq_true.mp h w hw
  simp only [Bool.and_eq_true, decide_eq_true_eq] at h1
  exact List.mem_filter.mpr h1
theorem ft0 : kFT 0 TX0 3 tyX0 := ⟨tyX0_ok, nmX0, fun k hk => by
  match k, hk with
  | 0, _ => exact Or.inr (Or.inr (Or.inr ⟨rfl, Or.inl ⟨_, rfl⟩⟩))
  | 1, _ => exact Or.inr (Or.inr (Or.inr ⟨rfl, Or.inl ⟨_, rfl⟩⟩))
  | 2, _ => exact Or.inl ⟨rfl, rfl⟩
  | k + 3, hk => exact absurd hk (by omega)⟩
theorem uw1 : ∀ w ∈ u_ws RX1 TX1 5, w ∈ TB := by
  have h : (u_ws RX1 TX1 5).all (fun w => decide (w ∈ lw_tbl) && kgw w) = true := by decide +kernel
  intro w hw
  have h1 := List.all_eq_true.mp h w hw
  simp only [Bool.and_eq_true, decide_eq_true_eq] at h1
  exact List.mem_filter.mpr h1
theorem ft1 : kFT 1 TX1 5 tyX1 := ⟨tyX1_ok, nmX1, fun k hk => by
  match k, hk with
  | 0, _ => exact Or.inr (Or.inr (Or.inr ⟨rfl, Or.inr ⟨_, rfl⟩⟩))
  | 1, _ => exact Or.inr (Or.inl ⟨rfl, rfl⟩)
  | 2, _ => exact Or.inl ⟨rfl, rfl⟩
  | 3, _ => exact Or.inl ⟨rfl, rfl⟩
  | 4, _ => exact Or.inr (Or.inr (Or.inl ⟨rfl, rfl⟩))
  | k + 5, hk => exact absurd hk (by omega)⟩
theorem uw2 : ∀ w ∈ u_ws RX2 TX2 3, w ∈ TB := by
  have h : (u_ws RX2 TX2 3).all (fun w => decide (w ∈ lw_tbl) && kgw w) = true := by decide +kernel
  intro w hw
  have h1 := List.all_eq_true.mp h w hw
  simp only [Bool.and_eq_true, decide_eq_true_eq] at h1
  exact List.mem_filter.mpr h1
theorem ft2 : kFT 2 TX2 3 tyX2 := ⟨tyX2_ok, nmX2, fun k hk => by
  match k, hk with
  | 0, _ => exact Or.inr (Or.inr (Or.inr ⟨rfl, Or.inl ⟨_, rfl⟩⟩))
  | 1, _ => exact Or.inr (Or.inr (Or.inr ⟨rfl, Or.inl ⟨_, rfl⟩⟩))
  | 2, _ => exact Or.inr (Or.inr (Or.inr ⟨rfl, Or.inl ⟨_, rfl⟩⟩))
  | k + 3, hk => exact absurd hk (by omega)⟩
theorem uw3 : ∀ w ∈ u_ws RX3 TX3 5, w ∈ TB := by
  have h : (u_ws RX3 TX3 5).all (fun w => decide (w ∈ lw_tbl) && kgw w) = true := by decide +kernel
  intro w hw
  have h1 := List.all_eq_true.mp h w hw
  simp only [Bool.and_eq_true, decide_eq_true_eq] at h1
  exact List.mem_filter.mpr h1
theorem ft3 : kFT 3 TX3 5 tyX3 := ⟨tyX3_ok, nmX3, fun k hk => by
  match k, hk with
  | 0, _ => exact Or.inr (Or.inr (Or.inr ⟨rfl, Or.inr ⟨_, rfl⟩⟩))
  | 1, _ => exact Or.inr (Or.inr (Or.inr ⟨rfl, Or.inr ⟨_, rfl⟩⟩))
  | 2, _ => exact Or.inl ⟨rfl, rfl⟩
  | 3, _ => exact Or.inl ⟨rfl, rfl⟩
  | 4, _ => exact Or.inr (Or.inr (Or.inr ⟨rfl, Or.inr ⟨_, rfl⟩⟩))
  | k + 5, hk => exact absurd hk (by omega)⟩
theorem uw4 : ∀ w ∈ u_ws RX4 TX4 3, w ∈ TB := by
  have h : (u_ws RX4 TX4 3).all (fun w => decide (w ∈ lw_tbl) && kgw w) = true := by decide +kernel
  intro w hw
  have h1 := List.all_eq_true.mp h w hw
  simp only [Bool.and_eq_true, decide_eq_true_eq] at h1
  exact List.mem_filter.mpr h1
theorem ft4 : kFT 4 TX4 3 tyX4 := ⟨tyX4_ok, nmX4, fun k hk => by
  match k, hk with
  | 0, _ => exact Or.inr (Or.inr (Or.inr ⟨rfl, Or.inl ⟨_, rfl⟩⟩))
  | 1, _ => exact Or.inr (Or.inr (Or.inr ⟨rfl, Or.inl ⟨_, rfl⟩⟩))
  | 2, _ => exact Or.inl ⟨rfl, rfl⟩
  | k + 3, hk => exact absurd hk (by omega)⟩
theorem uw5 : ∀ w ∈ u_ws RX5 TX5 1, w ∈ TB := by
  have h : (u_ws RX5 TX5 1).all (fun w => decide (w ∈ lw_tbl) && kgw w) = true := by decide +kernel
  intro w hw
  have h1 := List.all_eq_true.mp h w hw
  simp only [Bool.and_eq_true, decide_eq_true_eq] at h1
  exact List.mem_filter.mpr h1
theorem ft5 : kFT 5 TX5 1 tyX5 := ⟨tyX5_ok, nmX5, fun k hk => by
  match k, hk with
  | 0, _ => exact Or.inr (Or.inr (Or.inr ⟨rfl, Or.inr ⟨_, rfl⟩⟩))
  | k + 1, hk => exact absurd hk (by omega)⟩
theorem uw6 : ∀ w ∈ u_ws RX6 TX6 2, w ∈ TB := by
  have h : (u_ws RX6 TX6 2).all (fun w => decide (w ∈ lw_tbl) && kgw w) = true := by decide +kernel
  intro w hw
  have h1 := List.all_eq_true.mp h w hw
  simp only [Bool.and_eq_true, decide_eq_true_eq] at h1
  exact List.mem_filter.mpr h1
theorem ft6 : kFT 6 TX6 2 tyX6 := ⟨tyX6_ok, nmX6, fun k hk => by
  match k, hk with
  | 0, _ => exact Or.inr (Or.inr (Or.inr ⟨rfl, Or.inr ⟨_, rfl⟩⟩))
  | 1, _ => exact Or.inl ⟨rfl, rfl⟩
  | k + 2, hk => exact absurd hk (by omega)⟩
theorem uw7 : ∀ w ∈ u_ws RX7 TX7 3, w ∈ TB := by
  have h : (u_ws RX7 TX7 3).all (fun w => decide (w ∈ lw_tbl) && kgw w) = true := by decide +kernel
  intro w hw
  have h1 := List.all_eq_true.mp h w hw
  simp only [Bool.and_eq_true, decide_eq_true_eq] at h1
  exact List.mem_filter.mpr h1
theorem ft7 : kFT 7 TX7 3 tyX7 := ⟨tyX7_ok, nmX7, fun k hk => by
  match k, hk with
  | 0, _ => exact Or.inr (Or.inr (Or.inr ⟨rfl, Or.inl ⟨_, rfl⟩⟩))
  | 1, _ => exact Or.inr (Or.inr (Or.inr ⟨rfl, Or.inl ⟨_, rfl⟩⟩))
  | 2, _ => exact Or.inr (Or.inr (Or.inr ⟨rfl, Or.inl ⟨_, rfl⟩⟩))
  | k + 3, hk => exact absurd hk (by omega)⟩
theorem uw8 : ∀ w ∈ u_ws RX8 TX8 2, w ∈ TB := by
  have h : (u_ws RX8 TX8 2).all (fun w => decide (w ∈ lw_tbl) && kgw w) = true := by decide +kernel
  intro w hw
  have h1 := List.all_eq_true.mp h w hw
  simp only [Bool.and_eq_true, decide_eq_true_eq] at h1
  exact List.mem_filter.mpr h1
theorem ft8 : kFT 8 TX8 2 tyX8 := ⟨tyX8_ok, nmX8, fun k hk => by
  match k, hk with
  | 0, _ => exact Or.inr (Or.inr (Or.inr ⟨rfl, Or.inr ⟨_, rfl⟩⟩))
  | 1, _ => exact Or.inl ⟨rfl, rfl⟩
  | k + 2, hk => exact absurd hk (by omega)⟩
theorem uw9 : ∀ w ∈ u_ws RX9 TX9 4, w ∈ TB := by
  have h : (u_ws RX9 TX9 4).all (fun w => decide (w ∈ lw_tbl) && kgw w) = true := by decide +kernel
  intro w hw
  have h1 := List.all_eq_true.mp h w hw
  simp only [Bool.and_eq_true, decide_eq_true_eq] at h1
  exact List.mem_filter.mpr h1
theorem ft9 : kFT 9 TX9 4 tyX9 := ⟨tyX9_ok, nmX9, fun k hk => by
  match k, hk with
  | 0, _ => exact Or.inr (Or.inr (Or.inr ⟨rfl, Or.inr ⟨_, rfl⟩⟩))
  | 1, _ => exact Or.inr (Or.inr (Or.inr ⟨rfl, Or.inr ⟨_, rfl⟩⟩))
  | 2, _ => exact Or.inr (Or.inr (Or.inr ⟨rfl, Or.inl ⟨_, rfl⟩⟩))
  | 3, _ => exact Or.inr (Or.inr (Or.inr ⟨rfl, Or.inl ⟨_, rfl⟩⟩))
  | k + 4, hk => exact absurd hk (by omega)⟩
theorem uw10 : ∀ w ∈ u_ws RX10 TX10 15, w ∈ TB := by
  have h : (u_ws RX10 TX10 15).all (fun w => decide (w ∈ lw_tbl) && kgw w) = true := by decide +kernel
  intro w hw
  have h1 := List.all_eq_true.mp h w hw
  simp only [Bool.and_eq_true, decide_eq_true_eq] at h1
  exact List.mem_filter.mpr h1
theorem ft10 : kFT 10 TX10 15 tyX10 := ⟨tyX10_ok, nmX10, fun k hk => by
  match k, hk with
  | 0, _ => exact Or.inr (Or.inr (Or.inr ⟨rfl, Or.inr ⟨_, rfl⟩⟩))
  | 1, _ => exact Or.inr (Or.inr (Or.inr ⟨rfl, Or.inr ⟨_, rfl⟩⟩))
  | 2, _ => exact Or.inr (Or.inr (Or.inr ⟨rfl, Or.inr ⟨_, rfl⟩⟩))
  | 3, _ => exact Or.inr (Or.inr (Or.inr ⟨rfl, Or.inr ⟨_, rfl⟩⟩))
  | 4, _ => exact Or.inr (Or.inr (Or.inr ⟨rfl, Or.inr ⟨_, rfl⟩⟩))
  | 5, _ => exact Or.inl ⟨rfl, rfl⟩
  | 6, _ => exact Or.inr (Or.inr (Or.inr ⟨rfl, Or.inr ⟨_, rfl⟩⟩))
  | 7, _ => exact Or.inr (Or.inr (Or.inr ⟨rfl, Or.inr ⟨_, rfl⟩⟩))
  | 8, _ => exact Or.inr (Or.inr (Or.inr ⟨rfl, Or.inr ⟨_, rfl⟩⟩))
  | 9, _ => exact Or.inr (Or.inr (Or.inr ⟨rfl, Or.inr ⟨_, rfl⟩⟩))
  | 10, _ => exact Or.inr (Or.inr (Or.inr ⟨rfl, Or.inl ⟨_, rfl⟩⟩))
  | 11, _ => exact Or.inl ⟨rfl, rfl⟩
  | 12, _ => exact Or.inr (Or.inr (Or.inl ⟨rfl, rfl⟩))
  | 13, _ => exact Or.inr (Or.inr (Or.inr ⟨rfl, Or.inl ⟨_, rfl⟩⟩))
  | 14, _ => exact Or.inr (Or.inr (Or.inr ⟨rfl, Or.inl ⟨_, rfl⟩⟩))
  | k + 15, hk => exact absurd hk (by omega)⟩
theorem uw11 : ∀ w ∈ u_ws RX11 TX11 20, w ∈ TB := by
  have h : (u_ws RX11 TX11 20).all (fun w => decide (w ∈ lw_tbl) && kgw w) = true := by decide +kernel
  intro w hw
  have h1 := List.all_eq_true.mp h w hw
  simp only [Bool.and_eq_true, decide_eq_true_eq] at h1
  exact List.mem_filter.mpr h1
theorem ft11 : kFT 11 TX11 20 tyX11 := ⟨tyX11_ok, nmX11, fun k hk => by
  match k, hk with
  | 0, _ => exact Or.inr (Or.inr (Or.inr ⟨rfl, Or.inl ⟨_, rfl⟩⟩))
  | 1, _ => exact Or.inr (Or.inr (Or.inr ⟨rfl, Or.inr ⟨_, rfl⟩⟩))
  | 2, _ => exact Or.inl ⟨rfl, rfl⟩
  | 3, _ => exact Or.inr (Or.inr (Or.inr ⟨rfl, Or.inl ⟨_, rfl⟩⟩))
  | 4, _ => exact Or.inr (Or.inr (Or.inr ⟨rfl, Or.inl ⟨_, rfl⟩⟩))
  | 5, _ => exact Or.inr (Or.inr (Or.inr ⟨rfl, Or.inr ⟨_, rfl⟩⟩))
  | 6, _ => exact Or.inl ⟨rfl, rfl⟩
  | 7, _ => exact Or.inr (Or.inr (Or.inr ⟨rfl, Or.inr ⟨_, rfl⟩⟩))
  | 8, _ => exact Or.inl ⟨rfl, rfl⟩
  | 9, _ => exact Or.inr (Or.inr (Or.inr ⟨rfl, Or.inl ⟨_, rfl⟩⟩))
  | 10, _ => exact Or.inr (Or.inr (Or.inr ⟨rfl, Or.inr ⟨_, rfl⟩⟩))
  | 11, _ => exact Or.inl ⟨rfl, rfl⟩
  | 12, _ => exact Or.inr (Or.inr (Or.inr ⟨rfl, Or.inl ⟨_, rfl⟩⟩))
  | 13, _ => exact Or.inr (Or.inr (Or.inr ⟨rfl, Or.inl ⟨_, rfl⟩⟩))
  | 14, _ => exact Or.inr (Or.inr (Or.inr ⟨rfl, Or.inl ⟨_, rfl⟩⟩))
  | 15, _ => exact Or.inr (Or.inr (Or.inr ⟨rfl, Or.inl ⟨_, rfl⟩⟩))
  | 16, _ => exact Or.inr (Or.inr (Or.inr ⟨rfl, Or.inl ⟨_, rfl⟩⟩))
  | 17, _ => exact Or.inr (Or.inr (Or.inr ⟨rfl, Or.inl ⟨_, rfl⟩⟩))
  | 18, _ => exact Or.inr (Or.inr (Or.inr ⟨rfl, Or.inl ⟨_, rfl⟩⟩))
  | 19, _ => exact Or.inr (Or.inr (Or.inr ⟨rfl, Or.inl ⟨_, rfl⟩⟩))
  | k + 20, hk => exact absurd hk (by omega)⟩
theorem uw12 : ∀ w ∈ u_ws RX12 TX12 69, w ∈ TB := by
  have h : (u_ws RX12 TX12 69).all (fun w => decide (w ∈ lw_tbl) && kgw w) = true := by decide +kernel
  intro w hw
  have h1 := List.all_eq_true.mp h w hw
  simp only [Bool.and_eq_true, decide_eq_true_eq] at h1
  exact List.mem_filter.mpr h1
theorem ft12 : kFT 12 TX12 69 tyX12 := ⟨tyX12_ok, nmX12, fun k hk => by
  match k, hk with
  | 0, _ => exact Or.inl ⟨rfl, rfl⟩
  | 1, _ => exact Or.inr (Or.inr (Or.inr ⟨rfl, Or.inr ⟨_, rfl⟩⟩))
  | 2, _ => exact Or.inr (Or.inr (Or.inr ⟨rfl, Or.inr ⟨_, rfl⟩⟩))
  | 3, _ => exact Or.inl ⟨rfl, rfl⟩
  | 4, _ => exact Or.inr (Or.inr (Or.inr ⟨rfl, Or.inr ⟨_, rfl⟩⟩))
  | 5, _ => exact Or.inr (Or.inr (Or.inr ⟨rfl, Or.inr ⟨_, rfl⟩⟩))
  | 6, _ => exact Or.inr (Or.inr (Or.inr ⟨rfl, Or.inr ⟨_, rfl⟩⟩))
  | 7, _ => exact Or.inr (Or.inr (Or.inr ⟨rfl, Or.inr ⟨_, rfl⟩⟩))
  | 8, _ => exact Or.inr (Or.inr (Or.inr ⟨rfl, Or.inr ⟨_, rfl⟩⟩))
  | 9, _ => exact Or.inr (Or.inr (Or.inr ⟨rfl, Or.inr ⟨_, rfl⟩⟩))
  | 10, _ => exact Or.inr (Or.inr (Or.inr ⟨rfl, Or.inr ⟨_, rfl⟩⟩))
  | 11, _ => exact Or.inr (Or.inr (Or.inr ⟨rfl, Or.inr ⟨_, rfl⟩⟩))
  | 12, _ => exact Or.inr (Or.inr (Or.inr ⟨rfl, Or.inr ⟨_, rfl⟩⟩))
  | 13, _ => exact Or.inl ⟨rfl, rfl⟩
  | 14, _ => exact Or.inl ⟨rfl, rfl⟩
  | 15, _ => exact Or.inl ⟨rfl, rfl⟩
  | 16, _ => exact Or.inl ⟨rfl, rfl⟩
  | 17, _ => exact Or.inl ⟨rfl, rfl⟩
  | 18, _ => exact Or.inl ⟨rfl, rfl⟩
  | 19, _ => exact Or.inl ⟨rfl, rfl⟩
  | 20, _ => exact Or.inl ⟨rfl, rfl⟩
  | 21, _ => exact Or.inl ⟨rfl, rfl⟩
  | 22, _ => exact Or.inl ⟨rfl, rfl⟩
  | 23, _ => exact Or.inr (Or.inr (Or.inr ⟨rfl, Or.inl ⟨_, rfl⟩⟩))
  | 24, _ => exact Or.inr (Or.inr (Or.inr ⟨rfl, Or.inl ⟨_, rfl⟩⟩))
  | 25, _ => exact Or.inr (Or.inr (Or.inl ⟨rfl, rfl⟩))
  | 26, _ => exact Or.inr (Or.inr (Or.inr ⟨rfl, Or.inr ⟨_, rfl⟩⟩))
  | 27, _ => exact Or.inr (Or.inr (Or.inr ⟨rfl, Or.inr ⟨_, rfl⟩⟩))
  | 28, _ => exact Or.inr (Or.inr (Or.inr ⟨rfl, Or.inr ⟨_, rfl⟩⟩))
  | 29, _ => exact Or.inr (Or.inr (Or.inr ⟨rfl, Or.inr ⟨_, rfl⟩⟩))
  | 30, _ => exact Or.inl ⟨rfl, rfl⟩
  | 31, _ => exact Or.inr (Or.inr (Or.inr ⟨rfl, Or.inr ⟨_, rfl⟩⟩))
  | 32, _ => exact Or.inr (Or.inr (Or.inr ⟨rfl, Or.inr ⟨_, rfl⟩⟩))
  | 33, _ => exact Or.inr (Or.inr (Or.inr ⟨rfl, Or.inr ⟨_, rfl⟩⟩))
  | 34, _ => exact Or.inl ⟨rfl, rfl⟩
  | 35, _ => exact Or.inr (Or.inr (Or.inr ⟨rfl, Or.inr ⟨_, rfl⟩⟩))
  | 36, _ => exact Or.inr (Or.inr (Or.inr ⟨rfl, Or.inr ⟨_, rfl⟩⟩))
  | 37, _ => exact Or.inr (Or.inr (Or.inr ⟨rfl, Or.inr ⟨_, rfl⟩⟩))
  | 38, _ => exact Or.inl ⟨rfl, rfl⟩
  | 39, _ => exact Or.inr (Or.inr (Or.inr ⟨rfl, Or.inr ⟨_, rfl⟩⟩))
  | 40, _ => exact Or.inr (Or.inr (Or.inr ⟨rfl, Or.inr ⟨_, rfl⟩⟩))
  | 41, _ => exact Or.inl ⟨rfl, rfl⟩
  | 42, _ => exact Or.inr (Or.inr (Or.inr ⟨rfl, Or.inr ⟨_, rfl⟩⟩))
  | 43, _ => exact Or.inr (Or.inr (Or.inr ⟨rfl, Or.inr ⟨_, rfl⟩⟩))
  | 44, _ => exact Or.inr (Or.inr (Or.inr ⟨rfl, Or.inr ⟨_, rfl⟩⟩))
  | 45, _ => exact Or.inr (Or.inr (Or.inr ⟨rfl, Or.inr ⟨_, rfl⟩⟩))
  | 46, _ => exact Or.inr (Or.inr (Or.inr ⟨rfl, Or.inr ⟨_, rfl⟩⟩))
  | 47, _ => exact Or.inr (Or.inr (Or.inr ⟨rfl, Or.inr ⟨_, rfl⟩⟩))
  | 48, _ => exact Or.inr (Or.inr (Or.inr ⟨rfl, Or.inr ⟨_, rfl⟩⟩))
  | 49, _ => exact Or.inl ⟨rfl, rfl⟩
  | 50, _ => exact Or.inr (Or.inr (Or.inr ⟨rfl, Or.inr ⟨_, rfl⟩⟩))
  | 51, _ => exact Or.inr (Or.inr (Or.inr ⟨rfl, Or.inr ⟨_, rfl⟩⟩))
  | 52, _ => exact Or.inr (Or.inr (Or.inr ⟨rfl, Or.inr ⟨_, rfl⟩⟩))
  | 53, _ => exact Or.inr (Or.inr (Or.inr ⟨rfl, Or.inr ⟨_, rfl⟩⟩))
  | 54, _ => exact Or.inl ⟨rfl, rfl⟩
  | 55, _ => exact Or.inr (Or.inr (Or.inr ⟨rfl, Or.inr ⟨_, rfl⟩⟩))
  | 56, _ => exact Or.inr (Or.inr (Or.inr ⟨rfl, Or.inr ⟨_, rfl⟩⟩))
  | 57, _ => exact Or.inr (Or.inr (Or.inr ⟨rfl, Or.inr ⟨_, rfl⟩⟩))
  | 58, _ => exact Or.inl ⟨rfl, rfl⟩
  | 59, _ => exact Or.inr (Or.inr (Or.inr ⟨rfl, Or.inr ⟨_, rfl⟩⟩))
  | 60, _ => exact Or.inr (Or.inr (Or.inr ⟨rfl, Or.inr ⟨_, rfl⟩⟩))
  | 61, _ => exact Or.inl ⟨rfl, rfl⟩
  | 62, _ => exact Or.inl ⟨rfl, rfl⟩
  | 63, _ => exact Or.inr (Or.inr (Or.inl ⟨rfl, rfl⟩))
  | 64, _ => exact Or.inr (Or.inl ⟨rfl, rfl⟩)
  | 65, _ => exact Or.inr (Or.inr (Or.inr ⟨rfl, Or.inr ⟨_, rfl⟩⟩))
  | 66, _ => exact Or.inr (Or.inr (Or.inr ⟨rfl, Or.inr ⟨_, rfl⟩⟩))
  | 67, _ => exact Or.inr (Or.inr (Or.inr ⟨rfl, Or.inr ⟨_, rfl⟩⟩))
  | 68, _ => exact Or.inl ⟨rfl, rfl⟩
  | k + 69, hk => exact absurd hk (by omega)⟩
def MJ0_charAt_5068e : kM := (⟨"java/lang/String", "charAt", "(I)C"⟩, prog_22_method_56_code, 2, Option.some Jvm.ClassFile.FieldType.char)
theorem cl_MJ0_charAt_5068e : kCL MJ0_charAt_5068e 1 := ⟨(tb7 32 rfl rfl), (tb1 15 rfl rfl), ⟨by decide +kernel, by decide +kernel⟩, by decide +kernel, by decide⟩
def MJ0_checkIndex_df160 : kM := (⟨"java/lang/String", "checkIndex", "(II)V"⟩, prog_22_method_155_code, 2, none)
theorem cl_MJ0_checkIndex_df160 : kCL MJ0_checkIndex_df160 2 := ⟨(tb7 42 rfl rfl), (tb1 15 rfl rfl), ⟨by decide +kernel, by decide +kernel⟩, by decide +kernel, by decide⟩
def MJ0_coder_7d493 : kM := (⟨"java/lang/String", "coder", "()B"⟩, prog_22_method_152_code, 1, Option.some Jvm.ClassFile.FieldType.byte)
theorem cl_MJ0_coder_7d493 : kCL MJ0_coder_7d493 0 := ⟨(tb7 26 rfl rfl), (tb1 15 rfl rfl), ⟨by decide +kernel, by decide +kernel⟩, by decide +kernel, by decide⟩
def MJ0_isLatin1_aae02 : kM := (⟨"java/lang/String", "isLatin1", "()Z"⟩, prog_22_method_154_code, 1, Option.some Jvm.ClassFile.FieldType.boolean)
theorem cl_MJ0_isLatin1_aae02 : kCL MJ0_isLatin1_aae02 0 := ⟨(tb7 36 rfl rfl), (tb1 15 rfl rfl), ⟨by decide +kernel, by decide +kernel⟩, by decide +kernel, by decide⟩
def MJ0_length_8abf5 : kM := (⟨"java/lang/String", "length", "()I"⟩, prog_22_method_54_code, 1, Option.some Jvm.ClassFile.FieldType.int)
theorem cl_MJ0_length_8abf5 : kCL MJ0_length_8abf5 0 := ⟨(tb7 22 rfl rfl), (tb1 15 rfl rfl), ⟨by decide +kernel, by decide +kernel⟩, by decide +kernel, by decide⟩
def MJ1_charAt_3b067 : kM := (⟨"java/lang/StringLatin1", "charAt", "([BI)C"⟩, prog_23_method_2_code, 2, Option.some Jvm.ClassFile.FieldType.char)
theorem cl_MJ1_charAt_3b067 : kCL MJ1_charAt_3b067 2 := ⟨(tb7 39 rfl rfl), (tb1 16 rfl rfl), ⟨by decide +kernel, by decide +kernel⟩, by decide +kernel, by decide⟩
def MJ2_charAt_3b067 : kM := (⟨"java/lang/StringUTF16", "charAt", "([BI)C"⟩, prog_24_method_83_code, 2, Option.some Jvm.ClassFile.FieldType.char)
theorem cl_MJ2_charAt_3b067 : kCL MJ2_charAt_3b067 2 := ⟨(tb7 50 rfl rfl), (tb1 18 rfl rfl), ⟨by decide +kernel, by decide +kernel⟩, by decide +kernel, by decide⟩
def MJ2_checkIndex_2214a : kM := (⟨"java/lang/StringUTF16", "checkIndex", "(I[B)V"⟩, prog_24_method_91_code, 2, none)
theorem cl_MJ2_checkIndex_2214a : kCL MJ2_checkIndex_2214a 2 := ⟨(tb7 53 rfl rfl), (tb1 18 rfl rfl), ⟨by decide +kernel, by decide +kernel⟩, by decide +kernel, by decide⟩
def MJ2_getChar_3b067 : kM := (⟨"java/lang/StringUTF16", "getChar", "([BI)C"⟩, prog_24_method_5_code, 2, Option.some Jvm.ClassFile.FieldType.char)
theorem cl_MJ2_getChar_3b067 : kCL MJ2_getChar_3b067 2 := ⟨(tb7 60 rfl rfl), (tb1 18 rfl rfl), ⟨by decide +kernel, by decide +kernel⟩, by decide +kernel, by decide⟩
def MJ2_length_9d52b : kM := (⟨"java/lang/StringUTF16", "length", "([B)I"⟩, prog_24_method_6_code, 1, Option.some Jvm.ClassFile.FieldType.int)
theorem cl_MJ2_length_9d52b : kCL MJ2_length_9d52b 1 := ⟨(tb7 56 rfl rfl), (tb1 18 rfl rfl), ⟨by decide +kernel, by decide +kernel⟩, by decide +kernel, by decide⟩
def MJ3_checkIndex_8e157 : kM := (⟨"jdk/internal/util/Preconditions", "checkIndex", "(IILjava/util/function/BiFunction;)I"⟩, prog_31_method_11_code, 3, Option.some Jvm.ClassFile.FieldType.int)
theorem cl_MJ3_checkIndex_8e157 : kCL MJ3_checkIndex_8e157 3 := ⟨(tb7 47 rfl rfl), (tb1 17 rfl rfl), ⟨by decide +kernel, by decide +kernel⟩, by decide +kernel, by decide⟩
def MJm_abs : kM := (⟨"java/lang/Math", "abs", "(I)I"⟩, prog_20_method_59_code, 1, Option.some Jvm.ClassFile.FieldType.int)
theorem cl_MJm_abs : kCL MJm_abs 1 := ⟨(tb3 163 rfl rfl), (tb1 4 rfl rfl), ⟨by decide +kernel, by decide +kernel⟩, by decide +kernel, by decide⟩
def MJm_bitCount : kM := (⟨"java/lang/Integer", "bitCount", "(I)I"⟩, prog_19_method_49_code, 1, Option.some Jvm.ClassFile.FieldType.int)
theorem cl_MJm_bitCount : kCL MJm_bitCount 1 := ⟨(tb4 213 rfl rfl), (tb1 25 rfl rfl), ⟨by decide +kernel, by decide +kernel⟩, by decide +kernel, by decide⟩
def MJm_fill : kM := (⟨"java/util/Arrays", "fill", "([II)V"⟩, prog_29_method_103_code, 4, none)
theorem cl_MJm_fill : kCL MJm_fill 2 := ⟨(tb3 67 rfl rfl), (tb1 24 rfl rfl), ⟨by decide +kernel, by decide +kernel⟩, by decide +kernel, by decide⟩
def MJm_floorDiv : kM := (⟨"java/lang/Math", "floorDiv", "(II)I"⟩, prog_20_method_47_code, 3, Option.some Jvm.ClassFile.FieldType.int)
theorem cl_MJm_floorDiv : kCL MJm_floorDiv 2 := ⟨(tb3 171 rfl rfl), (tb1 4 rfl rfl), ⟨by decide +kernel, by decide +kernel⟩, by decide +kernel, by decide⟩
def MJm_max : kM := (⟨"java/lang/Math", "max", "(II)I"⟩, prog_20_method_65_code, 2, Option.some Jvm.ClassFile.FieldType.int)
theorem cl_MJm_max : kCL MJm_max 2 := ⟨(tb1 56 rfl rfl), (tb1 4 rfl rfl), ⟨by decide +kernel, by decide +kernel⟩, by decide +kernel, by decide⟩
def MJm_maxL : kM := (⟨"java/lang/Math", "max", "(JJ)J"⟩, prog_20_method_66_code, 4, Option.some Jvm.ClassFile.FieldType.long)
theorem cl_MJm_maxL : kCL MJm_maxL 2 := ⟨(tb3 90 rfl rfl), (tb1 4 rfl rfl), ⟨by decide +kernel, by decide +kernel⟩, by decide +kernel, by decide⟩
def MJm_min : kM := (⟨"java/lang/Math", "min", "(II)I"⟩, prog_20_method_69_code, 2, Option.some Jvm.ClassFile.FieldType.int)
theorem cl_MJm_min : kCL MJm_min 2 := ⟨(tb3 93 rfl rfl), (tb1 4 rfl rfl), ⟨by decide +kernel, by decide +kernel⟩, by decide +kernel, by decide⟩
def MJm_minL : kM := (⟨"java/lang/Math", "min", "(JJ)J"⟩, prog_20_method_70_code, 4, Option.some Jvm.ClassFile.FieldType.long)
theorem cl_MJm_minL : kCL MJm_minL 2 := ⟨(tb3 87 rfl rfl), (tb1 4 rfl rfl), ⟨by decide +kernel, by decide +kernel⟩, by decide +kernel, by decide⟩
def MX0_init : kM := (⟨RX0, "<init>", "()V"⟩, prog_2_method_1_code, 1, none)
theorem cl_MX0_init : kCL MX0_init 0 := ⟨(tb2 57 rfl rfl), (tb1 13 rfl rfl), ⟨by decide +kernel, by decide +kernel⟩, by decide +kernel, by decide⟩
def MX0_isDigit : kM := (⟨RX0, "isDigit", "(LOldRoads$Row;)Z"⟩, prog_2_method_8_code, 2, Option.some Jvm.ClassFile.FieldType.boolean)
theorem cl_MX0_isDigit : kCL MX0_isDigit 1 := ⟨(tb3 37 rfl rfl), (tb1 13 rfl rfl), ⟨by decide +kernel, by decide +kernel⟩, by decide +kernel, by decide⟩
def MX0_milesTold : kM := (⟨RX0, "milesTold", "(I)I"⟩, prog_2_method_4_code, 2, Option.some Jvm.ClassFile.FieldType.int)
theorem cl_MX0_milesTold : kCL MX0_milesTold 1 := ⟨(tb4 118 rfl rfl), (tb1 13 rfl rfl), ⟨by decide +kernel, by decide +kernel⟩, by decide +kernel, by decide⟩
def MX0_reads : kM := (⟨RX0, "reads", "(LOldRoads$Row;I)Z"⟩, prog_2_method_5_code, 4, Option.some Jvm.ClassFile.FieldType.boolean)
theorem cl_MX0_reads : kCL MX0_reads 2 := ⟨(tb3 18 rfl rfl), (tb1 13 rfl rfl), ⟨by decide +kernel, by decide +kernel⟩, by decide +kernel, by decide⟩
def MX0_readsMiles : kM := (⟨RX0, "readsMiles", "(LOldRoads$Row;)Z"⟩, prog_2_method_7_code, 3, Option.some Jvm.ClassFile.FieldType.boolean)
theorem cl_MX0_readsMiles : kCL MX0_readsMiles 1 := ⟨(tb3 33 rfl rfl), (tb1 13 rfl rfl), ⟨by decide +kernel, by decide +kernel⟩, by decide +kernel, by decide⟩
def MX0_readsTown : kM := (⟨RX0, "readsTown", "(LOldRoads$Row;I)Z"⟩, prog_2_method_6_code, 4, Option.some Jvm.ClassFile.FieldType.boolean)
theorem cl_MX0_readsTown : kCL MX0_readsTown 2 := ⟨(tb3 28 rfl rfl), (tb1 13 rfl rfl), ⟨by decide +kernel, by decide +kernel⟩, by decide +kernel, by decide⟩
def MX0_skipBlanks : kM := (⟨RX0, "skipBlanks", "(LOldRoads$Row;)V"⟩, prog_2_method_9_code, 2, none)
theorem cl_MX0_skipBlanks : kCL MX0_skipBlanks 1 := ⟨(tb3 23 rfl rfl), (tb1 13 rfl rfl), ⟨by decide +kernel, by decide +kernel⟩, by decide +kernel, by decide⟩
def MX0_stages : kM := (⟨RX0, "stages", "()I"⟩, prog_2_method_2_code, 1, Option.some Jvm.ClassFile.FieldType.int)
theorem cl_MX0_stages : kCL MX0_stages 0 := ⟨(tb4 113 rfl rfl), (tb1 13 rfl rfl), ⟨by decide +kernel, by decide +kernel⟩, by decide +kernel, by decide⟩
def MX0_townAt : kM := (⟨RX0, "townAt", "(I)I"⟩, prog_2_method_3_code, 2, Option.some Jvm.ClassFile.FieldType.int)
theorem cl_MX0_townAt : kCL MX0_townAt 1 := ⟨(tb4 126 rfl rfl), (tb1 13 rfl rfl), ⟨by decide +kernel, by decide +kernel⟩, by decide +kernel, by decide⟩
def MX10_ease : kM := (⟨RX10, "ease", "(II)V"⟩, prog_12_method_5_code, 6, none)
theorem cl_MX10_ease : kCL MX10_ease 2 := ⟨(tb5 67 rfl rfl), (tb1 7 rfl rfl), ⟨by decide +kernel, by decide +kernel⟩, by decide +kernel, by decide⟩
def MX10_fit : kM := (⟨RX10, "fit", "(LOldRoads$Goer;IZLOldRoads$Land;)V"⟩, prog_12_method_2_code, 8, none)
theorem cl_MX10_fit : kCL MX10_fit 4 := ⟨(tb3 64 rfl rfl), (tb1 7 rfl rfl), ⟨by decide +kernel, by decide +kernel⟩, by decide +kernel, by decide⟩
def MX10_follow : kM := (⟨RX10, "follow", "(II)V"⟩, prog_12_method_12_code, 5, none)
theorem cl_MX10_follow : kCL MX10_follow 2 := ⟨(tb3 119 rfl rfl), (tb1 7 rfl rfl), ⟨by decide +kernel, by decide +kernel⟩, by decide +kernel, by decide⟩
def MX10_init : kM := (⟨RX10, "<init>", "()V"⟩, prog_12_method_1_code, 3, none)
theorem cl_MX10_init : kCL MX10_init 0 := ⟨(tb1 126 rfl rfl), (tb1 7 rfl rfl), ⟨by decide +kernel, by decide +kernel⟩, by decide +kernel, by decide⟩
def MX10_lay : kM := (⟨RX10, "lay", "(II)V"⟩, prog_12_method_11_code, 3, none)
theorem cl_MX10_lay : kCL MX10_lay 2 := ⟨(tb3 97 rfl rfl), (tb1 7 rfl rfl), ⟨by decide +kernel, by decide +kernel⟩, by decide +kernel, by decide⟩
def MX10_least : kM := (⟨RX10, "least", "(I)I"⟩, prog_12_method_14_code, 2, Option.some Jvm.ClassFile.FieldType.int)
theorem cl_MX10_least : kCL MX10_least 1 := ⟨(tb3 129 rfl rfl), (tb1 7 rfl rfl), ⟨by decide +kernel, by decide +kernel⟩, by decide +kernel, by decide⟩
def MX10_nextOn : kM := (⟨RX10, "nextOn", "(I)I"⟩, prog_12_method_13_code, 5, Option.some Jvm.ClassFile.FieldType.int)
theorem cl_MX10_nextOn : kCL MX10_nextOn 1 := ⟨(tb3 125 rfl rfl), (tb1 7 rfl rfl), ⟨by decide +kernel, by decide +kernel⟩, by decide +kernel, by decide⟩
def MX10_painOf : kM := (⟨RX10, "painOf", "(I)I"⟩, prog_12_method_3_code, 3, Option.some Jvm.ClassFile.FieldType.int)
theorem cl_MX10_painOf : kCL MX10_painOf 1 := ⟨(tb3 72 rfl rfl), (tb1 7 rfl rfl), ⟨by decide +kernel, by decide +kernel⟩, by decide +kernel, by decide⟩
def MX10_reach : kM := (⟨RX10, "reach", "(II[I)V"⟩, prog_12_method_10_code, 4, none)
theorem cl_MX10_reach : kCL MX10_reach 3 := ⟨(tb3 115 rfl rfl), (tb1 7 rfl rfl), ⟨by decide +kernel, by decide +kernel⟩, by decide +kernel, by decide⟩
def MX10_spread : kM := (⟨RX10, "spread", "(IZ[I)V"⟩, prog_12_method_8_code, 9, none)
theorem cl_MX10_spread : kCL MX10_spread 3 := ⟨(tb3 105 rfl rfl), (tb1 7 rfl rfl), ⟨by decide +kernel, by decide +kernel⟩, by decide +kernel, by decide⟩
def MX10_spreadFrom : kM := (⟨RX10, "spreadFrom", "(I)V"⟩, prog_12_method_7_code, 2, none)
theorem cl_MX10_spreadFrom : kCL MX10_spreadFrom 1 := ⟨(tb3 145 rfl rfl), (tb1 7 rfl rfl), ⟨by decide +kernel, by decide +kernel⟩, by decide +kernel, by decide⟩
def MX10_spreadTo : kM := (⟨RX10, "spreadTo", "(I)V"⟩, prog_12_method_6_code, 2, none)
theorem cl_MX10_spreadTo : kCL MX10_spreadTo 1 := ⟨(tb3 101 rfl rfl), (tb1 7 rfl rfl), ⟨by decide +kernel, by decide +kernel⟩, by decide +kernel, by decide⟩
def MX10_takeLeast : kM := (⟨RX10, "takeLeast", "([I)I"⟩, prog_12_method_9_code, 4, Option.some Jvm.ClassFile.FieldType.int)
theorem cl_MX10_takeLeast : kCL MX10_takeLeast 1 := ⟨(tb3 111 rfl rfl), (tb1 7 rfl rfl), ⟨by decide +kernel, by decide +kernel⟩, by decide +kernel, by decide⟩
def MX10_through : kM := (⟨RX10, "through", "(I)I"⟩, prog_12_method_15_code, 2, Option.some Jvm.ClassFile.FieldType.int)
theorem cl_MX10_through : kCL MX10_through 1 := ⟨(tb3 149 rfl rfl), (tb1 7 rfl rfl), ⟨by decide +kernel, by decide +kernel⟩, by decide +kernel, by decide⟩
def MX10_toll : kM := (⟨RX10, "toll", "(II)I"⟩, prog_12_method_4_code, 4, Option.some Jvm.ClassFile.FieldType.int)
theorem cl_MX10_toll : kCL MX10_toll 2 := ⟨(tb5 210 rfl rfl), (tb1 7 rfl rfl), ⟨by decide +kernel, by decide +kernel⟩, by decide +kernel, by decide⟩
def MX11_about : kM := (⟨RX11, "about", "(II)I"⟩, prog_1_method_20_code, 3, Option.some Jvm.ClassFile.FieldType.int)
theorem cl_MX11_about : kCL MX11_about 2 := ⟨(tb4 12 rfl rfl), (tb1 1 rfl rfl), ⟨by decide +kernel, by decide +kernel⟩, by decide +kernel, by decide⟩
def MX11_addBytes : kM := (⟨RX11, "addBytes", "(I)V"⟩, prog_1_method_70_code, 4, none)
theorem cl_MX11_addBytes : kCL MX11_addBytes 1 := ⟨(tb2 179 rfl rfl), (tb1 1 rfl rfl), ⟨by decide +kernel, by decide +kernel⟩, by decide +kernel, by decide⟩
def MX11_against : kM := (⟨RX11, "against", "(IIII)I"⟩, prog_1_method_23_code, 5, Option.some Jvm.ClassFile.FieldType.int)
theorem cl_MX11_against : kCL MX11_against 4 := ⟨(tb4 59 rfl rfl), (tb1 1 rfl rfl), ⟨by decide +kernel, by decide +kernel⟩, by decide +kernel, by decide⟩
def MX11_alike : kM := (⟨RX11, "alike", "(II)I"⟩, prog_1_method_46_code, 5, Option.some Jvm.ClassFile.FieldType.int)
theorem cl_MX11_alike : kCL MX11_alike 2 := ⟨(tb5 90 rfl rfl), (tb1 1 rfl rfl), ⟨by decide +kernel, by decide +kernel⟩, by decide +kernel, by decide⟩
def MX11_apart : kM := (⟨RX11, "apart", "(II)I"⟩, prog_1_method_65_code, 4, Option.some Jvm.ClassFile.FieldType.int)
theorem cl_MX11_apart : kCL MX11_apart 2 := ⟨(tb3 160 rfl rfl), (tb1 1 rfl rfl), ⟨by decide +kernel, by decide +kernel⟩, by decide +kernel, by decide⟩
def MX11_areTwoTowns : kM := (⟨RX11, "areTwoTowns", "(II)Z"⟩, prog_1_method_63_code, 3, Option.some Jvm.ClassFile.FieldType.boolean)
theorem cl_MX11_areTwoTowns : kCL MX11_areTwoTowns 2 := ⟨(tb4 158 rfl rfl), (tb1 1 rfl rfl), ⟨by decide +kernel, by decide +kernel⟩, by decide +kernel, by decide⟩
def MX11_best : kM := (⟨RX11, "best", "(IZI)I"⟩, prog_1_method_26_code, 5, Option.some Jvm.ClassFile.FieldType.int)
theorem cl_MX11_best : kCL MX11_best 3 := ⟨(tb4 85 rfl rfl), (tb1 1 rfl rfl), ⟨by decide +kernel, by decide +kernel⟩, by decide +kernel, by decide⟩
def MX11_bestBut : kM := (⟨RX11, "bestBut", "(I)I"⟩, prog_1_method_77_code, 4, Option.some Jvm.ClassFile.FieldType.int)
theorem cl_MX11_bestBut : kCL MX11_bestBut 1 := ⟨(tb4 93 rfl rfl), (tb1 1 rfl rfl), ⟨by decide +kernel, by decide +kernel⟩, by decide +kernel, by decide⟩
def MX11_bring : kM := (⟨RX11, "bring", "(I)I"⟩, prog_1_method_48_code, 3, Option.some Jvm.ClassFile.FieldType.int)
theorem cl_MX11_bring : kCL MX11_bring 1 := ⟨(tb5 103 rfl rfl), (tb1 1 rfl rfl), ⟨by decide +kernel, by decide +kernel⟩, by decide +kernel, by decide⟩
def MX11_bytesIn : kM := (⟨RX11, "bytesIn", "(I)I"⟩, prog_1_method_69_code, 3, Option.some Jvm.ClassFile.FieldType.int)
theorem cl_MX11_bytesIn : kCL MX11_bytesIn 1 := ⟨(tb2 175 rfl rfl), (tb1 1 rfl rfl), ⟨by decide +kernel, by decide +kernel⟩, by decide +kernel, by decide⟩
def MX11_changed : kM := (⟨RX11, "changed", "(I)I"⟩, prog_1_method_49_code, 2, Option.some Jvm.ClassFile.FieldType.int)
theorem cl_MX11_changed : kCL MX11_changed 1 := ⟨(tb5 120 rfl rfl), (tb1 1 rfl rfl), ⟨by decide +kernel, by decide +kernel⟩, by decide +kernel, by decide⟩
def MX11_count : kM := (⟨RX11, "count", "(I)I"⟩, prog_1_method_52_code, 2, Option.some Jvm.ClassFile.FieldType.int)
theorem cl_MX11_count : kCL MX11_count 1 := ⟨(tb5 137 rfl rfl), (tb1 1 rfl rfl), ⟨by decide +kernel, by decide +kernel⟩, by decide +kernel, by decide⟩
def MX11_dig : kM := (⟨RX11, "dig", "(III)I"⟩, prog_1_method_36_code, 5, Option.some Jvm.ClassFile.FieldType.int)
theorem cl_MX11_dig : kCL MX11_dig 3 := ⟨(tb4 178 rfl rfl), (tb1 1 rfl rfl), ⟨by decide +kernel, by decide +kernel⟩, by decide +kernel, by decide⟩
def MX11_draw : kM := (⟨RX11, "draw", "(IIIIII)Z"⟩, prog_1_method_2_code, 9, Option.some Jvm.ClassFile.FieldType.boolean)
theorem cl_MX11_draw : kCL MX11_draw 6 := ⟨(tb2 136 rfl rfl), (tb1 1 rfl rfl), ⟨by decide +kernel, by decide +kernel⟩, by decide +kernel, by decide⟩
def MX11_drawn : kM := (⟨RX11, "drawn", "(II)I"⟩, prog_1_method_3_code, 3, Option.some Jvm.ClassFile.FieldType.int)
theorem cl_MX11_drawn : kCL MX11_drawn 2 := ⟨(tb2 152 rfl rfl), (tb1 1 rfl rfl), ⟨by decide +kernel, by decide +kernel⟩, by decide +kernel, by decide⟩
def MX11_end : kM := (⟨RX11, "end", "(I)Z"⟩, prog_1_method_6_code, 2, Option.some Jvm.ClassFile.FieldType.boolean)
theorem cl_MX11_end : kCL MX11_end 1 := ⟨(tb2 183 rfl rfl), (tb1 1 rfl rfl), ⟨by decide +kernel, by decide +kernel⟩, by decide +kernel, by decide⟩
def MX11_era : kM := (⟨RX11, "era", "()I"⟩, prog_1_method_47_code, 1, Option.some Jvm.ClassFile.FieldType.int)
theorem cl_MX11_era : kCL MX11_era 0 := ⟨(tb5 94 rfl rfl), (tb1 1 rfl rfl), ⟨by decide +kernel, by decide +kernel⟩, by decide +kernel, by decide⟩
def MX11_evidence : kM := (⟨RX11, "evidence", "(III)I"⟩, prog_1_method_33_code, 4, Option.some Jvm.ClassFile.FieldType.int)
theorem cl_MX11_evidence : kCL MX11_evidence 3 := ⟨(tb4 154 rfl rfl), (tb1 1 rfl rfl), ⟨by decide +kernel, by decide +kernel⟩, by decide +kernel, by decide⟩
def MX11_evidenceOf : kM := (⟨RX11, "evidenceOf", "(III)I"⟩, prog_1_method_81_code, 4, Option.some Jvm.ClassFile.FieldType.int)
theorem cl_MX11_evidenceOf : kCL MX11_evidenceOf 3 := ⟨(tb4 162 rfl rfl), (tb1 1 rfl rfl), ⟨by decide +kernel, by decide +kernel⟩, by decide +kernel, by decide⟩
def MX11_fault : kM := (⟨RX11, "fault", "(I)I"⟩, prog_1_method_7_code, 2, Option.some Jvm.ClassFile.FieldType.int)
theorem cl_MX11_fault : kCL MX11_fault 1 := ⟨(tb2 191 rfl rfl), (tb1 1 rfl rfl), ⟨by decide +kernel, by decide +kernel⟩, by decide +kernel, by decide⟩
def MX11_feed : kM := (⟨RX11, "feed", "(IIIII)I"⟩, prog_1_method_5_code, 7, Option.some Jvm.ClassFile.FieldType.int)
theorem cl_MX11_feed : kCL MX11_feed 5 := ⟨(tb2 172 rfl rfl), (tb1 1 rfl rfl), ⟨by decide +kernel, by decide +kernel⟩, by decide +kernel, by decide⟩
def MX11_feet : kM := (⟨RX11, "feet", "(IIZJII)I"⟩, prog_1_method_42_code, 9, Option.some Jvm.ClassFile.FieldType.int)
theorem cl_MX11_feet : kCL MX11_feet 6 := ⟨(tb5 41 rfl rfl), (tb1 1 rfl rfl), ⟨by decide +kernel, by decide +kernel⟩, by decide +kernel, by decide⟩
def MX11_field : kM := (⟨RX11, "field", "(IIII)I"⟩, prog_1_method_37_code, 5, Option.some Jvm.ClassFile.FieldType.int)
theorem cl_MX11_field : kCL MX11_field 4 := ⟨(tb4 223 rfl rfl), (tb1 1 rfl rfl), ⟨by decide +kernel, by decide +kernel⟩, by decide +kernel, by decide⟩
def MX11_fillMisses : kM := (⟨RX11, "fillMisses", "(IZ)V"⟩, prog_1_method_75_code, 5, none)
theorem cl_MX11_fillMisses : kCL MX11_fillMisses 2 := ⟨(tb4 89 rfl rfl), (tb1 1 rfl rfl), ⟨by decide +kernel, by decide +kernel⟩, by decide +kernel, by decide⟩
def MX11_find : kM := (⟨RX11, "find", "(III)I"⟩, prog_1_method_21_code, 4, Option.some Jvm.ClassFile.FieldType.int)
theorem cl_MX11_find : kCL MX11_find 3 := ⟨(tb4 32 rfl rfl), (tb1 1 rfl rfl), ⟨by decide +kernel, by decide +kernel⟩, by decide +kernel, by decide⟩
def MX11_fitBut : kM := (⟨RX11, "fitBut", "(II)I"⟩, prog_1_method_76_code, 5, Option.some Jvm.ClassFile.FieldType.int)
theorem cl_MX11_fitBut : kCL MX11_fitBut 2 := ⟨(tb4 97 rfl rfl), (tb1 1 rfl rfl), ⟨by decide +kernel, by decide +kernel⟩, by decide +kernel, by decide⟩
def MX11_goOn : kM := (⟨RX11, "goOn", "(I)I"⟩, prog_1_method_18_code, 4, Option.some Jvm.ClassFile.FieldType.int)
theorem cl_MX11_goOn : kCL MX11_goOn 1 := ⟨(tb3 234 rfl rfl), (tb1 1 rfl rfl), ⟨by decide +kernel, by decide +kernel⟩, by decide +kernel, by decide⟩
def MX11_goes : kM := (⟨RX11, "goes", "(LOldRoads$Land;IIZII)Z"⟩, prog_1_method_71_code, 7, Option.some Jvm.ClassFile.FieldType.boolean)
theorem cl_MX11_goes : kCL MX11_goes 6 := ⟨(tb3 56 rfl rfl), (tb1 1 rfl rfl), ⟨by decide +kernel, by decide +kernel⟩, by decide +kernel, by decide⟩
def MX11_hedge : kM := (⟨RX11, "hedge", "(III)I"⟩, prog_1_method_40_code, 7, Option.some Jvm.ClassFile.FieldType.int)
theorem cl_MX11_hedge : kCL MX11_hedge 3 := ⟨(tb5 3 rfl rfl), (tb1 1 rfl rfl), ⟨by decide +kernel, by decide +kernel⟩, by decide +kernel, by decide⟩
def MX11_holds : kM := (⟨RX11, "holds", "(III)I"⟩, prog_1_method_31_code, 6, Option.some Jvm.ClassFile.FieldType.int)
theorem cl_MX11_holds : kCL MX11_holds 3 := ⟨(tb4 140 rfl rfl), (tb1 1 rfl rfl), ⟨by decide +kernel, by decide +kernel⟩, by decide +kernel, by decide⟩
def MX11_holdsInto : kM := (⟨RX11, "holdsInto", "(LOldRoads$Book;II)I"⟩, prog_1_method_79_code, 6, Option.some Jvm.ClassFile.FieldType.int)
theorem cl_MX11_holdsInto : kCL MX11_holdsInto 3 := ⟨(tb4 144 rfl rfl), (tb1 1 rfl rfl), ⟨by decide +kernel, by decide +kernel⟩, by decide +kernel, by decide⟩
def MX11_init : kM := (⟨RX11, "<init>", "()V"⟩, prog_1_method_1_code, 2, none)
theorem cl_MX11_init : kCL MX11_init 0 := ⟨(tb1 30 rfl rfl), (tb1 1 rfl rfl), ⟨by decide +kernel, by decide +kernel⟩, by decide +kernel, by decide⟩
def MX11_isBox : kM := (⟨RX11, "isBox", "(IIII)Z"⟩, prog_1_method_56_code, 4, Option.some Jvm.ClassFile.FieldType.boolean)
theorem cl_MX11_isBox : kCL MX11_isBox 4 := ⟨(tb2 139 rfl rfl), (tb1 1 rfl rfl), ⟨by decide +kernel, by decide +kernel⟩, by decide +kernel, by decide⟩
def MX11_isBy : kM := (⟨RX11, "isBy", "(I)Z"⟩, prog_1_method_57_code, 1, Option.some Jvm.ClassFile.FieldType.boolean)
theorem cl_MX11_isBy : kCL MX11_isBy 1 := ⟨(tb4 133 rfl rfl), (tb1 1 rfl rfl), ⟨by decide +kernel, by decide +kernel⟩, by decide +kernel, by decide⟩
def MX11_isCell : kM := (⟨RX11, "isCell", "(I)Z"⟩, prog_1_method_53_code, 1, Option.some Jvm.ClassFile.FieldType.boolean)
theorem cl_MX11_isCell : kCL MX11_isCell 1 := ⟨(tb1 135 rfl rfl), (tb1 1 rfl rfl), ⟨by decide +kernel, by decide +kernel⟩, by decide +kernel, by decide⟩
def MX11_isCellOrNone : kM := (⟨RX11, "isCellOrNone", "(I)Z"⟩, prog_1_method_54_code, 1, Option.some Jvm.ClassFile.FieldType.boolean)
theorem cl_MX11_isCellOrNone : kCL MX11_isCellOrNone 1 := ⟨(tb3 141 rfl rfl), (tb1 1 rfl rfl), ⟨by decide +kernel, by decide +kernel⟩, by decide +kernel, by decide⟩
def MX11_isEra : kM := (⟨RX11, "isEra", "(I)Z"⟩, prog_1_method_64_code, 2, Option.some Jvm.ClassFile.FieldType.boolean)
theorem cl_MX11_isEra : kCL MX11_isEra 1 := ⟨(tb5 107 rfl rfl), (tb1 1 rfl rfl), ⟨by decide +kernel, by decide +kernel⟩, by decide +kernel, by decide⟩
def MX11_isLayer : kM := (⟨RX11, "isLayer", "(I)Z"⟩, prog_1_method_55_code, 1, Option.some Jvm.ClassFile.FieldType.boolean)
theorem cl_MX11_isLayer : kCL MX11_isLayer 1 := ⟨(tb2 142 rfl rfl), (tb1 1 rfl rfl), ⟨by decide +kernel, by decide +kernel⟩, by decide +kernel, by decide⟩
def MX11_isLine : kM := (⟨RX11, "isLine", "(I)Z"⟩, prog_1_method_60_code, 2, Option.some Jvm.ClassFile.FieldType.boolean)
theorem cl_MX11_isLine : kCL MX11_isLine 1 := ⟨(tb3 238 rfl rfl), (tb1 1 rfl rfl), ⟨by decide +kernel, by decide +kernel⟩, by decide +kernel, by decide⟩
def MX11_isManner : kM := (⟨RX11, "isManner", "(II)Z"⟩, prog_1_method_59_code, 3, Option.some Jvm.ClassFile.FieldType.boolean)
theorem cl_MX11_isManner : kCL MX11_isManner 2 := ⟨(tb3 60 rfl rfl), (tb1 1 rfl rfl), ⟨by decide +kernel, by decide +kernel⟩, by decide +kernel, by decide⟩
def MX11_isOften : kM := (⟨RX11, "isOften", "(I)Z"⟩, prog_1_method_58_code, 1, Option.some Jvm.ClassFile.FieldType.boolean)
theorem cl_MX11_isOften : kCL MX11_isOften 1 := ⟨(tb5 86 rfl rfl), (tb1 1 rfl rfl), ⟨by decide +kernel, by decide +kernel⟩, by decide +kernel, by decide⟩
def MX11_isSearch : kM := (⟨RX11, "isSearch", "(III)Z"⟩, prog_1_method_61_code, 4, Option.some Jvm.ClassFile.FieldType.boolean)
theorem cl_MX11_isSearch : kCL MX11_isSearch 3 := ⟨(tb4 45 rfl rfl), (tb1 1 rfl rfl), ⟨by decide +kernel, by decide +kernel⟩, by decide +kernel, by decide⟩
def MX11_isStage : kM := (⟨RX11, "isStage", "(II)Z"⟩, prog_1_method_62_code, 3, Option.some Jvm.ClassFile.FieldType.boolean)
theorem cl_MX11_isStage : kCL MX11_isStage 2 := ⟨(tb4 109 rfl rfl), (tb1 1 rfl rfl), ⟨by decide +kernel, by decide +kernel⟩, by decide +kernel, by decide⟩
def MX11_keepLine : kM := (⟨RX11, "keepLine", "(LOldRoads$Row;)I"⟩, prog_1_method_73_code, 2, Option.some Jvm.ClassFile.FieldType.int)
theorem cl_MX11_keepLine : kCL MX11_keepLine 1 := ⟨(tb3 207 rfl rfl), (tb1 1 rfl rfl), ⟨by decide +kernel, by decide +kernel⟩, by decide +kernel, by decide⟩
def MX11_known : kM := (⟨RX11, "known", "(I)I"⟩, prog_1_method_24_code, 2, Option.some Jvm.ClassFile.FieldType.int)
theorem cl_MX11_known : kCL MX11_known 1 := ⟨(tb4 72 rfl rfl), (tb1 1 rfl rfl), ⟨by decide +kernel, by decide +kernel⟩, by decide +kernel, by decide⟩
def MX11_lasting : kM := (⟨RX11, "lasting", "(IIZII)I"⟩, prog_1_method_51_code, 7, Option.some Jvm.ClassFile.FieldType.int)
theorem cl_MX11_lasting : kCL MX11_lasting 5 := ⟨(tb5 128 rfl rfl), (tb1 1 rfl rfl), ⟨by decide +kernel, by decide +kernel⟩, by decide +kernel, by decide⟩
def MX11_lies : kM := (⟨RX11, "lies", "(LOldRoads$Row;III)Z"⟩, prog_1_method_68_code, 6, Option.some Jvm.ClassFile.FieldType.boolean)
theorem cl_MX11_lies : kCL MX11_lies 4 := ⟨(tb5 6 rfl rfl), (tb1 1 rfl rfl), ⟨by decide +kernel, by decide +kernel⟩, by decide +kernel, by decide⟩
def MX11_line : kM := (⟨RX11, "line", "(II)I"⟩, prog_1_method_19_code, 3, Option.some Jvm.ClassFile.FieldType.int)
theorem cl_MX11_line : kCL MX11_line 2 := ⟨(tb4 8 rfl rfl), (tb1 1 rfl rfl), ⟨by decide +kernel, by decide +kernel⟩, by decide +kernel, by decide⟩
def MX11_lineAt : kM := (⟨RX11, "lineAt", "(I)I"⟩, prog_1_method_17_code, 2, Option.some Jvm.ClassFile.FieldType.int)
theorem cl_MX11_lineAt : kCL MX11_lineAt 1 := ⟨(tb3 230 rfl rfl), (tb1 1 rfl rfl), ⟨by decide +kernel, by decide +kernel⟩, by decide +kernel, by decide⟩
def MX11_lineOfSight : kM := (⟨RX11, "lineOfSight", "(III)I"⟩, prog_1_method_16_code, 4, Option.some Jvm.ClassFile.FieldType.int)
theorem cl_MX11_lineOfSight : kCL MX11_lineOfSight 3 := ⟨(tb3 217 rfl rfl), (tb1 1 rfl rfl), ⟨by decide +kernel, by decide +kernel⟩, by decide +kernel, by decide⟩
def MX11_lineOfWay : kM := (⟨RX11, "lineOfWay", "(IIZII)I"⟩, prog_1_method_15_code, 6, Option.some Jvm.ClassFile.FieldType.int)
theorem cl_MX11_lineOfWay : kCL MX11_lineOfWay 5 := ⟨(tb3 203 rfl rfl), (tb1 1 rfl rfl), ⟨by decide +kernel, by decide +kernel⟩, by decide +kernel, by decide⟩
def MX11_looks : kM := (⟨RX11, "looks", "(III)Z"⟩, prog_1_method_72_code, 4, Option.some Jvm.ClassFile.FieldType.boolean)
theorem cl_MX11_looks : kCL MX11_looks 3 := ⟨(tb3 179 rfl rfl), (tb1 1 rfl rfl), ⟨by decide +kernel, by decide +kernel⟩, by decide +kernel, by decide⟩
def MX11_meeting : kM := (⟨RX11, "meeting", "(LOldRoads$Row;I)I"⟩, prog_1_method_82_code, 7, Option.some Jvm.ClassFile.FieldType.int)
theorem cl_MX11_meeting : kCL MX11_meeting 2 := ⟨(tb4 231 rfl rfl), (tb1 1 rfl rfl), ⟨by decide +kernel, by decide +kernel⟩, by decide +kernel, by decide⟩
def MX11_meets : kM := (⟨RX11, "meets", "(II)I"⟩, prog_1_method_38_code, 3, Option.some Jvm.ClassFile.FieldType.int)
theorem cl_MX11_meets : kCL MX11_meets 2 := ⟨(tb4 227 rfl rfl), (tb1 1 rfl rfl), ⟨by decide +kernel, by decide +kernel⟩, by decide +kernel, by decide⟩
def MX11_milesOfStage : kM := (⟨RX11, "milesOfStage", "(LOldRoads$Book;I)I"⟩, prog_1_method_78_code, 3, Option.some Jvm.ClassFile.FieldType.int)
theorem cl_MX11_milesOfStage : kCL MX11_milesOfStage 2 := ⟨(tb4 122 rfl rfl), (tb1 1 rfl rfl), ⟨by decide +kernel, by decide +kernel⟩, by decide +kernel, by decide⟩
def MX11_miss : kM := (⟨RX11, "miss", "(IIZI)I"⟩, prog_1_method_25_code, 5, Option.some Jvm.ClassFile.FieldType.int)
theorem cl_MX11_miss : kCL MX11_miss 4 := ⟨(tb4 76 rfl rfl), (tb1 1 rfl rfl), ⟨by decide +kernel, by decide +kernel⟩, by decide +kernel, by decide⟩
def MX11_missOf : kM := (⟨RX11, "missOf", "(I)I"⟩, prog_1_method_74_code, 7, Option.some Jvm.ClassFile.FieldType.int)
theorem cl_MX11_missOf : kCL MX11_missOf 1 := ⟨(tb4 80 rfl rfl), (tb1 1 rfl rfl), ⟨by decide +kernel, by decide +kernel⟩, by decide +kernel, by decide⟩
def MX11_near : kM := (⟨RX11, "near", "(III)I"⟩, prog_1_method_22_code, 4, Option.some Jvm.ClassFile.FieldType.int)
theorem cl_MX11_near : kCL MX11_near 3 := ⟨(tb4 41 rfl rfl), (tb1 1 rfl rfl), ⟨by decide +kernel, by decide +kernel⟩, by decide +kernel, by decide⟩
def MX11_nearly : kM := (⟨RX11, "nearly", "(IIZIIII)I"⟩, prog_1_method_12_code, 12, Option.some Jvm.ClassFile.FieldType.int)
theorem cl_MX11_nearly : kCL MX11_nearly 7 := ⟨(tb3 138 rfl rfl), (tb1 1 rfl rfl), ⟨by decide +kernel, by decide +kernel⟩, by decide +kernel, by decide⟩
def MX11_net : kM := (⟨RX11, "net", "(IIZI)I"⟩, prog_1_method_41_code, 7, Option.some Jvm.ClassFile.FieldType.int)
theorem cl_MX11_net : kCL MX11_net 4 := ⟨(tb5 10 rfl rfl), (tb1 1 rfl rfl), ⟨by decide +kernel, by decide +kernel⟩, by decide +kernel, by decide⟩
def MX11_odds : kM := (⟨RX11, "odds", "(III)I"⟩, prog_1_method_34_code, 7, Option.some Jvm.ClassFile.FieldType.int)
theorem cl_MX11_odds : kCL MX11_odds 3 := ⟨(tb4 170 rfl rfl), (tb1 1 rfl rfl), ⟨by decide +kernel, by decide +kernel⟩, by decide +kernel, by decide⟩
def MX11_off : kM := (⟨RX11, "off", "(IIIIZ)I"⟩, prog_1_method_29_code, 6, Option.some Jvm.ClassFile.FieldType.int)
theorem cl_MX11_off : kCL MX11_off 5 := ⟨(tb4 105 rfl rfl), (tb1 1 rfl rfl), ⟨by decide +kernel, by decide +kernel⟩, by decide +kernel, by decide⟩
def MX11_older : kM := (⟨RX11, "older", "(I)I"⟩, prog_1_method_39_code, 5, Option.some Jvm.ClassFile.FieldType.int)
theorem cl_MX11_older : kCL MX11_older 1 := ⟨(tb4 239 rfl rfl), (tb1 1 rfl rfl), ⟨by decide +kernel, by decide +kernel⟩, by decide +kernel, by decide⟩
def MX11_pain : kM := (⟨RX11, "pain", "(IIZII)I"⟩, prog_1_method_9_code, 6, Option.some Jvm.ClassFile.FieldType.int)
theorem cl_MX11_pain : kCL MX11_pain 5 := ⟨(tb5 145 rfl rfl), (tb1 1 rfl rfl), ⟨by decide +kernel, by decide +kernel⟩, by decide +kernel, by decide⟩
def MX11_pains : kM := (⟨RX11, "pains", "(IIZII)I"⟩, prog_1_method_10_code, 6, Option.some Jvm.ClassFile.FieldType.int)
theorem cl_MX11_pains : kCL MX11_pains 5 := ⟨(tb3 52 rfl rfl), (tb1 1 rfl rfl), ⟨by decide +kernel, by decide +kernel⟩, by decide +kernel, by decide⟩
def MX11_pit : kM := (⟨RX11, "pit", "(I)I"⟩, prog_1_method_35_code, 2, Option.some Jvm.ClassFile.FieldType.int)
theorem cl_MX11_pit : kCL MX11_pit 1 := ⟨(tb4 174 rfl rfl), (tb1 1 rfl rfl), ⟨by decide +kernel, by decide +kernel⟩, by decide +kernel, by decide⟩
def MX11_placeIn : kM := (⟨RX11, "placeIn", "(II)I"⟩, prog_1_method_83_code, 9, Option.some Jvm.ClassFile.FieldType.int)
theorem cl_MX11_placeIn : kCL MX11_placeIn 2 := ⟨(tb4 235 rfl rfl), (tb1 1 rfl rfl), ⟨by decide +kernel, by decide +kernel⟩, by decide +kernel, by decide⟩
def MX11_sees : kM := (⟨RX11, "sees", "(II)I"⟩, prog_1_method_13_code, 3, Option.some Jvm.ClassFile.FieldType.int)
theorem cl_MX11_sees : kCL MX11_sees 2 := ⟨(tb3 153 rfl rfl), (tb1 1 rfl rfl), ⟨by decide +kernel, by decide +kernel⟩, by decide +kernel, by decide⟩
def MX11_sights : kM := (⟨RX11, "sights", "(IIII)I"⟩, prog_1_method_14_code, 5, Option.some Jvm.ClassFile.FieldType.int)
theorem cl_MX11_sights : kCL MX11_sights 4 := ⟨(tb3 175 rfl rfl), (tb1 1 rfl rfl), ⟨by decide +kernel, by decide +kernel⟩, by decide +kernel, by decide⟩
def MX11_slip : kM := (⟨RX11, "slip", "(IIIIZI)I"⟩, prog_1_method_30_code, 7, Option.some Jvm.ClassFile.FieldType.int)
theorem cl_MX11_slip : kCL MX11_slip 6 := ⟨(tb4 130 rfl rfl), (tb1 1 rfl rfl), ⟨by decide +kernel, by decide +kernel⟩, by decide +kernel, by decide⟩
def MX11_slipOf : kM := (⟨RX11, "slipOf", "(III)I"⟩, prog_1_method_80_code, 3, Option.some Jvm.ClassFile.FieldType.int)
theorem cl_MX11_slipOf : kCL MX11_slipOf 3 := ⟨(tb4 136 rfl rfl), (tb1 1 rfl rfl), ⟨by decide +kernel, by decide +kernel⟩, by decide +kernel, by decide⟩
def MX11_stage : kM := (⟨RX11, "stage", "(III)I"⟩, prog_1_method_28_code, 4, Option.some Jvm.ClassFile.FieldType.int)
theorem cl_MX11_stage : kCL MX11_stage 3 := ⟨(tb5 217 rfl rfl), (tb1 1 rfl rfl), ⟨by decide +kernel, by decide +kernel⟩, by decide +kernel, by decide⟩
def MX11_staysInLand : kM := (⟨RX11, "staysInLand", "(III)Z"⟩, prog_1_method_66_code, 5, Option.some Jvm.ClassFile.FieldType.boolean)
theorem cl_MX11_staysInLand : kCL MX11_staysInLand 3 := ⟨(tb1 138 rfl rfl), (tb1 1 rfl rfl), ⟨by decide +kernel, by decide +kernel⟩, by decide +kernel, by decide⟩
def MX11_stepFrom : kM := (⟨RX11, "stepFrom", "(II)I"⟩, prog_1_method_67_code, 2, Option.some Jvm.ClassFile.FieldType.int)
theorem cl_MX11_stepFrom : kCL MX11_stepFrom 2 := ⟨(tb1 132 rfl rfl), (tb1 1 rfl rfl), ⟨by decide +kernel, by decide +kernel⟩, by decide +kernel, by decide⟩
def MX11_text : kM := (⟨RX11, "text", "(I)I"⟩, prog_1_method_8_code, 2, Option.some Jvm.ClassFile.FieldType.int)
theorem cl_MX11_text : kCL MX11_text 1 := ⟨(tb3 41 rfl rfl), (tb1 1 rfl rfl), ⟨by decide +kernel, by decide +kernel⟩, by decide +kernel, by decide⟩
def MX11_then : kM := (⟨RX11, "then", "(IIIZIII)I"⟩, prog_1_method_50_code, 8, Option.some Jvm.ClassFile.FieldType.int)
theorem cl_MX11_then : kCL MX11_then 7 := ⟨(tb5 124 rfl rfl), (tb1 1 rfl rfl), ⟨by decide +kernel, by decide +kernel⟩, by decide +kernel, by decide⟩
def MX11_town : kM := (⟨RX11, "town", "(I)I"⟩, prog_1_method_4_code, 2, Option.some Jvm.ClassFile.FieldType.int)
theorem cl_MX11_town : kCL MX11_town 1 := ⟨(tb2 160 rfl rfl), (tb1 1 rfl rfl), ⟨by decide +kernel, by decide +kernel⟩, by decide +kernel, by decide⟩
def MX11_tried : kM := (⟨RX11, "tried", "(IZ)I"⟩, prog_1_method_27_code, 5, Option.some Jvm.ClassFile.FieldType.int)
theorem cl_MX11_tried : kCL MX11_tried 2 := ⟨(tb4 101 rfl rfl), (tb1 1 rfl rfl), ⟨by decide +kernel, by decide +kernel⟩, by decide +kernel, by decide⟩
def MX11_trips : kM := (⟨RX11, "trips", "(I)I"⟩, prog_1_method_44_code, 2, Option.some Jvm.ClassFile.FieldType.int)
theorem cl_MX11_trips : kCL MX11_trips 1 := ⟨(tb5 79 rfl rfl), (tb1 1 rfl rfl), ⟨by decide +kernel, by decide +kernel⟩, by decide +kernel, by decide⟩
def MX11_trodden : kM := (⟨RX11, "trodden", "(I)I"⟩, prog_1_method_43_code, 2, Option.some Jvm.ClassFile.FieldType.int)
theorem cl_MX11_trodden : kCL MX11_trodden 1 := ⟨(tb5 75 rfl rfl), (tb1 1 rfl rfl), ⟨by decide +kernel, by decide +kernel⟩, by decide +kernel, by decide⟩
def MX11_way : kM := (⟨RX11, "way", "(IIZIII)I"⟩, prog_1_method_11_code, 7, Option.some Jvm.ClassFile.FieldType.int)
theorem cl_MX11_way : kCL MX11_way 6 := ⟨(tb3 133 rfl rfl), (tb1 1 rfl rfl), ⟨by decide +kernel, by decide +kernel⟩, by decide +kernel, by decide⟩
def MX11_weigh : kM := (⟨RX11, "weigh", "(II)Z"⟩, prog_1_method_32_code, 3, Option.some Jvm.ClassFile.FieldType.boolean)
theorem cl_MX11_weigh : kCL MX11_weigh 2 := ⟨(tb4 150 rfl rfl), (tb1 1 rfl rfl), ⟨by decide +kernel, by decide +kernel⟩, by decide +kernel, by decide⟩
def MX11_worn : kM := (⟨RX11, "worn", "(I)I"⟩, prog_1_method_45_code, 2, Option.some Jvm.ClassFile.FieldType.int)
theorem cl_MX11_worn : kCL MX11_worn 1 := ⟨(tb5 83 rfl rfl), (tb1 1 rfl rfl), ⟨by decide +kernel, by decide +kernel⟩, by decide +kernel, by decide⟩
def MX12_about : kM := (⟨RX12, "about", "(II)I"⟩, prog_14_method_73_code, 3, Option.some Jvm.ClassFile.FieldType.int)
theorem cl_MX12_about : kCL MX12_about 2 := ⟨(tb8 29 rfl rfl), (tb1 14 rfl rfl), ⟨by decide +kernel, by decide +kernel⟩, by decide +kernel, by decide⟩
def MX12_addCell : kM := (⟨RX12, "addCell", "(I)V"⟩, prog_14_method_61_code, 2, none)
theorem cl_MX12_addCell : kCL MX12_addCell 1 := ⟨(tb7 233 rfl rfl), (tb1 14 rfl rfl), ⟨by decide +kernel, by decide +kernel⟩, by decide +kernel, by decide⟩
def MX12_addHop : kM := (⟨RX12, "addHop", "(II)V"⟩, prog_14_method_64_code, 4, none)
theorem cl_MX12_addHop : kCL MX12_addHop 2 := ⟨(tb8 5 rfl rfl), (tb1 14 rfl rfl), ⟨by decide +kernel, by decide +kernel⟩, by decide +kernel, by decide⟩
def MX12_added : kM := (⟨RX12, "added", "()I"⟩, prog_14_method_62_code, 1, Option.some Jvm.ClassFile.FieldType.int)
theorem cl_MX12_added : kCL MX12_added 0 := ⟨(tb7 237 rfl rfl), (tb1 14 rfl rfl), ⟨by decide +kernel, by decide +kernel⟩, by decide +kernel, by decide⟩
def MX12_against : kM := (⟨RX12, "against", "(IIII)I"⟩, prog_14_method_80_code, 10, Option.some Jvm.ClassFile.FieldType.int)
theorem cl_MX12_against : kCL MX12_against 4 := ⟨(tb8 67 rfl rfl), (tb1 14 rfl rfl), ⟨by decide +kernel, by decide +kernel⟩, by decide +kernel, by decide⟩
def MX12_alike : kM := (⟨RX12, "alike", "(II)I"⟩, prog_14_method_126_code, 5, Option.some Jvm.ClassFile.FieldType.int)
theorem cl_MX12_alike : kCL MX12_alike 2 := ⟨(tb9 22 rfl rfl), (tb1 14 rfl rfl), ⟨by decide +kernel, by decide +kernel⟩, by decide +kernel, by decide⟩
def MX12_apart : kM := (⟨RX12, "apart", "(II)I"⟩, prog_14_method_14_code, 2, Option.some Jvm.ClassFile.FieldType.int)
theorem cl_MX12_apart : kCL MX12_apart 2 := ⟨(tb7 208 rfl rfl), (tb1 14 rfl rfl), ⟨by decide +kernel, by decide +kernel⟩, by decide +kernel, by decide⟩
def MX12_areTowns : kM := (⟨RX12, "areTowns", "(II)Z"⟩, prog_14_method_100_code, 3, Option.some Jvm.ClassFile.FieldType.boolean)
theorem cl_MX12_areTowns : kCL MX12_areTowns 2 := ⟨(tb8 144 rfl rfl), (tb1 14 rfl rfl), ⟨by decide +kernel, by decide +kernel⟩, by decide +kernel, by decide⟩
def MX12_atom : kM := (⟨RX12, "atom", "()I"⟩, prog_14_method_26_code, 4, Option.some Jvm.ClassFile.FieldType.int)
theorem cl_MX12_atom : kCL MX12_atom 0 := ⟨(tb7 98 rfl rfl), (tb1 14 rfl rfl), ⟨by decide +kernel, by decide +kernel⟩, by decide +kernel, by decide⟩
def MX12_begin : kM := (⟨RX12, "begin", "([BII)V"⟩, prog_14_method_35_code, 4, none)
theorem cl_MX12_begin : kCL MX12_begin 3 := ⟨(tb7 7 rfl rfl), (tb1 14 rfl rfl), ⟨by decide +kernel, by decide +kernel⟩, by decide +kernel, by decide⟩
def MX12_best : kM := (⟨RX12, "best", "(IZI)I"⟩, prog_14_method_87_code, 4, Option.some Jvm.ClassFile.FieldType.int)
theorem cl_MX12_best : kCL MX12_best 3 := ⟨(tb8 87 rfl rfl), (tb1 14 rfl rfl), ⟨by decide +kernel, by decide +kernel⟩, by decide +kernel, by decide⟩
def MX12_bestOf : kM := (⟨RX12, "bestOf", "(I)I"⟩, prog_14_method_86_code, 4, Option.some Jvm.ClassFile.FieldType.int)
theorem cl_MX12_bestOf : kCL MX12_bestOf 1 := ⟨(tb8 95 rfl rfl), (tb1 14 rfl rfl), ⟨by decide +kernel, by decide +kernel⟩, by decide +kernel, by decide⟩
def MX12_bring : kM := (⟨RX12, "bring", "(I)I"⟩, prog_14_method_133_code, 3, Option.some Jvm.ClassFile.FieldType.int)
theorem cl_MX12_bring : kCL MX12_bring 1 := ⟨(tb9 30 rfl rfl), (tb1 14 rfl rfl), ⟨by decide +kernel, by decide +kernel⟩, by decide +kernel, by decide⟩
def MX12_bytesIn : kM := (⟨RX12, "bytesIn", "(I)I"⟩, prog_14_method_16_code, 3, Option.some Jvm.ClassFile.FieldType.int)
theorem cl_MX12_bytesIn : kCL MX12_bytesIn 1 := ⟨(tb6 227 rfl rfl), (tb1 14 rfl rfl), ⟨by decide +kernel, by decide +kernel⟩, by decide +kernel, by decide⟩
def MX12_cellOf : kM := (⟨RX12, "cellOf", "(II)I"⟩, prog_14_method_68_code, 3, Option.some Jvm.ClassFile.FieldType.int)
theorem cl_MX12_cellOf : kCL MX12_cellOf 2 := ⟨(tb8 25 rfl rfl), (tb1 14 rfl rfl), ⟨by decide +kernel, by decide +kernel⟩, by decide +kernel, by decide⟩
def MX12_changed : kM := (⟨RX12, "changed", "(I)I"⟩, prog_14_method_134_code, 2, Option.some Jvm.ClassFile.FieldType.int)
theorem cl_MX12_changed : kCL MX12_changed 1 := ⟨(tb9 46 rfl rfl), (tb1 14 rfl rfl), ⟨by decide +kernel, by decide +kernel⟩, by decide +kernel, by decide⟩
def MX12_changedOf : kM := (⟨RX12, "changedOf", "(I)I"⟩, prog_14_method_129_code, 6, Option.some Jvm.ClassFile.FieldType.int)
theorem cl_MX12_changedOf : kCL MX12_changedOf 1 := ⟨(tb9 38 rfl rfl), (tb1 14 rfl rfl), ⟨by decide +kernel, by decide +kernel⟩, by decide +kernel, by decide⟩
def MX12_clause : kM := (⟨RX12, "clause", "()V"⟩, prog_14_method_34_code, 5, none)
theorem cl_MX12_clause : kCL MX12_clause 0 := ⟨(tb7 11 rfl rfl), (tb1 14 rfl rfl), ⟨by decide +kernel, by decide +kernel⟩, by decide +kernel, by decide⟩
def MX12_comeBack : kM := (⟨RX12, "comeBack", "()V"⟩, prog_14_method_132_code, 2, none)
theorem cl_MX12_comeBack : kCL MX12_comeBack 0 := ⟨(tb9 58 rfl rfl), (tb1 14 rfl rfl), ⟨by decide +kernel, by decide +kernel⟩, by decide +kernel, by decide⟩
def MX12_compares : kM := (⟨RX12, "compares", "(ZI)Z"⟩, prog_14_method_30_code, 6, Option.some Jvm.ClassFile.FieldType.boolean)
theorem cl_MX12_compares : kCL MX12_compares 2 := ⟨(tb7 86 rfl rfl), (tb1 14 rfl rfl), ⟨by decide +kernel, by decide +kernel⟩, by decide +kernel, by decide⟩
def MX12_condition : kM := (⟨RX12, "condition", "(ZI)Z"⟩, prog_14_method_33_code, 5, Option.some Jvm.ClassFile.FieldType.boolean)
theorem cl_MX12_condition : kCL MX12_condition 2 := ⟨(tb7 78 rfl rfl), (tb1 14 rfl rfl), ⟨by decide +kernel, by decide +kernel⟩, by decide +kernel, by decide⟩
def MX12_costOfNet : kM := (⟨RX12, "costOfNet", "()I"⟩, prog_14_method_116_code, 5, Option.some Jvm.ClassFile.FieldType.int)
theorem cl_MX12_costOfNet : kCL MX12_costOfNet 0 := ⟨(tb8 220 rfl rfl), (tb1 14 rfl rfl), ⟨by decide +kernel, by decide +kernel⟩, by decide +kernel, by decide⟩
def MX12_count : kM := (⟨RX12, "count", "(I)I"⟩, prog_14_method_137_code, 2, Option.some Jvm.ClassFile.FieldType.int)
theorem cl_MX12_count : kCL MX12_count 1 := ⟨(tb9 66 rfl rfl), (tb1 14 rfl rfl), ⟨by decide +kernel, by decide +kernel⟩, by decide +kernel, by decide⟩
def MX12_dig : kM := (⟨RX12, "dig", "(III)I"⟩, prog_14_method_107_code, 8, Option.some Jvm.ClassFile.FieldType.int)
theorem cl_MX12_dig : kCL MX12_dig 3 := ⟨(tb8 176 rfl rfl), (tb1 14 rfl rfl), ⟨by decide +kernel, by decide +kernel⟩, by decide +kernel, by decide⟩
def MX12_directionOf : kM := (⟨RX12, "directionOf", "(II)I"⟩, prog_14_method_70_code, 3, Option.some Jvm.ClassFile.FieldType.int)
theorem cl_MX12_directionOf : kCL MX12_directionOf 2 := ⟨(tb8 36 rfl rfl), (tb1 14 rfl rfl), ⟨by decide +kernel, by decide +kernel⟩, by decide +kernel, by decide⟩
def MX12_draw : kM := (⟨RX12, "draw", "(IIIIII)Z"⟩, prog_14_method_7_code, 9, Option.some Jvm.ClassFile.FieldType.boolean)
theorem cl_MX12_draw : kCL MX12_draw 6 := ⟨(tb6 203 rfl rfl), (tb1 14 rfl rfl), ⟨by decide +kernel, by decide +kernel⟩, by decide +kernel, by decide⟩
def MX12_draw_ : kM := (⟨RX12, "draw", "(I)I"⟩, prog_14_method_118_code, 2, Option.some Jvm.ClassFile.FieldType.int)
theorem cl_MX12_draw_ : kCL MX12_draw_ 1 := ⟨(tb8 236 rfl rfl), (tb1 14 rfl rfl), ⟨by decide +kernel, by decide +kernel⟩, by decide +kernel, by decide⟩
def MX12_drawn : kM := (⟨RX12, "drawn", "(II)I"⟩, prog_14_method_8_code, 3, Option.some Jvm.ClassFile.FieldType.int)
theorem cl_MX12_drawn : kCL MX12_drawn 2 := ⟨(tb6 213 rfl rfl), (tb1 14 rfl rfl), ⟨by decide +kernel, by decide +kernel⟩, by decide +kernel, by decide⟩
def MX12_easePains : kM := (⟨RX12, "easePains", "(I)V"⟩, prog_14_method_119_code, 4, none)
theorem cl_MX12_easePains : kCL MX12_easePains 1 := ⟨(tb9 2 rfl rfl), (tb1 14 rfl rfl), ⟨by decide +kernel, by decide +kernel⟩, by decide +kernel, by decide⟩
def MX12_east : kM := (⟨RX12, "east", "(I)I"⟩, prog_14_method_11_code, 1, Option.some Jvm.ClassFile.FieldType.int)
theorem cl_MX12_east : kCL MX12_east 1 := ⟨(tb7 151 rfl rfl), (tb1 14 rfl rfl), ⟨by decide +kernel, by decide +kernel⟩, by decide +kernel, by decide⟩
def MX12_end : kM := (⟨RX12, "end", "(I)Z"⟩, prog_14_method_19_code, 2, Option.some Jvm.ClassFile.FieldType.boolean)
theorem cl_MX12_end : kCL MX12_end 1 := ⟨(tb6 235 rfl rfl), (tb1 14 rfl rfl), ⟨by decide +kernel, by decide +kernel⟩, by decide +kernel, by decide⟩
def MX12_era : kM := (⟨RX12, "era", "()I"⟩, prog_14_method_128_code, 2, Option.some Jvm.ClassFile.FieldType.int)
theorem cl_MX12_era : kCL MX12_era 0 := ⟨(tb9 26 rfl rfl), (tb1 14 rfl rfl), ⟨by decide +kernel, by decide +kernel⟩, by decide +kernel, by decide⟩
def MX12_evidence : kM := (⟨RX12, "evidence", "(III)I"⟩, prog_14_method_102_code, 4, Option.some Jvm.ClassFile.FieldType.int)
theorem cl_MX12_evidence : kCL MX12_evidence 3 := ⟨(tb8 140 rfl rfl), (tb1 14 rfl rfl), ⟨by decide +kernel, by decide +kernel⟩, by decide +kernel, by decide⟩
def MX12_fails : kM := (⟨RX12, "fails", "()Z"⟩, prog_14_method_21_code, 1, Option.some Jvm.ClassFile.FieldType.boolean)
theorem cl_MX12_fails : kCL MX12_fails 0 := ⟨(tb7 70 rfl rfl), (tb1 14 rfl rfl), ⟨by decide +kernel, by decide +kernel⟩, by decide +kernel, by decide⟩
def MX12_farFrom : kM := (⟨RX12, "farFrom", "(IIII)I"⟩, prog_14_method_75_code, 7, Option.some Jvm.ClassFile.FieldType.int)
theorem cl_MX12_farFrom : kCL MX12_farFrom 4 := ⟨(tb8 63 rfl rfl), (tb1 14 rfl rfl), ⟨by decide +kernel, by decide +kernel⟩, by decide +kernel, by decide⟩
def MX12_fault : kM := (⟨RX12, "fault", "(I)I"⟩, prog_14_method_39_code, 2, Option.some Jvm.ClassFile.FieldType.int)
theorem cl_MX12_fault : kCL MX12_fault 1 := ⟨(tb6 239 rfl rfl), (tb1 14 rfl rfl), ⟨by decide +kernel, by decide +kernel⟩, by decide +kernel, by decide⟩
def MX12_feed : kM := (⟨RX12, "feed", "(IIIII)I"⟩, prog_14_method_18_code, 6, Option.some Jvm.ClassFile.FieldType.int)
theorem cl_MX12_feed : kCL MX12_feed 5 := ⟨(tb6 224 rfl rfl), (tb1 14 rfl rfl), ⟨by decide +kernel, by decide +kernel⟩, by decide +kernel, by decide⟩
def MX12_feet : kM := (⟨RX12, "feet", "(IIZJII)I"⟩, prog_14_method_122_code, 9, Option.some Jvm.ClassFile.FieldType.int)
theorem cl_MX12_feet : kCL MX12_feet 6 := ⟨(tb8 228 rfl rfl), (tb1 14 rfl rfl), ⟨by decide +kernel, by decide +kernel⟩, by decide +kernel, by decide⟩
def MX12_field : kM := (⟨RX12, "field", "(IIII)I"⟩, prog_14_method_108_code, 5, Option.some Jvm.ClassFile.FieldType.int)
theorem cl_MX12_field : kCL MX12_field 4 := ⟨(tb8 188 rfl rfl), (tb1 14 rfl rfl), ⟨by decide +kernel, by decide +kernel⟩, by decide +kernel, by decide⟩
def MX12_find : kM := (⟨RX12, "find", "(III)I"⟩, prog_14_method_74_code, 4, Option.some Jvm.ClassFile.FieldType.int)
theorem cl_MX12_find : kCL MX12_find 3 := ⟨(tb8 44 rfl rfl), (tb1 14 rfl rfl), ⟨by decide +kernel, by decide +kernel⟩, by decide +kernel, by decide⟩
def MX12_fitOf : kM := (⟨RX12, "fitOf", "(II)I"⟩, prog_14_method_85_code, 5, Option.some Jvm.ClassFile.FieldType.int)
theorem cl_MX12_fitOf : kCL MX12_fitOf 2 := ⟨(tb8 99 rfl rfl), (tb1 14 rfl rfl), ⟨by decide +kernel, by decide +kernel⟩, by decide +kernel, by decide⟩
def MX12_goOn : kM := (⟨RX12, "goOn", "(I)I"⟩, prog_14_method_67_code, 4, Option.some Jvm.ClassFile.FieldType.int)
theorem cl_MX12_goOn : kCL MX12_goOn 1 := ⟨(tb8 13 rfl rfl), (tb1 14 rfl rfl), ⟨by decide +kernel, by decide +kernel⟩, by decide +kernel, by decide⟩
def MX12_goThrough : kM := (⟨RX12, "goThrough", "([BII)V"⟩, prog_14_method_36_code, 4, none)
theorem cl_MX12_goThrough : kCL MX12_goThrough 3 := ⟨(tb7 3 rfl rfl), (tb1 14 rfl rfl), ⟨by decide +kernel, by decide +kernel⟩, by decide +kernel, by decide⟩
def MX12_goTo : kM := (⟨RX12, "goTo", "(I)V"⟩, prog_14_method_130_code, 3, none)
theorem cl_MX12_goTo : kCL MX12_goTo 1 := ⟨(tb9 42 rfl rfl), (tb1 14 rfl rfl), ⟨by decide +kernel, by decide +kernel⟩, by decide +kernel, by decide⟩
def MX12_goTrip : kM := (⟨RX12, "goTrip", "(I)Z"⟩, prog_14_method_120_code, 6, Option.some Jvm.ClassFile.FieldType.boolean)
theorem cl_MX12_goTrip : kCL MX12_goTrip 1 := ⟨(tb8 232 rfl rfl), (tb1 14 rfl rfl), ⟨by decide +kernel, by decide +kernel⟩, by decide +kernel, by decide⟩
def MX12_goWay : kM := (⟨RX12, "goWay", "(II)V"⟩, prog_14_method_48_code, 5, none)
theorem cl_MX12_goWay : kCL MX12_goWay 2 := ⟨(tb7 180 rfl rfl), (tb1 14 rfl rfl), ⟨by decide +kernel, by decide +kernel⟩, by decide +kernel, by decide⟩
def MX12_goesIn : kM := (⟨RX12, "goesIn", "()Z"⟩, prog_14_method_22_code, 1, Option.some Jvm.ClassFile.FieldType.boolean)
theorem cl_MX12_goesIn : kCL MX12_goesIn 0 := ⟨(tb7 102 rfl rfl), (tb1 14 rfl rfl), ⟨by decide +kernel, by decide +kernel⟩, by decide +kernel, by decide⟩
def MX12_has : kM := (⟨RX12, "has", "(II)Z"⟩, prog_14_method_4_code, 2, Option.some Jvm.ClassFile.FieldType.boolean)
theorem cl_MX12_has : kCL MX12_has 2 := ⟨(tb8 59 rfl rfl), (tb1 14 rfl rfl), ⟨by decide +kernel, by decide +kernel⟩, by decide +kernel, by decide⟩
def MX12_hedge : kM := (⟨RX12, "hedge", "(III)I"⟩, prog_14_method_113_code, 11, Option.some Jvm.ClassFile.FieldType.int)
theorem cl_MX12_hedge : kCL MX12_hedge 3 := ⟨(tb8 208 rfl rfl), (tb1 14 rfl rfl), ⟨by decide +kernel, by decide +kernel⟩, by decide +kernel, by decide⟩
def MX12_holds : kM := (⟨RX12, "holds", "(III)I"⟩, prog_14_method_95_code, 6, Option.some Jvm.ClassFile.FieldType.int)
theorem cl_MX12_holds : kCL MX12_holds 3 := ⟨(tb8 132 rfl rfl), (tb1 14 rfl rfl), ⟨by decide +kernel, by decide +kernel⟩, by decide +kernel, by decide⟩
def MX12_init : kM := (⟨RX12, "<init>", "()V"⟩, prog_14_method_1_code, 1, none)
theorem cl_MX12_init : kCL MX12_init 0 := ⟨(tb5 222 rfl rfl), (tb1 14 rfl rfl), ⟨by decide +kernel, by decide +kernel⟩, by decide +kernel, by decide⟩
def MX12_isAmong : kM := (⟨RX12, "isAmong", "(Ljava/lang/String;I)Z"⟩, prog_14_method_15_code, 3, Option.some Jvm.ClassFile.FieldType.boolean)
theorem cl_MX12_isAmong : kCL MX12_isAmong 2 := ⟨(tb7 18 rfl rfl), (tb1 14 rfl rfl), ⟨by decide +kernel, by decide +kernel⟩, by decide +kernel, by decide⟩
def MX12_isBefore : kM := (⟨RX12, "isBefore", "(II)Z"⟩, prog_14_method_106_code, 5, Option.some Jvm.ClassFile.FieldType.boolean)
theorem cl_MX12_isBefore : kCL MX12_isBefore 2 := ⟨(tb8 184 rfl rfl), (tb1 14 rfl rfl), ⟨by decide +kernel, by decide +kernel⟩, by decide +kernel, by decide⟩
def MX12_isByWay : kM := (⟨RX12, "isByWay", "(II)Z"⟩, prog_14_method_98_code, 4, Option.some Jvm.ClassFile.FieldType.boolean)
theorem cl_MX12_isByWay : kCL MX12_isByWay 2 := ⟨(tb8 156 rfl rfl), (tb1 14 rfl rfl), ⟨by decide +kernel, by decide +kernel⟩, by decide +kernel, by decide⟩
def MX12_isCell : kM := (⟨RX12, "isCell", "(I)Z"⟩, prog_14_method_5_code, 1, Option.some Jvm.ClassFile.FieldType.boolean)
theorem cl_MX12_isCell : kCL MX12_isCell 1 := ⟨(tb6 216 rfl rfl), (tb1 14 rfl rfl), ⟨by decide +kernel, by decide +kernel⟩, by decide +kernel, by decide⟩
def MX12_isDigit : kM := (⟨RX12, "isDigit", "()Z"⟩, prog_14_method_24_code, 1, Option.some Jvm.ClassFile.FieldType.boolean)
theorem cl_MX12_isDigit : kCL MX12_isDigit 0 := ⟨(tb7 106 rfl rfl), (tb1 14 rfl rfl), ⟨by decide +kernel, by decide +kernel⟩, by decide +kernel, by decide⟩
def MX12_isEra : kM := (⟨RX12, "isEra", "(I)Z"⟩, prog_14_method_127_code, 2, Option.some Jvm.ClassFile.FieldType.boolean)
theorem cl_MX12_isEra : kCL MX12_isEra 1 := ⟨(tb9 34 rfl rfl), (tb1 14 rfl rfl), ⟨by decide +kernel, by decide +kernel⟩, by decide +kernel, by decide⟩
def MX12_isGoer : kM := (⟨RX12, "isGoer", "(I)Z"⟩, prog_14_method_41_code, 2, Option.some Jvm.ClassFile.FieldType.boolean)
theorem cl_MX12_isGoer : kCL MX12_isGoer 1 := ⟨(tb7 145 rfl rfl), (tb1 14 rfl rfl), ⟨by decide +kernel, by decide +kernel⟩, by decide +kernel, by decide⟩
def MX12_isIn : kM := (⟨RX12, "isIn", "(III)Z"⟩, prog_14_method_3_code, 3, Option.some Jvm.ClassFile.FieldType.boolean)
theorem cl_MX12_isIn : kCL MX12_isIn 3 := ⟨(tb6 209 rfl rfl), (tb1 14 rfl rfl), ⟨by decide +kernel, by decide +kernel⟩, by decide +kernel, by decide⟩
def MX12_isInLand : kM := (⟨RX12, "isInLand", "(III)Z"⟩, prog_14_method_79_code, 5, Option.some Jvm.ClassFile.FieldType.boolean)
theorem cl_MX12_isInLand : kCL MX12_isInLand 3 := ⟨(tb8 71 rfl rfl), (tb1 14 rfl rfl), ⟨by decide +kernel, by decide +kernel⟩, by decide +kernel, by decide⟩
def MX12_isLine : kM := (⟨RX12, "isLine", "(I)Z"⟩, prog_14_method_60_code, 2, Option.some Jvm.ClassFile.FieldType.boolean)
theorem cl_MX12_isLine : kCL MX12_isLine 1 := ⟨(tb8 21 rfl rfl), (tb1 14 rfl rfl), ⟨by decide +kernel, by decide +kernel⟩, by decide +kernel, by decide⟩
def MX12_isManner : kM := (⟨RX12, "isManner", "(II)Z"⟩, prog_14_method_42_code, 3, Option.some Jvm.ClassFile.FieldType.boolean)
theorem cl_MX12_isManner : kCL MX12_isManner 2 := ⟨(tb7 141 rfl rfl), (tb1 14 rfl rfl), ⟨by decide +kernel, by decide +kernel⟩, by decide +kernel, by decide⟩
def MX12_isNear : kM := (⟨RX12, "isNear", "(III)Z"⟩, prog_14_method_77_code, 4, Option.some Jvm.ClassFile.FieldType.boolean)
theorem cl_MX12_isNear : kCL MX12_isNear 3 := ⟨(tb8 52 rfl rfl), (tb1 14 rfl rfl), ⟨by decide +kernel, by decide +kernel⟩, by decide +kernel, by decide⟩
def MX12_isOnWay : kM := (⟨RX12, "isOnWay", "(II)Z"⟩, prog_14_method_97_code, 4, Option.some Jvm.ClassFile.FieldType.boolean)
theorem cl_MX12_isOnWay : kCL MX12_isOnWay 2 := ⟨(tb8 168 rfl rfl), (tb1 14 rfl rfl), ⟨by decide +kernel, by decide +kernel⟩, by decide +kernel, by decide⟩
def MX12_isPlace : kM := (⟨RX12, "isPlace", "(II)Z"⟩, prog_14_method_6_code, 2, Option.some Jvm.ClassFile.FieldType.boolean)
theorem cl_MX12_isPlace : kCL MX12_isPlace 2 := ⟨(tb6 206 rfl rfl), (tb1 14 rfl rfl), ⟨by decide +kernel, by decide +kernel⟩, by decide +kernel, by decide⟩
def MX12_isSign : kM := (⟨RX12, "isSign", "(I)Z"⟩, prog_14_method_29_code, 1, Option.some Jvm.ClassFile.FieldType.boolean)
theorem cl_MX12_isSign : kCL MX12_isSign 1 := ⟨(tb7 116 rfl rfl), (tb1 14 rfl rfl), ⟨by decide +kernel, by decide +kernel⟩, by decide +kernel, by decide⟩
def MX12_isStage : kM := (⟨RX12, "isStage", "(II)Z"⟩, prog_14_method_89_code, 3, Option.some Jvm.ClassFile.FieldType.boolean)
theorem cl_MX12_isStage : kCL MX12_isStage 2 := ⟨(tb8 111 rfl rfl), (tb1 14 rfl rfl), ⟨by decide +kernel, by decide +kernel⟩, by decide +kernel, by decide⟩
def MX12_isTown : kM := (⟨RX12, "isTown", "(I)Z"⟩, prog_14_method_10_code, 2, Option.some Jvm.ClassFile.FieldType.boolean)
theorem cl_MX12_isTown : kCL MX12_isTown 1 := ⟨(tb8 148 rfl rfl), (tb1 14 rfl rfl), ⟨by decide +kernel, by decide +kernel⟩, by decide +kernel, by decide⟩
def MX12_isWay : kM := (⟨RX12, "isWay", "(IIII)Z"⟩, prog_14_method_50_code, 5, Option.some Jvm.ClassFile.FieldType.boolean)
theorem cl_MX12_isWay : kCL MX12_isWay 4 := ⟨(tb7 168 rfl rfl), (tb1 14 rfl rfl), ⟨by decide +kernel, by decide +kernel⟩, by decide +kernel, by decide⟩
def MX12_known : kM := (⟨RX12, "known", "(I)I"⟩, prog_14_method_81_code, 3, Option.some Jvm.ClassFile.FieldType.int)
theorem cl_MX12_known : kCL MX12_known 1 := ⟨(tb8 75 rfl rfl), (tb1 14 rfl rfl), ⟨by decide +kernel, by decide +kernel⟩, by decide +kernel, by decide⟩
def MX12_lasting : kM := (⟨RX12, "lasting", "(IIZII)I"⟩, prog_14_method_136_code, 10, Option.some Jvm.ClassFile.FieldType.int)
theorem cl_MX12_lasting : kCL MX12_lasting 5 := ⟨(tb9 62 rfl rfl), (tb1 14 rfl rfl), ⟨by decide +kernel, by decide +kernel⟩, by decide +kernel, by decide⟩
def MX12_layFrom : kM := (⟨RX12, "layFrom", "(I)V"⟩, prog_14_method_47_code, 6, none)
theorem cl_MX12_layFrom : kCL MX12_layFrom 1 := ⟨(tb7 197 rfl rfl), (tb1 14 rfl rfl), ⟨by decide +kernel, by decide +kernel⟩, by decide +kernel, by decide⟩
def MX12_layHops : kM := (⟨RX12, "layHops", "(II)V"⟩, prog_14_method_57_code, 6, none)
theorem cl_MX12_layHops : kCL MX12_layHops 2 := ⟨(tb7 221 rfl rfl), (tb1 14 rfl rfl), ⟨by decide +kernel, by decide +kernel⟩, by decide +kernel, by decide⟩
def MX12_layLeft : kM := (⟨RX12, "layLeft", "(I)V"⟩, prog_14_method_46_code, 6, none)
theorem cl_MX12_layLeft : kCL MX12_layLeft 1 := ⟨(tb7 184 rfl rfl), (tb1 14 rfl rfl), ⟨by decide +kernel, by decide +kernel⟩, by decide +kernel, by decide⟩
def MX12_layMisses : kM := (⟨RX12, "layMisses", "(IZ)V"⟩, prog_14_method_84_code, 5, none)
theorem cl_MX12_layMisses : kCL MX12_layMisses 2 := ⟨(tb8 91 rfl rfl), (tb1 14 rfl rfl), ⟨by decide +kernel, by decide +kernel⟩, by decide +kernel, by decide⟩
def MX12_layPains : kM := (⟨RX12, "layPains", "(IIZ)V"⟩, prog_14_method_45_code, 6, none)
theorem cl_MX12_layPains : kCL MX12_layPains 3 := ⟨(tb7 176 rfl rfl), (tb1 14 rfl rfl), ⟨by decide +kernel, by decide +kernel⟩, by decide +kernel, by decide⟩
def MX12_layRoads : kM := (⟨RX12, "layRoads", "(IIZ)V"⟩, prog_14_method_114_code, 6, none)
theorem cl_MX12_layRoads : kCL MX12_layRoads 3 := ⟨(tb8 216 rfl rfl), (tb1 14 rfl rfl), ⟨by decide +kernel, by decide +kernel⟩, by decide +kernel, by decide⟩
def MX12_layWay : kM := (⟨RX12, "layWay", "(IIZII)V"⟩, prog_14_method_49_code, 6, none)
theorem cl_MX12_layWay : kCL MX12_layWay 5 := ⟨(tb7 172 rfl rfl), (tb1 14 rfl rfl), ⟨by decide +kernel, by decide +kernel⟩, by decide +kernel, by decide⟩
def MX12_layWorld : kM := (⟨RX12, "layWorld", "(III)V"⟩, prog_14_method_99_code, 8, none)
theorem cl_MX12_layWorld : kCL MX12_layWorld 3 := ⟨(tb8 152 rfl rfl), (tb1 14 rfl rfl), ⟨by decide +kernel, by decide +kernel⟩, by decide +kernel, by decide⟩
def MX12_layWorlds : kM := (⟨RX12, "layWorlds", "(II)V"⟩, prog_14_method_101_code, 4, none)
theorem cl_MX12_layWorlds : kCL MX12_layWorlds 2 := ⟨(tb8 164 rfl rfl), (tb1 14 rfl rfl), ⟨by decide +kernel, by decide +kernel⟩, by decide +kernel, by decide⟩
def MX12_leaveNow : kM := (⟨RX12, "leaveNow", "()V"⟩, prog_14_method_131_code, 2, none)
theorem cl_MX12_leaveNow : kCL MX12_leaveNow 0 := ⟨(tb9 54 rfl rfl), (tb1 14 rfl rfl), ⟨by decide +kernel, by decide +kernel⟩, by decide +kernel, by decide⟩
def MX12_lies : kM := (⟨RX12, "lies", "(II)I"⟩, prog_14_method_109_code, 5, Option.some Jvm.ClassFile.FieldType.int)
theorem cl_MX12_lies : kCL MX12_lies 2 := ⟨(tb8 200 rfl rfl), (tb1 14 rfl rfl), ⟨by decide +kernel, by decide +kernel⟩, by decide +kernel, by decide⟩
def MX12_line : kM := (⟨RX12, "line", "(II)I"⟩, prog_14_method_69_code, 3, Option.some Jvm.ClassFile.FieldType.int)
theorem cl_MX12_line : kCL MX12_line 2 := ⟨(tb8 17 rfl rfl), (tb1 14 rfl rfl), ⟨by decide +kernel, by decide +kernel⟩, by decide +kernel, by decide⟩
def MX12_lineAt : kM := (⟨RX12, "lineAt", "(I)I"⟩, prog_14_method_66_code, 2, Option.some Jvm.ClassFile.FieldType.int)
theorem cl_MX12_lineAt : kCL MX12_lineAt 1 := ⟨(tb8 9 rfl rfl), (tb1 14 rfl rfl), ⟨by decide +kernel, by decide +kernel⟩, by decide +kernel, by decide⟩
def MX12_lineOfSight : kM := (⟨RX12, "lineOfSight", "(III)I"⟩, prog_14_method_65_code, 5, Option.some Jvm.ClassFile.FieldType.int)
theorem cl_MX12_lineOfSight : kCL MX12_lineOfSight 3 := ⟨(tb8 1 rfl rfl), (tb1 14 rfl rfl), ⟨by decide +kernel, by decide +kernel⟩, by decide +kernel, by decide⟩
def MX12_lineOfWay : kM := (⟨RX12, "lineOfWay", "(IIZII)I"⟩, prog_14_method_63_code, 7, Option.some Jvm.ClassFile.FieldType.int)
theorem cl_MX12_lineOfWay : kCL MX12_lineOfWay 5 := ⟨(tb7 229 rfl rfl), (tb1 14 rfl rfl), ⟨by decide +kernel, by decide +kernel⟩, by decide +kernel, by decide⟩
def MX12_look : kM := (⟨RX12, "look", "()I"⟩, prog_14_method_20_code, 1, Option.some Jvm.ClassFile.FieldType.int)
theorem cl_MX12_look : kCL MX12_look 0 := ⟨(tb7 15 rfl rfl), (tb1 14 rfl rfl), ⟨by decide +kernel, by decide +kernel⟩, by decide +kernel, by decide⟩
def MX12_meets : kM := (⟨RX12, "meets", "(II)I"⟩, prog_14_method_111_code, 3, Option.some Jvm.ClassFile.FieldType.int)
theorem cl_MX12_meets : kCL MX12_meets 2 := ⟨(tb8 192 rfl rfl), (tb1 14 rfl rfl), ⟨by decide +kernel, by decide +kernel⟩, by decide +kernel, by decide⟩
def MX12_meetsOf : kM := (⟨RX12, "meetsOf", "(II)I"⟩, prog_14_method_110_code, 8, Option.some Jvm.ClassFile.FieldType.int)
theorem cl_MX12_meetsOf : kCL MX12_meetsOf 2 := ⟨(tb8 196 rfl rfl), (tb1 14 rfl rfl), ⟨by decide +kernel, by decide +kernel⟩, by decide +kernel, by decide⟩
def MX12_milesOfRow : kM := (⟨RX12, "milesOfRow", "([III)I"⟩, prog_14_method_71_code, 6, Option.some Jvm.ClassFile.FieldType.int)
theorem cl_MX12_milesOfRow : kCL MX12_milesOfRow 3 := ⟨(tb8 33 rfl rfl), (tb1 14 rfl rfl), ⟨by decide +kernel, by decide +kernel⟩, by decide +kernel, by decide⟩
def MX12_miss : kM := (⟨RX12, "miss", "(IIZI)I"⟩, prog_14_method_83_code, 5, Option.some Jvm.ClassFile.FieldType.int)
theorem cl_MX12_miss : kCL MX12_miss 4 := ⟨(tb8 79 rfl rfl), (tb1 14 rfl rfl), ⟨by decide +kernel, by decide +kernel⟩, by decide +kernel, by decide⟩
def MX12_missOf : kM := (⟨RX12, "missOf", "(I)I"⟩, prog_14_method_82_code, 5, Option.some Jvm.ClassFile.FieldType.int)
theorem cl_MX12_missOf : kCL MX12_missOf 1 := ⟨(tb8 83 rfl rfl), (tb1 14 rfl rfl), ⟨by decide +kernel, by decide +kernel⟩, by decide +kernel, by decide⟩
def MX12_near : kM := (⟨RX12, "near", "(III)I"⟩, prog_14_method_78_code, 4, Option.some Jvm.ClassFile.FieldType.int)
theorem cl_MX12_near : kCL MX12_near 3 := ⟨(tb8 48 rfl rfl), (tb1 14 rfl rfl), ⟨by decide +kernel, by decide +kernel⟩, by decide +kernel, by decide⟩
def MX12_nearOf : kM := (⟨RX12, "nearOf", "(IIIII)I"⟩, prog_14_method_76_code, 8, Option.some Jvm.ClassFile.FieldType.int)
theorem cl_MX12_nearOf : kCL MX12_nearOf 5 := ⟨(tb8 56 rfl rfl), (tb1 14 rfl rfl), ⟨by decide +kernel, by decide +kernel⟩, by decide +kernel, by decide⟩
def MX12_nearly : kM := (⟨RX12, "nearly", "(IIZIIII)I"⟩, prog_14_method_53_code, 12, Option.some Jvm.ClassFile.FieldType.int)
theorem cl_MX12_nearly : kCL MX12_nearly 7 := ⟨(tb7 193 rfl rfl), (tb1 14 rfl rfl), ⟨by decide +kernel, by decide +kernel⟩, by decide +kernel, by decide⟩
def MX12_net : kM := (⟨RX12, "net", "(IIZI)I"⟩, prog_14_method_117_code, 7, Option.some Jvm.ClassFile.FieldType.int)
theorem cl_MX12_net : kCL MX12_net 4 := ⟨(tb8 212 rfl rfl), (tb1 14 rfl rfl), ⟨by decide +kernel, by decide +kernel⟩, by decide +kernel, by decide⟩
def MX12_nextHop : kM := (⟨RX12, "nextHop", "(II)I"⟩, prog_14_method_58_code, 4, Option.some Jvm.ClassFile.FieldType.int)
theorem cl_MX12_nextHop : kCL MX12_nextHop 2 := ⟨(tb7 225 rfl rfl), (tb1 14 rfl rfl), ⟨by decide +kernel, by decide +kernel⟩, by decide +kernel, by decide⟩
def MX12_odds : kM := (⟨RX12, "odds", "(III)I"⟩, prog_14_method_103_code, 6, Option.some Jvm.ClassFile.FieldType.int)
theorem cl_MX12_odds : kCL MX12_odds 3 := ⟨(tb8 160 rfl rfl), (tb1 14 rfl rfl), ⟨by decide +kernel, by decide +kernel⟩, by decide +kernel, by decide⟩
def MX12_off : kM := (⟨RX12, "off", "(IIIIZ)I"⟩, prog_14_method_92_code, 6, Option.some Jvm.ClassFile.FieldType.int)
theorem cl_MX12_off : kCL MX12_off 5 := ⟨(tb8 115 rfl rfl), (tb1 14 rfl rfl), ⟨by decide +kernel, by decide +kernel⟩, by decide +kernel, by decide⟩
def MX12_older : kM := (⟨RX12, "older", "(I)I"⟩, prog_14_method_112_code, 4, Option.some Jvm.ClassFile.FieldType.int)
theorem cl_MX12_older : kCL MX12_older 1 := ⟨(tb8 204 rfl rfl), (tb1 14 rfl rfl), ⟨by decide +kernel, by decide +kernel⟩, by decide +kernel, by decide⟩
def MX12_onLine : kM := (⟨RX12, "onLine", "(III)I"⟩, prog_14_method_54_code, 6, Option.some Jvm.ClassFile.FieldType.int)
theorem cl_MX12_onLine : kCL MX12_onLine 3 := ⟨(tb7 212 rfl rfl), (tb1 14 rfl rfl), ⟨by decide +kernel, by decide +kernel⟩, by decide +kernel, by decide⟩
def MX12_pain : kM := (⟨RX12, "pain", "(IIZII)I"⟩, prog_14_method_44_code, 6, Option.some Jvm.ClassFile.FieldType.int)
theorem cl_MX12_pain : kCL MX12_pain 5 := ⟨(tb7 137 rfl rfl), (tb1 14 rfl rfl), ⟨by decide +kernel, by decide +kernel⟩, by decide +kernel, by decide⟩
def MX12_painOf : kM := (⟨RX12, "painOf", "(IIZII)I"⟩, prog_14_method_43_code, 8, Option.some Jvm.ClassFile.FieldType.int)
theorem cl_MX12_painOf : kCL MX12_painOf 5 := ⟨(tb7 158 rfl rfl), (tb1 14 rfl rfl), ⟨by decide +kernel, by decide +kernel⟩, by decide +kernel, by decide⟩
def MX12_pains : kM := (⟨RX12, "pains", "(IIZII)I"⟩, prog_14_method_51_code, 6, Option.some Jvm.ClassFile.FieldType.int)
theorem cl_MX12_pains : kCL MX12_pains 5 := ⟨(tb7 164 rfl rfl), (tb1 14 rfl rfl), ⟨by decide +kernel, by decide +kernel⟩, by decide +kernel, by decide⟩
def MX12_part : kM := (⟨RX12, "part", "(ZI)Z"⟩, prog_14_method_32_code, 5, Option.some Jvm.ClassFile.FieldType.boolean)
theorem cl_MX12_part : kCL MX12_part 2 := ⟨(tb7 82 rfl rfl), (tb1 14 rfl rfl), ⟨by decide +kernel, by decide +kernel⟩, by decide +kernel, by decide⟩
def MX12_partedBy : kM := (⟨RX12, "partedBy", "(I)I"⟩, prog_14_method_105_code, 4, Option.some Jvm.ClassFile.FieldType.int)
theorem cl_MX12_partedBy : kCL MX12_partedBy 1 := ⟨(tb8 180 rfl rfl), (tb1 14 rfl rfl), ⟨by decide +kernel, by decide +kernel⟩, by decide +kernel, by decide⟩
def MX12_pit : kM := (⟨RX12, "pit", "(I)I"⟩, prog_14_method_104_code, 2, Option.some Jvm.ClassFile.FieldType.int)
theorem cl_MX12_pit : kCL MX12_pit 1 := ⟨(tb8 172 rfl rfl), (tb1 14 rfl rfl), ⟨by decide +kernel, by decide +kernel⟩, by decide +kernel, by decide⟩
def MX12_put : kM := (⟨RX12, "put", "(I)V"⟩, prog_14_method_17_code, 3, none)
theorem cl_MX12_put : kCL MX12_put 1 := ⟨(tb6 231 rfl rfl), (tb1 14 rfl rfl), ⟨by decide +kernel, by decide +kernel⟩, by decide +kernel, by decide⟩
def MX12_reached : kM := (⟨RX12, "reached", "(III)I"⟩, prog_14_method_115_code, 7, Option.some Jvm.ClassFile.FieldType.int)
theorem cl_MX12_reached : kCL MX12_reached 3 := ⟨(tb8 224 rfl rfl), (tb1 14 rfl rfl), ⟨by decide +kernel, by decide +kernel⟩, by decide +kernel, by decide⟩
def MX12_readBook : kM := (⟨RX12, "readBook", "()V"⟩, prog_14_method_38_code, 5, none)
theorem cl_MX12_readBook : kCL MX12_readBook 0 := ⟨(tb7 124 rfl rfl), (tb1 14 rfl rfl), ⟨by decide +kernel, by decide +kernel⟩, by decide +kernel, by decide⟩
def MX12_readTown : kM := (⟨RX12, "readTown", "()I"⟩, prog_14_method_37_code, 2, Option.some Jvm.ClassFile.FieldType.int)
theorem cl_MX12_readTown : kCL MX12_readTown 0 := ⟨(tb7 128 rfl rfl), (tb1 14 rfl rfl), ⟨by decide +kernel, by decide +kernel⟩, by decide +kernel, by decide⟩
def MX12_sees : kM := (⟨RX12, "sees", "(II)I"⟩, prog_14_method_56_code, 3, Option.some Jvm.ClassFile.FieldType.int)
theorem cl_MX12_sees : kCL MX12_sees 2 := ⟨(tb7 201 rfl rfl), (tb1 14 rfl rfl), ⟨by decide +kernel, by decide +kernel⟩, by decide +kernel, by decide⟩
def MX12_seesIt : kM := (⟨RX12, "seesIt", "(II)Z"⟩, prog_14_method_55_code, 5, Option.some Jvm.ClassFile.FieldType.boolean)
theorem cl_MX12_seesIt : kCL MX12_seesIt 2 := ⟨(tb7 205 rfl rfl), (tb1 14 rfl rfl), ⟨by decide +kernel, by decide +kernel⟩, by decide +kernel, by decide⟩
def MX12_sights : kM := (⟨RX12, "sights", "(IIII)I"⟩, prog_14_method_59_code, 7, Option.some Jvm.ClassFile.FieldType.int)
theorem cl_MX12_sights : kCL MX12_sights 4 := ⟨(tb7 217 rfl rfl), (tb1 14 rfl rfl), ⟨by decide +kernel, by decide +kernel⟩, by decide +kernel, by decide⟩
def MX12_slip : kM := (⟨RX12, "slip", "(IIIIZI)I"⟩, prog_14_method_94_code, 7, Option.some Jvm.ClassFile.FieldType.int)
theorem cl_MX12_slip : kCL MX12_slip 6 := ⟨(tb8 124 rfl rfl), (tb1 14 rfl rfl), ⟨by decide +kernel, by decide +kernel⟩, by decide +kernel, by decide⟩
def MX12_slipOf : kM := (⟨RX12, "slipOf", "(III)I"⟩, prog_14_method_93_code, 6, Option.some Jvm.ClassFile.FieldType.int)
theorem cl_MX12_slipOf : kCL MX12_slipOf 3 := ⟨(tb8 128 rfl rfl), (tb1 14 rfl rfl), ⟨by decide +kernel, by decide +kernel⟩, by decide +kernel, by decide⟩
def MX12_south : kM := (⟨RX12, "south", "(I)I"⟩, prog_14_method_12_code, 1, Option.some Jvm.ClassFile.FieldType.int)
theorem cl_MX12_south : kCL MX12_south 1 := ⟨(tb7 154 rfl rfl), (tb1 14 rfl rfl), ⟨by decide +kernel, by decide +kernel⟩, by decide +kernel, by decide⟩
def MX12_stage : kM := (⟨RX12, "stage", "(III)I"⟩, prog_14_method_90_code, 5, Option.some Jvm.ClassFile.FieldType.int)
theorem cl_MX12_stage : kCL MX12_stage 3 := ⟨(tb8 107 rfl rfl), (tb1 14 rfl rfl), ⟨by decide +kernel, by decide +kernel⟩, by decide +kernel, by decide⟩
def MX12_step : kM := (⟨RX12, "step", "(II)I"⟩, prog_14_method_13_code, 4, Option.some Jvm.ClassFile.FieldType.int)
theorem cl_MX12_step : kCL MX12_step 2 := ⟨(tb7 148 rfl rfl), (tb1 14 rfl rfl), ⟨by decide +kernel, by decide +kernel⟩, by decide +kernel, by decide⟩
def MX12_sum : kM := (⟨RX12, "sum", "()I"⟩, prog_14_method_28_code, 5, Option.some Jvm.ClassFile.FieldType.int)
theorem cl_MX12_sum : kCL MX12_sum 0 := ⟨(tb7 90 rfl rfl), (tb1 14 rfl rfl), ⟨by decide +kernel, by decide +kernel⟩, by decide +kernel, by decide⟩
def MX12_takes : kM := (⟨RX12, "takes", "(I)Z"⟩, prog_14_method_23_code, 2, Option.some Jvm.ClassFile.FieldType.boolean)
theorem cl_MX12_takes : kCL MX12_takes 1 := ⟨(tb7 74 rfl rfl), (tb1 14 rfl rfl), ⟨by decide +kernel, by decide +kernel⟩, by decide +kernel, by decide⟩
def MX12_term : kM := (⟨RX12, "term", "()I"⟩, prog_14_method_27_code, 5, Option.some Jvm.ClassFile.FieldType.int)
theorem cl_MX12_term : kCL MX12_term 0 := ⟨(tb7 94 rfl rfl), (tb1 14 rfl rfl), ⟨by decide +kernel, by decide +kernel⟩, by decide +kernel, by decide⟩
def MX12_text : kM := (⟨RX12, "text", "(I)I"⟩, prog_14_method_40_code, 3, Option.some Jvm.ClassFile.FieldType.int)
theorem cl_MX12_text : kCL MX12_text 1 := ⟨(tb7 132 rfl rfl), (tb1 14 rfl rfl), ⟨by decide +kernel, by decide +kernel⟩, by decide +kernel, by decide⟩
def MX12_then : kM := (⟨RX12, "then", "(IIIZIII)I"⟩, prog_14_method_135_code, 8, Option.some Jvm.ClassFile.FieldType.int)
theorem cl_MX12_then : kCL MX12_then 7 := ⟨(tb9 50 rfl rfl), (tb1 14 rfl rfl), ⟨by decide +kernel, by decide +kernel⟩, by decide +kernel, by decide⟩
def MX12_thrown : kM := (⟨RX12, "thrown", "()I"⟩, prog_14_method_2_code, 1, Option.some Jvm.ClassFile.FieldType.int)
theorem cl_MX12_thrown : kCL MX12_thrown 0 := ⟨(tb6 199 rfl rfl), (tb1 14 rfl rfl), ⟨by decide +kernel, by decide +kernel⟩, by decide +kernel, by decide⟩
def MX12_town : kM := (⟨RX12, "town", "(I)I"⟩, prog_14_method_9_code, 3, Option.some Jvm.ClassFile.FieldType.int)
theorem cl_MX12_town : kCL MX12_town 1 := ⟨(tb6 220 rfl rfl), (tb1 14 rfl rfl), ⟨by decide +kernel, by decide +kernel⟩, by decide +kernel, by decide⟩
def MX12_tried : kM := (⟨RX12, "tried", "(IZ)I"⟩, prog_14_method_88_code, 5, Option.some Jvm.ClassFile.FieldType.int)
theorem cl_MX12_tried : kCL MX12_tried 2 := ⟨(tb8 103 rfl rfl), (tb1 14 rfl rfl), ⟨by decide +kernel, by decide +kernel⟩, by decide +kernel, by decide⟩
def MX12_trips : kM := (⟨RX12, "trips", "(I)I"⟩, prog_14_method_124_code, 2, Option.some Jvm.ClassFile.FieldType.int)
theorem cl_MX12_trips : kCL MX12_trips 1 := ⟨(tb9 14 rfl rfl), (tb1 14 rfl rfl), ⟨by decide +kernel, by decide +kernel⟩, by decide +kernel, by decide⟩
def MX12_trodden : kM := (⟨RX12, "trodden", "(I)I"⟩, prog_14_method_123_code, 2, Option.some Jvm.ClassFile.FieldType.int)
theorem cl_MX12_trodden : kCL MX12_trodden 1 := ⟨(tb9 10 rfl rfl), (tb1 14 rfl rfl), ⟨by decide +kernel, by decide +kernel⟩, by decide +kernel, by decide⟩
def MX12_troddenMany : kM := (⟨RX12, "troddenMany", "(I)I"⟩, prog_14_method_121_code, 4, Option.some Jvm.ClassFile.FieldType.int)
theorem cl_MX12_troddenMany : kCL MX12_troddenMany 1 := ⟨(tb9 6 rfl rfl), (tb1 14 rfl rfl), ⟨by decide +kernel, by decide +kernel⟩, by decide +kernel, by decide⟩
def MX12_trueMiles : kM := (⟨RX12, "trueMiles", "(II)I"⟩, prog_14_method_91_code, 3, Option.some Jvm.ClassFile.FieldType.int)
theorem cl_MX12_trueMiles : kCL MX12_trueMiles 2 := ⟨(tb8 120 rfl rfl), (tb1 14 rfl rfl), ⟨by decide +kernel, by decide +kernel⟩, by decide +kernel, by decide⟩
def MX12_turnsOf : kM := (⟨RX12, "turnsOf", "(IZ)I"⟩, prog_14_method_72_code, 9, Option.some Jvm.ClassFile.FieldType.int)
theorem cl_MX12_turnsOf : kCL MX12_turnsOf 2 := ⟨(tb8 40 rfl rfl), (tb1 14 rfl rfl), ⟨by decide +kernel, by decide +kernel⟩, by decide +kernel, by decide⟩
def MX12_unit : kM := (⟨RX12, "unit", "()Z"⟩, prog_14_method_31_code, 3, Option.some Jvm.ClassFile.FieldType.boolean)
theorem cl_MX12_unit : kCL MX12_unit 0 := ⟨(tb7 120 rfl rfl), (tb1 14 rfl rfl), ⟨by decide +kernel, by decide +kernel⟩, by decide +kernel, by decide⟩
def MX12_way : kM := (⟨RX12, "way", "(IIZIII)I"⟩, prog_14_method_52_code, 7, Option.some Jvm.ClassFile.FieldType.int)
theorem cl_MX12_way : kCL MX12_way 6 := ⟨(tb7 189 rfl rfl), (tb1 14 rfl rfl), ⟨by decide +kernel, by decide +kernel⟩, by decide +kernel, by decide⟩
def MX12_weigh : kM := (⟨RX12, "weigh", "(II)Z"⟩, prog_14_method_96_code, 3, Option.some Jvm.ClassFile.FieldType.boolean)
theorem cl_MX12_weigh : kCL MX12_weigh 2 := ⟨(tb8 136 rfl rfl), (tb1 14 rfl rfl), ⟨by decide +kernel, by decide +kernel⟩, by decide +kernel, by decide⟩
def MX12_within : kM := (⟨RX12, "within", "(J)I"⟩, prog_14_method_25_code, 2, Option.some Jvm.ClassFile.FieldType.int)
theorem cl_MX12_within : kCL MX12_within 1 := ⟨(tb7 109 rfl rfl), (tb1 14 rfl rfl), ⟨by decide +kernel, by decide +kernel⟩, by decide +kernel, by decide⟩
def MX12_worn : kM := (⟨RX12, "worn", "(I)I"⟩, prog_14_method_125_code, 2, Option.some Jvm.ClassFile.FieldType.int)
theorem cl_MX12_worn : kCL MX12_worn 1 := ⟨(tb9 18 rfl rfl), (tb1 14 rfl rfl), ⟨by decide +kernel, by decide +kernel⟩, by decide +kernel, by decide⟩
def MX1_begin : kM := (⟨RX1, "begin", "(J)V"⟩, prog_3_method_2_code, 3, none)
theorem cl_MX1_begin : kCL MX1_begin 1 := ⟨(tb5 45 rfl rfl), (tb1 11 rfl rfl), ⟨by decide +kernel, by decide +kernel⟩, by decide +kernel, by decide⟩
def MX1_goOnce : kM := (⟨RX1, "goOnce", "(LOldRoads$Ways;LOldRoads$Row;II)V"⟩, prog_3_method_3_code, 7, none)
theorem cl_MX1_goOnce : kCL MX1_goOnce 4 := ⟨(tb5 50 rfl rfl), (tb1 11 rfl rfl), ⟨by decide +kernel, by decide +kernel⟩, by decide +kernel, by decide⟩
def MX1_init : kM := (⟨RX1, "<init>", "()V"⟩, prog_3_method_1_code, 1, none)
theorem cl_MX1_init : kCL MX1_init 0 := ⟨(tb2 17 rfl rfl), (tb1 11 rfl rfl), ⟨by decide +kernel, by decide +kernel⟩, by decide +kernel, by decide⟩
def MX1_oneOf : kM := (⟨RX1, "oneOf", "(I)I"⟩, prog_3_method_4_code, 2, Option.some Jvm.ClassFile.FieldType.int)
theorem cl_MX1_oneOf : kCL MX1_oneOf 1 := ⟨(tb5 54 rfl rfl), (tb1 11 rfl rfl), ⟨by decide +kernel, by decide +kernel⟩, by decide +kernel, by decide⟩
def MX1_tread : kM := (⟨RX1, "tread", "(LOldRoads$Ways;I)Z"⟩, prog_3_method_5_code, 6, Option.some Jvm.ClassFile.FieldType.boolean)
theorem cl_MX1_tread : kCL MX1_tread 2 := ⟨(tb5 62 rfl rfl), (tb1 11 rfl rfl), ⟨by decide +kernel, by decide +kernel⟩, by decide +kernel, by decide⟩
def MX1_troddenCells : kM := (⟨RX1, "troddenCells", "(I)I"⟩, prog_3_method_6_code, 4, Option.some Jvm.ClassFile.FieldType.int)
theorem cl_MX1_troddenCells : kCL MX1_troddenCells 1 := ⟨(tb5 71 rfl rfl), (tb1 11 rfl rfl), ⟨by decide +kernel, by decide +kernel⟩, by decide +kernel, by decide⟩
def MX2_add : kM := (⟨RX2, "add", "(III)I"⟩, prog_4_method_2_code, 4, Option.some Jvm.ClassFile.FieldType.int)
theorem cl_MX2_add : kCL MX2_add 3 := ⟨(tb4 36 rfl rfl), (tb1 9 rfl rfl), ⟨by decide +kernel, by decide +kernel⟩, by decide +kernel, by decide⟩
def MX2_besides : kM := (⟨RX2, "besides", "(LOldRoads$Row;IIZ)I"⟩, prog_4_method_4_code, 9, Option.some Jvm.ClassFile.FieldType.int)
theorem cl_MX2_besides : kCL MX2_besides 4 := ⟨(tb4 63 rfl rfl), (tb1 9 rfl rfl), ⟨by decide +kernel, by decide +kernel⟩, by decide +kernel, by decide⟩
def MX2_init : kM := (⟨RX2, "<init>", "()V"⟩, prog_4_method_1_code, 1, none)
theorem cl_MX2_init : kCL MX2_init 0 := ⟨(tb1 219 rfl rfl), (tb1 9 rfl rfl), ⟨by decide +kernel, by decide +kernel⟩, by decide +kernel, by decide⟩
def MX2_nearMoved : kM := (⟨RX2, "nearMoved", "(LOldRoads$Row;IIII)I"⟩, prog_4_method_3_code, 9, Option.some Jvm.ClassFile.FieldType.int)
theorem cl_MX2_nearMoved : kCL MX2_nearMoved 5 := ⟨(tb4 49 rfl rfl), (tb1 9 rfl rfl), ⟨by decide +kernel, by decide +kernel⟩, by decide +kernel, by decide⟩
def MX2_speakFor : kM := (⟨RX2, "speakFor", "(LOldRoads$Row;)I"⟩, prog_4_method_5_code, 5, Option.some Jvm.ClassFile.FieldType.int)
theorem cl_MX2_speakFor : kCL MX2_speakFor 1 := ⟨(tb4 166 rfl rfl), (tb1 9 rfl rfl), ⟨by decide +kernel, by decide +kernel⟩, by decide +kernel, by decide⟩
def MX3_add : kM := (⟨RX3, "add", "(I)V"⟩, prog_5_method_2_code, 2, none)
theorem cl_MX3_add : kCL MX3_add 1 := ⟨(tb2 231 rfl rfl), (tb1 6 rfl rfl), ⟨by decide +kernel, by decide +kernel⟩, by decide +kernel, by decide⟩
def MX3_init : kM := (⟨RX3, "<init>", "()V"⟩, prog_5_method_1_code, 1, none)
theorem cl_MX3_init : kCL MX3_init 0 := ⟨(tb1 82 rfl rfl), (tb1 6 rfl rfl), ⟨by decide +kernel, by decide +kernel⟩, by decide +kernel, by decide⟩
def MX3_joined : kM := (⟨RX3, "joined", "(IJJ)J"⟩, prog_5_method_6_code, 5, Option.some Jvm.ClassFile.FieldType.long)
theorem cl_MX3_joined : kCL MX3_joined 3 := ⟨(tb3 82 rfl rfl), (tb1 6 rfl rfl), ⟨by decide +kernel, by decide +kernel⟩, by decide +kernel, by decide⟩
def MX3_leadOn : kM := (⟨RX3, "leadOn", "(I)V"⟩, prog_5_method_3_code, 2, none)
theorem cl_MX3_leadOn : kCL MX3_leadOn 1 := ⟨(tb3 14 rfl rfl), (tb1 6 rfl rfl), ⟨by decide +kernel, by decide +kernel⟩, by decide +kernel, by decide⟩
def MX3_take : kM := (⟨RX3, "take", "(LOldRoads$Goer;)V"⟩, prog_5_method_4_code, 2, none)
theorem cl_MX3_take : kCL MX3_take 1 := ⟨(tb3 45 rfl rfl), (tb1 6 rfl rfl), ⟨by decide +kernel, by decide +kernel⟩, by decide +kernel, by decide⟩
def MX3_worth : kM := (⟨RX3, "worth", "([I)I"⟩, prog_5_method_5_code, 7, Option.some Jvm.ClassFile.FieldType.int)
theorem cl_MX3_worth : kCL MX3_worth 1 := ⟨(tb3 77 rfl rfl), (tb1 6 rfl rfl), ⟨by decide +kernel, by decide +kernel⟩, by decide +kernel, by decide⟩
def MX4_atom : kM := (⟨RX4, "atom", "(I)Z"⟩, prog_6_method_9_code, 4, Option.some Jvm.ClassFile.FieldType.boolean)
theorem cl_MX4_atom : kCL MX4_atom 1 := ⟨(tb2 223 rfl rfl), (tb1 5 rfl rfl), ⟨by decide +kernel, by decide +kernel⟩, by decide +kernel, by decide⟩
def MX4_clause : kM := (⟨RX4, "clause", "()Z"⟩, prog_6_method_3_code, 3, Option.some Jvm.ClassFile.FieldType.boolean)
theorem cl_MX4_clause : kCL MX4_clause 0 := ⟨(tb2 203 rfl rfl), (tb1 5 rfl rfl), ⟨by decide +kernel, by decide +kernel⟩, by decide +kernel, by decide⟩
def MX4_condition : kM := (⟨RX4, "condition", "(IZ)Z"⟩, prog_6_method_4_code, 4, Option.some Jvm.ClassFile.FieldType.boolean)
theorem cl_MX4_condition : kCL MX4_condition 2 := ⟨(tb3 2 rfl rfl), (tb1 5 rfl rfl), ⟨by decide +kernel, by decide +kernel⟩, by decide +kernel, by decide⟩
def MX4_init : kM := (⟨RX4, "<init>", "()V"⟩, prog_6_method_1_code, 1, none)
theorem cl_MX4_init : kCL MX4_init 0 := ⟨(tb1 76 rfl rfl), (tb1 5 rfl rfl), ⟨by decide +kernel, by decide +kernel⟩, by decide +kernel, by decide⟩
def MX4_isComparison : kM := (⟨RX4, "isComparison", "(I)Z"⟩, prog_6_method_12_code, 1, Option.some Jvm.ClassFile.FieldType.boolean)
theorem cl_MX4_isComparison : kCL MX4_isComparison 1 := ⟨(tb2 237 rfl rfl), (tb1 5 rfl rfl), ⟨by decide +kernel, by decide +kernel⟩, by decide +kernel, by decide⟩
def MX4_letterNumber : kM := (⟨RX4, "letterNumber", "(I)I"⟩, prog_6_method_11_code, 1, Option.some Jvm.ClassFile.FieldType.int)
theorem cl_MX4_letterNumber : kCL MX4_letterNumber 1 := ⟨(tb2 234 rfl rfl), (tb1 5 rfl rfl), ⟨by decide +kernel, by decide +kernel⟩, by decide +kernel, by decide⟩
def MX4_number : kM := (⟨RX4, "number", "()I"⟩, prog_6_method_10_code, 4, Option.some Jvm.ClassFile.FieldType.int)
theorem cl_MX4_number : kCL MX4_number 0 := ⟨(tb2 227 rfl rfl), (tb1 5 rfl rfl), ⟨by decide +kernel, by decide +kernel⟩, by decide +kernel, by decide⟩
def MX4_reads : kM := (⟨RX4, "reads", "(LOldRoads$Row;)Z"⟩, prog_6_method_2_code, 3, Option.some Jvm.ClassFile.FieldType.boolean)
theorem cl_MX4_reads : kCL MX4_reads 1 := ⟨(tb2 195 rfl rfl), (tb1 5 rfl rfl), ⟨by decide +kernel, by decide +kernel⟩, by decide +kernel, by decide⟩
def MX4_skipBlanks : kM := (⟨RX4, "skipBlanks", "()V"⟩, prog_6_method_14_code, 1, none)
theorem cl_MX4_skipBlanks : kCL MX4_skipBlanks 0 := ⟨(tb2 199 rfl rfl), (tb1 5 rfl rfl), ⟨by decide +kernel, by decide +kernel⟩, by decide +kernel, by decide⟩
def MX4_sum : kM := (⟨RX4, "sum", "(I)Z"⟩, prog_6_method_7_code, 4, Option.some Jvm.ClassFile.FieldType.boolean)
theorem cl_MX4_sum : kCL MX4_sum 1 := ⟨(tb2 215 rfl rfl), (tb1 5 rfl rfl), ⟨by decide +kernel, by decide +kernel⟩, by decide +kernel, by decide⟩
def MX4_takes : kM := (⟨RX4, "takes", "(I)Z"⟩, prog_6_method_13_code, 2, Option.some Jvm.ClassFile.FieldType.boolean)
theorem cl_MX4_takes : kCL MX4_takes 1 := ⟨(tb2 207 rfl rfl), (tb1 5 rfl rfl), ⟨by decide +kernel, by decide +kernel⟩, by decide +kernel, by decide⟩
def MX4_term : kM := (⟨RX4, "term", "(I)Z"⟩, prog_6_method_8_code, 4, Option.some Jvm.ClassFile.FieldType.boolean)
theorem cl_MX4_term : kCL MX4_term 1 := ⟨(tb2 219 rfl rfl), (tb1 5 rfl rfl), ⟨by decide +kernel, by decide +kernel⟩, by decide +kernel, by decide⟩
def MX4_truth : kM := (⟨RX4, "truth", "(IZ)Z"⟩, prog_6_method_5_code, 4, Option.some Jvm.ClassFile.FieldType.boolean)
theorem cl_MX4_truth : kCL MX4_truth 2 := ⟨(tb3 6 rfl rfl), (tb1 5 rfl rfl), ⟨by decide +kernel, by decide +kernel⟩, by decide +kernel, by decide⟩
def MX4_unit : kM := (⟨RX4, "unit", "(IZ)Z"⟩, prog_6_method_6_code, 4, Option.some Jvm.ClassFile.FieldType.boolean)
theorem cl_MX4_unit : kCL MX4_unit 2 := ⟨(tb3 10 rfl rfl), (tb1 5 rfl rfl), ⟨by decide +kernel, by decide +kernel⟩, by decide +kernel, by decide⟩
def MX5_init : kM := (⟨RX5, "<init>", "()V"⟩, prog_7_method_1_code, 1, none)
theorem cl_MX5_init : kCL MX5_init 0 := ⟨(tb1 38 rfl rfl), (tb1 2 rfl rfl), ⟨by decide +kernel, by decide +kernel⟩, by decide +kernel, by decide⟩
def MX5_isUnlike : kM := (⟨RX5, "isUnlike", "(LOldRoads$Land;I)Z"⟩, prog_7_method_6_code, 4, Option.some Jvm.ClassFile.FieldType.boolean)
theorem cl_MX5_isUnlike : kCL MX5_isUnlike 2 := ⟨(tb5 115 rfl rfl), (tb1 2 rfl rfl), ⟨by decide +kernel, by decide +kernel⟩, by decide +kernel, by decide⟩
def MX5_put : kM := (⟨RX5, "put", "(III)V"⟩, prog_7_method_3_code, 4, none)
theorem cl_MX5_put : kCL MX5_put 3 := ⟨(tb2 146 rfl rfl), (tb1 2 rfl rfl), ⟨by decide +kernel, by decide +kernel⟩, by decide +kernel, by decide⟩
def MX5_take : kM := (⟨RX5, "take", "(LOldRoads$Land;)V"⟩, prog_7_method_4_code, 3, none)
theorem cl_MX5_take : kCL MX5_take 1 := ⟨(tb5 98 rfl rfl), (tb1 2 rfl rfl), ⟨by decide +kernel, by decide +kernel⟩, by decide +kernel, by decide⟩
def MX5_told : kM := (⟨RX5, "told", "(II)I"⟩, prog_7_method_2_code, 3, Option.some Jvm.ClassFile.FieldType.int)
theorem cl_MX5_told : kCL MX5_told 2 := ⟨(tb2 156 rfl rfl), (tb1 2 rfl rfl), ⟨by decide +kernel, by decide +kernel⟩, by decide +kernel, by decide⟩
def MX5_unlikeCells : kM := (⟨RX5, "unlikeCells", "(LOldRoads$Land;)I"⟩, prog_7_method_5_code, 4, Option.some Jvm.ClassFile.FieldType.int)
theorem cl_MX5_unlikeCells : kCL MX5_unlikeCells 1 := ⟨(tb5 111 rfl rfl), (tb1 2 rfl rfl), ⟨by decide +kernel, by decide +kernel⟩, by decide +kernel, by decide⟩
def MX6_begin : kM := (⟨RX6, "begin", "(I)V"⟩, prog_8_method_2_code, 2, none)
theorem cl_MX6_begin : kCL MX6_begin 1 := ⟨(tb5 14 rfl rfl), (tb1 12 rfl rfl), ⟨by decide +kernel, by decide +kernel⟩, by decide +kernel, by decide⟩
def MX6_cost : kM := (⟨RX6, "cost", "()I"⟩, prog_8_method_4_code, 8, Option.some Jvm.ClassFile.FieldType.int)
theorem cl_MX6_cost : kCL MX6_cost 0 := ⟨(tb5 24 rfl rfl), (tb1 12 rfl rfl), ⟨by decide +kernel, by decide +kernel⟩, by decide +kernel, by decide⟩
def MX6_costTo : kM := (⟨RX6, "costTo", "(II)I"⟩, prog_8_method_5_code, 5, Option.some Jvm.ClassFile.FieldType.int)
theorem cl_MX6_costTo : kCL MX6_costTo 2 := ⟨(tb5 29 rfl rfl), (tb1 12 rfl rfl), ⟨by decide +kernel, by decide +kernel⟩, by decide +kernel, by decide⟩
def MX6_init : kM := (⟨RX6, "<init>", "()V"⟩, prog_8_method_1_code, 1, none)
theorem cl_MX6_init : kCL MX6_init 0 := ⟨(tb2 43 rfl rfl), (tb1 12 rfl rfl), ⟨by decide +kernel, by decide +kernel⟩, by decide +kernel, by decide⟩
def MX6_needed : kM := (⟨RX6, "needed", "(Z)I"⟩, prog_8_method_6_code, 7, Option.some Jvm.ClassFile.FieldType.int)
theorem cl_MX6_needed : kCL MX6_needed 1 := ⟨(tb5 33 rfl rfl), (tb1 12 rfl rfl), ⟨by decide +kernel, by decide +kernel⟩, by decide +kernel, by decide⟩
def MX6_put : kM := (⟨RX6, "put", "(III)V"⟩, prog_8_method_3_code, 4, none)
theorem cl_MX6_put : kCL MX6_put 3 := ⟨(tb5 20 rfl rfl), (tb1 12 rfl rfl), ⟨by decide +kernel, by decide +kernel⟩, by decide +kernel, by decide⟩
def MX6_reached : kM := (⟨RX6, "reached", "(III)I"⟩, prog_8_method_7_code, 9, Option.some Jvm.ClassFile.FieldType.int)
theorem cl_MX6_reached : kCL MX6_reached 3 := ⟨(tb5 37 rfl rfl), (tb1 12 rfl rfl), ⟨by decide +kernel, by decide +kernel⟩, by decide +kernel, by decide⟩
def MX7_addWorld : kM := (⟨RX7, "addWorld", "(ILOldRoads$Row;)V"⟩, prog_9_method_3_code, 5, none)
theorem cl_MX7_addWorld : kCL MX7_addWorld 2 := ⟨(tb4 187 rfl rfl), (tb1 10 rfl rfl), ⟨by decide +kernel, by decide +kernel⟩, by decide +kernel, by decide⟩
def MX7_bestSet : kM := (⟨RX7, "bestSet", "(I)I"⟩, prog_9_method_4_code, 6, Option.some Jvm.ClassFile.FieldType.int)
theorem cl_MX7_bestSet : kCL MX7_bestSet 1 := ⟨(tb4 194 rfl rfl), (tb1 10 rfl rfl), ⟨by decide +kernel, by decide +kernel⟩, by decide +kernel, by decide⟩
def MX7_evidenceAlike : kM := (⟨RX7, "evidenceAlike", "(II)I"⟩, prog_9_method_8_code, 5, Option.some Jvm.ClassFile.FieldType.int)
theorem cl_MX7_evidenceAlike : kCL MX7_evidenceAlike 2 := ⟨(tb4 210 rfl rfl), (tb1 10 rfl rfl), ⟨by decide +kernel, by decide +kernel⟩, by decide +kernel, by decide⟩
def MX7_forgetWorlds : kM := (⟨RX7, "forgetWorlds", "()V"⟩, prog_9_method_2_code, 1, none)
theorem cl_MX7_forgetWorlds : kCL MX7_forgetWorlds 0 := ⟨(tb4 182 rfl rfl), (tb1 10 rfl rfl), ⟨by decide +kernel, by decide +kernel⟩, by decide +kernel, by decide⟩
def MX7_goesAhead : kM := (⟨RX7, "goesAhead", "(II)Z"⟩, prog_9_method_5_code, 4, Option.some Jvm.ClassFile.FieldType.boolean)
theorem cl_MX7_goesAhead : kCL MX7_goesAhead 2 := ⟨(tb4 219 rfl rfl), (tb1 10 rfl rfl), ⟨by decide +kernel, by decide +kernel⟩, by decide +kernel, by decide⟩
def MX7_init : kM := (⟨RX7, "<init>", "()V"⟩, prog_9_method_1_code, 1, none)
theorem cl_MX7_init : kCL MX7_init 0 := ⟨(tb1 238 rfl rfl), (tb1 10 rfl rfl), ⟨by decide +kernel, by decide +kernel⟩, by decide +kernel, by decide⟩
def MX7_isFirstToShow : kM := (⟨RX7, "isFirstToShow", "(II)Z"⟩, prog_9_method_7_code, 4, Option.some Jvm.ClassFile.FieldType.boolean)
theorem cl_MX7_isFirstToShow : kCL MX7_isFirstToShow 2 := ⟨(tb4 202 rfl rfl), (tb1 10 rfl rfl), ⟨by decide +kernel, by decide +kernel⟩, by decide +kernel, by decide⟩
def MX7_parted : kM := (⟨RX7, "parted", "(I)I"⟩, prog_9_method_6_code, 5, Option.some Jvm.ClassFile.FieldType.int)
theorem cl_MX7_parted : kCL MX7_parted 1 := ⟨(tb4 198 rfl rfl), (tb1 10 rfl rfl), ⟨by decide +kernel, by decide +kernel⟩, by decide +kernel, by decide⟩
def MX7_showAlike : kM := (⟨RX7, "showAlike", "(III)Z"⟩, prog_9_method_9_code, 4, Option.some Jvm.ClassFile.FieldType.boolean)
theorem cl_MX7_showAlike : kCL MX7_showAlike 3 := ⟨(tb4 206 rfl rfl), (tb1 10 rfl rfl), ⟨by decide +kernel, by decide +kernel⟩, by decide +kernel, by decide⟩
def MX8_add : kM := (⟨RX8, "add", "(I)Z"⟩, prog_10_method_2_code, 2, Option.some Jvm.ClassFile.FieldType.boolean)
theorem cl_MX8_add : kCL MX8_add 1 := ⟨(tb2 168 rfl rfl), (tb1 3 rfl rfl), ⟨by decide +kernel, by decide +kernel⟩, by decide +kernel, by decide⟩
def MX8_at : kM := (⟨RX8, "at", "(I)I"⟩, prog_10_method_3_code, 2, Option.some Jvm.ClassFile.FieldType.int)
theorem cl_MX8_at : kCL MX8_at 1 := ⟨(tb2 211 rfl rfl), (tb1 3 rfl rfl), ⟨by decide +kernel, by decide +kernel⟩, by decide +kernel, by decide⟩
def MX8_cut : kM := (⟨RX8, "cut", "(I)Z"⟩, prog_10_method_6_code, 2, Option.some Jvm.ClassFile.FieldType.boolean)
theorem cl_MX8_cut : kCL MX8_cut 1 := ⟨(tb2 187 rfl rfl), (tb1 3 rfl rfl), ⟨by decide +kernel, by decide +kernel⟩, by decide +kernel, by decide⟩
def MX8_fitsMoved : kM := (⟨RX8, "fitsMoved", "(II)Z"⟩, prog_10_method_10_code, 6, Option.some Jvm.ClassFile.FieldType.boolean)
theorem cl_MX8_fitsMoved : kCL MX8_fitsMoved 2 := ⟨(tb4 68 rfl rfl), (tb1 3 rfl rfl), ⟨by decide +kernel, by decide +kernel⟩, by decide +kernel, by decide⟩
def MX8_has : kM := (⟨RX8, "has", "(I)Z"⟩, prog_10_method_5_code, 3, Option.some Jvm.ClassFile.FieldType.boolean)
theorem cl_MX8_has : kCL MX8_has 1 := ⟨(tb2 164 rfl rfl), (tb1 3 rfl rfl), ⟨by decide +kernel, by decide +kernel⟩, by decide +kernel, by decide⟩
def MX8_init : kM := (⟨RX8, "<init>", "(I)V"⟩, prog_10_method_1_code, 2, none)
theorem cl_MX8_init : kCL MX8_init 1 := ⟨(tb1 52 rfl rfl), (tb1 3 rfl rfl), ⟨by decide +kernel, by decide +kernel⟩, by decide +kernel, by decide⟩
def MX8_isNear : kM := (⟨RX8, "isNear", "(III)Z"⟩, prog_10_method_9_code, 6, Option.some Jvm.ClassFile.FieldType.boolean)
theorem cl_MX8_isNear : kCL MX8_isNear 3 := ⟨(tb4 54 rfl rfl), (tb1 3 rfl rfl), ⟨by decide +kernel, by decide +kernel⟩, by decide +kernel, by decide⟩
def MX8_keepThoseIn : kM := (⟨RX8, "keepThoseIn", "(LOldRoads$Row;)V"⟩, prog_10_method_8_code, 4, none)
theorem cl_MX8_keepThoseIn : kCL MX8_keepThoseIn 1 := ⟨(tb5 132 rfl rfl), (tb1 3 rfl rfl), ⟨by decide +kernel, by decide +kernel⟩, by decide +kernel, by decide⟩
def MX8_last : kM := (⟨RX8, "last", "()I"⟩, prog_10_method_4_code, 1, Option.some Jvm.ClassFile.FieldType.int)
theorem cl_MX8_last : kCL MX8_last 0 := ⟨(tb4 2 rfl rfl), (tb1 3 rfl rfl), ⟨by decide +kernel, by decide +kernel⟩, by decide +kernel, by decide⟩
def MX8_longestRun : kM := (⟨RX8, "longestRun", "()I"⟩, prog_10_method_13_code, 4, Option.some Jvm.ClassFile.FieldType.int)
theorem cl_MX8_longestRun : kCL MX8_longestRun 0 := ⟨(tb4 28 rfl rfl), (tb1 3 rfl rfl), ⟨by decide +kernel, by decide +kernel⟩, by decide +kernel, by decide⟩
def MX8_miles : kM := (⟨RX8, "miles", "()I"⟩, prog_10_method_11_code, 4, Option.some Jvm.ClassFile.FieldType.int)
theorem cl_MX8_miles : kCL MX8_miles 0 := ⟨(tb4 16 rfl rfl), (tb1 3 rfl rfl), ⟨by decide +kernel, by decide +kernel⟩, by decide +kernel, by decide⟩
def MX8_take : kM := (⟨RX8, "take", "(LOldRoads$Row;)V"⟩, prog_10_method_7_code, 3, none)
theorem cl_MX8_take : kCL MX8_take 1 := ⟨(tb3 211 rfl rfl), (tb1 3 rfl rfl), ⟨by decide +kernel, by decide +kernel⟩, by decide +kernel, by decide⟩
def MX8_turns : kM := (⟨RX8, "turns", "()I"⟩, prog_10_method_12_code, 3, Option.some Jvm.ClassFile.FieldType.int)
theorem cl_MX8_turns : kCL MX8_turns 0 := ⟨(tb4 20 rfl rfl), (tb1 3 rfl rfl), ⟨by decide +kernel, by decide +kernel⟩, by decide +kernel, by decide⟩
def MX8_turnsAt : kM := (⟨RX8, "turnsAt", "(I)Z"⟩, prog_10_method_14_code, 6, Option.some Jvm.ClassFile.FieldType.boolean)
theorem cl_MX8_turnsAt : kCL MX8_turnsAt 1 := ⟨(tb4 24 rfl rfl), (tb1 3 rfl rfl), ⟨by decide +kernel, by decide +kernel⟩, by decide +kernel, by decide⟩
def MX9_cellBetween : kM := (⟨RX9, "cellBetween", "(IIII)I"⟩, prog_11_method_3_code, 6, Option.some Jvm.ClassFile.FieldType.int)
theorem cl_MX9_cellBetween : kCL MX9_cellBetween 4 := ⟨(tb3 168 rfl rfl), (tb1 8 rfl rfl), ⟨by decide +kernel, by decide +kernel⟩, by decide +kernel, by decide⟩
def MX9_countHops : kM := (⟨RX9, "countHops", "(LOldRoads$Land;III)Z"⟩, prog_11_method_5_code, 9, Option.some Jvm.ClassFile.FieldType.boolean)
theorem cl_MX9_countHops : kCL MX9_countHops 4 := ⟨(tb3 183 rfl rfl), (tb1 8 rfl rfl), ⟨by decide +kernel, by decide +kernel⟩, by decide +kernel, by decide⟩
def MX9_hopStraight : kM := (⟨RX9, "hopStraight", "(II)V"⟩, prog_11_method_4_code, 3, none)
theorem cl_MX9_hopStraight : kCL MX9_hopStraight 2 := ⟨(tb3 221 rfl rfl), (tb1 8 rfl rfl), ⟨by decide +kernel, by decide +kernel⟩, by decide +kernel, by decide⟩
def MX9_init : kM := (⟨RX9, "<init>", "()V"⟩, prog_11_method_1_code, 1, none)
theorem cl_MX9_init : kCL MX9_init 0 := ⟨(tb1 196 rfl rfl), (tb1 8 rfl rfl), ⟨by decide +kernel, by decide +kernel⟩, by decide +kernel, by decide⟩
def MX9_isHop : kM := (⟨RX9, "isHop", "(LOldRoads$Land;III)Z"⟩, prog_11_method_7_code, 5, Option.some Jvm.ClassFile.FieldType.boolean)
theorem cl_MX9_isHop : kCL MX9_isHop 4 := ⟨(tb3 188 rfl rfl), (tb1 8 rfl rfl), ⟨by decide +kernel, by decide +kernel⟩, by decide +kernel, by decide⟩
def MX9_isSeen : kM := (⟨RX9, "isSeen", "(LOldRoads$Land;II)Z"⟩, prog_11_method_2_code, 9, Option.some Jvm.ClassFile.FieldType.boolean)
theorem cl_MX9_isSeen : kCL MX9_isSeen 3 := ⟨(tb3 157 rfl rfl), (tb1 8 rfl rfl), ⟨by decide +kernel, by decide +kernel⟩, by decide +kernel, by decide⟩
def MX9_layHops : kM := (⟨RX9, "layHops", "(LOldRoads$Land;III)Z"⟩, prog_11_method_6_code, 7, Option.some Jvm.ClassFile.FieldType.boolean)
theorem cl_MX9_layHops : kCL MX9_layHops 4 := ⟨(tb3 193 rfl rfl), (tb1 8 rfl rfl), ⟨by decide +kernel, by decide +kernel⟩, by decide +kernel, by decide⟩
def MX9_nextHop : kM := (⟨RX9, "nextHop", "(LOldRoads$Land;II)I"⟩, prog_11_method_8_code, 5, Option.some Jvm.ClassFile.FieldType.int)
theorem cl_MX9_nextHop : kCL MX9_nextHop 3 := ⟨(tb3 199 rfl rfl), (tb1 8 rfl rfl), ⟨by decide +kernel, by decide +kernel⟩, by decide +kernel, by decide⟩
def MX9_trace : kM := (⟨RX9, "trace", "()V"⟩, prog_11_method_9_code, 4, none)
theorem cl_MX9_trace : kCL MX9_trace 0 := ⟨(tb3 225 rfl rfl), (tb1 8 rfl rfl), ⟨by decide +kernel, by decide +kernel⟩, by decide +kernel, by decide⟩
theorem fl11_10 : kFL RX11 10 11 0 RX11 TX11 20 := ⟨rfl, by decide, by decide, rfl, uw11, Or.inl (tb2 72 rfl rfl)⟩
theorem gf11_10 {d : Nat} {M : kM} {Post : Option kV → Nat → kS → Prop} {b : Nat × Nat} {pc : Nat} {ls : List (Nat × kV)} {st : List kV} {n : Nat} {σ : kS} {r : Int} (ho : M.1.cls = RX11) (hd : decode M.2.1 pc = .ok (.getfield 10, 3)) (hr : isO 11 n r) (k : K d M Post b (pc + 3) ls ((2, σ r 0) :: st) n σ) : K d M Post b pc ls ((2, r) :: st) n σ := K_getf (j := 0) (C := RX11) (T := TX11) (N := 20) hd (by rw [ho]; exact fl11_10) hr k
theorem pf11_10 {d : Nat} {M : kM} {Post : Option kV → Nat → kS → Prop} {b : Nat × Nat} {pc : Nat} {ls : List (Nat × kV)} {st : List kV} {n : Nat} {σ : kS} {r x : Int} (ho : M.1.cls = RX11) (hi : M.1.name = "<init>") (hd : decode M.2.1 pc = .ok (.putfield 10, 3)) (hr : isO 11 n r) (k : ∀ s, s = kst σ r 0 x → K d M Post b (pc + 3) ls st n s) : K d M Post b pc ls ((2, x) :: (2, r) :: st) n σ := K_putf (j := 0) (C := RX11) (T := TX11) (N := 20) hd (by rw [ho]; exact fl11_10) ft11 (Or.inr ⟨rfl, hi, ho.symm, by rw [ho]; exact (tb2 72 rfl rfl)⟩) hr (fun _ => trivial) (k _ rfl)
theorem fl11_16 : kFL RX11 16 11 1 RX11 TX11 20 := ⟨rfl, by decide, by decide, rfl, uw11, Or.inl (tb2 73 rfl rfl)⟩
theorem gf11_16 {d : Nat} {M : kM} {Post : Option kV → Nat → kS → Prop} {b : Nat × Nat} {pc : Nat} {ls : List (Nat × kV)} {st : List kV} {n : Nat} {σ : kS} {r : Int} (ho : M.1.cls = RX11) (hd : decode M.2.1 pc = .ok (.getfield 16, 3)) (hr : isO 11 n r) (k : K d M Post b (pc + 3) ls ((2, σ r 1) :: st) n σ) : K d M Post b pc ls ((2, r) :: st) n σ := K_getf (j := 1) (C := RX11) (T := TX11) (N := 20) hd (by rw [ho]; exact fl11_16) hr k
theorem pf11_16 {d : Nat} {M : kM} {Post : Option kV → Nat → kS → Prop} {b : Nat × Nat} {pc : Nat} {ls : List (Nat × kV)} {st : List kV} {n : Nat} {σ : kS} {r x : Int} (ho : M.1.cls = RX11) (hi : M.1.name = "<init>") (hd : decode M.2.1 pc = .ok (.putfield 16, 3)) (hr : isO 11 n r) (k : ∀ s, s = kst σ r 1 x → K d M Post b (pc + 3) ls st n s) : K d M Post b pc ls ((2, x) :: (2, r) :: st) n σ := K_putf (j := 1) (C := RX11) (T := TX11) (N := 20) hd (by rw [ho]; exact fl11_16) ft11 (Or.inr ⟨rfl, hi, ho.symm, by rw [ho]; exact (tb2 73 rfl rfl)⟩) hr (fun _ => trivial) (k _ rfl)
theorem fl11_25 : kFL RX11 25 11 3 RX11 TX11 20 := ⟨rfl, by decide, by decide, rfl, uw11, Or.inl (tb2 75 rfl rfl)⟩
theorem gf11_25 {d : Nat} {M : kM} {Post : Option kV → Nat → kS → Prop} {b : Nat × Nat} {pc : Nat} {ls : List (Nat × kV)} {st : List kV} {n : Nat} {σ : kS} {r : Int} (ho : M.1.cls = RX11) (hd : decode M.2.1 pc = .ok (.getfield 25, 3)) (hr : isO 11 n r) (k : K d M Post b (pc + 3) ls ((2, σ r 3) :: st) n σ) : K d M Post b pc ls ((2, r) :: st) n σ := K_getf (j := 3) (C := RX11) (T := TX11) (N := 20) hd (by rw [ho]; exact fl11_25) hr k
theorem pf11_25 {d : Nat} {M : kM} {Post : Option kV → Nat → kS → Prop} {b : Nat × Nat} {pc : Nat} {ls : List (Nat × kV)} {st : List kV} {n : Nat} {σ : kS} {r x : Int} (ho : M.1.cls = RX11) (hi : M.1.name = "<init>") (hd : decode M.2.1 pc = .ok (.putfield 25, 3)) (hr : isO 11 n r) (k : ∀ s, s = kst σ r 3 x → K d M Post b (pc + 3) ls st n s) : K d M Post b pc ls ((2, x) :: (2, r) :: st) n σ := K_putf (j := 3) (C := RX11) (T := TX11) (N := 20) hd (by rw [ho]; exact fl11_25) ft11 (Or.inr ⟨rfl, hi, ho.symm, by rw [ho]; exact (tb2 75 rfl rfl)⟩) hr (fun _ => trivial) (k _ rfl)
theorem fl11_32 : kFL RX11 32 11 4 RX11 TX11 20 := ⟨rfl, by decide, by decide, rfl, uw11, Or.inl (tb2 76 rfl rfl)⟩
theorem gf11_32 {d : Nat} {M : kM} {Post : Option kV → Nat → kS → Prop} {b : Nat × Nat} {pc : Nat} {ls : List (Nat × kV)} {st : List kV} {n : Nat} {σ : kS} {r : Int} (ho : M.1.cls = RX11) (hd : decode M.2.1 pc = .ok (.getfield 32, 3)) (hr : isO 11 n r) (k : K d M Post b (pc + 3) ls ((2, σ r 4) :: st) n σ) : K d M Post b pc ls ((2, r) :: st) n σ := K_getf (j := 4) (C := RX11) (T := TX11) (N := 20) hd (by rw [ho]; exact fl11_32) hr k
theorem pf11_32 {d : Nat} {M : kM} {Post : Option kV → Nat → kS → Prop} {b : Nat × Nat} {pc : Nat} {ls : List (Nat × kV)} {st : List kV} {n : Nat} {σ : kS} {r x : Int} (ho : M.1.cls = RX11) (hi : M.1.name = "<init>") (hd : decode M.2.1 pc = .ok (.putfield 32, 3)) (hr : isO 11 n r) (k : ∀ s, s = kst σ r 4 x → K d M Post b (pc + 3) ls st n s) : K d M Post b pc ls ((2, x) :: (2, r) :: st) n σ := K_putf (j := 4) (C := RX11) (T := TX11) (N := 20) hd (by rw [ho]; exact fl11_32) ft11 (Or.inr ⟨rfl, hi, ho.symm, by rw [ho]; exact (tb2 76 rfl rfl)⟩) hr (fun _ => trivial) (k _ rfl)
theorem fl11_38 : kFL RX11 38 11 5 RX11 TX11 20 := ⟨rfl, by decide, by decide, rfl, uw11, Or.inl (tb2 77 rfl rfl)⟩
theorem gf11_38 {d : Nat} {M : kM} {Post : Option kV → Nat → kS → Prop} {b : Nat × Nat} {pc : Nat} {ls : List (Nat × kV)} {st : List kV} {n : Nat} {σ : kS} {r : Int} (ho : M.1.cls = RX11) (hd : decode M.2.1 pc = .ok (.getfield 38, 3)) (hr : isO 11 n r) (k : K d M Post b (pc + 3) ls ((2, σ r 5) :: st) n σ) : K d M Post b pc ls ((2, r) :: st) n σ := K_getf (j := 5) (C := RX11) (T := TX11) (N := 20) hd (by rw [ho]; exact fl11_38) hr k
theorem pf11_38 {d : Nat} {M : kM} {Post : Option kV → Nat → kS → Prop} {b : Nat × Nat} {pc : Nat} {ls : List (Nat × kV)} {st : List kV} {n : Nat} {σ : kS} {r x : Int} (ho : M.1.cls = RX11) (hi : M.1.name = "<init>") (hd : decode M.2.1 pc = .ok (.putfield 38, 3)) (hr : isO 11 n r) (k : ∀ s, s = kst σ r 5 x → K d M Post b (pc + 3) ls st n s) : K d M Post b pc ls ((2, x) :: (2, r) :: st) n σ := K_putf (j := 5) (C := RX11) (T := TX11) (N := 20) hd (by rw [ho]; exact fl11_38) ft11 (Or.inr ⟨rfl, hi, ho.symm, by rw [ho]; exact (tb2 77 rfl rfl)⟩) hr (fun _ => trivial) (k _ rfl)
theorem fl11_44 : kFL RX11 44 11 7 RX11 TX11 20 := ⟨rfl, by decide, by decide, rfl, uw11, Or.inl (tb2 79 rfl rfl)⟩
theorem gf11_44 {d : Nat} {M : kM} {Post : Option kV → Nat → kS → Prop} {b : Nat × Nat} {pc : Nat} {ls : List (Nat × kV)} {st : List kV} {n : Nat} {σ : kS} {r : Int} (ho : M.1.cls = RX11) (hd : decode M.2.1 pc = .ok (.getfield 44, 3)) (hr : isO 11 n r) (k : K d M Post b (pc + 3) ls ((2, σ r 7) :: st) n σ) : K d M Post b pc ls ((2, r) :: st) n σ := K_getf (j := 7) (C := RX11) (T := TX11) (N := 20) hd (by rw [ho]; exact fl11_44) hr k
theorem pf11_44 {d : Nat} {M : kM} {Post : Option kV → Nat → kS → Prop} {b : Nat × Nat} {pc : Nat} {ls : List (Nat × kV)} {st : List kV} {n : Nat} {σ : kS} {r x : Int} (ho : M.1.cls = RX11) (hi : M.1.name = "<init>") (hd : decode M.2.1 pc = .ok (.putfield 44, 3)) (hr : isO 11 n r) (k : ∀ s, s = kst σ r 7 x → K d M Post b (pc + 3) ls st n s) : K d M Post b pc ls ((2, x) :: (2, r) :: st) n σ := K_putf (j := 7) (C := RX11) (T := TX11) (N := 20) hd (by rw [ho]; exact fl11_44) ft11 (Or.inr ⟨rfl, hi, ho.symm, by rw [ho]; exact (tb2 79 rfl rfl)⟩) hr (fun _ => trivial) (k _ rfl)
theorem fl11_48 : kFL RX11 48 11 9 RX11 TX11 20 := ⟨rfl, by decide, by decide, rfl, uw11, Or.inl (tb2 81 rfl rfl)⟩
theorem gf11_48 {d : Nat} {M : kM} {Post : Option kV → Nat → kS → Prop} {b : Nat × Nat} {pc : Nat} {ls : List (Nat × kV)} {st : List kV} {n : Nat} {σ : kS} {r : Int} (ho : M.1.cls = RX11) (hd : decode M.2.1 pc = .ok (.getfield 48, 3)) (hr : isO 11 n r) (k : K d M Post b (pc + 3) ls ((2, σ r 9) :: st) n σ) : K d M Post b pc ls ((2, r) :: st) n σ := K_getf (j := 9) (C := RX11) (T := TX11) (N := 20) hd (by rw [ho]; exact fl11_48) hr k
theorem pf11_48 {d : Nat} {M : kM} {Post : Option kV → Nat → kS → Prop} {b : Nat × Nat} {pc : Nat} {ls : List (Nat × kV)} {st : List kV} {n : Nat} {σ : kS} {r x : Int} (ho : M.1.cls = RX11) (hi : M.1.name = "<init>") (hd : decode M.2.1 pc = .ok (.putfield 48, 3)) (hr : isO 11 n r) (k : ∀ s, s = kst σ r 9 x → K d M Post b (pc + 3) ls st n s) : K d M Post b pc ls ((2, x) :: (2, r) :: st) n σ := K_putf (j := 9) (C := RX11) (T := TX11) (N := 20) hd (by rw [ho]; exact fl11_48) ft11 (Or.inr ⟨rfl, hi, ho.symm, by rw [ho]; exact (tb2 81 rfl rfl)⟩) hr (fun _ => trivial) (k _ rfl)
theorem fl11_51 : kFL RX11 51 11 10 RX11 TX11 20 := ⟨rfl, by decide, by decide, rfl, uw11, Or.inl (tb2 82 rfl rfl)⟩
theorem gf11_51 {d : Nat} {M : kM} {Post : Option kV → Nat → kS → Prop} {b : Nat × Nat} {pc : Nat} {ls : List (Nat × kV)} {st : List kV} {n : Nat} {σ : kS} {r : Int} (ho : M.1.cls = RX11) (hd : decode M.2.1 pc = .ok (.getfield 51, 3)) (hr : isO 11 n r) (k : K d M Post b (pc + 3) ls ((2, σ r 10) :: st) n σ) : K d M Post b pc ls ((2, r) :: st) n σ := K_getf (j := 10) (C := RX11) (T := TX11) (N := 20) hd (by rw [ho]; exact fl11_51) hr k
theorem pf11_51 {d : Nat} {M : kM} {Post : Option kV → Nat → kS → Prop} {b : Nat × Nat} {pc : Nat} {ls : List (Nat × kV)} {st : List kV} {n : Nat} {σ : kS} {r x : Int} (ho : M.1.cls = RX11) (hi : M.1.name = "<init>") (hd : decode M.2.1 pc = .ok (.putfield 51, 3)) (hr : isO 11 n r) (k : ∀ s, s = kst σ r 10 x → K d M Post b (pc + 3) ls st n s) : K d M Post b pc ls ((2, x) :: (2, r) :: st) n σ := K_putf (j := 10) (C := RX11) (T := TX11) (N := 20) hd (by rw [ho]; exact fl11_51) ft11 (Or.inr ⟨rfl, hi, ho.symm, by rw [ho]; exact (tb2 82 rfl rfl)⟩) hr (fun _ => trivial) (k _ rfl)
theorem fl11_55 : kFL RX11 55 11 12 RX11 TX11 20 := ⟨rfl, by decide, by decide, rfl, uw11, Or.inl (tb2 84 rfl rfl)⟩
theorem gf11_55 {d : Nat} {M : kM} {Post : Option kV → Nat → kS → Prop} {b : Nat × Nat} {pc : Nat} {ls : List (Nat × kV)} {st : List kV} {n : Nat} {σ : kS} {r : Int} (ho : M.1.cls = RX11) (hd : decode M.2.1 pc = .ok (.getfield 55, 3)) (hr : isO 11 n r) (k : K d M Post b (pc + 3) ls ((2, σ r 12) :: st) n σ) : K d M Post b pc ls ((2, r) :: st) n σ := K_getf (j := 12) (C := RX11) (T := TX11) (N := 20) hd (by rw [ho]; exact fl11_55) hr k
theorem pf11_55 {d : Nat} {M : kM} {Post : Option kV → Nat → kS → Prop} {b : Nat × Nat} {pc : Nat} {ls : List (Nat × kV)} {st : List kV} {n : Nat} {σ : kS} {r x : Int} (ho : M.1.cls = RX11) (hi : M.1.name = "<init>") (hd : decode M.2.1 pc = .ok (.putfield 55, 3)) (hr : isO 11 n r) (k : ∀ s, s = kst σ r 12 x → K d M Post b (pc + 3) ls st n s) : K d M Post b pc ls ((2, x) :: (2, r) :: st) n σ := K_putf (j := 12) (C := RX11) (T := TX11) (N := 20) hd (by rw [ho]; exact fl11_55) ft11 (Or.inr ⟨rfl, hi, ho.symm, by rw [ho]; exact (tb2 84 rfl rfl)⟩) hr (fun _ => trivial) (k _ rfl)
theorem fl11_58 : kFL RX11 58 11 13 RX11 TX11 20 := ⟨rfl, by decide, by decide, rfl, uw11, Or.inl (tb2 85 rfl rfl)⟩
theorem gf11_58 {d : Nat} {M : kM} {Post : Option kV → Nat → kS → Prop} {b : Nat × Nat} {pc : Nat} {ls : List (Nat × kV)} {st : List kV} {n : Nat} {σ : kS} {r : Int} (ho : M.1.cls = RX11) (hd : decode M.2.1 pc = .ok (.getfield 58, 3)) (hr : isO 11 n r) (k : K d M Post b (pc + 3) ls ((2, σ r 13) :: st) n σ) : K d M Post b pc ls ((2, r) :: st) n σ := K_getf (j := 13) (C := RX11) (T := TX11) (N := 20) hd (by rw [ho]; exact fl11_58) hr k
theorem pf11_58 {d : Nat} {M : kM} {Post : Option kV → Nat → kS → Prop} {b : Nat × Nat} {pc : Nat} {ls : List (Nat × kV)} {st : List kV} {n : Nat} {σ : kS} {r x : Int} (ho : M.1.cls = RX11) (hi : M.1.name = "<init>") (hd : decode M.2.1 pc = .ok (.putfield 58, 3)) (hr : isO 11 n r) (k : ∀ s, s = kst σ r 13 x → K d M Post b (pc + 3) ls st n s) : K d M Post b pc ls ((2, x) :: (2, r) :: st) n σ := K_putf (j := 13) (C := RX11) (T := TX11) (N := 20) hd (by rw [ho]; exact fl11_58) ft11 (Or.inr ⟨rfl, hi, ho.symm, by rw [ho]; exact (tb2 85 rfl rfl)⟩) hr (fun _ => trivial) (k _ rfl)
theorem fl11_64 : kFL RX11 64 11 14 RX11 TX11 20 := ⟨rfl, by decide, by decide, rfl, uw11, Or.inl (tb2 86 rfl rfl)⟩
theorem gf11_64 {d : Nat} {M : kM} {Post : Option kV → Nat → kS → Prop} {b : Nat × Nat} {pc : Nat} {ls : List (Nat × kV)} {st : List kV} {n : Nat} {σ : kS} {r : Int} (ho : M.1.cls = RX11) (hd : decode M.2.1 pc = .ok (.getfield 64, 3)) (hr : isO 11 n r) (k : K d M Post b (pc + 3) ls ((2, σ r 14) :: st) n σ) : K d M Post b pc ls ((2, r) :: st) n σ := K_getf (j := 14) (C := RX11) (T := TX11) (N := 20) hd (by rw [ho]; exact fl11_64) hr k
theorem pf11_64 {d : Nat} {M : kM} {Post : Option kV → Nat → kS → Prop} {b : Nat × Nat} {pc : Nat} {ls : List (Nat × kV)} {st : List kV} {n : Nat} {σ : kS} {r x : Int} (ho : M.1.cls = RX11) (hi : M.1.name = "<init>") (hd : decode M.2.1 pc = .ok (.putfield 64, 3)) (hr : isO 11 n r) (k : ∀ s, s = kst σ r 14 x → K d M Post b (pc + 3) ls st n s) : K d M Post b pc ls ((2, x) :: (2, r) :: st) n σ := K_putf (j := 14) (C := RX11) (T := TX11) (N := 20) hd (by rw [ho]; exact fl11_64) ft11 (Or.inr ⟨rfl, hi, ho.symm, by rw [ho]; exact (tb2 86 rfl rfl)⟩) hr (fun _ => trivial) (k _ rfl)
theorem fl11_71 : kFL RX11 71 11 15 RX11 TX11 20 := ⟨rfl, by decide, by decide, rfl, uw11, Or.inl (tb2 87 rfl rfl)⟩
theorem gf11_71 {d : Nat} {M : kM} {Post : Option kV → Nat → kS → Prop} {b : Nat × Nat} {pc : Nat} {ls : List (Nat × kV)} {st : List kV} {n : Nat} {σ : kS} {r : Int} (ho : M.1.cls = RX11) (hd : decode M.2.1 pc = .ok (.getfield 71, 3)) (hr : isO 11 n r) (k : K d M Post b (pc + 3) ls ((2, σ r 15) :: st) n σ) : K d M Post b pc ls ((2, r) :: st) n σ := K_getf (j := 15) (C := RX11) (T := TX11) (N := 20) hd (by rw [ho]; exact fl11_71) hr k
theorem pf11_71 {d : Nat} {M : kM} {Post : Option kV → Nat → kS → Prop} {b : Nat × Nat} {pc : Nat} {ls : List (Nat × kV)} {st : List kV} {n : Nat} {σ : kS} {r x : Int} (ho : M.1.cls = RX11) (hi : M.1.name = "<init>") (hd : decode M.2.1 pc = .ok (.putfield 71, 3)) (hr : isO 11 n r) (k : ∀ s, s = kst σ r 15 x → K d M Post b (pc + 3) ls st n s) : K d M Post b pc ls ((2, x) :: (2, r) :: st) n σ := K_putf (j := 15) (C := RX11) (T := TX11) (N := 20) hd (by rw [ho]; exact fl11_71) ft11 (Or.inr ⟨rfl, hi, ho.symm, by rw [ho]; exact (tb2 87 rfl rfl)⟩) hr (fun _ => trivial) (k _ rfl)
theorem fl11_78 : kFL RX11 78 11 16 RX11 TX11 20 := ⟨rfl, by decide, by decide, rfl, uw11, Or.inl (tb2 88 rfl rfl)⟩
theorem gf11_78 {d : Nat} {M : kM} {Post : Option kV → Nat → kS → Prop} {b : Nat × Nat} {pc : Nat} {ls : List (Nat × kV)} {st : List kV} {n : Nat} {σ : kS} {r : Int} (ho : M.1.cls = RX11) (hd : decode M.2.1 pc = .ok (.getfield 78, 3)) (hr : isO 11 n r) (k : K d M Post b (pc + 3) ls ((2, σ r 16) :: st) n σ) : K d M Post b pc ls ((2, r) :: st) n σ := K_getf (j := 16) (C := RX11) (T := TX11) (N := 20) hd (by rw [ho]; exact fl11_78) hr k
theorem pf11_78 {d : Nat} {M : kM} {Post : Option kV → Nat → kS → Prop} {b : Nat × Nat} {pc : Nat} {ls : List (Nat × kV)} {st : List kV} {n : Nat} {σ : kS} {r x : Int} (ho : M.1.cls = RX11) (hi : M.1.name = "<init>") (hd : decode M.2.1 pc = .ok (.putfield 78, 3)) (hr : isO 11 n r) (k : ∀ s, s = kst σ r 16 x → K d M Post b (pc + 3) ls st n s) : K d M Post b pc ls ((2, x) :: (2, r) :: st) n σ := K_putf (j := 16) (C := RX11) (T := TX11) (N := 20) hd (by rw [ho]; exact fl11_78) ft11 (Or.inr ⟨rfl, hi, ho.symm, by rw [ho]; exact (tb2 88 rfl rfl)⟩) hr (fun _ => trivial) (k _ rfl)
theorem fl11_85 : kFL RX11 85 11 17 RX11 TX11 20 := ⟨rfl, by decide, by decide, rfl, uw11, Or.inl (tb2 89 rfl rfl)⟩
theorem gf11_85 {d : Nat} {M : kM} {Post : Option kV → Nat → kS → Prop} {b : Nat × Nat} {pc : Nat} {ls : List (Nat × kV)} {st : List kV} {n : Nat} {σ : kS} {r : Int} (ho : M.1.cls = RX11) (hd : decode M.2.1 pc = .ok (.getfield 85, 3)) (hr : isO 11 n r) (k : K d M Post b (pc + 3) ls ((2, σ r 17) :: st) n σ) : K d M Post b pc ls ((2, r) :: st) n σ := K_getf (j := 17) (C := RX11) (T := TX11) (N := 20) hd (by rw [ho]; exact fl11_85) hr k
theorem pf11_85 {d : Nat} {M : kM} {Post : Option kV → Nat → kS → Prop} {b : Nat × Nat} {pc : Nat} {ls : List (Nat × kV)} {st : List kV} {n : Nat} {σ : kS} {r x : Int} (ho : M.1.cls = RX11) (hi : M.1.name = "<init>") (hd : decode M.2.1 pc = .ok (.putfield 85, 3)) (hr : isO 11 n r) (k : ∀ s, s = kst σ r 17 x → K d M Post b (pc + 3) ls st n s) : K d M Post b pc ls ((2, x) :: (2, r) :: st) n σ := K_putf (j := 17) (C := RX11) (T := TX11) (N := 20) hd (by rw [ho]; exact fl11_85) ft11 (Or.inr ⟨rfl, hi, ho.symm, by rw [ho]; exact (tb2 89 rfl rfl)⟩) hr (fun _ => trivial) (k _ rfl)
theorem fl11_92 : kFL RX11 92 11 18 RX11 TX11 20 := ⟨rfl, by decide, by decide, rfl, uw11, Or.inl (tb2 90 rfl rfl)⟩
theorem gf11_92 {d : Nat} {M : kM} {Post : Option kV → Nat → kS → Prop} {b : Nat × Nat} {pc : Nat} {ls : List (Nat × kV)} {st : List kV} {n : Nat} {σ : kS} {r : Int} (ho : M.1.cls = RX11) (hd : decode M.2.1 pc = .ok (.getfield 92, 3)) (hr : isO 11 n r) (k : K d M Post b (pc + 3) ls ((2, σ r 18) :: st) n σ) : K d M Post b pc ls ((2, r) :: st) n σ := K_getf (j := 18) (C := RX11) (T := TX11) (N := 20) hd (by rw [ho]; exact fl11_92) hr k
theorem pf11_92 {d : Nat} {M : kM} {Post : Option kV → Nat → kS → Prop} {b : Nat × Nat} {pc : Nat} {ls : List (Nat × kV)} {st : List kV} {n : Nat} {σ : kS} {r x : Int} (ho : M.1.cls = RX11) (hi : M.1.name = "<init>") (hd : decode M.2.1 pc = .ok (.putfield 92, 3)) (hr : isO 11 n r) (k : ∀ s, s = kst σ r 18 x → K d M Post b (pc + 3) ls st n s) : K d M Post b pc ls ((2, x) :: (2, r) :: st) n σ := K_putf (j := 18) (C := RX11) (T := TX11) (N := 20) hd (by rw [ho]; exact fl11_92) ft11 (Or.inr ⟨rfl, hi, ho.symm, by rw [ho]; exact (tb2 90 rfl rfl)⟩) hr (fun _ => trivial) (k _ rfl)
theorem fl11_99 : kFL RX11 99 11 19 RX11 TX11 20 := ⟨rfl, by decide, by decide, rfl, uw11, Or.inl (tb2 91 rfl rfl)⟩
theorem gf11_99 {d : Nat} {M : kM} {Post : Option kV → Nat → kS → Prop} {b : Nat × Nat} {pc : Nat} {ls : List (Nat × kV)} {st : List kV} {n : Nat} {σ : kS} {r : Int} (ho : M.1.cls = RX11) (hd : decode M.2.1 pc = .ok (.getfield 99, 3)) (hr : isO 11 n r) (k : K d M Post b (pc + 3) ls ((2, σ r 19) :: st) n σ) : K d M Post b pc ls ((2, r) :: st) n σ := K_getf (j := 19) (C := RX11) (T := TX11) (N := 20) hd (by rw [ho]; exact fl11_99) hr k
theorem pf11_99 {d : Nat} {M : kM} {Post : Option kV → Nat → kS → Prop} {b : Nat × Nat} {pc : Nat} {ls : List (Nat × kV)} {st : List kV} {n : Nat} {σ : kS} {r x : Int} (ho : M.1.cls = RX11) (hi : M.1.name = "<init>") (hd : decode M.2.1 pc = .ok (.putfield 99, 3)) (hr : isO 11 n r) (k : ∀ s, s = kst σ r 19 x → K d M Post b (pc + 3) ls st n s) : K d M Post b pc ls ((2, x) :: (2, r) :: st) n σ := K_putf (j := 19) (C := RX11) (T := TX11) (N := 20) hd (by rw [ho]; exact fl11_99) ft11 (Or.inr ⟨rfl, hi, ho.symm, by rw [ho]; exact (tb2 91 rfl rfl)⟩) hr (fun _ => trivial) (k _ rfl)
theorem fl11_130 : kFL RX11 130 8 1 RX8 TX8 2 := ⟨rfl, by decide, by decide, rfl, uw8, Or.inr ⟨"OldRoads", (tb1 65 rfl rfl)⟩⟩
theorem gf11_130 {d : Nat} {M : kM} {Post : Option kV → Nat → kS → Prop} {b : Nat × Nat} {pc : Nat} {ls : List (Nat × kV)} {st : List kV} {n : Nat} {σ : kS} {r : Int} (ho : M.1.cls = RX11) (hd : decode M.2.1 pc = .ok (.getfield 130, 3)) (hr : isO 8 n r) (k : K d M Post b (pc + 3) ls ((0, σ r 1) :: st) n σ) : K d M Post b pc ls ((2, r) :: st) n σ := K_getf (j := 1) (C := RX8) (T := TX8) (N := 2) hd (by rw [ho]; exact fl11_130) hr k
theorem pf11_130 {d : Nat} {M : kM} {Post : Option kV → Nat → kS → Prop} {b : Nat × Nat} {pc : Nat} {ls : List (Nat × kV)} {st : List kV} {n : Nat} {σ : kS} {r x : Int} (ho : M.1.cls = RX11) (hd : decode M.2.1 pc = .ok (.putfield 130, 3)) (hr : isO 8 n r) (k : ∀ s, s = kst σ r 1 x → K d M Post b (pc + 3) ls st n s) : K d M Post b pc ls ((0, x) :: (2, r) :: st) n σ := K_putf (j := 1) (C := RX8) (T := TX8) (N := 2) hd (by rw [ho]; exact fl11_130) ft8 (Or.inl rfl) hr (fun h => h) (k _ rfl)
theorem fl11_148 : kFL RX11 148 4 2 RX4 TX4 3 := ⟨rfl, by decide, by decide, rfl, uw4, Or.inr ⟨"OldRoads", (tb1 109 rfl rfl)⟩⟩
theorem gf11_148 {d : Nat} {M : kM} {Post : Option kV → Nat → kS → Prop} {b : Nat × Nat} {pc : Nat} {ls : List (Nat × kV)} {st : List kV} {n : Nat} {σ : kS} {r : Int} (ho : M.1.cls = RX11) (hd : decode M.2.1 pc = .ok (.getfield 148, 3)) (hr : isO 4 n r) (k : K d M Post b (pc + 3) ls ((0, σ r 2) :: st) n σ) : K d M Post b pc ls ((2, r) :: st) n σ := K_getf (j := 2) (C := RX4) (T := TX4) (N := 3) hd (by rw [ho]; exact fl11_148) hr k
theorem pf11_148 {d : Nat} {M : kM} {Post : Option kV → Nat → kS → Prop} {b : Nat × Nat} {pc : Nat} {ls : List (Nat × kV)} {st : List kV} {n : Nat} {σ : kS} {r x : Int} (ho : M.1.cls = RX11) (hd : decode M.2.1 pc = .ok (.putfield 148, 3)) (hr : isO 4 n r) (k : ∀ s, s = kst σ r 2 x → K d M Post b (pc + 3) ls st n s) : K d M Post b pc ls ((0, x) :: (2, r) :: st) n σ := K_putf (j := 2) (C := RX4) (T := TX4) (N := 3) hd (by rw [ho]; exact fl11_148) ft4 (Or.inl rfl) hr (fun h => h) (k _ rfl)
theorem fl11_151 : kFL RX11 151 11 8 RX11 TX11 20 := ⟨rfl, by decide, by decide, rfl, uw11, Or.inl (tb2 80 rfl rfl)⟩
theorem gf11_151 {d : Nat} {M : kM} {Post : Option kV → Nat → kS → Prop} {b : Nat × Nat} {pc : Nat} {ls : List (Nat × kV)} {st : List kV} {n : Nat} {σ : kS} {r : Int} (ho : M.1.cls = RX11) (hd : decode M.2.1 pc = .ok (.getfield 151, 3)) (hr : isO 11 n r) (k : K d M Post b (pc + 3) ls ((0, σ r 8) :: st) n σ) : K d M Post b pc ls ((2, r) :: st) n σ := K_getf (j := 8) (C := RX11) (T := TX11) (N := 20) hd (by rw [ho]; exact fl11_151) hr k
theorem pf11_151 {d : Nat} {M : kM} {Post : Option kV → Nat → kS → Prop} {b : Nat × Nat} {pc : Nat} {ls : List (Nat × kV)} {st : List kV} {n : Nat} {σ : kS} {r x : Int} (ho : M.1.cls = RX11) (hd : decode M.2.1 pc = .ok (.putfield 151, 3)) (hr : isO 11 n r) (k : ∀ s, s = kst σ r 8 x → K d M Post b (pc + 3) ls st n s) : K d M Post b pc ls ((0, x) :: (2, r) :: st) n σ := K_putf (j := 8) (C := RX11) (T := TX11) (N := 20) hd (by rw [ho]; exact fl11_151) ft11 (Or.inl rfl) hr (fun h => h) (k _ rfl)
theorem fl11_157 : kFL RX11 157 0 2 RX0 TX0 3 := ⟨rfl, by decide, by decide, rfl, uw0, Or.inr ⟨"OldRoads", (tb2 64 rfl rfl)⟩⟩
theorem gf11_157 {d : Nat} {M : kM} {Post : Option kV → Nat → kS → Prop} {b : Nat × Nat} {pc : Nat} {ls : List (Nat × kV)} {st : List kV} {n : Nat} {σ : kS} {r : Int} (ho : M.1.cls = RX11) (hd : decode M.2.1 pc = .ok (.getfield 157, 3)) (hr : isO 0 n r) (k : K d M Post b (pc + 3) ls ((0, σ r 2) :: st) n σ) : K d M Post b pc ls ((2, r) :: st) n σ := K_getf (j := 2) (C := RX0) (T := TX0) (N := 3) hd (by rw [ho]; exact fl11_157) hr k
theorem pf11_157 {d : Nat} {M : kM} {Post : Option kV → Nat → kS → Prop} {b : Nat × Nat} {pc : Nat} {ls : List (Nat × kV)} {st : List kV} {n : Nat} {σ : kS} {r x : Int} (ho : M.1.cls = RX11) (hd : decode M.2.1 pc = .ok (.putfield 157, 3)) (hr : isO 0 n r) (k : ∀ s, s = kst σ r 2 x → K d M Post b (pc + 3) ls st n s) : K d M Post b pc ls ((0, x) :: (2, r) :: st) n σ := K_putf (j := 2) (C := RX0) (T := TX0) (N := 3) hd (by rw [ho]; exact fl11_157) ft0 (Or.inl rfl) hr (fun h => h) (k _ rfl)
theorem fl11_158 : kFL RX11 158 11 6 RX11 TX11 20 := ⟨rfl, by decide, by decide, rfl, uw11, Or.inl (tb2 78 rfl rfl)⟩
theorem gf11_158 {d : Nat} {M : kM} {Post : Option kV → Nat → kS → Prop} {b : Nat × Nat} {pc : Nat} {ls : List (Nat × kV)} {st : List kV} {n : Nat} {σ : kS} {r : Int} (ho : M.1.cls = RX11) (hd : decode M.2.1 pc = .ok (.getfield 158, 3)) (hr : isO 11 n r) (k : K d M Post b (pc + 3) ls ((0, σ r 6) :: st) n σ) : K d M Post b pc ls ((2, r) :: st) n σ := K_getf (j := 6) (C := RX11) (T := TX11) (N := 20) hd (by rw [ho]; exact fl11_158) hr k
theorem pf11_158 {d : Nat} {M : kM} {Post : Option kV → Nat → kS → Prop} {b : Nat × Nat} {pc : Nat} {ls : List (Nat × kV)} {st : List kV} {n : Nat} {σ : kS} {r x : Int} (ho : M.1.cls = RX11) (hd : decode M.2.1 pc = .ok (.putfield 158, 3)) (hr : isO 11 n r) (k : ∀ s, s = kst σ r 6 x → K d M Post b (pc + 3) ls st n s) : K d M Post b pc ls ((0, x) :: (2, r) :: st) n σ := K_putf (j := 6) (C := RX11) (T := TX11) (N := 20) hd (by rw [ho]; exact fl11_158) ft11 (Or.inl rfl) hr (fun h => h) (k _ rfl)
theorem fl11_161 : kFL RX11 161 4 0 RX4 TX4 3 := ⟨rfl, by decide, by decide, rfl, uw4, Or.inr ⟨"OldRoads", (tb1 106 rfl rfl)⟩⟩
theorem gf11_161 {d : Nat} {M : kM} {Post : Option kV → Nat → kS → Prop} {b : Nat × Nat} {pc : Nat} {ls : List (Nat × kV)} {st : List kV} {n : Nat} {σ : kS} {r : Int} (ho : M.1.cls = RX11) (hd : decode M.2.1 pc = .ok (.getfield 161, 3)) (hr : isO 4 n r) (k : K d M Post b (pc + 3) ls ((2, σ r 0) :: st) n σ) : K d M Post b pc ls ((2, r) :: st) n σ := K_getf (j := 0) (C := RX4) (T := TX4) (N := 3) hd (by rw [ho]; exact fl11_161) hr k
theorem fl11_193 : kFL RX11 193 10 13 RX10 TX10 15 := ⟨rfl, by decide, by decide, rfl, uw10, Or.inr ⟨"OldRoads", (tb1 158 rfl rfl)⟩⟩
theorem gf11_193 {d : Nat} {M : kM} {Post : Option kV → Nat → kS → Prop} {b : Nat × Nat} {pc : Nat} {ls : List (Nat × kV)} {st : List kV} {n : Nat} {σ : kS} {r : Int} (ho : M.1.cls = RX11) (hd : decode M.2.1 pc = .ok (.getfield 193, 3)) (hr : isO 10 n r) (k : K d M Post b (pc + 3) ls ((2, σ r 13) :: st) n σ) : K d M Post b pc ls ((2, r) :: st) n σ := K_getf (j := 13) (C := RX10) (T := TX10) (N := 15) hd (by rw [ho]; exact fl11_193) hr k
theorem fl11_215 : kFL RX11 215 9 2 RX9 TX9 4 := ⟨rfl, by decide, by decide, rfl, uw9, Or.inr ⟨"OldRoads", (tb1 203 rfl rfl)⟩⟩
theorem gf11_215 {d : Nat} {M : kM} {Post : Option kV → Nat → kS → Prop} {b : Nat × Nat} {pc : Nat} {ls : List (Nat × kV)} {st : List kV} {n : Nat} {σ : kS} {r : Int} (ho : M.1.cls = RX11) (hd : decode M.2.1 pc = .ok (.getfield 215, 3)) (hr : isO 9 n r) (k : K d M Post b (pc + 3) ls ((2, σ r 2) :: st) n σ) : K d M Post b pc ls ((2, r) :: st) n σ := K_getf (j := 2) (C := RX9) (T := TX9) (N := 4) hd (by rw [ho]; exact fl11_215) hr k
theorem fl11_216 : kFL RX11 216 11 11 RX11 TX11 20 := ⟨rfl, by decide, by decide, rfl, uw11, Or.inl (tb2 83 rfl rfl)⟩
theorem gf11_216 {d : Nat} {M : kM} {Post : Option kV → Nat → kS → Prop} {b : Nat × Nat} {pc : Nat} {ls : List (Nat × kV)} {st : List kV} {n : Nat} {σ : kS} {r : Int} (ho : M.1.cls = RX11) (hd : decode M.2.1 pc = .ok (.getfield 216, 3)) (hr : isO 11 n r) (k : K d M Post b (pc + 3) ls ((0, σ r 11) :: st) n σ) : K d M Post b pc ls ((2, r) :: st) n σ := K_getf (j := 11) (C := RX11) (T := TX11) (N := 20) hd (by rw [ho]; exact fl11_216) hr k
theorem pf11_216 {d : Nat} {M : kM} {Post : Option kV → Nat → kS → Prop} {b : Nat × Nat} {pc : Nat} {ls : List (Nat × kV)} {st : List kV} {n : Nat} {σ : kS} {r x : Int} (ho : M.1.cls = RX11) (hd : decode M.2.1 pc = .ok (.putfield 216, 3)) (hr : isO 11 n r) (k : ∀ s, s = kst σ r 11 x → K d M Post b (pc + 3) ls st n s) : K d M Post b pc ls ((0, x) :: (2, r) :: st) n σ := K_putf (j := 11) (C := RX11) (T := TX11) (N := 20) hd (by rw [ho]; exact fl11_216) ft11 (Or.inl rfl) hr (fun h => h) (k _ rfl)
theorem fl11_230 : kFL RX11 230 9 3 RX9 TX9 4 := ⟨rfl, by decide, by decide, rfl, uw9, Or.inr ⟨"OldRoads", (tb1 205 rfl rfl)⟩⟩
theorem gf11_230 {d : Nat} {M : kM} {Post : Option kV → Nat → kS → Prop} {b : Nat × Nat} {pc : Nat} {ls : List (Nat × kV)} {st : List kV} {n : Nat} {σ : kS} {r : Int} (ho : M.1.cls = RX11) (hd : decode M.2.1 pc = .ok (.getfield 230, 3)) (hr : isO 9 n r) (k : K d M Post b (pc + 3) ls ((2, σ r 3) :: st) n σ) : K d M Post b pc ls ((2, r) :: st) n σ := K_getf (j := 3) (C := RX9) (T := TX9) (N := 4) hd (by rw [ho]; exact fl11_230) hr k
theorem fl11_276 : kFL RX11 276 3 4 RX3 TX3 5 := ⟨rfl, by decide, by decide, rfl, uw3, Or.inr ⟨"OldRoads", (tb1 91 rfl rfl)⟩⟩
theorem gf11_276 {d : Nat} {M : kM} {Post : Option kV → Nat → kS → Prop} {b : Nat × Nat} {pc : Nat} {ls : List (Nat × kV)} {st : List kV} {n : Nat} {σ : kS} {r : Int} (ho : M.1.cls = RX11) (hd : decode M.2.1 pc = .ok (.getfield 276, 3)) (hr : isO 3 n r) (k : K d M Post b (pc + 3) ls ((2, σ r 4) :: st) n σ) : K d M Post b pc ls ((2, r) :: st) n σ := K_getf (j := 4) (C := RX3) (T := TX3) (N := 5) hd (by rw [ho]; exact fl11_276) hr k
theorem fl11_304 : kFL RX11 304 3 3 RX3 TX3 5 := ⟨rfl, by decide, by decide, rfl, uw3, Or.inr ⟨"OldRoads", (tb1 89 rfl rfl)⟩⟩
theorem gf11_304 {d : Nat} {M : kM} {Post : Option kV → Nat → kS → Prop} {b : Nat × Nat} {pc : Nat} {ls : List (Nat × kV)} {st : List kV} {n : Nat} {σ : kS} {r : Int} (ho : M.1.cls = RX11) (hd : decode M.2.1 pc = .ok (.getfield 304, 3)) (hr : isO 3 n r) (k : K d M Post b (pc + 3) ls ((0, σ r 3) :: st) n σ) : K d M Post b pc ls ((2, r) :: st) n σ := K_getf (j := 3) (C := RX3) (T := TX3) (N := 5) hd (by rw [ho]; exact fl11_304) hr k
theorem pf11_304 {d : Nat} {M : kM} {Post : Option kV → Nat → kS → Prop} {b : Nat × Nat} {pc : Nat} {ls : List (Nat × kV)} {st : List kV} {n : Nat} {σ : kS} {r x : Int} (ho : M.1.cls = RX11) (hd : decode M.2.1 pc = .ok (.putfield 304, 3)) (hr : isO 3 n r) (k : ∀ s, s = kst σ r 3 x → K d M Post b (pc + 3) ls st n s) : K d M Post b pc ls ((0, x) :: (2, r) :: st) n σ := K_putf (j := 3) (C := RX3) (T := TX3) (N := 5) hd (by rw [ho]; exact fl11_304) ft3 (Or.inl rfl) hr (fun h => h) (k _ rfl)
theorem fl11_313 : kFL RX11 313 7 0 RX7 TX7 3 := ⟨rfl, by decide, by decide, rfl, uw7, Or.inr ⟨"OldRoads", (tb2 3 rfl rfl)⟩⟩
theorem gf11_313 {d : Nat} {M : kM} {Post : Option kV → Nat → kS → Prop} {b : Nat × Nat} {pc : Nat} {ls : List (Nat × kV)} {st : List kV} {n : Nat} {σ : kS} {r : Int} (ho : M.1.cls = RX11) (hd : decode M.2.1 pc = .ok (.getfield 313, 3)) (hr : isO 7 n r) (k : K d M Post b (pc + 3) ls ((2, σ r 0) :: st) n σ) : K d M Post b pc ls ((2, r) :: st) n σ := K_getf (j := 0) (C := RX7) (T := TX7) (N := 3) hd (by rw [ho]; exact fl11_313) hr k
theorem fl11_361 : kFL RX11 361 1 0 RX1 TX1 5 := ⟨rfl, by decide, by decide, rfl, uw1, Or.inr ⟨"OldRoads", (tb2 20 rfl rfl)⟩⟩
theorem gf11_361 {d : Nat} {M : kM} {Post : Option kV → Nat → kS → Prop} {b : Nat × Nat} {pc : Nat} {ls : List (Nat × kV)} {st : List kV} {n : Nat} {σ : kS} {r : Int} (ho : M.1.cls = RX11) (hd : decode M.2.1 pc = .ok (.getfield 361, 3)) (hr : isO 1 n r) (k : K d M Post b (pc + 3) ls ((2, σ r 0) :: st) n σ) : K d M Post b pc ls ((2, r) :: st) n σ := K_getf (j := 0) (C := RX1) (T := TX1) (N := 5) hd (by rw [ho]; exact fl11_361) hr k
theorem fl11_364 : kFL RX11 364 1 4 RX1 TX1 5 := ⟨rfl, by decide, by decide, rfl, uw1, Or.inr ⟨"OldRoads", (tb2 27 rfl rfl)⟩⟩
theorem gf11_364 {d : Nat} {M : kM} {Post : Option kV → Nat → kS → Prop} {b : Nat × Nat} {pc : Nat} {ls : List (Nat × kV)} {st : List kV} {n : Nat} {σ : kS} {r : Int} (ho : M.1.cls = RX11) (hd : decode M.2.1 pc = .ok (.getfield 364, 3)) (hr : isO 1 n r) (k : K d M Post b (pc + 3) ls ((0, σ r 4) :: st) n σ) : K d M Post b pc ls ((2, r) :: st) n σ := K_getf (j := 4) (C := RX1) (T := TX1) (N := 5) hd (by rw [ho]; exact fl11_364) hr k
theorem pf11_364 {d : Nat} {M : kM} {Post : Option kV → Nat → kS → Prop} {b : Nat × Nat} {pc : Nat} {ls : List (Nat × kV)} {st : List kV} {n : Nat} {σ : kS} {r x : Int} (ho : M.1.cls = RX11) (hd : decode M.2.1 pc = .ok (.putfield 364, 3)) (hr : isO 1 n r) (hx : 0 ≤ x ∧ x ≤ 1) (k : ∀ s, s = kst σ r 4 x → K d M Post b (pc + 3) ls st n s) : K d M Post b pc ls ((0, x) :: (2, r) :: st) n σ := K_putf (j := 4) (C := RX1) (T := TX1) (N := 5) hd (by rw [ho]; exact fl11_364) ft1 (Or.inl rfl) hr (fun _ => hx) (k _ rfl)
theorem fl11_368 : kFL RX11 368 1 2 RX1 TX1 5 := ⟨rfl, by decide, by decide, rfl, uw1, Or.inr ⟨"OldRoads", (tb2 23 rfl rfl)⟩⟩
theorem gf11_368 {d : Nat} {M : kM} {Post : Option kV → Nat → kS → Prop} {b : Nat × Nat} {pc : Nat} {ls : List (Nat × kV)} {st : List kV} {n : Nat} {σ : kS} {r : Int} (ho : M.1.cls = RX11) (hd : decode M.2.1 pc = .ok (.getfield 368, 3)) (hr : isO 1 n r) (k : K d M Post b (pc + 3) ls ((0, σ r 2) :: st) n σ) : K d M Post b pc ls ((2, r) :: st) n σ := K_getf (j := 2) (C := RX1) (T := TX1) (N := 5) hd (by rw [ho]; exact fl11_368) hr k
theorem pf11_368 {d : Nat} {M : kM} {Post : Option kV → Nat → kS → Prop} {b : Nat × Nat} {pc : Nat} {ls : List (Nat × kV)} {st : List kV} {n : Nat} {σ : kS} {r x : Int} (ho : M.1.cls = RX11) (hd : decode M.2.1 pc = .ok (.putfield 368, 3)) (hr : isO 1 n r) (k : ∀ s, s = kst σ r 2 x → K d M Post b (pc + 3) ls st n s) : K d M Post b pc ls ((0, x) :: (2, r) :: st) n σ := K_putf (j := 2) (C := RX1) (T := TX1) (N := 5) hd (by rw [ho]; exact fl11_368) ft1 (Or.inl rfl) hr (fun h => h) (k _ rfl)
theorem fl11_371 : kFL RX11 371 1 3 RX1 TX1 5 := ⟨rfl, by decide, by decide, rfl, uw1, Or.inr ⟨"OldRoads", (tb2 25 rfl rfl)⟩⟩
theorem gf11_371 {d : Nat} {M : kM} {Post : Option kV → Nat → kS → Prop} {b : Nat × Nat} {pc : Nat} {ls : List (Nat × kV)} {st : List kV} {n : Nat} {σ : kS} {r : Int} (ho : M.1.cls = RX11) (hd : decode M.2.1 pc = .ok (.getfield 371, 3)) (hr : isO 1 n r) (k : K d M Post b (pc + 3) ls ((0, σ r 3) :: st) n σ) : K d M Post b pc ls ((2, r) :: st) n σ := K_getf (j := 3) (C := RX1) (T := TX1) (N := 5) hd (by rw [ho]; exact fl11_371) hr k
theorem pf11_371 {d : Nat} {M : kM} {Post : Option kV → Nat → kS → Prop} {b : Nat × Nat} {pc : Nat} {ls : List (Nat × kV)} {st : List kV} {n : Nat} {σ : kS} {r x : Int} (ho : M.1.cls = RX11) (hd : decode M.2.1 pc = .ok (.putfield 371, 3)) (hr : isO 1 n r) (k : ∀ s, s = kst σ r 3 x → K d M Post b (pc + 3) ls st n s) : K d M Post b pc ls ((0, x) :: (2, r) :: st) n σ := K_putf (j := 3) (C := RX1) (T := TX1) (N := 5) hd (by rw [ho]; exact fl11_371) ft1 (Or.inl rfl) hr (fun h => h) (k _ rfl)
theorem fl11_377 : kFL RX11 377 11 2 RX11 TX11 20 := ⟨rfl, by decide, by decide, rfl, uw11, Or.inl (tb2 74 rfl rfl)⟩
theorem gf11_377 {d : Nat} {M : kM} {Post : Option kV → Nat → kS → Prop} {b : Nat × Nat} {pc : Nat} {ls : List (Nat × kV)} {st : List kV} {n : Nat} {σ : kS} {r : Int} (ho : M.1.cls = RX11) (hd : decode M.2.1 pc = .ok (.getfield 377, 3)) (hr : isO 11 n r) (k : K d M Post b (pc + 3) ls ((0, σ r 2) :: st) n σ) : K d M Post b pc ls ((2, r) :: st) n σ := K_getf (j := 2) (C := RX11) (T := TX11) (N := 20) hd (by rw [ho]; exact fl11_377) hr k
theorem pf11_377 {d : Nat} {M : kM} {Post : Option kV → Nat → kS → Prop} {b : Nat × Nat} {pc : Nat} {ls : List (Nat × kV)} {st : List kV} {n : Nat} {σ : kS} {r x : Int} (ho : M.1.cls = RX11) (hd : decode M.2.1 pc = .ok (.putfield 377, 3)) (hr : isO 11 n r) (k : ∀ s, s = kst σ r 2 x → K d M Post b (pc + 3) ls st n s) : K d M Post b pc ls ((0, x) :: (2, r) :: st) n σ := K_putf (j := 2) (C := RX11) (T := TX11) (N := 20) hd (by rw [ho]; exact fl11_377) ft11 (Or.inl rfl) hr (fun h => h) (k _ rfl)
theorem fl11_390 : kFL RX11 390 10 14 RX10 TX10 15 := ⟨rfl, by decide, by decide, rfl, uw10, Or.inr ⟨"OldRoads", (tb1 160 rfl rfl)⟩⟩
theorem gf11_390 {d : Nat} {M : kM} {Post : Option kV → Nat → kS → Prop} {b : Nat × Nat} {pc : Nat} {ls : List (Nat × kV)} {st : List kV} {n : Nat} {σ : kS} {r : Int} (ho : M.1.cls = RX11) (hd : decode M.2.1 pc = .ok (.getfield 390, 3)) (hr : isO 10 n r) (k : K d M Post b (pc + 3) ls ((2, σ r 14) :: st) n σ) : K d M Post b pc ls ((2, r) :: st) n σ := K_getf (j := 14) (C := RX10) (T := TX10) (N := 15) hd (by rw [ho]; exact fl11_390) hr k
theorem fl11_399 : kFL RX11 399 2 0 RX2 TX2 3 := ⟨rfl, by decide, by decide, rfl, uw2, Or.inr ⟨"OldRoads", (tb1 224 rfl rfl)⟩⟩
theorem gf11_399 {d : Nat} {M : kM} {Post : Option kV → Nat → kS → Prop} {b : Nat × Nat} {pc : Nat} {ls : List (Nat × kV)} {st : List kV} {n : Nat} {σ : kS} {r : Int} (ho : M.1.cls = RX11) (hd : decode M.2.1 pc = .ok (.getfield 399, 3)) (hr : isO 2 n r) (k : K d M Post b (pc + 3) ls ((2, σ r 0) :: st) n σ) : K d M Post b pc ls ((2, r) :: st) n σ := K_getf (j := 0) (C := RX2) (T := TX2) (N := 3) hd (by rw [ho]; exact fl11_399) hr k
theorem fl0_14 : kFL RX0 14 0 0 RX0 TX0 3 := ⟨rfl, by decide, by decide, rfl, uw0, Or.inl (tb2 61 rfl rfl)⟩
theorem gf0_14 {d : Nat} {M : kM} {Post : Option kV → Nat → kS → Prop} {b : Nat × Nat} {pc : Nat} {ls : List (Nat × kV)} {st : List kV} {n : Nat} {σ : kS} {r : Int} (ho : M.1.cls = RX0) (hd : decode M.2.1 pc = .ok (.getfield 14, 3)) (hr : isO 0 n r) (k : K d M Post b (pc + 3) ls ((2, σ r 0) :: st) n σ) : K d M Post b pc ls ((2, r) :: st) n σ := K_getf (j := 0) (C := RX0) (T := TX0) (N := 3) hd (by rw [ho]; exact fl0_14) hr k
theorem pf0_14 {d : Nat} {M : kM} {Post : Option kV → Nat → kS → Prop} {b : Nat × Nat} {pc : Nat} {ls : List (Nat × kV)} {st : List kV} {n : Nat} {σ : kS} {r x : Int} (ho : M.1.cls = RX0) (hi : M.1.name = "<init>") (hd : decode M.2.1 pc = .ok (.putfield 14, 3)) (hr : isO 0 n r) (k : ∀ s, s = kst σ r 0 x → K d M Post b (pc + 3) ls st n s) : K d M Post b pc ls ((2, x) :: (2, r) :: st) n σ := K_putf (j := 0) (C := RX0) (T := TX0) (N := 3) hd (by rw [ho]; exact fl0_14) ft0 (Or.inr ⟨rfl, hi, ho.symm, by rw [ho]; exact (tb2 61 rfl rfl)⟩) hr (fun _ => trivial) (k _ rfl)
theorem fl0_20 : kFL RX0 20 0 1 RX0 TX0 3 := ⟨rfl, by decide, by decide, rfl, uw0, Or.inl (tb2 62 rfl rfl)⟩
theorem gf0_20 {d : Nat} {M : kM} {Post : Option kV → Nat → kS → Prop} {b : Nat × Nat} {pc : Nat} {ls : List (Nat × kV)} {st : List kV} {n : Nat} {σ : kS} {r : Int} (ho : M.1.cls = RX0) (hd : decode M.2.1 pc = .ok (.getfield 20, 3)) (hr : isO 0 n r) (k : K d M Post b (pc + 3) ls ((2, σ r 1) :: st) n σ) : K d M Post b pc ls ((2, r) :: st) n σ := K_getf (j := 1) (C := RX0) (T := TX0) (N := 3) hd (by rw [ho]; exact fl0_20) hr k
theorem pf0_20 {d : Nat} {M : kM} {Post : Option kV → Nat → kS → Prop} {b : Nat × Nat} {pc : Nat} {ls : List (Nat × kV)} {st : List kV} {n : Nat} {σ : kS} {r x : Int} (ho : M.1.cls = RX0) (hi : M.1.name = "<init>") (hd : decode M.2.1 pc = .ok (.putfield 20, 3)) (hr : isO 0 n r) (k : ∀ s, s = kst σ r 1 x → K d M Post b (pc + 3) ls st n s) : K d M Post b pc ls ((2, x) :: (2, r) :: st) n σ := K_putf (j := 1) (C := RX0) (T := TX0) (N := 3) hd (by rw [ho]; exact fl0_20) ft0 (Or.inr ⟨rfl, hi, ho.symm, by rw [ho]; exact (tb2 62 rfl rfl)⟩) hr (fun _ => trivial) (k _ rfl)
theorem fl0_23 : kFL RX0 23 8 1 RX8 TX8 2 := ⟨rfl, by decide, by decide, rfl, uw8, Or.inr ⟨"OldRoads", (tb1 60 rfl rfl)⟩⟩
theorem gf0_23 {d : Nat} {M : kM} {Post : Option kV → Nat → kS → Prop} {b : Nat × Nat} {pc : Nat} {ls : List (Nat × kV)} {st : List kV} {n : Nat} {σ : kS} {r : Int} (ho : M.1.cls = RX0) (hd : decode M.2.1 pc = .ok (.getfield 23, 3)) (hr : isO 8 n r) (k : K d M Post b (pc + 3) ls ((0, σ r 1) :: st) n σ) : K d M Post b pc ls ((2, r) :: st) n σ := K_getf (j := 1) (C := RX8) (T := TX8) (N := 2) hd (by rw [ho]; exact fl0_23) hr k
theorem pf0_23 {d : Nat} {M : kM} {Post : Option kV → Nat → kS → Prop} {b : Nat × Nat} {pc : Nat} {ls : List (Nat × kV)} {st : List kV} {n : Nat} {σ : kS} {r x : Int} (ho : M.1.cls = RX0) (hd : decode M.2.1 pc = .ok (.putfield 23, 3)) (hr : isO 8 n r) (k : ∀ s, s = kst σ r 1 x → K d M Post b (pc + 3) ls st n s) : K d M Post b pc ls ((0, x) :: (2, r) :: st) n σ := K_putf (j := 1) (C := RX8) (T := TX8) (N := 2) hd (by rw [ho]; exact fl0_23) ft8 (Or.inl rfl) hr (fun h => h) (k _ rfl)
theorem fl0_31 : kFL RX0 31 0 2 RX0 TX0 3 := ⟨rfl, by decide, by decide, rfl, uw0, Or.inl (tb2 63 rfl rfl)⟩
theorem gf0_31 {d : Nat} {M : kM} {Post : Option kV → Nat → kS → Prop} {b : Nat × Nat} {pc : Nat} {ls : List (Nat × kV)} {st : List kV} {n : Nat} {σ : kS} {r : Int} (ho : M.1.cls = RX0) (hd : decode M.2.1 pc = .ok (.getfield 31, 3)) (hr : isO 0 n r) (k : K d M Post b (pc + 3) ls ((0, σ r 2) :: st) n σ) : K d M Post b pc ls ((2, r) :: st) n σ := K_getf (j := 2) (C := RX0) (T := TX0) (N := 3) hd (by rw [ho]; exact fl0_31) hr k
theorem pf0_31 {d : Nat} {M : kM} {Post : Option kV → Nat → kS → Prop} {b : Nat × Nat} {pc : Nat} {ls : List (Nat × kV)} {st : List kV} {n : Nat} {σ : kS} {r x : Int} (ho : M.1.cls = RX0) (hd : decode M.2.1 pc = .ok (.putfield 31, 3)) (hr : isO 0 n r) (k : ∀ s, s = kst σ r 2 x → K d M Post b (pc + 3) ls st n s) : K d M Post b pc ls ((0, x) :: (2, r) :: st) n σ := K_putf (j := 2) (C := RX0) (T := TX0) (N := 3) hd (by rw [ho]; exact fl0_31) ft0 (Or.inl rfl) hr (fun h => h) (k _ rfl)
theorem fl1_9 : kFL RX1 9 1 0 RX1 TX1 5 := ⟨rfl, by decide, by decide, rfl, uw1, Or.inl (tb2 19 rfl rfl)⟩
theorem gf1_9 {d : Nat} {M : kM} {Post : Option kV → Nat → kS → Prop} {b : Nat × Nat} {pc : Nat} {ls : List (Nat × kV)} {st : List kV} {n : Nat} {σ : kS} {r : Int} (ho : M.1.cls = RX1) (hd : decode M.2.1 pc = .ok (.getfield 9, 3)) (hr : isO 1 n r) (k : K d M Post b (pc + 3) ls ((2, σ r 0) :: st) n σ) : K d M Post b pc ls ((2, r) :: st) n σ := K_getf (j := 0) (C := RX1) (T := TX1) (N := 5) hd (by rw [ho]; exact fl1_9) hr k
theorem pf1_9 {d : Nat} {M : kM} {Post : Option kV → Nat → kS → Prop} {b : Nat × Nat} {pc : Nat} {ls : List (Nat × kV)} {st : List kV} {n : Nat} {σ : kS} {r x : Int} (ho : M.1.cls = RX1) (hi : M.1.name = "<init>") (hd : decode M.2.1 pc = .ok (.putfield 9, 3)) (hr : isO 1 n r) (k : ∀ s, s = kst σ r 0 x → K d M Post b (pc + 3) ls st n s) : K d M Post b pc ls ((2, x) :: (2, r) :: st) n σ := K_putf (j := 0) (C := RX1) (T := TX1) (N := 5) hd (by rw [ho]; exact fl1_9) ft1 (Or.inr ⟨rfl, hi, ho.symm, by rw [ho]; exact (tb2 19 rfl rfl)⟩) hr (fun _ => trivial) (k _ rfl)
theorem fl1_21 : kFL RX1 21 1 1 RX1 TX1 5 := ⟨rfl, by decide, by decide, rfl, uw1, Or.inl (tb2 21 rfl rfl)⟩
theorem gf1_21 {d : Nat} {M : kM} {Post : Option kV → Nat → kS → Prop} {b : Nat × Nat} {pc : Nat} {ls : List (Nat × kV)} {st : List kV} {n : Nat} {σ : kS} {r : Int} (ho : M.1.cls = RX1) (hd : decode M.2.1 pc = .ok (.getfield 21, 3)) (hr : isO 1 n r) (k : K d M Post b (pc + 3) ls ((1, σ r 1) :: st) n σ) : K d M Post b pc ls ((2, r) :: st) n σ := K_getf (j := 1) (C := RX1) (T := TX1) (N := 5) hd (by rw [ho]; exact fl1_21) hr k
theorem pf1_21 {d : Nat} {M : kM} {Post : Option kV → Nat → kS → Prop} {b : Nat × Nat} {pc : Nat} {ls : List (Nat × kV)} {st : List kV} {n : Nat} {σ : kS} {r x : Int} (ho : M.1.cls = RX1) (hd : decode M.2.1 pc = .ok (.putfield 21, 3)) (hr : isO 1 n r) (k : ∀ s, s = kst σ r 1 x → K d M Post b (pc + 3) ls st n s) : K d M Post b pc ls ((1, x) :: (2, r) :: st) n σ := K_putf (j := 1) (C := RX1) (T := TX1) (N := 5) hd (by rw [ho]; exact fl1_21) ft1 (Or.inl rfl) hr (fun h => h) (k _ rfl)
theorem fl1_25 : kFL RX1 25 1 2 RX1 TX1 5 := ⟨rfl, by decide, by decide, rfl, uw1, Or.inl (tb2 22 rfl rfl)⟩
theorem gf1_25 {d : Nat} {M : kM} {Post : Option kV → Nat → kS → Prop} {b : Nat × Nat} {pc : Nat} {ls : List (Nat × kV)} {st : List kV} {n : Nat} {σ : kS} {r : Int} (ho : M.1.cls = RX1) (hd : decode M.2.1 pc = .ok (.getfield 25, 3)) (hr : isO 1 n r) (k : K d M Post b (pc + 3) ls ((0, σ r 2) :: st) n σ) : K d M Post b pc ls ((2, r) :: st) n σ := K_getf (j := 2) (C := RX1) (T := TX1) (N := 5) hd (by rw [ho]; exact fl1_25) hr k
theorem pf1_25 {d : Nat} {M : kM} {Post : Option kV → Nat → kS → Prop} {b : Nat × Nat} {pc : Nat} {ls : List (Nat × kV)} {st : List kV} {n : Nat} {σ : kS} {r x : Int} (ho : M.1.cls = RX1) (hd : decode M.2.1 pc = .ok (.putfield 25, 3)) (hr : isO 1 n r) (k : ∀ s, s = kst σ r 2 x → K d M Post b (pc + 3) ls st n s) : K d M Post b pc ls ((0, x) :: (2, r) :: st) n σ := K_putf (j := 2) (C := RX1) (T := TX1) (N := 5) hd (by rw [ho]; exact fl1_25) ft1 (Or.inl rfl) hr (fun h => h) (k _ rfl)
theorem fl1_29 : kFL RX1 29 1 3 RX1 TX1 5 := ⟨rfl, by decide, by decide, rfl, uw1, Or.inl (tb2 24 rfl rfl)⟩
theorem gf1_29 {d : Nat} {M : kM} {Post : Option kV → Nat → kS → Prop} {b : Nat × Nat} {pc : Nat} {ls : List (Nat × kV)} {st : List kV} {n : Nat} {σ : kS} {r : Int} (ho : M.1.cls = RX1) (hd : decode M.2.1 pc = .ok (.getfield 29, 3)) (hr : isO 1 n r) (k : K d M Post b (pc + 3) ls ((0, σ r 3) :: st) n σ) : K d M Post b pc ls ((2, r) :: st) n σ := K_getf (j := 3) (C := RX1) (T := TX1) (N := 5) hd (by rw [ho]; exact fl1_29) hr k
theorem pf1_29 {d : Nat} {M : kM} {Post : Option kV → Nat → kS → Prop} {b : Nat × Nat} {pc : Nat} {ls : List (Nat × kV)} {st : List kV} {n : Nat} {σ : kS} {r x : Int} (ho : M.1.cls = RX1) (hd : decode M.2.1 pc = .ok (.putfield 29, 3)) (hr : isO 1 n r) (k : ∀ s, s = kst σ r 3 x → K d M Post b (pc + 3) ls st n s) : K d M Post b pc ls ((0, x) :: (2, r) :: st) n σ := K_putf (j := 3) (C := RX1) (T := TX1) (N := 5) hd (by rw [ho]; exact fl1_29) ft1 (Or.inl rfl) hr (fun h => h) (k _ rfl)
theorem fl1_32 : kFL RX1 32 1 4 RX1 TX1 5 := ⟨rfl, by decide, by decide, rfl, uw1, Or.inl (tb2 26 rfl rfl)⟩
theorem gf1_32 {d : Nat} {M : kM} {Post : Option kV → Nat → kS → Prop} {b : Nat × Nat} {pc : Nat} {ls : List (Nat × kV)} {st : List kV} {n : Nat} {σ : kS} {r : Int} (ho : M.1.cls = RX1) (hd : decode M.2.1 pc = .ok (.getfield 32, 3)) (hr : isO 1 n r) (k : K d M Post b (pc + 3) ls ((0, σ r 4) :: st) n σ) : K d M Post b pc ls ((2, r) :: st) n σ := K_getf (j := 4) (C := RX1) (T := TX1) (N := 5) hd (by rw [ho]; exact fl1_32) hr k
theorem pf1_32 {d : Nat} {M : kM} {Post : Option kV → Nat → kS → Prop} {b : Nat × Nat} {pc : Nat} {ls : List (Nat × kV)} {st : List kV} {n : Nat} {σ : kS} {r x : Int} (ho : M.1.cls = RX1) (hd : decode M.2.1 pc = .ok (.putfield 32, 3)) (hr : isO 1 n r) (hx : 0 ≤ x ∧ x ≤ 1) (k : ∀ s, s = kst σ r 4 x → K d M Post b (pc + 3) ls st n s) : K d M Post b pc ls ((0, x) :: (2, r) :: st) n σ := K_putf (j := 4) (C := RX1) (T := TX1) (N := 5) hd (by rw [ho]; exact fl1_32) ft1 (Or.inl rfl) hr (fun _ => hx) (k _ rfl)
theorem fl1_36 : kFL RX1 36 8 1 RX8 TX8 2 := ⟨rfl, by decide, by decide, rfl, uw8, Or.inr ⟨"OldRoads", (tb1 63 rfl rfl)⟩⟩
theorem gf1_36 {d : Nat} {M : kM} {Post : Option kV → Nat → kS → Prop} {b : Nat × Nat} {pc : Nat} {ls : List (Nat × kV)} {st : List kV} {n : Nat} {σ : kS} {r : Int} (ho : M.1.cls = RX1) (hd : decode M.2.1 pc = .ok (.getfield 36, 3)) (hr : isO 8 n r) (k : K d M Post b (pc + 3) ls ((0, σ r 1) :: st) n σ) : K d M Post b pc ls ((2, r) :: st) n σ := K_getf (j := 1) (C := RX8) (T := TX8) (N := 2) hd (by rw [ho]; exact fl1_36) hr k
theorem pf1_36 {d : Nat} {M : kM} {Post : Option kV → Nat → kS → Prop} {b : Nat × Nat} {pc : Nat} {ls : List (Nat × kV)} {st : List kV} {n : Nat} {σ : kS} {r x : Int} (ho : M.1.cls = RX1) (hd : decode M.2.1 pc = .ok (.putfield 36, 3)) (hr : isO 8 n r) (k : ∀ s, s = kst σ r 1 x → K d M Post b (pc + 3) ls st n s) : K d M Post b pc ls ((0, x) :: (2, r) :: st) n σ := K_putf (j := 1) (C := RX8) (T := TX8) (N := 2) hd (by rw [ho]; exact fl1_36) ft8 (Or.inl rfl) hr (fun h => h) (k _ rfl)
theorem fl1_62 : kFL RX1 62 10 13 RX10 TX10 15 := ⟨rfl, by decide, by decide, rfl, uw10, Or.inr ⟨"OldRoads", (tb1 157 rfl rfl)⟩⟩
theorem gf1_62 {d : Nat} {M : kM} {Post : Option kV → Nat → kS → Prop} {b : Nat × Nat} {pc : Nat} {ls : List (Nat × kV)} {st : List kV} {n : Nat} {σ : kS} {r : Int} (ho : M.1.cls = RX1) (hd : decode M.2.1 pc = .ok (.getfield 62, 3)) (hr : isO 10 n r) (k : K d M Post b (pc + 3) ls ((2, σ r 13) :: st) n σ) : K d M Post b pc ls ((2, r) :: st) n σ := K_getf (j := 13) (C := RX10) (T := TX10) (N := 15) hd (by rw [ho]; exact fl1_62) hr k
theorem fl2_14 : kFL RX2 14 2 0 RX2 TX2 3 := ⟨rfl, by decide, by decide, rfl, uw2, Or.inl (tb1 223 rfl rfl)⟩
theorem gf2_14 {d : Nat} {M : kM} {Post : Option kV → Nat → kS → Prop} {b : Nat × Nat} {pc : Nat} {ls : List (Nat × kV)} {st : List kV} {n : Nat} {σ : kS} {r : Int} (ho : M.1.cls = RX2) (hd : decode M.2.1 pc = .ok (.getfield 14, 3)) (hr : isO 2 n r) (k : K d M Post b (pc + 3) ls ((2, σ r 0) :: st) n σ) : K d M Post b pc ls ((2, r) :: st) n σ := K_getf (j := 0) (C := RX2) (T := TX2) (N := 3) hd (by rw [ho]; exact fl2_14) hr k
theorem pf2_14 {d : Nat} {M : kM} {Post : Option kV → Nat → kS → Prop} {b : Nat × Nat} {pc : Nat} {ls : List (Nat × kV)} {st : List kV} {n : Nat} {σ : kS} {r x : Int} (ho : M.1.cls = RX2) (hi : M.1.name = "<init>") (hd : decode M.2.1 pc = .ok (.putfield 14, 3)) (hr : isO 2 n r) (k : ∀ s, s = kst σ r 0 x → K d M Post b (pc + 3) ls st n s) : K d M Post b pc ls ((2, x) :: (2, r) :: st) n σ := K_putf (j := 0) (C := RX2) (T := TX2) (N := 3) hd (by rw [ho]; exact fl2_14) ft2 (Or.inr ⟨rfl, hi, ho.symm, by rw [ho]; exact (tb1 223 rfl rfl)⟩) hr (fun _ => trivial) (k _ rfl)
theorem fl2_20 : kFL RX2 20 2 1 RX2 TX2 3 := ⟨rfl, by decide, by decide, rfl, uw2, Or.inl (tb1 225 rfl rfl)⟩
theorem gf2_20 {d : Nat} {M : kM} {Post : Option kV → Nat → kS → Prop} {b : Nat × Nat} {pc : Nat} {ls : List (Nat × kV)} {st : List kV} {n : Nat} {σ : kS} {r : Int} (ho : M.1.cls = RX2) (hd : decode M.2.1 pc = .ok (.getfield 20, 3)) (hr : isO 2 n r) (k : K d M Post b (pc + 3) ls ((2, σ r 1) :: st) n σ) : K d M Post b pc ls ((2, r) :: st) n σ := K_getf (j := 1) (C := RX2) (T := TX2) (N := 3) hd (by rw [ho]; exact fl2_20) hr k
theorem pf2_20 {d : Nat} {M : kM} {Post : Option kV → Nat → kS → Prop} {b : Nat × Nat} {pc : Nat} {ls : List (Nat × kV)} {st : List kV} {n : Nat} {σ : kS} {r x : Int} (ho : M.1.cls = RX2) (hi : M.1.name = "<init>") (hd : decode M.2.1 pc = .ok (.putfield 20, 3)) (hr : isO 2 n r) (k : ∀ s, s = kst σ r 1 x → K d M Post b (pc + 3) ls st n s) : K d M Post b pc ls ((2, x) :: (2, r) :: st) n σ := K_putf (j := 1) (C := RX2) (T := TX2) (N := 3) hd (by rw [ho]; exact fl2_20) ft2 (Or.inr ⟨rfl, hi, ho.symm, by rw [ho]; exact (tb1 225 rfl rfl)⟩) hr (fun _ => trivial) (k _ rfl)
theorem fl2_23 : kFL RX2 23 2 2 RX2 TX2 3 := ⟨rfl, by decide, by decide, rfl, uw2, Or.inl (tb1 226 rfl rfl)⟩
theorem gf2_23 {d : Nat} {M : kM} {Post : Option kV → Nat → kS → Prop} {b : Nat × Nat} {pc : Nat} {ls : List (Nat × kV)} {st : List kV} {n : Nat} {σ : kS} {r : Int} (ho : M.1.cls = RX2) (hd : decode M.2.1 pc = .ok (.getfield 23, 3)) (hr : isO 2 n r) (k : K d M Post b (pc + 3) ls ((2, σ r 2) :: st) n σ) : K d M Post b pc ls ((2, r) :: st) n σ := K_getf (j := 2) (C := RX2) (T := TX2) (N := 3) hd (by rw [ho]; exact fl2_23) hr k
theorem pf2_23 {d : Nat} {M : kM} {Post : Option kV → Nat → kS → Prop} {b : Nat × Nat} {pc : Nat} {ls : List (Nat × kV)} {st : List kV} {n : Nat} {σ : kS} {r x : Int} (ho : M.1.cls = RX2) (hi : M.1.name = "<init>") (hd : decode M.2.1 pc = .ok (.putfield 23, 3)) (hr : isO 2 n r) (k : ∀ s, s = kst σ r 2 x → K d M Post b (pc + 3) ls st n s) : K d M Post b pc ls ((2, x) :: (2, r) :: st) n σ := K_putf (j := 2) (C := RX2) (T := TX2) (N := 3) hd (by rw [ho]; exact fl2_23) ft2 (Or.inr ⟨rfl, hi, ho.symm, by rw [ho]; exact (tb1 226 rfl rfl)⟩) hr (fun _ => trivial) (k _ rfl)
theorem fl2_30 : kFL RX2 30 8 1 RX8 TX8 2 := ⟨rfl, by decide, by decide, rfl, uw8, Or.inr ⟨"OldRoads", (tb1 61 rfl rfl)⟩⟩
theorem gf2_30 {d : Nat} {M : kM} {Post : Option kV → Nat → kS → Prop} {b : Nat × Nat} {pc : Nat} {ls : List (Nat × kV)} {st : List kV} {n : Nat} {σ : kS} {r : Int} (ho : M.1.cls = RX2) (hd : decode M.2.1 pc = .ok (.getfield 30, 3)) (hr : isO 8 n r) (k : K d M Post b (pc + 3) ls ((0, σ r 1) :: st) n σ) : K d M Post b pc ls ((2, r) :: st) n σ := K_getf (j := 1) (C := RX8) (T := TX8) (N := 2) hd (by rw [ho]; exact fl2_30) hr k
theorem pf2_30 {d : Nat} {M : kM} {Post : Option kV → Nat → kS → Prop} {b : Nat × Nat} {pc : Nat} {ls : List (Nat × kV)} {st : List kV} {n : Nat} {σ : kS} {r x : Int} (ho : M.1.cls = RX2) (hd : decode M.2.1 pc = .ok (.putfield 30, 3)) (hr : isO 8 n r) (k : ∀ s, s = kst σ r 1 x → K d M Post b (pc + 3) ls st n s) : K d M Post b pc ls ((0, x) :: (2, r) :: st) n σ := K_putf (j := 1) (C := RX8) (T := TX8) (N := 2) hd (by rw [ho]; exact fl2_30) ft8 (Or.inl rfl) hr (fun h => h) (k _ rfl)
theorem fl3_9 : kFL RX3 9 3 0 RX3 TX3 5 := ⟨rfl, by decide, by decide, rfl, uw3, Or.inl (tb1 84 rfl rfl)⟩
theorem gf3_9 {d : Nat} {M : kM} {Post : Option kV → Nat → kS → Prop} {b : Nat × Nat} {pc : Nat} {ls : List (Nat × kV)} {st : List kV} {n : Nat} {σ : kS} {r : Int} (ho : M.1.cls = RX3) (hd : decode M.2.1 pc = .ok (.getfield 9, 3)) (hr : isO 3 n r) (k : K d M Post b (pc + 3) ls ((2, σ r 0) :: st) n σ) : K d M Post b pc ls ((2, r) :: st) n σ := K_getf (j := 0) (C := RX3) (T := TX3) (N := 5) hd (by rw [ho]; exact fl3_9) hr k
theorem pf3_9 {d : Nat} {M : kM} {Post : Option kV → Nat → kS → Prop} {b : Nat × Nat} {pc : Nat} {ls : List (Nat × kV)} {st : List kV} {n : Nat} {σ : kS} {r x : Int} (ho : M.1.cls = RX3) (hi : M.1.name = "<init>") (hd : decode M.2.1 pc = .ok (.putfield 9, 3)) (hr : isO 3 n r) (k : ∀ s, s = kst σ r 0 x → K d M Post b (pc + 3) ls st n s) : K d M Post b pc ls ((2, x) :: (2, r) :: st) n σ := K_putf (j := 0) (C := RX3) (T := TX3) (N := 5) hd (by rw [ho]; exact fl3_9) ft3 (Or.inr ⟨rfl, hi, ho.symm, by rw [ho]; exact (tb1 84 rfl rfl)⟩) hr (fun _ => trivial) (k _ rfl)
theorem fl3_15 : kFL RX3 15 3 1 RX3 TX3 5 := ⟨rfl, by decide, by decide, rfl, uw3, Or.inl (tb1 85 rfl rfl)⟩
theorem gf3_15 {d : Nat} {M : kM} {Post : Option kV → Nat → kS → Prop} {b : Nat × Nat} {pc : Nat} {ls : List (Nat × kV)} {st : List kV} {n : Nat} {σ : kS} {r : Int} (ho : M.1.cls = RX3) (hd : decode M.2.1 pc = .ok (.getfield 15, 3)) (hr : isO 3 n r) (k : K d M Post b (pc + 3) ls ((2, σ r 1) :: st) n σ) : K d M Post b pc ls ((2, r) :: st) n σ := K_getf (j := 1) (C := RX3) (T := TX3) (N := 5) hd (by rw [ho]; exact fl3_15) hr k
theorem pf3_15 {d : Nat} {M : kM} {Post : Option kV → Nat → kS → Prop} {b : Nat × Nat} {pc : Nat} {ls : List (Nat × kV)} {st : List kV} {n : Nat} {σ : kS} {r x : Int} (ho : M.1.cls = RX3) (hi : M.1.name = "<init>") (hd : decode M.2.1 pc = .ok (.putfield 15, 3)) (hr : isO 3 n r) (k : ∀ s, s = kst σ r 1 x → K d M Post b (pc + 3) ls st n s) : K d M Post b pc ls ((2, x) :: (2, r) :: st) n σ := K_putf (j := 1) (C := RX3) (T := TX3) (N := 5) hd (by rw [ho]; exact fl3_15) ft3 (Or.inr ⟨rfl, hi, ho.symm, by rw [ho]; exact (tb1 85 rfl rfl)⟩) hr (fun _ => trivial) (k _ rfl)
theorem fl3_18 : kFL RX3 18 3 3 RX3 TX3 5 := ⟨rfl, by decide, by decide, rfl, uw3, Or.inl (tb1 88 rfl rfl)⟩
theorem gf3_18 {d : Nat} {M : kM} {Post : Option kV → Nat → kS → Prop} {b : Nat × Nat} {pc : Nat} {ls : List (Nat × kV)} {st : List kV} {n : Nat} {σ : kS} {r : Int} (ho : M.1.cls = RX3) (hd : decode M.2.1 pc = .ok (.getfield 18, 3)) (hr : isO 3 n r) (k : K d M Post b (pc + 3) ls ((0, σ r 3) :: st) n σ) : K d M Post b pc ls ((2, r) :: st) n σ := K_getf (j := 3) (C := RX3) (T := TX3) (N := 5) hd (by rw [ho]; exact fl3_18) hr k
theorem pf3_18 {d : Nat} {M : kM} {Post : Option kV → Nat → kS → Prop} {b : Nat × Nat} {pc : Nat} {ls : List (Nat × kV)} {st : List kV} {n : Nat} {σ : kS} {r x : Int} (ho : M.1.cls = RX3) (hd : decode M.2.1 pc = .ok (.putfield 18, 3)) (hr : isO 3 n r) (k : ∀ s, s = kst σ r 3 x → K d M Post b (pc + 3) ls st n s) : K d M Post b pc ls ((0, x) :: (2, r) :: st) n σ := K_putf (j := 3) (C := RX3) (T := TX3) (N := 5) hd (by rw [ho]; exact fl3_18) ft3 (Or.inl rfl) hr (fun h => h) (k _ rfl)
theorem fl3_22 : kFL RX3 22 3 4 RX3 TX3 5 := ⟨rfl, by decide, by decide, rfl, uw3, Or.inl (tb1 90 rfl rfl)⟩
theorem gf3_22 {d : Nat} {M : kM} {Post : Option kV → Nat → kS → Prop} {b : Nat × Nat} {pc : Nat} {ls : List (Nat × kV)} {st : List kV} {n : Nat} {σ : kS} {r : Int} (ho : M.1.cls = RX3) (hd : decode M.2.1 pc = .ok (.getfield 22, 3)) (hr : isO 3 n r) (k : K d M Post b (pc + 3) ls ((2, σ r 4) :: st) n σ) : K d M Post b pc ls ((2, r) :: st) n σ := K_getf (j := 4) (C := RX3) (T := TX3) (N := 5) hd (by rw [ho]; exact fl3_22) hr k
theorem pf3_22 {d : Nat} {M : kM} {Post : Option kV → Nat → kS → Prop} {b : Nat × Nat} {pc : Nat} {ls : List (Nat × kV)} {st : List kV} {n : Nat} {σ : kS} {r x : Int} (ho : M.1.cls = RX3) (hi : M.1.name = "<init>") (hd : decode M.2.1 pc = .ok (.putfield 22, 3)) (hr : isO 3 n r) (k : ∀ s, s = kst σ r 4 x → K d M Post b (pc + 3) ls st n s) : K d M Post b pc ls ((2, x) :: (2, r) :: st) n σ := K_putf (j := 4) (C := RX3) (T := TX3) (N := 5) hd (by rw [ho]; exact fl3_22) ft3 (Or.inr ⟨rfl, hi, ho.symm, by rw [ho]; exact (tb1 90 rfl rfl)⟩) hr (fun _ => trivial) (k _ rfl)
theorem fl3_25 : kFL RX3 25 3 2 RX3 TX3 5 := ⟨rfl, by decide, by decide, rfl, uw3, Or.inl (tb1 86 rfl rfl)⟩
theorem gf3_25 {d : Nat} {M : kM} {Post : Option kV → Nat → kS → Prop} {b : Nat × Nat} {pc : Nat} {ls : List (Nat × kV)} {st : List kV} {n : Nat} {σ : kS} {r : Int} (ho : M.1.cls = RX3) (hd : decode M.2.1 pc = .ok (.getfield 25, 3)) (hr : isO 3 n r) (k : K d M Post b (pc + 3) ls ((0, σ r 2) :: st) n σ) : K d M Post b pc ls ((2, r) :: st) n σ := K_getf (j := 2) (C := RX3) (T := TX3) (N := 5) hd (by rw [ho]; exact fl3_25) hr k
theorem pf3_25 {d : Nat} {M : kM} {Post : Option kV → Nat → kS → Prop} {b : Nat × Nat} {pc : Nat} {ls : List (Nat × kV)} {st : List kV} {n : Nat} {σ : kS} {r x : Int} (ho : M.1.cls = RX3) (hd : decode M.2.1 pc = .ok (.putfield 25, 3)) (hr : isO 3 n r) (k : ∀ s, s = kst σ r 2 x → K d M Post b (pc + 3) ls st n s) : K d M Post b pc ls ((0, x) :: (2, r) :: st) n σ := K_putf (j := 2) (C := RX3) (T := TX3) (N := 5) hd (by rw [ho]; exact fl3_25) ft3 (Or.inl rfl) hr (fun h => h) (k _ rfl)
theorem fl4_12 : kFL RX4 12 4 0 RX4 TX4 3 := ⟨rfl, by decide, by decide, rfl, uw4, Or.inl (tb1 105 rfl rfl)⟩
theorem gf4_12 {d : Nat} {M : kM} {Post : Option kV → Nat → kS → Prop} {b : Nat × Nat} {pc : Nat} {ls : List (Nat × kV)} {st : List kV} {n : Nat} {σ : kS} {r : Int} (ho : M.1.cls = RX4) (hd : decode M.2.1 pc = .ok (.getfield 12, 3)) (hr : isO 4 n r) (k : K d M Post b (pc + 3) ls ((2, σ r 0) :: st) n σ) : K d M Post b pc ls ((2, r) :: st) n σ := K_getf (j := 0) (C := RX4) (T := TX4) (N := 3) hd (by rw [ho]; exact fl4_12) hr k
theorem pf4_12 {d : Nat} {M : kM} {Post : Option kV → Nat → kS → Prop} {b : Nat × Nat} {pc : Nat} {ls : List (Nat × kV)} {st : List kV} {n : Nat} {σ : kS} {r x : Int} (ho : M.1.cls = RX4) (hi : M.1.name = "<init>") (hd : decode M.2.1 pc = .ok (.putfield 12, 3)) (hr : isO 4 n r) (k : ∀ s, s = kst σ r 0 x → K d M Post b (pc + 3) ls st n s) : K d M Post b pc ls ((2, x) :: (2, r) :: st) n σ := K_putf (j := 0) (C := RX4) (T := TX4) (N := 3) hd (by rw [ho]; exact fl4_12) ft4 (Or.inr ⟨rfl, hi, ho.symm, by rw [ho]; exact (tb1 105 rfl rfl)⟩) hr (fun _ => trivial) (k _ rfl)
theorem fl4_23 : kFL RX4 23 4 1 RX4 TX4 3 := ⟨rfl, by decide, by decide, rfl, uw4, Or.inl (tb1 107 rfl rfl)⟩
theorem gf4_23 {d : Nat} {M : kM} {Post : Option kV → Nat → kS → Prop} {b : Nat × Nat} {pc : Nat} {ls : List (Nat × kV)} {st : List kV} {n : Nat} {σ : kS} {r : Int} (ho : M.1.cls = RX4) (hd : decode M.2.1 pc = .ok (.getfield 23, 3)) (hr : isO 4 n r) (k : K d M Post b (pc + 3) ls ((2, σ r 1) :: st) n σ) : K d M Post b pc ls ((2, r) :: st) n σ := K_getf (j := 1) (C := RX4) (T := TX4) (N := 3) hd (by rw [ho]; exact fl4_23) hr k
theorem pf4_23 {d : Nat} {M : kM} {Post : Option kV → Nat → kS → Prop} {b : Nat × Nat} {pc : Nat} {ls : List (Nat × kV)} {st : List kV} {n : Nat} {σ : kS} {r x : Int} (ho : M.1.cls = RX4) (hd : decode M.2.1 pc = .ok (.putfield 23, 3)) (hr : isO 4 n r) (k : ∀ s, s = kst σ r 1 x → K d M Post b (pc + 3) ls st n s) : K d M Post b pc ls ((2, x) :: (2, r) :: st) n σ := K_putf (j := 1) (C := RX4) (T := TX4) (N := 3) hd (by rw [ho]; exact fl4_23) ft4 (Or.inl rfl) hr (fun _ => trivial) (k _ rfl)
theorem fl4_27 : kFL RX4 27 4 2 RX4 TX4 3 := ⟨rfl, by decide, by decide, rfl, uw4, Or.inl (tb1 108 rfl rfl)⟩
theorem gf4_27 {d : Nat} {M : kM} {Post : Option kV → Nat → kS → Prop} {b : Nat × Nat} {pc : Nat} {ls : List (Nat × kV)} {st : List kV} {n : Nat} {σ : kS} {r : Int} (ho : M.1.cls = RX4) (hd : decode M.2.1 pc = .ok (.getfield 27, 3)) (hr : isO 4 n r) (k : K d M Post b (pc + 3) ls ((0, σ r 2) :: st) n σ) : K d M Post b pc ls ((2, r) :: st) n σ := K_getf (j := 2) (C := RX4) (T := TX4) (N := 3) hd (by rw [ho]; exact fl4_27) hr k
theorem pf4_27 {d : Nat} {M : kM} {Post : Option kV → Nat → kS → Prop} {b : Nat × Nat} {pc : Nat} {ls : List (Nat × kV)} {st : List kV} {n : Nat} {σ : kS} {r x : Int} (ho : M.1.cls = RX4) (hd : decode M.2.1 pc = .ok (.putfield 27, 3)) (hr : isO 4 n r) (k : ∀ s, s = kst σ r 2 x → K d M Post b (pc + 3) ls st n s) : K d M Post b pc ls ((0, x) :: (2, r) :: st) n σ := K_putf (j := 2) (C := RX4) (T := TX4) (N := 3) hd (by rw [ho]; exact fl4_27) ft4 (Or.inl rfl) hr (fun h => h) (k _ rfl)
theorem fl4_31 : kFL RX4 31 3 2 RX3 TX3 5 := ⟨rfl, by decide, by decide, rfl, uw3, Or.inr ⟨"OldRoads", (tb1 87 rfl rfl)⟩⟩
theorem gf4_31 {d : Nat} {M : kM} {Post : Option kV → Nat → kS → Prop} {b : Nat × Nat} {pc : Nat} {ls : List (Nat × kV)} {st : List kV} {n : Nat} {σ : kS} {r : Int} (ho : M.1.cls = RX4) (hd : decode M.2.1 pc = .ok (.getfield 31, 3)) (hr : isO 3 n r) (k : K d M Post b (pc + 3) ls ((0, σ r 2) :: st) n σ) : K d M Post b pc ls ((2, r) :: st) n σ := K_getf (j := 2) (C := RX3) (T := TX3) (N := 5) hd (by rw [ho]; exact fl4_31) hr k
theorem pf4_31 {d : Nat} {M : kM} {Post : Option kV → Nat → kS → Prop} {b : Nat × Nat} {pc : Nat} {ls : List (Nat × kV)} {st : List kV} {n : Nat} {σ : kS} {r x : Int} (ho : M.1.cls = RX4) (hd : decode M.2.1 pc = .ok (.putfield 31, 3)) (hr : isO 3 n r) (k : ∀ s, s = kst σ r 2 x → K d M Post b (pc + 3) ls st n s) : K d M Post b pc ls ((0, x) :: (2, r) :: st) n σ := K_putf (j := 2) (C := RX3) (T := TX3) (N := 5) hd (by rw [ho]; exact fl4_31) ft3 (Or.inl rfl) hr (fun h => h) (k _ rfl)
theorem fl4_41 : kFL RX4 41 8 1 RX8 TX8 2 := ⟨rfl, by decide, by decide, rfl, uw8, Or.inr ⟨"OldRoads", (tb1 62 rfl rfl)⟩⟩
theorem gf4_41 {d : Nat} {M : kM} {Post : Option kV → Nat → kS → Prop} {b : Nat × Nat} {pc : Nat} {ls : List (Nat × kV)} {st : List kV} {n : Nat} {σ : kS} {r : Int} (ho : M.1.cls = RX4) (hd : decode M.2.1 pc = .ok (.getfield 41, 3)) (hr : isO 8 n r) (k : K d M Post b (pc + 3) ls ((0, σ r 1) :: st) n σ) : K d M Post b pc ls ((2, r) :: st) n σ := K_getf (j := 1) (C := RX8) (T := TX8) (N := 2) hd (by rw [ho]; exact fl4_41) hr k
theorem pf4_41 {d : Nat} {M : kM} {Post : Option kV → Nat → kS → Prop} {b : Nat × Nat} {pc : Nat} {ls : List (Nat × kV)} {st : List kV} {n : Nat} {σ : kS} {r x : Int} (ho : M.1.cls = RX4) (hd : decode M.2.1 pc = .ok (.putfield 41, 3)) (hr : isO 8 n r) (k : ∀ s, s = kst σ r 1 x → K d M Post b (pc + 3) ls st n s) : K d M Post b pc ls ((0, x) :: (2, r) :: st) n σ := K_putf (j := 1) (C := RX8) (T := TX8) (N := 2) hd (by rw [ho]; exact fl4_41) ft8 (Or.inl rfl) hr (fun h => h) (k _ rfl)
theorem fl4_85 : kFL RX4 85 8 0 RX8 TX8 2 := ⟨rfl, by decide, by decide, rfl, uw8, Or.inr ⟨"OldRoads", (tb1 58 rfl rfl)⟩⟩
theorem gf4_85 {d : Nat} {M : kM} {Post : Option kV → Nat → kS → Prop} {b : Nat × Nat} {pc : Nat} {ls : List (Nat × kV)} {st : List kV} {n : Nat} {σ : kS} {r : Int} (ho : M.1.cls = RX4) (hd : decode M.2.1 pc = .ok (.getfield 85, 3)) (hr : isO 8 n r) (k : K d M Post b (pc + 3) ls ((2, σ r 0) :: st) n σ) : K d M Post b pc ls ((2, r) :: st) n σ := K_getf (j := 0) (C := RX8) (T := TX8) (N := 2) hd (by rw [ho]; exact fl4_85) hr k
theorem fl5_11 : kFL RX5 11 5 0 RX5 TX5 1 := ⟨rfl, by decide, by decide, rfl, uw5, Or.inl (tb1 42 rfl rfl)⟩
theorem gf5_11 {d : Nat} {M : kM} {Post : Option kV → Nat → kS → Prop} {b : Nat × Nat} {pc : Nat} {ls : List (Nat × kV)} {st : List kV} {n : Nat} {σ : kS} {r : Int} (ho : M.1.cls = RX5) (hd : decode M.2.1 pc = .ok (.getfield 11, 3)) (hr : isO 5 n r) (k : K d M Post b (pc + 3) ls ((2, σ r 0) :: st) n σ) : K d M Post b pc ls ((2, r) :: st) n σ := K_getf (j := 0) (C := RX5) (T := TX5) (N := 1) hd (by rw [ho]; exact fl5_11) hr k
theorem pf5_11 {d : Nat} {M : kM} {Post : Option kV → Nat → kS → Prop} {b : Nat × Nat} {pc : Nat} {ls : List (Nat × kV)} {st : List kV} {n : Nat} {σ : kS} {r x : Int} (ho : M.1.cls = RX5) (hi : M.1.name = "<init>") (hd : decode M.2.1 pc = .ok (.putfield 11, 3)) (hr : isO 5 n r) (k : ∀ s, s = kst σ r 0 x → K d M Post b (pc + 3) ls st n s) : K d M Post b pc ls ((2, x) :: (2, r) :: st) n σ := K_putf (j := 0) (C := RX5) (T := TX5) (N := 1) hd (by rw [ho]; exact fl5_11) ft5 (Or.inr ⟨rfl, hi, ho.symm, by rw [ho]; exact (tb1 42 rfl rfl)⟩) hr (fun _ => trivial) (k _ rfl)
theorem fl6_11 : kFL RX6 11 6 0 RX6 TX6 2 := ⟨rfl, by decide, by decide, rfl, uw6, Or.inl (tb2 46 rfl rfl)⟩
theorem gf6_11 {d : Nat} {M : kM} {Post : Option kV → Nat → kS → Prop} {b : Nat × Nat} {pc : Nat} {ls : List (Nat × kV)} {st : List kV} {n : Nat} {σ : kS} {r : Int} (ho : M.1.cls = RX6) (hd : decode M.2.1 pc = .ok (.getfield 11, 3)) (hr : isO 6 n r) (k : K d M Post b (pc + 3) ls ((2, σ r 0) :: st) n σ) : K d M Post b pc ls ((2, r) :: st) n σ := K_getf (j := 0) (C := RX6) (T := TX6) (N := 2) hd (by rw [ho]; exact fl6_11) hr k
theorem pf6_11 {d : Nat} {M : kM} {Post : Option kV → Nat → kS → Prop} {b : Nat × Nat} {pc : Nat} {ls : List (Nat × kV)} {st : List kV} {n : Nat} {σ : kS} {r x : Int} (ho : M.1.cls = RX6) (hi : M.1.name = "<init>") (hd : decode M.2.1 pc = .ok (.putfield 11, 3)) (hr : isO 6 n r) (k : ∀ s, s = kst σ r 0 x → K d M Post b (pc + 3) ls st n s) : K d M Post b pc ls ((2, x) :: (2, r) :: st) n σ := K_putf (j := 0) (C := RX6) (T := TX6) (N := 2) hd (by rw [ho]; exact fl6_11) ft6 (Or.inr ⟨rfl, hi, ho.symm, by rw [ho]; exact (tb2 46 rfl rfl)⟩) hr (fun _ => trivial) (k _ rfl)
theorem fl6_25 : kFL RX6 25 6 1 RX6 TX6 2 := ⟨rfl, by decide, by decide, rfl, uw6, Or.inl (tb2 47 rfl rfl)⟩
theorem gf6_25 {d : Nat} {M : kM} {Post : Option kV → Nat → kS → Prop} {b : Nat × Nat} {pc : Nat} {ls : List (Nat × kV)} {st : List kV} {n : Nat} {σ : kS} {r : Int} (ho : M.1.cls = RX6) (hd : decode M.2.1 pc = .ok (.getfield 25, 3)) (hr : isO 6 n r) (k : K d M Post b (pc + 3) ls ((0, σ r 1) :: st) n σ) : K d M Post b pc ls ((2, r) :: st) n σ := K_getf (j := 1) (C := RX6) (T := TX6) (N := 2) hd (by rw [ho]; exact fl6_25) hr k
theorem pf6_25 {d : Nat} {M : kM} {Post : Option kV → Nat → kS → Prop} {b : Nat × Nat} {pc : Nat} {ls : List (Nat × kV)} {st : List kV} {n : Nat} {σ : kS} {r x : Int} (ho : M.1.cls = RX6) (hd : decode M.2.1 pc = .ok (.putfield 25, 3)) (hr : isO 6 n r) (k : ∀ s, s = kst σ r 1 x → K d M Post b (pc + 3) ls st n s) : K d M Post b pc ls ((0, x) :: (2, r) :: st) n σ := K_putf (j := 1) (C := RX6) (T := TX6) (N := 2) hd (by rw [ho]; exact fl6_25) ft6 (Or.inl rfl) hr (fun h => h) (k _ rfl)
theorem fl7_14 : kFL RX7 14 7 0 RX7 TX7 3 := ⟨rfl, by decide, by decide, rfl, uw7, Or.inl (tb2 2 rfl rfl)⟩
theorem gf7_14 {d : Nat} {M : kM} {Post : Option kV → Nat → kS → Prop} {b : Nat × Nat} {pc : Nat} {ls : List (Nat × kV)} {st : List kV} {n : Nat} {σ : kS} {r : Int} (ho : M.1.cls = RX7) (hd : decode M.2.1 pc = .ok (.getfield 14, 3)) (hr : isO 7 n r) (k : K d M Post b (pc + 3) ls ((2, σ r 0) :: st) n σ) : K d M Post b pc ls ((2, r) :: st) n σ := K_getf (j := 0) (C := RX7) (T := TX7) (N := 3) hd (by rw [ho]; exact fl7_14) hr k
theorem pf7_14 {d : Nat} {M : kM} {Post : Option kV → Nat → kS → Prop} {b : Nat × Nat} {pc : Nat} {ls : List (Nat × kV)} {st : List kV} {n : Nat} {σ : kS} {r x : Int} (ho : M.1.cls = RX7) (hi : M.1.name = "<init>") (hd : decode M.2.1 pc = .ok (.putfield 14, 3)) (hr : isO 7 n r) (k : ∀ s, s = kst σ r 0 x → K d M Post b (pc + 3) ls st n s) : K d M Post b pc ls ((2, x) :: (2, r) :: st) n σ := K_putf (j := 0) (C := RX7) (T := TX7) (N := 3) hd (by rw [ho]; exact fl7_14) ft7 (Or.inr ⟨rfl, hi, ho.symm, by rw [ho]; exact (tb2 2 rfl rfl)⟩) hr (fun _ => trivial) (k _ rfl)
theorem fl7_20 : kFL RX7 20 7 1 RX7 TX7 3 := ⟨rfl, by decide, by decide, rfl, uw7, Or.inl (tb2 4 rfl rfl)⟩
theorem gf7_20 {d : Nat} {M : kM} {Post : Option kV → Nat → kS → Prop} {b : Nat × Nat} {pc : Nat} {ls : List (Nat × kV)} {st : List kV} {n : Nat} {σ : kS} {r : Int} (ho : M.1.cls = RX7) (hd : decode M.2.1 pc = .ok (.getfield 20, 3)) (hr : isO 7 n r) (k : K d M Post b (pc + 3) ls ((2, σ r 1) :: st) n σ) : K d M Post b pc ls ((2, r) :: st) n σ := K_getf (j := 1) (C := RX7) (T := TX7) (N := 3) hd (by rw [ho]; exact fl7_20) hr k
theorem pf7_20 {d : Nat} {M : kM} {Post : Option kV → Nat → kS → Prop} {b : Nat × Nat} {pc : Nat} {ls : List (Nat × kV)} {st : List kV} {n : Nat} {σ : kS} {r x : Int} (ho : M.1.cls = RX7) (hi : M.1.name = "<init>") (hd : decode M.2.1 pc = .ok (.putfield 20, 3)) (hr : isO 7 n r) (k : ∀ s, s = kst σ r 1 x → K d M Post b (pc + 3) ls st n s) : K d M Post b pc ls ((2, x) :: (2, r) :: st) n σ := K_putf (j := 1) (C := RX7) (T := TX7) (N := 3) hd (by rw [ho]; exact fl7_20) ft7 (Or.inr ⟨rfl, hi, ho.symm, by rw [ho]; exact (tb2 4 rfl rfl)⟩) hr (fun _ => trivial) (k _ rfl)
theorem fl7_23 : kFL RX7 23 7 2 RX7 TX7 3 := ⟨rfl, by decide, by decide, rfl, uw7, Or.inl (tb2 5 rfl rfl)⟩
theorem gf7_23 {d : Nat} {M : kM} {Post : Option kV → Nat → kS → Prop} {b : Nat × Nat} {pc : Nat} {ls : List (Nat × kV)} {st : List kV} {n : Nat} {σ : kS} {r : Int} (ho : M.1.cls = RX7) (hd : decode M.2.1 pc = .ok (.getfield 23, 3)) (hr : isO 7 n r) (k : K d M Post b (pc + 3) ls ((2, σ r 2) :: st) n σ) : K d M Post b pc ls ((2, r) :: st) n σ := K_getf (j := 2) (C := RX7) (T := TX7) (N := 3) hd (by rw [ho]; exact fl7_23) hr k
theorem pf7_23 {d : Nat} {M : kM} {Post : Option kV → Nat → kS → Prop} {b : Nat × Nat} {pc : Nat} {ls : List (Nat × kV)} {st : List kV} {n : Nat} {σ : kS} {r x : Int} (ho : M.1.cls = RX7) (hi : M.1.name = "<init>") (hd : decode M.2.1 pc = .ok (.putfield 23, 3)) (hr : isO 7 n r) (k : ∀ s, s = kst σ r 2 x → K d M Post b (pc + 3) ls st n s) : K d M Post b pc ls ((2, x) :: (2, r) :: st) n σ := K_putf (j := 2) (C := RX7) (T := TX7) (N := 3) hd (by rw [ho]; exact fl7_23) ft7 (Or.inr ⟨rfl, hi, ho.symm, by rw [ho]; exact (tb2 5 rfl rfl)⟩) hr (fun _ => trivial) (k _ rfl)
theorem fl7_30 : kFL RX7 30 8 1 RX8 TX8 2 := ⟨rfl, by decide, by decide, rfl, uw8, Or.inr ⟨"OldRoads", (tb1 64 rfl rfl)⟩⟩
theorem gf7_30 {d : Nat} {M : kM} {Post : Option kV → Nat → kS → Prop} {b : Nat × Nat} {pc : Nat} {ls : List (Nat × kV)} {st : List kV} {n : Nat} {σ : kS} {r : Int} (ho : M.1.cls = RX7) (hd : decode M.2.1 pc = .ok (.getfield 30, 3)) (hr : isO 8 n r) (k : K d M Post b (pc + 3) ls ((0, σ r 1) :: st) n σ) : K d M Post b pc ls ((2, r) :: st) n σ := K_getf (j := 1) (C := RX8) (T := TX8) (N := 2) hd (by rw [ho]; exact fl7_30) hr k
theorem pf7_30 {d : Nat} {M : kM} {Post : Option kV → Nat → kS → Prop} {b : Nat × Nat} {pc : Nat} {ls : List (Nat × kV)} {st : List kV} {n : Nat} {σ : kS} {r x : Int} (ho : M.1.cls = RX7) (hd : decode M.2.1 pc = .ok (.putfield 30, 3)) (hr : isO 8 n r) (k : ∀ s, s = kst σ r 1 x → K d M Post b (pc + 3) ls st n s) : K d M Post b pc ls ((0, x) :: (2, r) :: st) n σ := K_putf (j := 1) (C := RX8) (T := TX8) (N := 2) hd (by rw [ho]; exact fl7_30) ft8 (Or.inl rfl) hr (fun h => h) (k _ rfl)
theorem fl8_15 : kFL RX8 15 8 0 RX8 TX8 2 := ⟨rfl, by decide, by decide, rfl, uw8, Or.inl (tb1 57 rfl rfl)⟩
theorem gf8_15 {d : Nat} {M : kM} {Post : Option kV → Nat → kS → Prop} {b : Nat × Nat} {pc : Nat} {ls : List (Nat × kV)} {st : List kV} {n : Nat} {σ : kS} {r : Int} (ho : M.1.cls = RX8) (hd : decode M.2.1 pc = .ok (.getfield 15, 3)) (hr : isO 8 n r) (k : K d M Post b (pc + 3) ls ((2, σ r 0) :: st) n σ) : K d M Post b pc ls ((2, r) :: st) n σ := K_getf (j := 0) (C := RX8) (T := TX8) (N := 2) hd (by rw [ho]; exact fl8_15) hr k
theorem pf8_15 {d : Nat} {M : kM} {Post : Option kV → Nat → kS → Prop} {b : Nat × Nat} {pc : Nat} {ls : List (Nat × kV)} {st : List kV} {n : Nat} {σ : kS} {r x : Int} (ho : M.1.cls = RX8) (hi : M.1.name = "<init>") (hd : decode M.2.1 pc = .ok (.putfield 15, 3)) (hr : isO 8 n r) (k : ∀ s, s = kst σ r 0 x → K d M Post b (pc + 3) ls st n s) : K d M Post b pc ls ((2, x) :: (2, r) :: st) n σ := K_putf (j := 0) (C := RX8) (T := TX8) (N := 2) hd (by rw [ho]; exact fl8_15) ft8 (Or.inr ⟨rfl, hi, ho.symm, by rw [ho]; exact (tb1 57 rfl rfl)⟩) hr (fun _ => trivial) (k _ rfl)
theorem fl8_21 : kFL RX8 21 8 1 RX8 TX8 2 := ⟨rfl, by decide, by decide, rfl, uw8, Or.inl (tb1 59 rfl rfl)⟩
theorem gf8_21 {d : Nat} {M : kM} {Post : Option kV → Nat → kS → Prop} {b : Nat × Nat} {pc : Nat} {ls : List (Nat × kV)} {st : List kV} {n : Nat} {σ : kS} {r : Int} (ho : M.1.cls = RX8) (hd : decode M.2.1 pc = .ok (.getfield 21, 3)) (hr : isO 8 n r) (k : K d M Post b (pc + 3) ls ((0, σ r 1) :: st) n σ) : K d M Post b pc ls ((2, r) :: st) n σ := K_getf (j := 1) (C := RX8) (T := TX8) (N := 2) hd (by rw [ho]; exact fl8_21) hr k
theorem pf8_21 {d : Nat} {M : kM} {Post : Option kV → Nat → kS → Prop} {b : Nat × Nat} {pc : Nat} {ls : List (Nat × kV)} {st : List kV} {n : Nat} {σ : kS} {r x : Int} (ho : M.1.cls = RX8) (hd : decode M.2.1 pc = .ok (.putfield 21, 3)) (hr : isO 8 n r) (k : ∀ s, s = kst σ r 1 x → K d M Post b (pc + 3) ls st n s) : K d M Post b pc ls ((0, x) :: (2, r) :: st) n σ := K_putf (j := 1) (C := RX8) (T := TX8) (N := 2) hd (by rw [ho]; exact fl8_21) ft8 (Or.inl rfl) hr (fun h => h) (k _ rfl)
theorem fl9_9 : kFL RX9 9 9 0 RX9 TX9 4 := ⟨rfl, by decide, by decide, rfl, uw9, Or.inl (tb1 200 rfl rfl)⟩
theorem gf9_9 {d : Nat} {M : kM} {Post : Option kV → Nat → kS → Prop} {b : Nat × Nat} {pc : Nat} {ls : List (Nat × kV)} {st : List kV} {n : Nat} {σ : kS} {r : Int} (ho : M.1.cls = RX9) (hd : decode M.2.1 pc = .ok (.getfield 9, 3)) (hr : isO 9 n r) (k : K d M Post b (pc + 3) ls ((2, σ r 0) :: st) n σ) : K d M Post b pc ls ((2, r) :: st) n σ := K_getf (j := 0) (C := RX9) (T := TX9) (N := 4) hd (by rw [ho]; exact fl9_9) hr k
theorem pf9_9 {d : Nat} {M : kM} {Post : Option kV → Nat → kS → Prop} {b : Nat × Nat} {pc : Nat} {ls : List (Nat × kV)} {st : List kV} {n : Nat} {σ : kS} {r x : Int} (ho : M.1.cls = RX9) (hi : M.1.name = "<init>") (hd : decode M.2.1 pc = .ok (.putfield 9, 3)) (hr : isO 9 n r) (k : ∀ s, s = kst σ r 0 x → K d M Post b (pc + 3) ls st n s) : K d M Post b pc ls ((2, x) :: (2, r) :: st) n σ := K_putf (j := 0) (C := RX9) (T := TX9) (N := 4) hd (by rw [ho]; exact fl9_9) ft9 (Or.inr ⟨rfl, hi, ho.symm, by rw [ho]; exact (tb1 200 rfl rfl)⟩) hr (fun _ => trivial) (k _ rfl)
theorem fl9_15 : kFL RX9 15 9 1 RX9 TX9 4 := ⟨rfl, by decide, by decide, rfl, uw9, Or.inl (tb1 201 rfl rfl)⟩
theorem gf9_15 {d : Nat} {M : kM} {Post : Option kV → Nat → kS → Prop} {b : Nat × Nat} {pc : Nat} {ls : List (Nat × kV)} {st : List kV} {n : Nat} {σ : kS} {r : Int} (ho : M.1.cls = RX9) (hd : decode M.2.1 pc = .ok (.getfield 15, 3)) (hr : isO 9 n r) (k : K d M Post b (pc + 3) ls ((2, σ r 1) :: st) n σ) : K d M Post b pc ls ((2, r) :: st) n σ := K_getf (j := 1) (C := RX9) (T := TX9) (N := 4) hd (by rw [ho]; exact fl9_15) hr k
theorem pf9_15 {d : Nat} {M : kM} {Post : Option kV → Nat → kS → Prop} {b : Nat × Nat} {pc : Nat} {ls : List (Nat × kV)} {st : List kV} {n : Nat} {σ : kS} {r x : Int} (ho : M.1.cls = RX9) (hi : M.1.name = "<init>") (hd : decode M.2.1 pc = .ok (.putfield 15, 3)) (hr : isO 9 n r) (k : ∀ s, s = kst σ r 1 x → K d M Post b (pc + 3) ls st n s) : K d M Post b pc ls ((2, x) :: (2, r) :: st) n σ := K_putf (j := 1) (C := RX9) (T := TX9) (N := 4) hd (by rw [ho]; exact fl9_15) ft9 (Or.inr ⟨rfl, hi, ho.symm, by rw [ho]; exact (tb1 201 rfl rfl)⟩) hr (fun _ => trivial) (k _ rfl)
theorem fl9_23 : kFL RX9 23 9 2 RX9 TX9 4 := ⟨rfl, by decide, by decide, rfl, uw9, Or.inl (tb1 202 rfl rfl)⟩
theorem gf9_23 {d : Nat} {M : kM} {Post : Option kV → Nat → kS → Prop} {b : Nat × Nat} {pc : Nat} {ls : List (Nat × kV)} {st : List kV} {n : Nat} {σ : kS} {r : Int} (ho : M.1.cls = RX9) (hd : decode M.2.1 pc = .ok (.getfield 23, 3)) (hr : isO 9 n r) (k : K d M Post b (pc + 3) ls ((2, σ r 2) :: st) n σ) : K d M Post b pc ls ((2, r) :: st) n σ := K_getf (j := 2) (C := RX9) (T := TX9) (N := 4) hd (by rw [ho]; exact fl9_23) hr k
theorem pf9_23 {d : Nat} {M : kM} {Post : Option kV → Nat → kS → Prop} {b : Nat × Nat} {pc : Nat} {ls : List (Nat × kV)} {st : List kV} {n : Nat} {σ : kS} {r x : Int} (ho : M.1.cls = RX9) (hi : M.1.name = "<init>") (hd : decode M.2.1 pc = .ok (.putfield 23, 3)) (hr : isO 9 n r) (k : ∀ s, s = kst σ r 2 x → K d M Post b (pc + 3) ls st n s) : K d M Post b pc ls ((2, x) :: (2, r) :: st) n σ := K_putf (j := 2) (C := RX9) (T := TX9) (N := 4) hd (by rw [ho]; exact fl9_23) ft9 (Or.inr ⟨rfl, hi, ho.symm, by rw [ho]; exact (tb1 202 rfl rfl)⟩) hr (fun _ => trivial) (k _ rfl)
theorem fl9_27 : kFL RX9 27 9 3 RX9 TX9 4 := ⟨rfl, by decide, by decide, rfl, uw9, Or.inl (tb1 204 rfl rfl)⟩
theorem gf9_27 {d : Nat} {M : kM} {Post : Option kV → Nat → kS → Prop} {b : Nat × Nat} {pc : Nat} {ls : List (Nat × kV)} {st : List kV} {n : Nat} {σ : kS} {r : Int} (ho : M.1.cls = RX9) (hd : decode M.2.1 pc = .ok (.getfield 27, 3)) (hr : isO 9 n r) (k : K d M Post b (pc + 3) ls ((2, σ r 3) :: st) n σ) : K d M Post b pc ls ((2, r) :: st) n σ := K_getf (j := 3) (C := RX9) (T := TX9) (N := 4) hd (by rw [ho]; exact fl9_27) hr k
theorem pf9_27 {d : Nat} {M : kM} {Post : Option kV → Nat → kS → Prop} {b : Nat × Nat} {pc : Nat} {ls : List (Nat × kV)} {st : List kV} {n : Nat} {σ : kS} {r x : Int} (ho : M.1.cls = RX9) (hi : M.1.name = "<init>") (hd : decode M.2.1 pc = .ok (.putfield 27, 3)) (hr : isO 9 n r) (k : ∀ s, s = kst σ r 3 x → K d M Post b (pc + 3) ls st n s) : K d M Post b pc ls ((2, x) :: (2, r) :: st) n σ := K_putf (j := 3) (C := RX9) (T := TX9) (N := 4) hd (by rw [ho]; exact fl9_27) ft9 (Or.inr ⟨rfl, hi, ho.symm, by rw [ho]; exact (tb1 204 rfl rfl)⟩) hr (fun _ => trivial) (k _ rfl)
theorem fl9_77 : kFL RX9 77 8 1 RX8 TX8 2 := ⟨rfl, by decide, by decide, rfl, uw8, Or.inr ⟨"OldRoads", (tb1 66 rfl rfl)⟩⟩
theorem gf9_77 {d : Nat} {M : kM} {Post : Option kV → Nat → kS → Prop} {b : Nat × Nat} {pc : Nat} {ls : List (Nat × kV)} {st : List kV} {n : Nat} {σ : kS} {r : Int} (ho : M.1.cls = RX9) (hd : decode M.2.1 pc = .ok (.getfield 77, 3)) (hr : isO 8 n r) (k : K d M Post b (pc + 3) ls ((0, σ r 1) :: st) n σ) : K d M Post b pc ls ((2, r) :: st) n σ := K_getf (j := 1) (C := RX8) (T := TX8) (N := 2) hd (by rw [ho]; exact fl9_77) hr k
theorem pf9_77 {d : Nat} {M : kM} {Post : Option kV → Nat → kS → Prop} {b : Nat × Nat} {pc : Nat} {ls : List (Nat × kV)} {st : List kV} {n : Nat} {σ : kS} {r x : Int} (ho : M.1.cls = RX9) (hd : decode M.2.1 pc = .ok (.putfield 77, 3)) (hr : isO 8 n r) (k : ∀ s, s = kst σ r 1 x → K d M Post b (pc + 3) ls st n s) : K d M Post b pc ls ((0, x) :: (2, r) :: st) n σ := K_putf (j := 1) (C := RX8) (T := TX8) (N := 2) hd (by rw [ho]; exact fl9_77) ft8 (Or.inl rfl) hr (fun h => h) (k _ rfl)
theorem fl10_9 : kFL RX10 9 10 0 RX10 TX10 15 := ⟨rfl, by decide, by decide, rfl, uw10, Or.inl (tb1 143 rfl rfl)⟩
theorem gf10_9 {d : Nat} {M : kM} {Post : Option kV → Nat → kS → Prop} {b : Nat × Nat} {pc : Nat} {ls : List (Nat × kV)} {st : List kV} {n : Nat} {σ : kS} {r : Int} (ho : M.1.cls = RX10) (hd : decode M.2.1 pc = .ok (.getfield 9, 3)) (hr : isO 10 n r) (k : K d M Post b (pc + 3) ls ((2, σ r 0) :: st) n σ) : K d M Post b pc ls ((2, r) :: st) n σ := K_getf (j := 0) (C := RX10) (T := TX10) (N := 15) hd (by rw [ho]; exact fl10_9) hr k
theorem pf10_9 {d : Nat} {M : kM} {Post : Option kV → Nat → kS → Prop} {b : Nat × Nat} {pc : Nat} {ls : List (Nat × kV)} {st : List kV} {n : Nat} {σ : kS} {r x : Int} (ho : M.1.cls = RX10) (hi : M.1.name = "<init>") (hd : decode M.2.1 pc = .ok (.putfield 9, 3)) (hr : isO 10 n r) (k : ∀ s, s = kst σ r 0 x → K d M Post b (pc + 3) ls st n s) : K d M Post b pc ls ((2, x) :: (2, r) :: st) n σ := K_putf (j := 0) (C := RX10) (T := TX10) (N := 15) hd (by rw [ho]; exact fl10_9) ft10 (Or.inr ⟨rfl, hi, ho.symm, by rw [ho]; exact (tb1 143 rfl rfl)⟩) hr (fun _ => trivial) (k _ rfl)
theorem fl10_15 : kFL RX10 15 10 1 RX10 TX10 15 := ⟨rfl, by decide, by decide, rfl, uw10, Or.inl (tb1 144 rfl rfl)⟩
theorem gf10_15 {d : Nat} {M : kM} {Post : Option kV → Nat → kS → Prop} {b : Nat × Nat} {pc : Nat} {ls : List (Nat × kV)} {st : List kV} {n : Nat} {σ : kS} {r : Int} (ho : M.1.cls = RX10) (hd : decode M.2.1 pc = .ok (.getfield 15, 3)) (hr : isO 10 n r) (k : K d M Post b (pc + 3) ls ((2, σ r 1) :: st) n σ) : K d M Post b pc ls ((2, r) :: st) n σ := K_getf (j := 1) (C := RX10) (T := TX10) (N := 15) hd (by rw [ho]; exact fl10_15) hr k
theorem pf10_15 {d : Nat} {M : kM} {Post : Option kV → Nat → kS → Prop} {b : Nat × Nat} {pc : Nat} {ls : List (Nat × kV)} {st : List kV} {n : Nat} {σ : kS} {r x : Int} (ho : M.1.cls = RX10) (hi : M.1.name = "<init>") (hd : decode M.2.1 pc = .ok (.putfield 15, 3)) (hr : isO 10 n r) (k : ∀ s, s = kst σ r 1 x → K d M Post b (pc + 3) ls st n s) : K d M Post b pc ls ((2, x) :: (2, r) :: st) n σ := K_putf (j := 1) (C := RX10) (T := TX10) (N := 15) hd (by rw [ho]; exact fl10_15) ft10 (Or.inr ⟨rfl, hi, ho.symm, by rw [ho]; exact (tb1 144 rfl rfl)⟩) hr (fun _ => trivial) (k _ rfl)
theorem fl10_18 : kFL RX10 18 10 2 RX10 TX10 15 := ⟨rfl, by decide, by decide, rfl, uw10, Or.inl (tb1 145 rfl rfl)⟩
theorem gf10_18 {d : Nat} {M : kM} {Post : Option kV → Nat → kS → Prop} {b : Nat × Nat} {pc : Nat} {ls : List (Nat × kV)} {st : List kV} {n : Nat} {σ : kS} {r : Int} (ho : M.1.cls = RX10) (hd : decode M.2.1 pc = .ok (.getfield 18, 3)) (hr : isO 10 n r) (k : K d M Post b (pc + 3) ls ((2, σ r 2) :: st) n σ) : K d M Post b pc ls ((2, r) :: st) n σ := K_getf (j := 2) (C := RX10) (T := TX10) (N := 15) hd (by rw [ho]; exact fl10_18) hr k
theorem pf10_18 {d : Nat} {M : kM} {Post : Option kV → Nat → kS → Prop} {b : Nat × Nat} {pc : Nat} {ls : List (Nat × kV)} {st : List kV} {n : Nat} {σ : kS} {r x : Int} (ho : M.1.cls = RX10) (hi : M.1.name = "<init>") (hd : decode M.2.1 pc = .ok (.putfield 18, 3)) (hr : isO 10 n r) (k : ∀ s, s = kst σ r 2 x → K d M Post b (pc + 3) ls st n s) : K d M Post b pc ls ((2, x) :: (2, r) :: st) n σ := K_putf (j := 2) (C := RX10) (T := TX10) (N := 15) hd (by rw [ho]; exact fl10_18) ft10 (Or.inr ⟨rfl, hi, ho.symm, by rw [ho]; exact (tb1 145 rfl rfl)⟩) hr (fun _ => trivial) (k _ rfl)
theorem fl10_21 : kFL RX10 21 10 3 RX10 TX10 15 := ⟨rfl, by decide, by decide, rfl, uw10, Or.inl (tb1 146 rfl rfl)⟩
theorem gf10_21 {d : Nat} {M : kM} {Post : Option kV → Nat → kS → Prop} {b : Nat × Nat} {pc : Nat} {ls : List (Nat × kV)} {st : List kV} {n : Nat} {σ : kS} {r : Int} (ho : M.1.cls = RX10) (hd : decode M.2.1 pc = .ok (.getfield 21, 3)) (hr : isO 10 n r) (k : K d M Post b (pc + 3) ls ((2, σ r 3) :: st) n σ) : K d M Post b pc ls ((2, r) :: st) n σ := K_getf (j := 3) (C := RX10) (T := TX10) (N := 15) hd (by rw [ho]; exact fl10_21) hr k
theorem pf10_21 {d : Nat} {M : kM} {Post : Option kV → Nat → kS → Prop} {b : Nat × Nat} {pc : Nat} {ls : List (Nat × kV)} {st : List kV} {n : Nat} {σ : kS} {r x : Int} (ho : M.1.cls = RX10) (hi : M.1.name = "<init>") (hd : decode M.2.1 pc = .ok (.putfield 21, 3)) (hr : isO 10 n r) (k : ∀ s, s = kst σ r 3 x → K d M Post b (pc + 3) ls st n s) : K d M Post b pc ls ((2, x) :: (2, r) :: st) n σ := K_putf (j := 3) (C := RX10) (T := TX10) (N := 15) hd (by rw [ho]; exact fl10_21) ft10 (Or.inr ⟨rfl, hi, ho.symm, by rw [ho]; exact (tb1 146 rfl rfl)⟩) hr (fun _ => trivial) (k _ rfl)
theorem fl10_24 : kFL RX10 24 10 4 RX10 TX10 15 := ⟨rfl, by decide, by decide, rfl, uw10, Or.inl (tb1 147 rfl rfl)⟩
theorem gf10_24 {d : Nat} {M : kM} {Post : Option kV → Nat → kS → Prop} {b : Nat × Nat} {pc : Nat} {ls : List (Nat × kV)} {st : List kV} {n : Nat} {σ : kS} {r : Int} (ho : M.1.cls = RX10) (hd : decode M.2.1 pc = .ok (.getfield 24, 3)) (hr : isO 10 n r) (k : K d M Post b (pc + 3) ls ((2, σ r 4) :: st) n σ) : K d M Post b pc ls ((2, r) :: st) n σ := K_getf (j := 4) (C := RX10) (T := TX10) (N := 15) hd (by rw [ho]; exact fl10_24) hr k
theorem pf10_24 {d : Nat} {M : kM} {Post : Option kV → Nat → kS → Prop} {b : Nat × Nat} {pc : Nat} {ls : List (Nat × kV)} {st : List kV} {n : Nat} {σ : kS} {r x : Int} (ho : M.1.cls = RX10) (hi : M.1.name = "<init>") (hd : decode M.2.1 pc = .ok (.putfield 24, 3)) (hr : isO 10 n r) (k : ∀ s, s = kst σ r 4 x → K d M Post b (pc + 3) ls st n s) : K d M Post b pc ls ((2, x) :: (2, r) :: st) n σ := K_putf (j := 4) (C := RX10) (T := TX10) (N := 15) hd (by rw [ho]; exact fl10_24) ft10 (Or.inr ⟨rfl, hi, ho.symm, by rw [ho]; exact (tb1 147 rfl rfl)⟩) hr (fun _ => trivial) (k _ rfl)
theorem fl10_27 : kFL RX10 27 10 6 RX10 TX10 15 := ⟨rfl, by decide, by decide, rfl, uw10, Or.inl (tb1 149 rfl rfl)⟩
theorem gf10_27 {d : Nat} {M : kM} {Post : Option kV → Nat → kS → Prop} {b : Nat × Nat} {pc : Nat} {ls : List (Nat × kV)} {st : List kV} {n : Nat} {σ : kS} {r : Int} (ho : M.1.cls = RX10) (hd : decode M.2.1 pc = .ok (.getfield 27, 3)) (hr : isO 10 n r) (k : K d M Post b (pc + 3) ls ((2, σ r 6) :: st) n σ) : K d M Post b pc ls ((2, r) :: st) n σ := K_getf (j := 6) (C := RX10) (T := TX10) (N := 15) hd (by rw [ho]; exact fl10_27) hr k
theorem pf10_27 {d : Nat} {M : kM} {Post : Option kV → Nat → kS → Prop} {b : Nat × Nat} {pc : Nat} {ls : List (Nat × kV)} {st : List kV} {n : Nat} {σ : kS} {r x : Int} (ho : M.1.cls = RX10) (hi : M.1.name = "<init>") (hd : decode M.2.1 pc = .ok (.putfield 27, 3)) (hr : isO 10 n r) (k : ∀ s, s = kst σ r 6 x → K d M Post b (pc + 3) ls st n s) : K d M Post b pc ls ((2, x) :: (2, r) :: st) n σ := K_putf (j := 6) (C := RX10) (T := TX10) (N := 15) hd (by rw [ho]; exact fl10_27) ft10 (Or.inr ⟨rfl, hi, ho.symm, by rw [ho]; exact (tb1 149 rfl rfl)⟩) hr (fun _ => trivial) (k _ rfl)
theorem fl10_30 : kFL RX10 30 10 7 RX10 TX10 15 := ⟨rfl, by decide, by decide, rfl, uw10, Or.inl (tb1 150 rfl rfl)⟩
theorem gf10_30 {d : Nat} {M : kM} {Post : Option kV → Nat → kS → Prop} {b : Nat × Nat} {pc : Nat} {ls : List (Nat × kV)} {st : List kV} {n : Nat} {σ : kS} {r : Int} (ho : M.1.cls = RX10) (hd : decode M.2.1 pc = .ok (.getfield 30, 3)) (hr : isO 10 n r) (k : K d M Post b (pc + 3) ls ((2, σ r 7) :: st) n σ) : K d M Post b pc ls ((2, r) :: st) n σ := K_getf (j := 7) (C := RX10) (T := TX10) (N := 15) hd (by rw [ho]; exact fl10_30) hr k
theorem pf10_30 {d : Nat} {M : kM} {Post : Option kV → Nat → kS → Prop} {b : Nat × Nat} {pc : Nat} {ls : List (Nat × kV)} {st : List kV} {n : Nat} {σ : kS} {r x : Int} (ho : M.1.cls = RX10) (hi : M.1.name = "<init>") (hd : decode M.2.1 pc = .ok (.putfield 30, 3)) (hr : isO 10 n r) (k : ∀ s, s = kst σ r 7 x → K d M Post b (pc + 3) ls st n s) : K d M Post b pc ls ((2, x) :: (2, r) :: st) n σ := K_putf (j := 7) (C := RX10) (T := TX10) (N := 15) hd (by rw [ho]; exact fl10_30) ft10 (Or.inr ⟨rfl, hi, ho.symm, by rw [ho]; exact (tb1 150 rfl rfl)⟩) hr (fun _ => trivial) (k _ rfl)
theorem fl10_33 : kFL RX10 33 10 8 RX10 TX10 15 := ⟨rfl, by decide, by decide, rfl, uw10, Or.inl (tb1 151 rfl rfl)⟩
theorem gf10_33 {d : Nat} {M : kM} {Post : Option kV → Nat → kS → Prop} {b : Nat × Nat} {pc : Nat} {ls : List (Nat × kV)} {st : List kV} {n : Nat} {σ : kS} {r : Int} (ho : M.1.cls = RX10) (hd : decode M.2.1 pc = .ok (.getfield 33, 3)) (hr : isO 10 n r) (k : K d M Post b (pc + 3) ls ((2, σ r 8) :: st) n σ) : K d M Post b pc ls ((2, r) :: st) n σ := K_getf (j := 8) (C := RX10) (T := TX10) (N := 15) hd (by rw [ho]; exact fl10_33) hr k
theorem pf10_33 {d : Nat} {M : kM} {Post : Option kV → Nat → kS → Prop} {b : Nat × Nat} {pc : Nat} {ls : List (Nat × kV)} {st : List kV} {n : Nat} {σ : kS} {r x : Int} (ho : M.1.cls = RX10) (hi : M.1.name = "<init>") (hd : decode M.2.1 pc = .ok (.putfield 33, 3)) (hr : isO 10 n r) (k : ∀ s, s = kst σ r 8 x → K d M Post b (pc + 3) ls st n s) : K d M Post b pc ls ((2, x) :: (2, r) :: st) n σ := K_putf (j := 8) (C := RX10) (T := TX10) (N := 15) hd (by rw [ho]; exact fl10_33) ft10 (Or.inr ⟨rfl, hi, ho.symm, by rw [ho]; exact (tb1 151 rfl rfl)⟩) hr (fun _ => trivial) (k _ rfl)
theorem fl10_36 : kFL RX10 36 10 9 RX10 TX10 15 := ⟨rfl, by decide, by decide, rfl, uw10, Or.inl (tb1 152 rfl rfl)⟩
theorem gf10_36 {d : Nat} {M : kM} {Post : Option kV → Nat → kS → Prop} {b : Nat × Nat} {pc : Nat} {ls : List (Nat × kV)} {st : List kV} {n : Nat} {σ : kS} {r : Int} (ho : M.1.cls = RX10) (hd : decode M.2.1 pc = .ok (.getfield 36, 3)) (hr : isO 10 n r) (k : K d M Post b (pc + 3) ls ((2, σ r 9) :: st) n σ) : K d M Post b pc ls ((2, r) :: st) n σ := K_getf (j := 9) (C := RX10) (T := TX10) (N := 15) hd (by rw [ho]; exact fl10_36) hr k
theorem pf10_36 {d : Nat} {M : kM} {Post : Option kV → Nat → kS → Prop} {b : Nat × Nat} {pc : Nat} {ls : List (Nat × kV)} {st : List kV} {n : Nat} {σ : kS} {r x : Int} (ho : M.1.cls = RX10) (hi : M.1.name = "<init>") (hd : decode M.2.1 pc = .ok (.putfield 36, 3)) (hr : isO 10 n r) (k : ∀ s, s = kst σ r 9 x → K d M Post b (pc + 3) ls st n s) : K d M Post b pc ls ((2, x) :: (2, r) :: st) n σ := K_putf (j := 9) (C := RX10) (T := TX10) (N := 15) hd (by rw [ho]; exact fl10_36) ft10 (Or.inr ⟨rfl, hi, ho.symm, by rw [ho]; exact (tb1 152 rfl rfl)⟩) hr (fun _ => trivial) (k _ rfl)
theorem fl10_44 : kFL RX10 44 10 13 RX10 TX10 15 := ⟨rfl, by decide, by decide, rfl, uw10, Or.inl (tb1 156 rfl rfl)⟩
theorem gf10_44 {d : Nat} {M : kM} {Post : Option kV → Nat → kS → Prop} {b : Nat × Nat} {pc : Nat} {ls : List (Nat × kV)} {st : List kV} {n : Nat} {σ : kS} {r : Int} (ho : M.1.cls = RX10) (hd : decode M.2.1 pc = .ok (.getfield 44, 3)) (hr : isO 10 n r) (k : K d M Post b (pc + 3) ls ((2, σ r 13) :: st) n σ) : K d M Post b pc ls ((2, r) :: st) n σ := K_getf (j := 13) (C := RX10) (T := TX10) (N := 15) hd (by rw [ho]; exact fl10_44) hr k
theorem pf10_44 {d : Nat} {M : kM} {Post : Option kV → Nat → kS → Prop} {b : Nat × Nat} {pc : Nat} {ls : List (Nat × kV)} {st : List kV} {n : Nat} {σ : kS} {r x : Int} (ho : M.1.cls = RX10) (hi : M.1.name = "<init>") (hd : decode M.2.1 pc = .ok (.putfield 44, 3)) (hr : isO 10 n r) (k : ∀ s, s = kst σ r 13 x → K d M Post b (pc + 3) ls st n s) : K d M Post b pc ls ((2, x) :: (2, r) :: st) n σ := K_putf (j := 13) (C := RX10) (T := TX10) (N := 15) hd (by rw [ho]; exact fl10_44) ft10 (Or.inr ⟨rfl, hi, ho.symm, by rw [ho]; exact (tb1 156 rfl rfl)⟩) hr (fun _ => trivial) (k _ rfl)
theorem fl10_48 : kFL RX10 48 10 14 RX10 TX10 15 := ⟨rfl, by decide, by decide, rfl, uw10, Or.inl (tb1 159 rfl rfl)⟩
theorem gf10_48 {d : Nat} {M : kM} {Post : Option kV → Nat → kS → Prop} {b : Nat × Nat} {pc : Nat} {ls : List (Nat × kV)} {st : List kV} {n : Nat} {σ : kS} {r : Int} (ho : M.1.cls = RX10) (hd : decode M.2.1 pc = .ok (.getfield 48, 3)) (hr : isO 10 n r) (k : K d M Post b (pc + 3) ls ((2, σ r 14) :: st) n σ) : K d M Post b pc ls ((2, r) :: st) n σ := K_getf (j := 14) (C := RX10) (T := TX10) (N := 15) hd (by rw [ho]; exact fl10_48) hr k
theorem pf10_48 {d : Nat} {M : kM} {Post : Option kV → Nat → kS → Prop} {b : Nat × Nat} {pc : Nat} {ls : List (Nat × kV)} {st : List kV} {n : Nat} {σ : kS} {r x : Int} (ho : M.1.cls = RX10) (hi : M.1.name = "<init>") (hd : decode M.2.1 pc = .ok (.putfield 48, 3)) (hr : isO 10 n r) (k : ∀ s, s = kst σ r 14 x → K d M Post b (pc + 3) ls st n s) : K d M Post b pc ls ((2, x) :: (2, r) :: st) n σ := K_putf (j := 14) (C := RX10) (T := TX10) (N := 15) hd (by rw [ho]; exact fl10_48) ft10 (Or.inr ⟨rfl, hi, ho.symm, by rw [ho]; exact (tb1 159 rfl rfl)⟩) hr (fun _ => trivial) (k _ rfl)
theorem fl10_55 : kFL RX10 55 10 10 RX10 TX10 15 := ⟨rfl, by decide, by decide, rfl, uw10, Or.inl (tb1 153 rfl rfl)⟩
theorem gf10_55 {d : Nat} {M : kM} {Post : Option kV → Nat → kS → Prop} {b : Nat × Nat} {pc : Nat} {ls : List (Nat × kV)} {st : List kV} {n : Nat} {σ : kS} {r : Int} (ho : M.1.cls = RX10) (hd : decode M.2.1 pc = .ok (.getfield 55, 3)) (hr : isO 10 n r) (k : K d M Post b (pc + 3) ls ((2, σ r 10) :: st) n σ) : K d M Post b pc ls ((2, r) :: st) n σ := K_getf (j := 10) (C := RX10) (T := TX10) (N := 15) hd (by rw [ho]; exact fl10_55) hr k
theorem pf10_55 {d : Nat} {M : kM} {Post : Option kV → Nat → kS → Prop} {b : Nat × Nat} {pc : Nat} {ls : List (Nat × kV)} {st : List kV} {n : Nat} {σ : kS} {r x : Int} (ho : M.1.cls = RX10) (hd : decode M.2.1 pc = .ok (.putfield 55, 3)) (hr : isO 10 n r) (k : ∀ s, s = kst σ r 10 x → K d M Post b (pc + 3) ls st n s) : K d M Post b pc ls ((2, x) :: (2, r) :: st) n σ := K_putf (j := 10) (C := RX10) (T := TX10) (N := 15) hd (by rw [ho]; exact fl10_55) ft10 (Or.inl rfl) hr (fun _ => trivial) (k _ rfl)
theorem fl10_59 : kFL RX10 59 10 11 RX10 TX10 15 := ⟨rfl, by decide, by decide, rfl, uw10, Or.inl (tb1 154 rfl rfl)⟩
theorem gf10_59 {d : Nat} {M : kM} {Post : Option kV → Nat → kS → Prop} {b : Nat × Nat} {pc : Nat} {ls : List (Nat × kV)} {st : List kV} {n : Nat} {σ : kS} {r : Int} (ho : M.1.cls = RX10) (hd : decode M.2.1 pc = .ok (.getfield 59, 3)) (hr : isO 10 n r) (k : K d M Post b (pc + 3) ls ((0, σ r 11) :: st) n σ) : K d M Post b pc ls ((2, r) :: st) n σ := K_getf (j := 11) (C := RX10) (T := TX10) (N := 15) hd (by rw [ho]; exact fl10_59) hr k
theorem pf10_59 {d : Nat} {M : kM} {Post : Option kV → Nat → kS → Prop} {b : Nat × Nat} {pc : Nat} {ls : List (Nat × kV)} {st : List kV} {n : Nat} {σ : kS} {r x : Int} (ho : M.1.cls = RX10) (hd : decode M.2.1 pc = .ok (.putfield 59, 3)) (hr : isO 10 n r) (k : ∀ s, s = kst σ r 11 x → K d M Post b (pc + 3) ls st n s) : K d M Post b pc ls ((0, x) :: (2, r) :: st) n σ := K_putf (j := 11) (C := RX10) (T := TX10) (N := 15) hd (by rw [ho]; exact fl10_59) ft10 (Or.inl rfl) hr (fun h => h) (k _ rfl)
theorem fl10_63 : kFL RX10 63 10 12 RX10 TX10 15 := ⟨rfl, by decide, by decide, rfl, uw10, Or.inl (tb1 155 rfl rfl)⟩
theorem gf10_63 {d : Nat} {M : kM} {Post : Option kV → Nat → kS → Prop} {b : Nat × Nat} {pc : Nat} {ls : List (Nat × kV)} {st : List kV} {n : Nat} {σ : kS} {r : Int} (ho : M.1.cls = RX10) (hd : decode M.2.1 pc = .ok (.getfield 63, 3)) (hr : isO 10 n r) (k : K d M Post b (pc + 3) ls ((0, σ r 12) :: st) n σ) : K d M Post b pc ls ((2, r) :: st) n σ := K_getf (j := 12) (C := RX10) (T := TX10) (N := 15) hd (by rw [ho]; exact fl10_63) hr k
theorem pf10_63 {d : Nat} {M : kM} {Post : Option kV → Nat → kS → Prop} {b : Nat × Nat} {pc : Nat} {ls : List (Nat × kV)} {st : List kV} {n : Nat} {σ : kS} {r x : Int} (ho : M.1.cls = RX10) (hd : decode M.2.1 pc = .ok (.putfield 63, 3)) (hr : isO 10 n r) (hx : 0 ≤ x ∧ x ≤ 1) (k : ∀ s, s = kst σ r 12 x → K d M Post b (pc + 3) ls st n s) : K d M Post b pc ls ((0, x) :: (2, r) :: st) n σ := K_putf (j := 12) (C := RX10) (T := TX10) (N := 15) hd (by rw [ho]; exact fl10_63) ft10 (Or.inl rfl) hr (fun _ => hx) (k _ rfl)
theorem fl10_105 : kFL RX10 105 10 5 RX10 TX10 15 := ⟨rfl, by decide, by decide, rfl, uw10, Or.inl (tb1 148 rfl rfl)⟩
theorem gf10_105 {d : Nat} {M : kM} {Post : Option kV → Nat → kS → Prop} {b : Nat × Nat} {pc : Nat} {ls : List (Nat × kV)} {st : List kV} {n : Nat} {σ : kS} {r : Int} (ho : M.1.cls = RX10) (hd : decode M.2.1 pc = .ok (.getfield 105, 3)) (hr : isO 10 n r) (k : K d M Post b (pc + 3) ls ((0, σ r 5) :: st) n σ) : K d M Post b pc ls ((2, r) :: st) n σ := K_getf (j := 5) (C := RX10) (T := TX10) (N := 15) hd (by rw [ho]; exact fl10_105) hr k
theorem pf10_105 {d : Nat} {M : kM} {Post : Option kV → Nat → kS → Prop} {b : Nat × Nat} {pc : Nat} {ls : List (Nat × kV)} {st : List kV} {n : Nat} {σ : kS} {r x : Int} (ho : M.1.cls = RX10) (hd : decode M.2.1 pc = .ok (.putfield 105, 3)) (hr : isO 10 n r) (k : ∀ s, s = kst σ r 5 x → K d M Post b (pc + 3) ls st n s) : K d M Post b pc ls ((0, x) :: (2, r) :: st) n σ := K_putf (j := 5) (C := RX10) (T := TX10) (N := 15) hd (by rw [ho]; exact fl10_105) ft10 (Or.inl rfl) hr (fun h => h) (k _ rfl)
theorem fl12_9 : kFL RX12 9 12 1 RX12 TX12 69 := ⟨rfl, by decide, by decide, rfl, uw12, Or.inl (tb5 227 rfl rfl)⟩
theorem gf12_9 {d : Nat} {M : kM} {Post : Option kV → Nat → kS → Prop} {b : Nat × Nat} {pc : Nat} {ls : List (Nat × kV)} {st : List kV} {n : Nat} {σ : kS} {r : Int} (ho : M.1.cls = RX12) (hd : decode M.2.1 pc = .ok (.getfield 9, 3)) (hr : isO 12 n r) (k : K d M Post b (pc + 3) ls ((2, σ r 1) :: st) n σ) : K d M Post b pc ls ((2, r) :: st) n σ := K_getf (j := 1) (C := RX12) (T := TX12) (N := 69) hd (by rw [ho]; exact fl12_9) hr k
theorem pf12_9 {d : Nat} {M : kM} {Post : Option kV → Nat → kS → Prop} {b : Nat × Nat} {pc : Nat} {ls : List (Nat × kV)} {st : List kV} {n : Nat} {σ : kS} {r x : Int} (ho : M.1.cls = RX12) (hi : M.1.name = "<init>") (hd : decode M.2.1 pc = .ok (.putfield 9, 3)) (hr : isO 12 n r) (k : ∀ s, s = kst σ r 1 x → K d M Post b (pc + 3) ls st n s) : K d M Post b pc ls ((2, x) :: (2, r) :: st) n σ := K_putf (j := 1) (C := RX12) (T := TX12) (N := 69) hd (by rw [ho]; exact fl12_9) ft12 (Or.inr ⟨rfl, hi, ho.symm, by rw [ho]; exact (tb5 227 rfl rfl)⟩) hr (fun _ => trivial) (k _ rfl)
theorem fl12_13 : kFL RX12 13 12 2 RX12 TX12 69 := ⟨rfl, by decide, by decide, rfl, uw12, Or.inl (tb5 228 rfl rfl)⟩
theorem gf12_13 {d : Nat} {M : kM} {Post : Option kV → Nat → kS → Prop} {b : Nat × Nat} {pc : Nat} {ls : List (Nat × kV)} {st : List kV} {n : Nat} {σ : kS} {r : Int} (ho : M.1.cls = RX12) (hd : decode M.2.1 pc = .ok (.getfield 13, 3)) (hr : isO 12 n r) (k : K d M Post b (pc + 3) ls ((2, σ r 2) :: st) n σ) : K d M Post b pc ls ((2, r) :: st) n σ := K_getf (j := 2) (C := RX12) (T := TX12) (N := 69) hd (by rw [ho]; exact fl12_13) hr k
theorem pf12_13 {d : Nat} {M : kM} {Post : Option kV → Nat → kS → Prop} {b : Nat × Nat} {pc : Nat} {ls : List (Nat × kV)} {st : List kV} {n : Nat} {σ : kS} {r x : Int} (ho : M.1.cls = RX12) (hi : M.1.name = "<init>") (hd : decode M.2.1 pc = .ok (.putfield 13, 3)) (hr : isO 12 n r) (k : ∀ s, s = kst σ r 2 x → K d M Post b (pc + 3) ls st n s) : K d M Post b pc ls ((2, x) :: (2, r) :: st) n σ := K_putf (j := 2) (C := RX12) (T := TX12) (N := 69) hd (by rw [ho]; exact fl12_13) ft12 (Or.inr ⟨rfl, hi, ho.symm, by rw [ho]; exact (tb5 228 rfl rfl)⟩) hr (fun _ => trivial) (k _ rfl)
theorem fl12_16 : kFL RX12 16 12 4 RX12 TX12 69 := ⟨rfl, by decide, by decide, rfl, uw12, Or.inl (tb5 230 rfl rfl)⟩
theorem gf12_16 {d : Nat} {M : kM} {Post : Option kV → Nat → kS → Prop} {b : Nat × Nat} {pc : Nat} {ls : List (Nat × kV)} {st : List kV} {n : Nat} {σ : kS} {r : Int} (ho : M.1.cls = RX12) (hd : decode M.2.1 pc = .ok (.getfield 16, 3)) (hr : isO 12 n r) (k : K d M Post b (pc + 3) ls ((2, σ r 4) :: st) n σ) : K d M Post b pc ls ((2, r) :: st) n σ := K_getf (j := 4) (C := RX12) (T := TX12) (N := 69) hd (by rw [ho]; exact fl12_16) hr k
theorem pf12_16 {d : Nat} {M : kM} {Post : Option kV → Nat → kS → Prop} {b : Nat × Nat} {pc : Nat} {ls : List (Nat × kV)} {st : List kV} {n : Nat} {σ : kS} {r x : Int} (ho : M.1.cls = RX12) (hi : M.1.name = "<init>") (hd : decode M.2.1 pc = .ok (.putfield 16, 3)) (hr : isO 12 n r) (k : ∀ s, s = kst σ r 4 x → K d M Post b (pc + 3) ls st n s) : K d M Post b pc ls ((2, x) :: (2, r) :: st) n σ := K_putf (j := 4) (C := RX12) (T := TX12) (N := 69) hd (by rw [ho]; exact fl12_16) ft12 (Or.inr ⟨rfl, hi, ho.symm, by rw [ho]; exact (tb5 230 rfl rfl)⟩) hr (fun _ => trivial) (k _ rfl)
theorem fl12_20 : kFL RX12 20 12 5 RX12 TX12 69 := ⟨rfl, by decide, by decide, rfl, uw12, Or.inl (tb5 231 rfl rfl)⟩
theorem gf12_20 {d : Nat} {M : kM} {Post : Option kV → Nat → kS → Prop} {b : Nat × Nat} {pc : Nat} {ls : List (Nat × kV)} {st : List kV} {n : Nat} {σ : kS} {r : Int} (ho : M.1.cls = RX12) (hd : decode M.2.1 pc = .ok (.getfield 20, 3)) (hr : isO 12 n r) (k : K d M Post b (pc + 3) ls ((2, σ r 5) :: st) n σ) : K d M Post b pc ls ((2, r) :: st) n σ := K_getf (j := 5) (C := RX12) (T := TX12) (N := 69) hd (by rw [ho]; exact fl12_20) hr k
theorem pf12_20 {d : Nat} {M : kM} {Post : Option kV → Nat → kS → Prop} {b : Nat × Nat} {pc : Nat} {ls : List (Nat × kV)} {st : List kV} {n : Nat} {σ : kS} {r x : Int} (ho : M.1.cls = RX12) (hi : M.1.name = "<init>") (hd : decode M.2.1 pc = .ok (.putfield 20, 3)) (hr : isO 12 n r) (k : ∀ s, s = kst σ r 5 x → K d M Post b (pc + 3) ls st n s) : K d M Post b pc ls ((2, x) :: (2, r) :: st) n σ := K_putf (j := 5) (C := RX12) (T := TX12) (N := 69) hd (by rw [ho]; exact fl12_20) ft12 (Or.inr ⟨rfl, hi, ho.symm, by rw [ho]; exact (tb5 231 rfl rfl)⟩) hr (fun _ => trivial) (k _ rfl)
theorem fl12_23 : kFL RX12 23 12 6 RX12 TX12 69 := ⟨rfl, by decide, by decide, rfl, uw12, Or.inl (tb5 232 rfl rfl)⟩
theorem gf12_23 {d : Nat} {M : kM} {Post : Option kV → Nat → kS → Prop} {b : Nat × Nat} {pc : Nat} {ls : List (Nat × kV)} {st : List kV} {n : Nat} {σ : kS} {r : Int} (ho : M.1.cls = RX12) (hd : decode M.2.1 pc = .ok (.getfield 23, 3)) (hr : isO 12 n r) (k : K d M Post b (pc + 3) ls ((2, σ r 6) :: st) n σ) : K d M Post b pc ls ((2, r) :: st) n σ := K_getf (j := 6) (C := RX12) (T := TX12) (N := 69) hd (by rw [ho]; exact fl12_23) hr k
theorem pf12_23 {d : Nat} {M : kM} {Post : Option kV → Nat → kS → Prop} {b : Nat × Nat} {pc : Nat} {ls : List (Nat × kV)} {st : List kV} {n : Nat} {σ : kS} {r x : Int} (ho : M.1.cls = RX12) (hi : M.1.name = "<init>") (hd : decode M.2.1 pc = .ok (.putfield 23, 3)) (hr : isO 12 n r) (k : ∀ s, s = kst σ r 6 x → K d M Post b (pc + 3) ls st n s) : K d M Post b pc ls ((2, x) :: (2, r) :: st) n σ := K_putf (j := 6) (C := RX12) (T := TX12) (N := 69) hd (by rw [ho]; exact fl12_23) ft12 (Or.inr ⟨rfl, hi, ho.symm, by rw [ho]; exact (tb5 232 rfl rfl)⟩) hr (fun _ => trivial) (k _ rfl)
theorem fl12_26 : kFL RX12 26 12 7 RX12 TX12 69 := ⟨rfl, by decide, by decide, rfl, uw12, Or.inl (tb5 233 rfl rfl)⟩
theorem gf12_26 {d : Nat} {M : kM} {Post : Option kV → Nat → kS → Prop} {b : Nat × Nat} {pc : Nat} {ls : List (Nat × kV)} {st : List kV} {n : Nat} {σ : kS} {r : Int} (ho : M.1.cls = RX12) (hd : decode M.2.1 pc = .ok (.getfield 26, 3)) (hr : isO 12 n r) (k : K d M Post b (pc + 3) ls ((2, σ r 7) :: st) n σ) : K d M Post b pc ls ((2, r) :: st) n σ := K_getf (j := 7) (C := RX12) (T := TX12) (N := 69) hd (by rw [ho]; exact fl12_26) hr k
theorem pf12_26 {d : Nat} {M : kM} {Post : Option kV → Nat → kS → Prop} {b : Nat × Nat} {pc : Nat} {ls : List (Nat × kV)} {st : List kV} {n : Nat} {σ : kS} {r x : Int} (ho : M.1.cls = RX12) (hi : M.1.name = "<init>") (hd : decode M.2.1 pc = .ok (.putfield 26, 3)) (hr : isO 12 n r) (k : ∀ s, s = kst σ r 7 x → K d M Post b (pc + 3) ls st n s) : K d M Post b pc ls ((2, x) :: (2, r) :: st) n σ := K_putf (j := 7) (C := RX12) (T := TX12) (N := 69) hd (by rw [ho]; exact fl12_26) ft12 (Or.inr ⟨rfl, hi, ho.symm, by rw [ho]; exact (tb5 233 rfl rfl)⟩) hr (fun _ => trivial) (k _ rfl)
theorem fl12_29 : kFL RX12 29 12 8 RX12 TX12 69 := ⟨rfl, by decide, by decide, rfl, uw12, Or.inl (tb5 234 rfl rfl)⟩
theorem gf12_29 {d : Nat} {M : kM} {Post : Option kV → Nat → kS → Prop} {b : Nat × Nat} {pc : Nat} {ls : List (Nat × kV)} {st : List kV} {n : Nat} {σ : kS} {r : Int} (ho : M.1.cls = RX12) (hd : decode M.2.1 pc = .ok (.getfield 29, 3)) (hr : isO 12 n r) (k : K d M Post b (pc + 3) ls ((2, σ r 8) :: st) n σ) : K d M Post b pc ls ((2, r) :: st) n σ := K_getf (j := 8) (C := RX12) (T := TX12) (N := 69) hd (by rw [ho]; exact fl12_29) hr k
theorem pf12_29 {d : Nat} {M : kM} {Post : Option kV → Nat → kS → Prop} {b : Nat × Nat} {pc : Nat} {ls : List (Nat × kV)} {st : List kV} {n : Nat} {σ : kS} {r x : Int} (ho : M.1.cls = RX12) (hi : M.1.name = "<init>") (hd : decode M.2.1 pc = .ok (.putfield 29, 3)) (hr : isO 12 n r) (k : ∀ s, s = kst σ r 8 x → K d M Post b (pc + 3) ls st n s) : K d M Post b pc ls ((2, x) :: (2, r) :: st) n σ := K_putf (j := 8) (C := RX12) (T := TX12) (N := 69) hd (by rw [ho]; exact fl12_29) ft12 (Or.inr ⟨rfl, hi, ho.symm, by rw [ho]; exact (tb5 234 rfl rfl)⟩) hr (fun _ => trivial) (k _ rfl)
theorem fl12_32 : kFL RX12 32 12 9 RX12 TX12 69 := ⟨rfl, by decide, by decide, rfl, uw12, Or.inl (tb5 235 rfl rfl)⟩
theorem gf12_32 {d : Nat} {M : kM} {Post : Option kV → Nat → kS → Prop} {b : Nat × Nat} {pc : Nat} {ls : List (Nat × kV)} {st : List kV} {n : Nat} {σ : kS} {r : Int} (ho : M.1.cls = RX12) (hd : decode M.2.1 pc = .ok (.getfield 32, 3)) (hr : isO 12 n r) (k : K d M Post b (pc + 3) ls ((2, σ r 9) :: st) n σ) : K d M Post b pc ls ((2, r) :: st) n σ := K_getf (j := 9) (C := RX12) (T := TX12) (N := 69) hd (by rw [ho]; exact fl12_32) hr k
theorem pf12_32 {d : Nat} {M : kM} {Post : Option kV → Nat → kS → Prop} {b : Nat × Nat} {pc : Nat} {ls : List (Nat × kV)} {st : List kV} {n : Nat} {σ : kS} {r x : Int} (ho : M.1.cls = RX12) (hi : M.1.name = "<init>") (hd : decode M.2.1 pc = .ok (.putfield 32, 3)) (hr : isO 12 n r) (k : ∀ s, s = kst σ r 9 x → K d M Post b (pc + 3) ls st n s) : K d M Post b pc ls ((2, x) :: (2, r) :: st) n σ := K_putf (j := 9) (C := RX12) (T := TX12) (N := 69) hd (by rw [ho]; exact fl12_32) ft12 (Or.inr ⟨rfl, hi, ho.symm, by rw [ho]; exact (tb5 235 rfl rfl)⟩) hr (fun _ => trivial) (k _ rfl)
theorem fl12_35 : kFL RX12 35 12 10 RX12 TX12 69 := ⟨rfl, by decide, by decide, rfl, uw12, Or.inl (tb5 236 rfl rfl)⟩
theorem gf12_35 {d : Nat} {M : kM} {Post : Option kV → Nat → kS → Prop} {b : Nat × Nat} {pc : Nat} {ls : List (Nat × kV)} {st : List kV} {n : Nat} {σ : kS} {r : Int} (ho : M.1.cls = RX12) (hd : decode M.2.1 pc = .ok (.getfield 35, 3)) (hr : isO 12 n r) (k : K d M Post b (pc + 3) ls ((2, σ r 10) :: st) n σ) : K d M Post b pc ls ((2, r) :: st) n σ := K_getf (j := 10) (C := RX12) (T := TX12) (N := 69) hd (by rw [ho]; exact fl12_35) hr k
theorem pf12_35 {d : Nat} {M : kM} {Post : Option kV → Nat → kS → Prop} {b : Nat × Nat} {pc : Nat} {ls : List (Nat × kV)} {st : List kV} {n : Nat} {σ : kS} {r x : Int} (ho : M.1.cls = RX12) (hi : M.1.name = "<init>") (hd : decode M.2.1 pc = .ok (.putfield 35, 3)) (hr : isO 12 n r) (k : ∀ s, s = kst σ r 10 x → K d M Post b (pc + 3) ls st n s) : K d M Post b pc ls ((2, x) :: (2, r) :: st) n σ := K_putf (j := 10) (C := RX12) (T := TX12) (N := 69) hd (by rw [ho]; exact fl12_35) ft12 (Or.inr ⟨rfl, hi, ho.symm, by rw [ho]; exact (tb5 236 rfl rfl)⟩) hr (fun _ => trivial) (k _ rfl)
theorem fl12_38 : kFL RX12 38 12 11 RX12 TX12 69 := ⟨rfl, by decide, by decide, rfl, uw12, Or.inl (tb5 237 rfl rfl)⟩
theorem gf12_38 {d : Nat} {M : kM} {Post : Option kV → Nat → kS → Prop} {b : Nat × Nat} {pc : Nat} {ls : List (Nat × kV)} {st : List kV} {n : Nat} {σ : kS} {r : Int} (ho : M.1.cls = RX12) (hd : decode M.2.1 pc = .ok (.getfield 38, 3)) (hr : isO 12 n r) (k : K d M Post b (pc + 3) ls ((2, σ r 11) :: st) n σ) : K d M Post b pc ls ((2, r) :: st) n σ := K_getf (j := 11) (C := RX12) (T := TX12) (N := 69) hd (by rw [ho]; exact fl12_38) hr k
theorem pf12_38 {d : Nat} {M : kM} {Post : Option kV → Nat → kS → Prop} {b : Nat × Nat} {pc : Nat} {ls : List (Nat × kV)} {st : List kV} {n : Nat} {σ : kS} {r x : Int} (ho : M.1.cls = RX12) (hi : M.1.name = "<init>") (hd : decode M.2.1 pc = .ok (.putfield 38, 3)) (hr : isO 12 n r) (k : ∀ s, s = kst σ r 11 x → K d M Post b (pc + 3) ls st n s) : K d M Post b pc ls ((2, x) :: (2, r) :: st) n σ := K_putf (j := 11) (C := RX12) (T := TX12) (N := 69) hd (by rw [ho]; exact fl12_38) ft12 (Or.inr ⟨rfl, hi, ho.symm, by rw [ho]; exact (tb5 237 rfl rfl)⟩) hr (fun _ => trivial) (k _ rfl)
theorem fl12_41 : kFL RX12 41 12 12 RX12 TX12 69 := ⟨rfl, by decide, by decide, rfl, uw12, Or.inl (tb5 238 rfl rfl)⟩
theorem gf12_41 {d : Nat} {M : kM} {Post : Option kV → Nat → kS → Prop} {b : Nat × Nat} {pc : Nat} {ls : List (Nat × kV)} {st : List kV} {n : Nat} {σ : kS} {r : Int} (ho : M.1.cls = RX12) (hd : decode M.2.1 pc = .ok (.getfield 41, 3)) (hr : isO 12 n r) (k : K d M Post b (pc + 3) ls ((2, σ r 12) :: st) n σ) : K d M Post b pc ls ((2, r) :: st) n σ := K_getf (j := 12) (C := RX12) (T := TX12) (N := 69) hd (by rw [ho]; exact fl12_41) hr k
theorem pf12_41 {d : Nat} {M : kM} {Post : Option kV → Nat → kS → Prop} {b : Nat × Nat} {pc : Nat} {ls : List (Nat × kV)} {st : List kV} {n : Nat} {σ : kS} {r x : Int} (ho : M.1.cls = RX12) (hd : decode M.2.1 pc = .ok (.putfield 41, 3)) (hr : isO 12 n r) (k : ∀ s, s = kst σ r 12 x → K d M Post b (pc + 3) ls st n s) : K d M Post b pc ls ((2, x) :: (2, r) :: st) n σ := K_putf (j := 12) (C := RX12) (T := TX12) (N := 69) hd (by rw [ho]; exact fl12_41) ft12 (Or.inl rfl) hr (fun _ => trivial) (k _ rfl)
theorem fl12_46 : kFL RX12 46 12 23 RX12 TX12 69 := ⟨rfl, by decide, by decide, rfl, uw12, Or.inl (tb6 9 rfl rfl)⟩
theorem gf12_46 {d : Nat} {M : kM} {Post : Option kV → Nat → kS → Prop} {b : Nat × Nat} {pc : Nat} {ls : List (Nat × kV)} {st : List kV} {n : Nat} {σ : kS} {r : Int} (ho : M.1.cls = RX12) (hd : decode M.2.1 pc = .ok (.getfield 46, 3)) (hr : isO 12 n r) (k : K d M Post b (pc + 3) ls ((2, σ r 23) :: st) n σ) : K d M Post b pc ls ((2, r) :: st) n σ := K_getf (j := 23) (C := RX12) (T := TX12) (N := 69) hd (by rw [ho]; exact fl12_46) hr k
theorem pf12_46 {d : Nat} {M : kM} {Post : Option kV → Nat → kS → Prop} {b : Nat × Nat} {pc : Nat} {ls : List (Nat × kV)} {st : List kV} {n : Nat} {σ : kS} {r x : Int} (ho : M.1.cls = RX12) (hi : M.1.name = "<init>") (hd : decode M.2.1 pc = .ok (.putfield 46, 3)) (hr : isO 12 n r) (k : ∀ s, s = kst σ r 23 x → K d M Post b (pc + 3) ls st n s) : K d M Post b pc ls ((2, x) :: (2, r) :: st) n σ := K_putf (j := 23) (C := RX12) (T := TX12) (N := 69) hd (by rw [ho]; exact fl12_46) ft12 (Or.inr ⟨rfl, hi, ho.symm, by rw [ho]; exact (tb6 9 rfl rfl)⟩) hr (fun _ => trivial) (k _ rfl)
theorem fl12_52 : kFL RX12 52 12 24 RX12 TX12 69 := ⟨rfl, by decide, by decide, rfl, uw12, Or.inl (tb6 10 rfl rfl)⟩
theorem gf12_52 {d : Nat} {M : kM} {Post : Option kV → Nat → kS → Prop} {b : Nat × Nat} {pc : Nat} {ls : List (Nat × kV)} {st : List kV} {n : Nat} {σ : kS} {r : Int} (ho : M.1.cls = RX12) (hd : decode M.2.1 pc = .ok (.getfield 52, 3)) (hr : isO 12 n r) (k : K d M Post b (pc + 3) ls ((2, σ r 24) :: st) n σ) : K d M Post b pc ls ((2, r) :: st) n σ := K_getf (j := 24) (C := RX12) (T := TX12) (N := 69) hd (by rw [ho]; exact fl12_52) hr k
theorem pf12_52 {d : Nat} {M : kM} {Post : Option kV → Nat → kS → Prop} {b : Nat × Nat} {pc : Nat} {ls : List (Nat × kV)} {st : List kV} {n : Nat} {σ : kS} {r x : Int} (ho : M.1.cls = RX12) (hi : M.1.name = "<init>") (hd : decode M.2.1 pc = .ok (.putfield 52, 3)) (hr : isO 12 n r) (k : ∀ s, s = kst σ r 24 x → K d M Post b (pc + 3) ls st n s) : K d M Post b pc ls ((2, x) :: (2, r) :: st) n σ := K_putf (j := 24) (C := RX12) (T := TX12) (N := 69) hd (by rw [ho]; exact fl12_52) ft12 (Or.inr ⟨rfl, hi, ho.symm, by rw [ho]; exact (tb6 10 rfl rfl)⟩) hr (fun _ => trivial) (k _ rfl)
theorem fl12_55 : kFL RX12 55 12 26 RX12 TX12 69 := ⟨rfl, by decide, by decide, rfl, uw12, Or.inl (tb6 12 rfl rfl)⟩
theorem gf12_55 {d : Nat} {M : kM} {Post : Option kV → Nat → kS → Prop} {b : Nat × Nat} {pc : Nat} {ls : List (Nat × kV)} {st : List kV} {n : Nat} {σ : kS} {r : Int} (ho : M.1.cls = RX12) (hd : decode M.2.1 pc = .ok (.getfield 55, 3)) (hr : isO 12 n r) (k : K d M Post b (pc + 3) ls ((2, σ r 26) :: st) n σ) : K d M Post b pc ls ((2, r) :: st) n σ := K_getf (j := 26) (C := RX12) (T := TX12) (N := 69) hd (by rw [ho]; exact fl12_55) hr k
theorem pf12_55 {d : Nat} {M : kM} {Post : Option kV → Nat → kS → Prop} {b : Nat × Nat} {pc : Nat} {ls : List (Nat × kV)} {st : List kV} {n : Nat} {σ : kS} {r x : Int} (ho : M.1.cls = RX12) (hi : M.1.name = "<init>") (hd : decode M.2.1 pc = .ok (.putfield 55, 3)) (hr : isO 12 n r) (k : ∀ s, s = kst σ r 26 x → K d M Post b (pc + 3) ls st n s) : K d M Post b pc ls ((2, x) :: (2, r) :: st) n σ := K_putf (j := 26) (C := RX12) (T := TX12) (N := 69) hd (by rw [ho]; exact fl12_55) ft12 (Or.inr ⟨rfl, hi, ho.symm, by rw [ho]; exact (tb6 12 rfl rfl)⟩) hr (fun _ => trivial) (k _ rfl)
theorem fl12_58 : kFL RX12 58 12 27 RX12 TX12 69 := ⟨rfl, by decide, by decide, rfl, uw12, Or.inl (tb6 13 rfl rfl)⟩
theorem gf12_58 {d : Nat} {M : kM} {Post : Option kV → Nat → kS → Prop} {b : Nat × Nat} {pc : Nat} {ls : List (Nat × kV)} {st : List kV} {n : Nat} {σ : kS} {r : Int} (ho : M.1.cls = RX12) (hd : decode M.2.1 pc = .ok (.getfield 58, 3)) (hr : isO 12 n r) (k : K d M Post b (pc + 3) ls ((2, σ r 27) :: st) n σ) : K d M Post b pc ls ((2, r) :: st) n σ := K_getf (j := 27) (C := RX12) (T := TX12) (N := 69) hd (by rw [ho]; exact fl12_58) hr k
theorem pf12_58 {d : Nat} {M : kM} {Post : Option kV → Nat → kS → Prop} {b : Nat × Nat} {pc : Nat} {ls : List (Nat × kV)} {st : List kV} {n : Nat} {σ : kS} {r x : Int} (ho : M.1.cls = RX12) (hi : M.1.name = "<init>") (hd : decode M.2.1 pc = .ok (.putfield 58, 3)) (hr : isO 12 n r) (k : ∀ s, s = kst σ r 27 x → K d M Post b (pc + 3) ls st n s) : K d M Post b pc ls ((2, x) :: (2, r) :: st) n σ := K_putf (j := 27) (C := RX12) (T := TX12) (N := 69) hd (by rw [ho]; exact fl12_58) ft12 (Or.inr ⟨rfl, hi, ho.symm, by rw [ho]; exact (tb6 13 rfl rfl)⟩) hr (fun _ => trivial) (k _ rfl)
theorem fl12_61 : kFL RX12 61 12 28 RX12 TX12 69 := ⟨rfl, by decide, by decide, rfl, uw12, Or.inl (tb6 14 rfl rfl)⟩
theorem gf12_61 {d : Nat} {M : kM} {Post : Option kV → Nat → kS → Prop} {b : Nat × Nat} {pc : Nat} {ls : List (Nat × kV)} {st : List kV} {n : Nat} {σ : kS} {r : Int} (ho : M.1.cls = RX12) (hd : decode M.2.1 pc = .ok (.getfield 61, 3)) (hr : isO 12 n r) (k : K d M Post b (pc + 3) ls ((2, σ r 28) :: st) n σ) : K d M Post b pc ls ((2, r) :: st) n σ := K_getf (j := 28) (C := RX12) (T := TX12) (N := 69) hd (by rw [ho]; exact fl12_61) hr k
theorem pf12_61 {d : Nat} {M : kM} {Post : Option kV → Nat → kS → Prop} {b : Nat × Nat} {pc : Nat} {ls : List (Nat × kV)} {st : List kV} {n : Nat} {σ : kS} {r x : Int} (ho : M.1.cls = RX12) (hi : M.1.name = "<init>") (hd : decode M.2.1 pc = .ok (.putfield 61, 3)) (hr : isO 12 n r) (k : ∀ s, s = kst σ r 28 x → K d M Post b (pc + 3) ls st n s) : K d M Post b pc ls ((2, x) :: (2, r) :: st) n σ := K_putf (j := 28) (C := RX12) (T := TX12) (N := 69) hd (by rw [ho]; exact fl12_61) ft12 (Or.inr ⟨rfl, hi, ho.symm, by rw [ho]; exact (tb6 14 rfl rfl)⟩) hr (fun _ => trivial) (k _ rfl)
theorem fl12_64 : kFL RX12 64 12 29 RX12 TX12 69 := ⟨rfl, by decide, by decide, rfl, uw12, Or.inl (tb6 15 rfl rfl)⟩
theorem gf12_64 {d : Nat} {M : kM} {Post : Option kV → Nat → kS → Prop} {b : Nat × Nat} {pc : Nat} {ls : List (Nat × kV)} {st : List kV} {n : Nat} {σ : kS} {r : Int} (ho : M.1.cls = RX12) (hd : decode M.2.1 pc = .ok (.getfield 64, 3)) (hr : isO 12 n r) (k : K d M Post b (pc + 3) ls ((2, σ r 29) :: st) n σ) : K d M Post b pc ls ((2, r) :: st) n σ := K_getf (j := 29) (C := RX12) (T := TX12) (N := 69) hd (by rw [ho]; exact fl12_64) hr k
theorem pf12_64 {d : Nat} {M : kM} {Post : Option kV → Nat → kS → Prop} {b : Nat × Nat} {pc : Nat} {ls : List (Nat × kV)} {st : List kV} {n : Nat} {σ : kS} {r x : Int} (ho : M.1.cls = RX12) (hi : M.1.name = "<init>") (hd : decode M.2.1 pc = .ok (.putfield 64, 3)) (hr : isO 12 n r) (k : ∀ s, s = kst σ r 29 x → K d M Post b (pc + 3) ls st n s) : K d M Post b pc ls ((2, x) :: (2, r) :: st) n σ := K_putf (j := 29) (C := RX12) (T := TX12) (N := 69) hd (by rw [ho]; exact fl12_64) ft12 (Or.inr ⟨rfl, hi, ho.symm, by rw [ho]; exact (tb6 15 rfl rfl)⟩) hr (fun _ => trivial) (k _ rfl)
theorem fl12_67 : kFL RX12 67 12 31 RX12 TX12 69 := ⟨rfl, by decide, by decide, rfl, uw12, Or.inl (tb6 17 rfl rfl)⟩
theorem gf12_67 {d : Nat} {M : kM} {Post : Option kV → Nat → kS → Prop} {b : Nat × Nat} {pc : Nat} {ls : List (Nat × kV)} {st : List kV} {n : Nat} {σ : kS} {r : Int} (ho : M.1.cls = RX12) (hd : decode M.2.1 pc = .ok (.getfield 67, 3)) (hr : isO 12 n r) (k : K d M Post b (pc + 3) ls ((2, σ r 31) :: st) n σ) : K d M Post b pc ls ((2, r) :: st) n σ := K_getf (j := 31) (C := RX12) (T := TX12) (N := 69) hd (by rw [ho]; exact fl12_67) hr k
theorem pf12_67 {d : Nat} {M : kM} {Post : Option kV → Nat → kS → Prop} {b : Nat × Nat} {pc : Nat} {ls : List (Nat × kV)} {st : List kV} {n : Nat} {σ : kS} {r x : Int} (ho : M.1.cls = RX12) (hi : M.1.name = "<init>") (hd : decode M.2.1 pc = .ok (.putfield 67, 3)) (hr : isO 12 n r) (k : ∀ s, s = kst σ r 31 x → K d M Post b (pc + 3) ls st n s) : K d M Post b pc ls ((2, x) :: (2, r) :: st) n σ := K_putf (j := 31) (C := RX12) (T := TX12) (N := 69) hd (by rw [ho]; exact fl12_67) ft12 (Or.inr ⟨rfl, hi, ho.symm, by rw [ho]; exact (tb6 17 rfl rfl)⟩) hr (fun _ => trivial) (k _ rfl)
theorem fl12_70 : kFL RX12 70 12 32 RX12 TX12 69 := ⟨rfl, by decide, by decide, rfl, uw12, Or.inl (tb6 18 rfl rfl)⟩
theorem gf12_70 {d : Nat} {M : kM} {Post : Option kV → Nat → kS → Prop} {b : Nat × Nat} {pc : Nat} {ls : List (Nat × kV)} {st : List kV} {n : Nat} {σ : kS} {r : Int} (ho : M.1.cls = RX12) (hd : decode M.2.1 pc = .ok (.getfield 70, 3)) (hr : isO 12 n r) (k : K d M Post b (pc + 3) ls ((2, σ r 32) :: st) n σ) : K d M Post b pc ls ((2, r) :: st) n σ := K_getf (j := 32) (C := RX12) (T := TX12) (N := 69) hd (by rw [ho]; exact fl12_70) hr k
theorem pf12_70 {d : Nat} {M : kM} {Post : Option kV → Nat → kS → Prop} {b : Nat × Nat} {pc : Nat} {ls : List (Nat × kV)} {st : List kV} {n : Nat} {σ : kS} {r x : Int} (ho : M.1.cls = RX12) (hi : M.1.name = "<init>") (hd : decode M.2.1 pc = .ok (.putfield 70, 3)) (hr : isO 12 n r) (k : ∀ s, s = kst σ r 32 x → K d M Post b (pc + 3) ls st n s) : K d M Post b pc ls ((2, x) :: (2, r) :: st) n σ := K_putf (j := 32) (C := RX12) (T := TX12) (N := 69) hd (by rw [ho]; exact fl12_70) ft12 (Or.inr ⟨rfl, hi, ho.symm, by rw [ho]; exact (tb6 18 rfl rfl)⟩) hr (fun _ => trivial) (k _ rfl)
theorem fl12_73 : kFL RX12 73 12 33 RX12 TX12 69 := ⟨rfl, by decide, by decide, rfl, uw12, Or.inl (tb6 19 rfl rfl)⟩
theorem gf12_73 {d : Nat} {M : kM} {Post : Option kV → Nat → kS → Prop} {b : Nat × Nat} {pc : Nat} {ls : List (Nat × kV)} {st : List kV} {n : Nat} {σ : kS} {r : Int} (ho : M.1.cls = RX12) (hd : decode M.2.1 pc = .ok (.getfield 73, 3)) (hr : isO 12 n r) (k : K d M Post b (pc + 3) ls ((2, σ r 33) :: st) n σ) : K d M Post b pc ls ((2, r) :: st) n σ := K_getf (j := 33) (C := RX12) (T := TX12) (N := 69) hd (by rw [ho]; exact fl12_73) hr k
theorem pf12_73 {d : Nat} {M : kM} {Post : Option kV → Nat → kS → Prop} {b : Nat × Nat} {pc : Nat} {ls : List (Nat × kV)} {st : List kV} {n : Nat} {σ : kS} {r x : Int} (ho : M.1.cls = RX12) (hi : M.1.name = "<init>") (hd : decode M.2.1 pc = .ok (.putfield 73, 3)) (hr : isO 12 n r) (k : ∀ s, s = kst σ r 33 x → K d M Post b (pc + 3) ls st n s) : K d M Post b pc ls ((2, x) :: (2, r) :: st) n σ := K_putf (j := 33) (C := RX12) (T := TX12) (N := 69) hd (by rw [ho]; exact fl12_73) ft12 (Or.inr ⟨rfl, hi, ho.symm, by rw [ho]; exact (tb6 19 rfl rfl)⟩) hr (fun _ => trivial) (k _ rfl)
theorem fl12_76 : kFL RX12 76 12 35 RX12 TX12 69 := ⟨rfl, by decide, by decide, rfl, uw12, Or.inl (tb6 21 rfl rfl)⟩
theorem gf12_76 {d : Nat} {M : kM} {Post : Option kV → Nat → kS → Prop} {b : Nat × Nat} {pc : Nat} {ls : List (Nat × kV)} {st : List kV} {n : Nat} {σ : kS} {r : Int} (ho : M.1.cls = RX12) (hd : decode M.2.1 pc = .ok (.getfield 76, 3)) (hr : isO 12 n r) (k : K d M Post b (pc + 3) ls ((2, σ r 35) :: st) n σ) : K d M Post b pc ls ((2, r) :: st) n σ := K_getf (j := 35) (C := RX12) (T := TX12) (N := 69) hd (by rw [ho]; exact fl12_76) hr k
theorem pf12_76 {d : Nat} {M : kM} {Post : Option kV → Nat → kS → Prop} {b : Nat × Nat} {pc : Nat} {ls : List (Nat × kV)} {st : List kV} {n : Nat} {σ : kS} {r x : Int} (ho : M.1.cls = RX12) (hi : M.1.name = "<init>") (hd : decode M.2.1 pc = .ok (.putfield 76, 3)) (hr : isO 12 n r) (k : ∀ s, s = kst σ r 35 x → K d M Post b (pc + 3) ls st n s) : K d M Post b pc ls ((2, x) :: (2, r) :: st) n σ := K_putf (j := 35) (C := RX12) (T := TX12) (N := 69) hd (by rw [ho]; exact fl12_76) ft12 (Or.inr ⟨rfl, hi, ho.symm, by rw [ho]; exact (tb6 21 rfl rfl)⟩) hr (fun _ => trivial) (k _ rfl)
theorem fl12_79 : kFL RX12 79 12 36 RX12 TX12 69 := ⟨rfl, by decide, by decide, rfl, uw12, Or.inl (tb6 22 rfl rfl)⟩
theorem gf12_79 {d : Nat} {M : kM} {Post : Option kV → Nat → kS → Prop} {b : Nat × Nat} {pc : Nat} {ls : List (Nat × kV)} {st : List kV} {n : Nat} {σ : kS} {r : Int} (ho : M.1.cls = RX12) (hd : decode M.2.1 pc = .ok (.getfield 79, 3)) (hr : isO 12 n r) (k : K d M Post b (pc + 3) ls ((2, σ r 36) :: st) n σ) : K d M Post b pc ls ((2, r) :: st) n σ := K_getf (j := 36) (C := RX12) (T := TX12) (N := 69) hd (by rw [ho]; exact fl12_79) hr k
theorem pf12_79 {d : Nat} {M : kM} {Post : Option kV → Nat → kS → Prop} {b : Nat × Nat} {pc : Nat} {ls : List (Nat × kV)} {st : List kV} {n : Nat} {σ : kS} {r x : Int} (ho : M.1.cls = RX12) (hi : M.1.name = "<init>") (hd : decode M.2.1 pc = .ok (.putfield 79, 3)) (hr : isO 12 n r) (k : ∀ s, s = kst σ r 36 x → K d M Post b (pc + 3) ls st n s) : K d M Post b pc ls ((2, x) :: (2, r) :: st) n σ := K_putf (j := 36) (C := RX12) (T := TX12) (N := 69) hd (by rw [ho]; exact fl12_79) ft12 (Or.inr ⟨rfl, hi, ho.symm, by rw [ho]; exact (tb6 22 rfl rfl)⟩) hr (fun _ => trivial) (k _ rfl)
theorem fl12_82 : kFL RX12 82 12 37 RX12 TX12 69 := ⟨rfl, by decide, by decide, rfl, uw12, Or.inl (tb6 23 rfl rfl)⟩
theorem gf12_82 {d : Nat} {M : kM} {Post : Option kV → Nat → kS → Prop} {b : Nat × Nat} {pc : Nat} {ls : List (Nat × kV)} {st : List kV} {n : Nat} {σ : kS} {r : Int} (ho : M.1.cls = RX12) (hd : decode M.2.1 pc = .ok (.getfield 82, 3)) (hr : isO 12 n r) (k : K d M Post b (pc + 3) ls ((2, σ r 37) :: st) n σ) : K d M Post b pc ls ((2, r) :: st) n σ := K_getf (j := 37) (C := RX12) (T := TX12) (N := 69) hd (by rw [ho]; exact fl12_82) hr k
theorem pf12_82 {d : Nat} {M : kM} {Post : Option kV → Nat → kS → Prop} {b : Nat × Nat} {pc : Nat} {ls : List (Nat × kV)} {st : List kV} {n : Nat} {σ : kS} {r x : Int} (ho : M.1.cls = RX12) (hi : M.1.name = "<init>") (hd : decode M.2.1 pc = .ok (.putfield 82, 3)) (hr : isO 12 n r) (k : ∀ s, s = kst σ r 37 x → K d M Post b (pc + 3) ls st n s) : K d M Post b pc ls ((2, x) :: (2, r) :: st) n σ := K_putf (j := 37) (C := RX12) (T := TX12) (N := 69) hd (by rw [ho]; exact fl12_82) ft12 (Or.inr ⟨rfl, hi, ho.symm, by rw [ho]; exact (tb6 23 rfl rfl)⟩) hr (fun _ => trivial) (k _ rfl)
theorem fl12_85 : kFL RX12 85 12 39 RX12 TX12 69 := ⟨rfl, by decide, by decide, rfl, uw12, Or.inl (tb6 25 rfl rfl)⟩
theorem gf12_85 {d : Nat} {M : kM} {Post : Option kV → Nat → kS → Prop} {b : Nat × Nat} {pc : Nat} {ls : List (Nat × kV)} {st : List kV} {n : Nat} {σ : kS} {r : Int} (ho : M.1.cls = RX12) (hd : decode M.2.1 pc = .ok (.getfield 85, 3)) (hr : isO 12 n r) (k : K d M Post b (pc + 3) ls ((2, σ r 39) :: st) n σ) : K d M Post b pc ls ((2, r) :: st) n σ := K_getf (j := 39) (C := RX12) (T := TX12) (N := 69) hd (by rw [ho]; exact fl12_85) hr k
theorem pf12_85 {d : Nat} {M : kM} {Post : Option kV → Nat → kS → Prop} {b : Nat × Nat} {pc : Nat} {ls : List (Nat × kV)} {st : List kV} {n : Nat} {σ : kS} {r x : Int} (ho : M.1.cls = RX12) (hi : M.1.name = "<init>") (hd : decode M.2.1 pc = .ok (.putfield 85, 3)) (hr : isO 12 n r) (k : ∀ s, s = kst σ r 39 x → K d M Post b (pc + 3) ls st n s) : K d M Post b pc ls ((2, x) :: (2, r) :: st) n σ := K_putf (j := 39) (C := RX12) (T := TX12) (N := 69) hd (by rw [ho]; exact fl12_85) ft12 (Or.inr ⟨rfl, hi, ho.symm, by rw [ho]; exact (tb6 25 rfl rfl)⟩) hr (fun _ => trivial) (k _ rfl)
theorem fl12_88 : kFL RX12 88 12 40 RX12 TX12 69 := ⟨rfl, by decide, by decide, rfl, uw12, Or.inl (tb6 26 rfl rfl)⟩
theorem gf12_88 {d : Nat} {M : kM} {Post : Option kV → Nat → kS → Prop} {b : Nat × Nat} {pc : Nat} {ls : List (Nat × kV)} {st : List kV} {n : Nat} {σ : kS} {r : Int} (ho : M.1.cls = RX12) (hd : decode M.2.1 pc = .ok (.getfield 88, 3)) (hr : isO 12 n r) (k : K d M Post b (pc + 3) ls ((2, σ r 40) :: st) n σ) : K d M Post b pc ls ((2, r) :: st) n σ := K_getf (j := 40) (C := RX12) (T := TX12) (N := 69) hd (by rw [ho]; exact fl12_88) hr k
theorem pf12_88 {d : Nat} {M : kM} {Post : Option kV → Nat → kS → Prop} {b : Nat × Nat} {pc : Nat} {ls : List (Nat × kV)} {st : List kV} {n : Nat} {σ : kS} {r x : Int} (ho : M.1.cls = RX12) (hi : M.1.name = "<init>") (hd : decode M.2.1 pc = .ok (.putfield 88, 3)) (hr : isO 12 n r) (k : ∀ s, s = kst σ r 40 x → K d M Post b (pc + 3) ls st n s) : K d M Post b pc ls ((2, x) :: (2, r) :: st) n σ := K_putf (j := 40) (C := RX12) (T := TX12) (N := 69) hd (by rw [ho]; exact fl12_88) ft12 (Or.inr ⟨rfl, hi, ho.symm, by rw [ho]; exact (tb6 26 rfl rfl)⟩) hr (fun _ => trivial) (k _ rfl)
theorem fl12_91 : kFL RX12 91 12 42 RX12 TX12 69 := ⟨rfl, by decide, by decide, rfl, uw12, Or.inl (tb6 28 rfl rfl)⟩
theorem gf12_91 {d : Nat} {M : kM} {Post : Option kV → Nat → kS → Prop} {b : Nat × Nat} {pc : Nat} {ls : List (Nat × kV)} {st : List kV} {n : Nat} {σ : kS} {r : Int} (ho : M.1.cls = RX12) (hd : decode M.2.1 pc = .ok (.getfield 91, 3)) (hr : isO 12 n r) (k : K d M Post b (pc + 3) ls ((2, σ r 42) :: st) n σ) : K d M Post b pc ls ((2, r) :: st) n σ := K_getf (j := 42) (C := RX12) (T := TX12) (N := 69) hd (by rw [ho]; exact fl12_91) hr k
theorem pf12_91 {d : Nat} {M : kM} {Post : Option kV → Nat → kS → Prop} {b : Nat × Nat} {pc : Nat} {ls : List (Nat × kV)} {st : List kV} {n : Nat} {σ : kS} {r x : Int} (ho : M.1.cls = RX12) (hi : M.1.name = "<init>") (hd : decode M.2.1 pc = .ok (.putfield 91, 3)) (hr : isO 12 n r) (k : ∀ s, s = kst σ r 42 x → K d M Post b (pc + 3) ls st n s) : K d M Post b pc ls ((2, x) :: (2, r) :: st) n σ := K_putf (j := 42) (C := RX12) (T := TX12) (N := 69) hd (by rw [ho]; exact fl12_91) ft12 (Or.inr ⟨rfl, hi, ho.symm, by rw [ho]; exact (tb6 28 rfl rfl)⟩) hr (fun _ => trivial) (k _ rfl)
theorem fl12_94 : kFL RX12 94 12 43 RX12 TX12 69 := ⟨rfl, by decide, by decide, rfl, uw12, Or.inl (tb6 29 rfl rfl)⟩
theorem gf12_94 {d : Nat} {M : kM} {Post : Option kV → Nat → kS → Prop} {b : Nat × Nat} {pc : Nat} {ls : List (Nat × kV)} {st : List kV} {n : Nat} {σ : kS} {r : Int} (ho : M.1.cls = RX12) (hd : decode M.2.1 pc = .ok (.getfield 94, 3)) (hr : isO 12 n r) (k : K d M Post b (pc + 3) ls ((2, σ r 43) :: st) n σ) : K d M Post b pc ls ((2, r) :: st) n σ := K_getf (j := 43) (C := RX12) (T := TX12) (N := 69) hd (by rw [ho]; exact fl12_94) hr k
theorem pf12_94 {d : Nat} {M : kM} {Post : Option kV → Nat → kS → Prop} {b : Nat × Nat} {pc : Nat} {ls : List (Nat × kV)} {st : List kV} {n : Nat} {σ : kS} {r x : Int} (ho : M.1.cls = RX12) (hi : M.1.name = "<init>") (hd : decode M.2.1 pc = .ok (.putfield 94, 3)) (hr : isO 12 n r) (k : ∀ s, s = kst σ r 43 x → K d M Post b (pc + 3) ls st n s) : K d M Post b pc ls ((2, x) :: (2, r) :: st) n σ := K_putf (j := 43) (C := RX12) (T := TX12) (N := 69) hd (by rw [ho]; exact fl12_94) ft12 (Or.inr ⟨rfl, hi, ho.symm, by rw [ho]; exact (tb6 29 rfl rfl)⟩) hr (fun _ => trivial) (k _ rfl)
theorem fl12_97 : kFL RX12 97 12 44 RX12 TX12 69 := ⟨rfl, by decide, by decide, rfl, uw12, Or.inl (tb6 30 rfl rfl)⟩
theorem gf12_97 {d : Nat} {M : kM} {Post : Option kV → Nat → kS → Prop} {b : Nat × Nat} {pc : Nat} {ls : List (Nat × kV)} {st : List kV} {n : Nat} {σ : kS} {r : Int} (ho : M.1.cls = RX12) (hd : decode M.2.1 pc = .ok (.getfield 97, 3)) (hr : isO 12 n r) (k : K d M Post b (pc + 3) ls ((2, σ r 44) :: st) n σ) : K d M Post b pc ls ((2, r) :: st) n σ := K_getf (j := 44) (C := RX12) (T := TX12) (N := 69) hd (by rw [ho]; exact fl12_97) hr k
theorem pf12_97 {d : Nat} {M : kM} {Post : Option kV → Nat → kS → Prop} {b : Nat × Nat} {pc : Nat} {ls : List (Nat × kV)} {st : List kV} {n : Nat} {σ : kS} {r x : Int} (ho : M.1.cls = RX12) (hi : M.1.name = "<init>") (hd : decode M.2.1 pc = .ok (.putfield 97, 3)) (hr : isO 12 n r) (k : ∀ s, s = kst σ r 44 x → K d M Post b (pc + 3) ls st n s) : K d M Post b pc ls ((2, x) :: (2, r) :: st) n σ := K_putf (j := 44) (C := RX12) (T := TX12) (N := 69) hd (by rw [ho]; exact fl12_97) ft12 (Or.inr ⟨rfl, hi, ho.symm, by rw [ho]; exact (tb6 30 rfl rfl)⟩) hr (fun _ => trivial) (k _ rfl)
theorem fl12_100 : kFL RX12 100 12 45 RX12 TX12 69 := ⟨rfl, by decide, by decide, rfl, uw12, Or.inl (tb6 31 rfl rfl)⟩
theorem gf12_100 {d : Nat} {M : kM} {Post : Option kV → Nat → kS → Prop} {b : Nat × Nat} {pc : Nat} {ls : List (Nat × kV)} {st : List kV} {n : Nat} {σ : kS} {r : Int} (ho : M.1.cls = RX12) (hd : decode M.2.1 pc = .ok (.getfield 100, 3)) (hr : isO 12 n r) (k : K d M Post b (pc + 3) ls ((2, σ r 45) :: st) n σ) : K d M Post b pc ls ((2, r) :: st) n σ := K_getf (j := 45) (C := RX12) (T := TX12) (N := 69) hd (by rw [ho]; exact fl12_100) hr k
theorem pf12_100 {d : Nat} {M : kM} {Post : Option kV → Nat → kS → Prop} {b : Nat × Nat} {pc : Nat} {ls : List (Nat × kV)} {st : List kV} {n : Nat} {σ : kS} {r x : Int} (ho : M.1.cls = RX12) (hi : M.1.name = "<init>") (hd : decode M.2.1 pc = .ok (.putfield 100, 3)) (hr : isO 12 n r) (k : ∀ s, s = kst σ r 45 x → K d M Post b (pc + 3) ls st n s) : K d M Post b pc ls ((2, x) :: (2, r) :: st) n σ := K_putf (j := 45) (C := RX12) (T := TX12) (N := 69) hd (by rw [ho]; exact fl12_100) ft12 (Or.inr ⟨rfl, hi, ho.symm, by rw [ho]; exact (tb6 31 rfl rfl)⟩) hr (fun _ => trivial) (k _ rfl)
theorem fl12_103 : kFL RX12 103 12 46 RX12 TX12 69 := ⟨rfl, by decide, by decide, rfl, uw12, Or.inl (tb6 32 rfl rfl)⟩
theorem gf12_103 {d : Nat} {M : kM} {Post : Option kV → Nat → kS → Prop} {b : Nat × Nat} {pc : Nat} {ls : List (Nat × kV)} {st : List kV} {n : Nat} {σ : kS} {r : Int} (ho : M.1.cls = RX12) (hd : decode M.2.1 pc = .ok (.getfield 103, 3)) (hr : isO 12 n r) (k : K d M Post b (pc + 3) ls ((2, σ r 46) :: st) n σ) : K d M Post b pc ls ((2, r) :: st) n σ := K_getf (j := 46) (C := RX12) (T := TX12) (N := 69) hd (by rw [ho]; exact fl12_103) hr k
theorem pf12_103 {d : Nat} {M : kM} {Post : Option kV → Nat → kS → Prop} {b : Nat × Nat} {pc : Nat} {ls : List (Nat × kV)} {st : List kV} {n : Nat} {σ : kS} {r x : Int} (ho : M.1.cls = RX12) (hi : M.1.name = "<init>") (hd : decode M.2.1 pc = .ok (.putfield 103, 3)) (hr : isO 12 n r) (k : ∀ s, s = kst σ r 46 x → K d M Post b (pc + 3) ls st n s) : K d M Post b pc ls ((2, x) :: (2, r) :: st) n σ := K_putf (j := 46) (C := RX12) (T := TX12) (N := 69) hd (by rw [ho]; exact fl12_103) ft12 (Or.inr ⟨rfl, hi, ho.symm, by rw [ho]; exact (tb6 32 rfl rfl)⟩) hr (fun _ => trivial) (k _ rfl)
theorem fl12_106 : kFL RX12 106 12 47 RX12 TX12 69 := ⟨rfl, by decide, by decide, rfl, uw12, Or.inl (tb6 33 rfl rfl)⟩
theorem gf12_106 {d : Nat} {M : kM} {Post : Option kV → Nat → kS → Prop} {b : Nat × Nat} {pc : Nat} {ls : List (Nat × kV)} {st : List kV} {n : Nat} {σ : kS} {r : Int} (ho : M.1.cls = RX12) (hd : decode M.2.1 pc = .ok (.getfield 106, 3)) (hr : isO 12 n r) (k : K d M Post b (pc + 3) ls ((2, σ r 47) :: st) n σ) : K d M Post b pc ls ((2, r) :: st) n σ := K_getf (j := 47) (C := RX12) (T := TX12) (N := 69) hd (by rw [ho]; exact fl12_106) hr k
theorem pf12_106 {d : Nat} {M : kM} {Post : Option kV → Nat → kS → Prop} {b : Nat × Nat} {pc : Nat} {ls : List (Nat × kV)} {st : List kV} {n : Nat} {σ : kS} {r x : Int} (ho : M.1.cls = RX12) (hi : M.1.name = "<init>") (hd : decode M.2.1 pc = .ok (.putfield 106, 3)) (hr : isO 12 n r) (k : ∀ s, s = kst σ r 47 x → K d M Post b (pc + 3) ls st n s) : K d M Post b pc ls ((2, x) :: (2, r) :: st) n σ := K_putf (j := 47) (C := RX12) (T := TX12) (N := 69) hd (by rw [ho]; exact fl12_106) ft12 (Or.inr ⟨rfl, hi, ho.symm, by rw [ho]; exact (tb6 33 rfl rfl)⟩) hr (fun _ => trivial) (k _ rfl)
theorem fl12_109 : kFL RX12 109 12 48 RX12 TX12 69 := ⟨rfl, by decide, by decide, rfl, uw12, Or.inl (tb6 34 rfl rfl)⟩
theorem gf12_109 {d : Nat} {M : kM} {Post : Option kV → Nat → kS → Prop} {b : Nat × Nat} {pc : Nat} {ls : List (Nat × kV)} {st : List kV} {n : Nat} {σ : kS} {r : Int} (ho : M.1.cls = RX12) (hd : decode M.2.1 pc = .ok (.getfield 109, 3)) (hr : isO 12 n r) (k : K d M Post b (pc + 3) ls ((2, σ r 48) :: st) n σ) : K d M Post b pc ls ((2, r) :: st) n σ := K_getf (j := 48) (C := RX12) (T := TX12) (N := 69) hd (by rw [ho]; exact fl12_109) hr k
theorem pf12_109 {d : Nat} {M : kM} {Post : Option kV → Nat → kS → Prop} {b : Nat × Nat} {pc : Nat} {ls : List (Nat × kV)} {st : List kV} {n : Nat} {σ : kS} {r x : Int} (ho : M.1.cls = RX12) (hi : M.1.name = "<init>") (hd : decode M.2.1 pc = .ok (.putfield 109, 3)) (hr : isO 12 n r) (k : ∀ s, s = kst σ r 48 x → K d M Post b (pc + 3) ls st n s) : K d M Post b pc ls ((2, x) :: (2, r) :: st) n σ := K_putf (j := 48) (C := RX12) (T := TX12) (N := 69) hd (by rw [ho]; exact fl12_109) ft12 (Or.inr ⟨rfl, hi, ho.symm, by rw [ho]; exact (tb6 34 rfl rfl)⟩) hr (fun _ => trivial) (k _ rfl)
theorem fl12_112 : kFL RX12 112 12 50 RX12 TX12 69 := ⟨rfl, by decide, by decide, rfl, uw12, Or.inl (tb6 36 rfl rfl)⟩
theorem gf12_112 {d : Nat} {M : kM} {Post : Option kV → Nat → kS → Prop} {b : Nat × Nat} {pc : Nat} {ls : List (Nat × kV)} {st : List kV} {n : Nat} {σ : kS} {r : Int} (ho : M.1.cls = RX12) (hd : decode M.2.1 pc = .ok (.getfield 112, 3)) (hr : isO 12 n r) (k : K d M Post b (pc + 3) ls ((2, σ r 50) :: st) n σ) : K d M Post b pc ls ((2, r) :: st) n σ := K_getf (j := 50) (C := RX12) (T := TX12) (N := 69) hd (by rw [ho]; exact fl12_112) hr k
theorem pf12_112 {d : Nat} {M : kM} {Post : Option kV → Nat → kS → Prop} {b : Nat × Nat} {pc : Nat} {ls : List (Nat × kV)} {st : List kV} {n : Nat} {σ : kS} {r x : Int} (ho : M.1.cls = RX12) (hi : M.1.name = "<init>") (hd : decode M.2.1 pc = .ok (.putfield 112, 3)) (hr : isO 12 n r) (k : ∀ s, s = kst σ r 50 x → K d M Post b (pc + 3) ls st n s) : K d M Post b pc ls ((2, x) :: (2, r) :: st) n σ := K_putf (j := 50) (C := RX12) (T := TX12) (N := 69) hd (by rw [ho]; exact fl12_112) ft12 (Or.inr ⟨rfl, hi, ho.symm, by rw [ho]; exact (tb6 36 rfl rfl)⟩) hr (fun _ => trivial) (k _ rfl)
theorem fl12_115 : kFL RX12 115 12 51 RX12 TX12 69 := ⟨rfl, by decide, by decide, rfl, uw12, Or.inl (tb6 37 rfl rfl)⟩
theorem gf12_115 {d : Nat} {M : kM} {Post : Option kV → Nat → kS → Prop} {b : Nat × Nat} {pc : Nat} {ls : List (Nat × kV)} {st : List kV} {n : Nat} {σ : kS} {r : Int} (ho : M.1.cls = RX12) (hd : decode M.2.1 pc = .ok (.getfield 115, 3)) (hr : isO 12 n r) (k : K d M Post b (pc + 3) ls ((2, σ r 51) :: st) n σ) : K d M Post b pc ls ((2, r) :: st) n σ := K_getf (j := 51) (C := RX12) (T := TX12) (N := 69) hd (by rw [ho]; exact fl12_115) hr k
theorem pf12_115 {d : Nat} {M : kM} {Post : Option kV → Nat → kS → Prop} {b : Nat × Nat} {pc : Nat} {ls : List (Nat × kV)} {st : List kV} {n : Nat} {σ : kS} {r x : Int} (ho : M.1.cls = RX12) (hi : M.1.name = "<init>") (hd : decode M.2.1 pc = .ok (.putfield 115, 3)) (hr : isO 12 n r) (k : ∀ s, s = kst σ r 51 x → K d M Post b (pc + 3) ls st n s) : K d M Post b pc ls ((2, x) :: (2, r) :: st) n σ := K_putf (j := 51) (C := RX12) (T := TX12) (N := 69) hd (by rw [ho]; exact fl12_115) ft12 (Or.inr ⟨rfl, hi, ho.symm, by rw [ho]; exact (tb6 37 rfl rfl)⟩) hr (fun _ => trivial) (k _ rfl)
theorem fl12_118 : kFL RX12 118 12 52 RX12 TX12 69 := ⟨rfl, by decide, by decide, rfl, uw12, Or.inl (tb6 38 rfl rfl)⟩
theorem gf12_118 {d : Nat} {M : kM} {Post : Option kV → Nat → kS → Prop} {b : Nat × Nat} {pc : Nat} {ls : List (Nat × kV)} {st : List kV} {n : Nat} {σ : kS} {r : Int} (ho : M.1.cls = RX12) (hd : decode M.2.1 pc = .ok (.getfield 118, 3)) (hr : isO 12 n r) (k : K d M Post b (pc + 3) ls ((2, σ r 52) :: st) n σ) : K d M Post b pc ls ((2, r) :: st) n σ := K_getf (j := 52) (C := RX12) (T := TX12) (N := 69) hd (by rw [ho]; exact fl12_118) hr k
theorem pf12_118 {d : Nat} {M : kM} {Post : Option kV → Nat → kS → Prop} {b : Nat × Nat} {pc : Nat} {ls : List (Nat × kV)} {st : List kV} {n : Nat} {σ : kS} {r x : Int} (ho : M.1.cls = RX12) (hi : M.1.name = "<init>") (hd : decode M.2.1 pc = .ok (.putfield 118, 3)) (hr : isO 12 n r) (k : ∀ s, s = kst σ r 52 x → K d M Post b (pc + 3) ls st n s) : K d M Post b pc ls ((2, x) :: (2, r) :: st) n σ := K_putf (j := 52) (C := RX12) (T := TX12) (N := 69) hd (by rw [ho]; exact fl12_118) ft12 (Or.inr ⟨rfl, hi, ho.symm, by rw [ho]; exact (tb6 38 rfl rfl)⟩) hr (fun _ => trivial) (k _ rfl)
theorem fl12_121 : kFL RX12 121 12 53 RX12 TX12 69 := ⟨rfl, by decide, by decide, rfl, uw12, Or.inl (tb6 39 rfl rfl)⟩
theorem gf12_121 {d : Nat} {M : kM} {Post : Option kV → Nat → kS → Prop} {b : Nat × Nat} {pc : Nat} {ls : List (Nat × kV)} {st : List kV} {n : Nat} {σ : kS} {r : Int} (ho : M.1.cls = RX12) (hd : decode M.2.1 pc = .ok (.getfield 121, 3)) (hr : isO 12 n r) (k : K d M Post b (pc + 3) ls ((2, σ r 53) :: st) n σ) : K d M Post b pc ls ((2, r) :: st) n σ := K_getf (j := 53) (C := RX12) (T := TX12) (N := 69) hd (by rw [ho]; exact fl12_121) hr k
theorem pf12_121 {d : Nat} {M : kM} {Post : Option kV → Nat → kS → Prop} {b : Nat × Nat} {pc : Nat} {ls : List (Nat × kV)} {st : List kV} {n : Nat} {σ : kS} {r x : Int} (ho : M.1.cls = RX12) (hi : M.1.name = "<init>") (hd : decode M.2.1 pc = .ok (.putfield 121, 3)) (hr : isO 12 n r) (k : ∀ s, s = kst σ r 53 x → K d M Post b (pc + 3) ls st n s) : K d M Post b pc ls ((2, x) :: (2, r) :: st) n σ := K_putf (j := 53) (C := RX12) (T := TX12) (N := 69) hd (by rw [ho]; exact fl12_121) ft12 (Or.inr ⟨rfl, hi, ho.symm, by rw [ho]; exact (tb6 39 rfl rfl)⟩) hr (fun _ => trivial) (k _ rfl)
theorem fl12_124 : kFL RX12 124 12 55 RX12 TX12 69 := ⟨rfl, by decide, by decide, rfl, uw12, Or.inl (tb6 41 rfl rfl)⟩
theorem gf12_124 {d : Nat} {M : kM} {Post : Option kV → Nat → kS → Prop} {b : Nat × Nat} {pc : Nat} {ls : List (Nat × kV)} {st : List kV} {n : Nat} {σ : kS} {r : Int} (ho : M.1.cls = RX12) (hd : decode M.2.1 pc = .ok (.getfield 124, 3)) (hr : isO 12 n r) (k : K d M Post b (pc + 3) ls ((2, σ r 55) :: st) n σ) : K d M Post b pc ls ((2, r) :: st) n σ := K_getf (j := 55) (C := RX12) (T := TX12) (N := 69) hd (by rw [ho]; exact fl12_124) hr k
theorem pf12_124 {d : Nat} {M : kM} {Post : Option kV → Nat → kS → Prop} {b : Nat × Nat} {pc : Nat} {ls : List (Nat × kV)} {st : List kV} {n : Nat} {σ : kS} {r x : Int} (ho : M.1.cls = RX12) (hi : M.1.name = "<init>") (hd : decode M.2.1 pc = .ok (.putfield 124, 3)) (hr : isO 12 n r) (k : ∀ s, s = kst σ r 55 x → K d M Post b (pc + 3) ls st n s) : K d M Post b pc ls ((2, x) :: (2, r) :: st) n σ := K_putf (j := 55) (C := RX12) (T := TX12) (N := 69) hd (by rw [ho]; exact fl12_124) ft12 (Or.inr ⟨rfl, hi, ho.symm, by rw [ho]; exact (tb6 41 rfl rfl)⟩) hr (fun _ => trivial) (k _ rfl)
theorem fl12_127 : kFL RX12 127 12 56 RX12 TX12 69 := ⟨rfl, by decide, by decide, rfl, uw12, Or.inl (tb6 42 rfl rfl)⟩
theorem gf12_127 {d : Nat} {M : kM} {Post : Option kV → Nat → kS → Prop} {b : Nat × Nat} {pc : Nat} {ls : List (Nat × kV)} {st : List kV} {n : Nat} {σ : kS} {r : Int} (ho : M.1.cls = RX12) (hd : decode M.2.1 pc = .ok (.getfield 127, 3)) (hr : isO 12 n r) (k : K d M Post b (pc + 3) ls ((2, σ r 56) :: st) n σ) : K d M Post b pc ls ((2, r) :: st) n σ := K_getf (j := 56) (C := RX12) (T := TX12) (N := 69) hd (by rw [ho]; exact fl12_127) hr k
theorem pf12_127 {d : Nat} {M : kM} {Post : Option kV → Nat → kS → Prop} {b : Nat × Nat} {pc : Nat} {ls : List (Nat × kV)} {st : List kV} {n : Nat} {σ : kS} {r x : Int} (ho : M.1.cls = RX12) (hi : M.1.name = "<init>") (hd : decode M.2.1 pc = .ok (.putfield 127, 3)) (hr : isO 12 n r) (k : ∀ s, s = kst σ r 56 x → K d M Post b (pc + 3) ls st n s) : K d M Post b pc ls ((2, x) :: (2, r) :: st) n σ := K_putf (j := 56) (C := RX12) (T := TX12) (N := 69) hd (by rw [ho]; exact fl12_127) ft12 (Or.inr ⟨rfl, hi, ho.symm, by rw [ho]; exact (tb6 42 rfl rfl)⟩) hr (fun _ => trivial) (k _ rfl)
theorem fl12_130 : kFL RX12 130 12 57 RX12 TX12 69 := ⟨rfl, by decide, by decide, rfl, uw12, Or.inl (tb6 43 rfl rfl)⟩
theorem gf12_130 {d : Nat} {M : kM} {Post : Option kV → Nat → kS → Prop} {b : Nat × Nat} {pc : Nat} {ls : List (Nat × kV)} {st : List kV} {n : Nat} {σ : kS} {r : Int} (ho : M.1.cls = RX12) (hd : decode M.2.1 pc = .ok (.getfield 130, 3)) (hr : isO 12 n r) (k : K d M Post b (pc + 3) ls ((2, σ r 57) :: st) n σ) : K d M Post b pc ls ((2, r) :: st) n σ := K_getf (j := 57) (C := RX12) (T := TX12) (N := 69) hd (by rw [ho]; exact fl12_130) hr k
theorem pf12_130 {d : Nat} {M : kM} {Post : Option kV → Nat → kS → Prop} {b : Nat × Nat} {pc : Nat} {ls : List (Nat × kV)} {st : List kV} {n : Nat} {σ : kS} {r x : Int} (ho : M.1.cls = RX12) (hi : M.1.name = "<init>") (hd : decode M.2.1 pc = .ok (.putfield 130, 3)) (hr : isO 12 n r) (k : ∀ s, s = kst σ r 57 x → K d M Post b (pc + 3) ls st n s) : K d M Post b pc ls ((2, x) :: (2, r) :: st) n σ := K_putf (j := 57) (C := RX12) (T := TX12) (N := 69) hd (by rw [ho]; exact fl12_130) ft12 (Or.inr ⟨rfl, hi, ho.symm, by rw [ho]; exact (tb6 43 rfl rfl)⟩) hr (fun _ => trivial) (k _ rfl)
theorem fl12_133 : kFL RX12 133 12 59 RX12 TX12 69 := ⟨rfl, by decide, by decide, rfl, uw12, Or.inl (tb6 45 rfl rfl)⟩
theorem gf12_133 {d : Nat} {M : kM} {Post : Option kV → Nat → kS → Prop} {b : Nat × Nat} {pc : Nat} {ls : List (Nat × kV)} {st : List kV} {n : Nat} {σ : kS} {r : Int} (ho : M.1.cls = RX12) (hd : decode M.2.1 pc = .ok (.getfield 133, 3)) (hr : isO 12 n r) (k : K d M Post b (pc + 3) ls ((2, σ r 59) :: st) n σ) : K d M Post b pc ls ((2, r) :: st) n σ := K_getf (j := 59) (C := RX12) (T := TX12) (N := 69) hd (by rw [ho]; exact fl12_133) hr k
theorem pf12_133 {d : Nat} {M : kM} {Post : Option kV → Nat → kS → Prop} {b : Nat × Nat} {pc : Nat} {ls : List (Nat × kV)} {st : List kV} {n : Nat} {σ : kS} {r x : Int} (ho : M.1.cls = RX12) (hi : M.1.name = "<init>") (hd : decode M.2.1 pc = .ok (.putfield 133, 3)) (hr : isO 12 n r) (k : ∀ s, s = kst σ r 59 x → K d M Post b (pc + 3) ls st n s) : K d M Post b pc ls ((2, x) :: (2, r) :: st) n σ := K_putf (j := 59) (C := RX12) (T := TX12) (N := 69) hd (by rw [ho]; exact fl12_133) ft12 (Or.inr ⟨rfl, hi, ho.symm, by rw [ho]; exact (tb6 45 rfl rfl)⟩) hr (fun _ => trivial) (k _ rfl)
theorem fl12_136 : kFL RX12 136 12 60 RX12 TX12 69 := ⟨rfl, by decide, by decide, rfl, uw12, Or.inl (tb6 46 rfl rfl)⟩
theorem gf12_136 {d : Nat} {M : kM} {Post : Option kV → Nat → kS → Prop} {b : Nat × Nat} {pc : Nat} {ls : List (Nat × kV)} {st : List kV} {n : Nat} {σ : kS} {r : Int} (ho : M.1.cls = RX12) (hd : decode M.2.1 pc = .ok (.getfield 136, 3)) (hr : isO 12 n r) (k : K d M Post b (pc + 3) ls ((2, σ r 60) :: st) n σ) : K d M Post b pc ls ((2, r) :: st) n σ := K_getf (j := 60) (C := RX12) (T := TX12) (N := 69) hd (by rw [ho]; exact fl12_136) hr k
theorem pf12_136 {d : Nat} {M : kM} {Post : Option kV → Nat → kS → Prop} {b : Nat × Nat} {pc : Nat} {ls : List (Nat × kV)} {st : List kV} {n : Nat} {σ : kS} {r x : Int} (ho : M.1.cls = RX12) (hi : M.1.name = "<init>") (hd : decode M.2.1 pc = .ok (.putfield 136, 3)) (hr : isO 12 n r) (k : ∀ s, s = kst σ r 60 x → K d M Post b (pc + 3) ls st n s) : K d M Post b pc ls ((2, x) :: (2, r) :: st) n σ := K_putf (j := 60) (C := RX12) (T := TX12) (N := 69) hd (by rw [ho]; exact fl12_136) ft12 (Or.inr ⟨rfl, hi, ho.symm, by rw [ho]; exact (tb6 46 rfl rfl)⟩) hr (fun _ => trivial) (k _ rfl)
theorem fl12_139 : kFL RX12 139 12 65 RX12 TX12 69 := ⟨rfl, by decide, by decide, rfl, uw12, Or.inl (tb6 51 rfl rfl)⟩
theorem gf12_139 {d : Nat} {M : kM} {Post : Option kV → Nat → kS → Prop} {b : Nat × Nat} {pc : Nat} {ls : List (Nat × kV)} {st : List kV} {n : Nat} {σ : kS} {r : Int} (ho : M.1.cls = RX12) (hd : decode M.2.1 pc = .ok (.getfield 139, 3)) (hr : isO 12 n r) (k : K d M Post b (pc + 3) ls ((2, σ r 65) :: st) n σ) : K d M Post b pc ls ((2, r) :: st) n σ := K_getf (j := 65) (C := RX12) (T := TX12) (N := 69) hd (by rw [ho]; exact fl12_139) hr k
theorem pf12_139 {d : Nat} {M : kM} {Post : Option kV → Nat → kS → Prop} {b : Nat × Nat} {pc : Nat} {ls : List (Nat × kV)} {st : List kV} {n : Nat} {σ : kS} {r x : Int} (ho : M.1.cls = RX12) (hi : M.1.name = "<init>") (hd : decode M.2.1 pc = .ok (.putfield 139, 3)) (hr : isO 12 n r) (k : ∀ s, s = kst σ r 65 x → K d M Post b (pc + 3) ls st n s) : K d M Post b pc ls ((2, x) :: (2, r) :: st) n σ := K_putf (j := 65) (C := RX12) (T := TX12) (N := 69) hd (by rw [ho]; exact fl12_139) ft12 (Or.inr ⟨rfl, hi, ho.symm, by rw [ho]; exact (tb6 51 rfl rfl)⟩) hr (fun _ => trivial) (k _ rfl)
theorem fl12_142 : kFL RX12 142 12 66 RX12 TX12 69 := ⟨rfl, by decide, by decide, rfl, uw12, Or.inl (tb6 52 rfl rfl)⟩
theorem gf12_142 {d : Nat} {M : kM} {Post : Option kV → Nat → kS → Prop} {b : Nat × Nat} {pc : Nat} {ls : List (Nat × kV)} {st : List kV} {n : Nat} {σ : kS} {r : Int} (ho : M.1.cls = RX12) (hd : decode M.2.1 pc = .ok (.getfield 142, 3)) (hr : isO 12 n r) (k : K d M Post b (pc + 3) ls ((2, σ r 66) :: st) n σ) : K d M Post b pc ls ((2, r) :: st) n σ := K_getf (j := 66) (C := RX12) (T := TX12) (N := 69) hd (by rw [ho]; exact fl12_142) hr k
theorem pf12_142 {d : Nat} {M : kM} {Post : Option kV → Nat → kS → Prop} {b : Nat × Nat} {pc : Nat} {ls : List (Nat × kV)} {st : List kV} {n : Nat} {σ : kS} {r x : Int} (ho : M.1.cls = RX12) (hi : M.1.name = "<init>") (hd : decode M.2.1 pc = .ok (.putfield 142, 3)) (hr : isO 12 n r) (k : ∀ s, s = kst σ r 66 x → K d M Post b (pc + 3) ls st n s) : K d M Post b pc ls ((2, x) :: (2, r) :: st) n σ := K_putf (j := 66) (C := RX12) (T := TX12) (N := 69) hd (by rw [ho]; exact fl12_142) ft12 (Or.inr ⟨rfl, hi, ho.symm, by rw [ho]; exact (tb6 52 rfl rfl)⟩) hr (fun _ => trivial) (k _ rfl)
theorem fl12_145 : kFL RX12 145 12 67 RX12 TX12 69 := ⟨rfl, by decide, by decide, rfl, uw12, Or.inl (tb6 53 rfl rfl)⟩
theorem gf12_145 {d : Nat} {M : kM} {Post : Option kV → Nat → kS → Prop} {b : Nat × Nat} {pc : Nat} {ls : List (Nat × kV)} {st : List kV} {n : Nat} {σ : kS} {r : Int} (ho : M.1.cls = RX12) (hd : decode M.2.1 pc = .ok (.getfield 145, 3)) (hr : isO 12 n r) (k : K d M Post b (pc + 3) ls ((2, σ r 67) :: st) n σ) : K d M Post b pc ls ((2, r) :: st) n σ := K_getf (j := 67) (C := RX12) (T := TX12) (N := 69) hd (by rw [ho]; exact fl12_145) hr k
theorem pf12_145 {d : Nat} {M : kM} {Post : Option kV → Nat → kS → Prop} {b : Nat × Nat} {pc : Nat} {ls : List (Nat × kV)} {st : List kV} {n : Nat} {σ : kS} {r x : Int} (ho : M.1.cls = RX12) (hi : M.1.name = "<init>") (hd : decode M.2.1 pc = .ok (.putfield 145, 3)) (hr : isO 12 n r) (k : ∀ s, s = kst σ r 67 x → K d M Post b (pc + 3) ls st n s) : K d M Post b pc ls ((2, x) :: (2, r) :: st) n σ := K_putf (j := 67) (C := RX12) (T := TX12) (N := 69) hd (by rw [ho]; exact fl12_145) ft12 (Or.inr ⟨rfl, hi, ho.symm, by rw [ho]; exact (tb6 53 rfl rfl)⟩) hr (fun _ => trivial) (k _ rfl)
theorem fl12_149 : kFL RX12 149 12 0 RX12 TX12 69 := ⟨rfl, by decide, by decide, rfl, uw12, Or.inl (tb5 226 rfl rfl)⟩
theorem gf12_149 {d : Nat} {M : kM} {Post : Option kV → Nat → kS → Prop} {b : Nat × Nat} {pc : Nat} {ls : List (Nat × kV)} {st : List kV} {n : Nat} {σ : kS} {r : Int} (ho : M.1.cls = RX12) (hd : decode M.2.1 pc = .ok (.getfield 149, 3)) (hr : isO 12 n r) (k : K d M Post b (pc + 3) ls ((0, σ r 0) :: st) n σ) : K d M Post b pc ls ((2, r) :: st) n σ := K_getf (j := 0) (C := RX12) (T := TX12) (N := 69) hd (by rw [ho]; exact fl12_149) hr k
theorem pf12_149 {d : Nat} {M : kM} {Post : Option kV → Nat → kS → Prop} {b : Nat × Nat} {pc : Nat} {ls : List (Nat × kV)} {st : List kV} {n : Nat} {σ : kS} {r x : Int} (ho : M.1.cls = RX12) (hd : decode M.2.1 pc = .ok (.putfield 149, 3)) (hr : isO 12 n r) (k : ∀ s, s = kst σ r 0 x → K d M Post b (pc + 3) ls st n s) : K d M Post b pc ls ((0, x) :: (2, r) :: st) n σ := K_putf (j := 0) (C := RX12) (T := TX12) (N := 69) hd (by rw [ho]; exact fl12_149) ft12 (Or.inl rfl) hr (fun h => h) (k _ rfl)
theorem fl12_165 : kFL RX12 165 12 3 RX12 TX12 69 := ⟨rfl, by decide, by decide, rfl, uw12, Or.inl (tb5 229 rfl rfl)⟩
theorem gf12_165 {d : Nat} {M : kM} {Post : Option kV → Nat → kS → Prop} {b : Nat × Nat} {pc : Nat} {ls : List (Nat × kV)} {st : List kV} {n : Nat} {σ : kS} {r : Int} (ho : M.1.cls = RX12) (hd : decode M.2.1 pc = .ok (.getfield 165, 3)) (hr : isO 12 n r) (k : K d M Post b (pc + 3) ls ((0, σ r 3) :: st) n σ) : K d M Post b pc ls ((2, r) :: st) n σ := K_getf (j := 3) (C := RX12) (T := TX12) (N := 69) hd (by rw [ho]; exact fl12_165) hr k
theorem pf12_165 {d : Nat} {M : kM} {Post : Option kV → Nat → kS → Prop} {b : Nat × Nat} {pc : Nat} {ls : List (Nat × kV)} {st : List kV} {n : Nat} {σ : kS} {r x : Int} (ho : M.1.cls = RX12) (hd : decode M.2.1 pc = .ok (.putfield 165, 3)) (hr : isO 12 n r) (k : ∀ s, s = kst σ r 3 x → K d M Post b (pc + 3) ls st n s) : K d M Post b pc ls ((0, x) :: (2, r) :: st) n σ := K_putf (j := 3) (C := RX12) (T := TX12) (N := 69) hd (by rw [ho]; exact fl12_165) ft12 (Or.inl rfl) hr (fun h => h) (k _ rfl)
theorem fl12_194 : kFL RX12 194 12 13 RX12 TX12 69 := ⟨rfl, by decide, by decide, rfl, uw12, Or.inl (tb5 239 rfl rfl)⟩
theorem gf12_194 {d : Nat} {M : kM} {Post : Option kV → Nat → kS → Prop} {b : Nat × Nat} {pc : Nat} {ls : List (Nat × kV)} {st : List kV} {n : Nat} {σ : kS} {r : Int} (ho : M.1.cls = RX12) (hd : decode M.2.1 pc = .ok (.getfield 194, 3)) (hr : isO 12 n r) (k : K d M Post b (pc + 3) ls ((0, σ r 13) :: st) n σ) : K d M Post b pc ls ((2, r) :: st) n σ := K_getf (j := 13) (C := RX12) (T := TX12) (N := 69) hd (by rw [ho]; exact fl12_194) hr k
theorem pf12_194 {d : Nat} {M : kM} {Post : Option kV → Nat → kS → Prop} {b : Nat × Nat} {pc : Nat} {ls : List (Nat × kV)} {st : List kV} {n : Nat} {σ : kS} {r x : Int} (ho : M.1.cls = RX12) (hd : decode M.2.1 pc = .ok (.putfield 194, 3)) (hr : isO 12 n r) (k : ∀ s, s = kst σ r 13 x → K d M Post b (pc + 3) ls st n s) : K d M Post b pc ls ((0, x) :: (2, r) :: st) n σ := K_putf (j := 13) (C := RX12) (T := TX12) (N := 69) hd (by rw [ho]; exact fl12_194) ft12 (Or.inl rfl) hr (fun h => h) (k _ rfl)
theorem fl12_203 : kFL RX12 203 12 18 RX12 TX12 69 := ⟨rfl, by decide, by decide, rfl, uw12, Or.inl (tb6 4 rfl rfl)⟩
theorem gf12_203 {d : Nat} {M : kM} {Post : Option kV → Nat → kS → Prop} {b : Nat × Nat} {pc : Nat} {ls : List (Nat × kV)} {st : List kV} {n : Nat} {σ : kS} {r : Int} (ho : M.1.cls = RX12) (hd : decode M.2.1 pc = .ok (.getfield 203, 3)) (hr : isO 12 n r) (k : K d M Post b (pc + 3) ls ((0, σ r 18) :: st) n σ) : K d M Post b pc ls ((2, r) :: st) n σ := K_getf (j := 18) (C := RX12) (T := TX12) (N := 69) hd (by rw [ho]; exact fl12_203) hr k
theorem pf12_203 {d : Nat} {M : kM} {Post : Option kV → Nat → kS → Prop} {b : Nat × Nat} {pc : Nat} {ls : List (Nat × kV)} {st : List kV} {n : Nat} {σ : kS} {r x : Int} (ho : M.1.cls = RX12) (hd : decode M.2.1 pc = .ok (.putfield 203, 3)) (hr : isO 12 n r) (k : ∀ s, s = kst σ r 18 x → K d M Post b (pc + 3) ls st n s) : K d M Post b pc ls ((0, x) :: (2, r) :: st) n σ := K_putf (j := 18) (C := RX12) (T := TX12) (N := 69) hd (by rw [ho]; exact fl12_203) ft12 (Or.inl rfl) hr (fun h => h) (k _ rfl)
theorem fl12_206 : kFL RX12 206 12 17 RX12 TX12 69 := ⟨rfl, by decide, by decide, rfl, uw12, Or.inl (tb6 3 rfl rfl)⟩
theorem gf12_206 {d : Nat} {M : kM} {Post : Option kV → Nat → kS → Prop} {b : Nat × Nat} {pc : Nat} {ls : List (Nat × kV)} {st : List kV} {n : Nat} {σ : kS} {r : Int} (ho : M.1.cls = RX12) (hd : decode M.2.1 pc = .ok (.getfield 206, 3)) (hr : isO 12 n r) (k : K d M Post b (pc + 3) ls ((0, σ r 17) :: st) n σ) : K d M Post b pc ls ((2, r) :: st) n σ := K_getf (j := 17) (C := RX12) (T := TX12) (N := 69) hd (by rw [ho]; exact fl12_206) hr k
theorem pf12_206 {d : Nat} {M : kM} {Post : Option kV → Nat → kS → Prop} {b : Nat × Nat} {pc : Nat} {ls : List (Nat × kV)} {st : List kV} {n : Nat} {σ : kS} {r x : Int} (ho : M.1.cls = RX12) (hd : decode M.2.1 pc = .ok (.putfield 206, 3)) (hr : isO 12 n r) (k : ∀ s, s = kst σ r 17 x → K d M Post b (pc + 3) ls st n s) : K d M Post b pc ls ((0, x) :: (2, r) :: st) n σ := K_putf (j := 17) (C := RX12) (T := TX12) (N := 69) hd (by rw [ho]; exact fl12_206) ft12 (Or.inl rfl) hr (fun h => h) (k _ rfl)
theorem fl12_209 : kFL RX12 209 12 16 RX12 TX12 69 := ⟨rfl, by decide, by decide, rfl, uw12, Or.inl (tb6 2 rfl rfl)⟩
theorem gf12_209 {d : Nat} {M : kM} {Post : Option kV → Nat → kS → Prop} {b : Nat × Nat} {pc : Nat} {ls : List (Nat × kV)} {st : List kV} {n : Nat} {σ : kS} {r : Int} (ho : M.1.cls = RX12) (hd : decode M.2.1 pc = .ok (.getfield 209, 3)) (hr : isO 12 n r) (k : K d M Post b (pc + 3) ls ((0, σ r 16) :: st) n σ) : K d M Post b pc ls ((2, r) :: st) n σ := K_getf (j := 16) (C := RX12) (T := TX12) (N := 69) hd (by rw [ho]; exact fl12_209) hr k
theorem pf12_209 {d : Nat} {M : kM} {Post : Option kV → Nat → kS → Prop} {b : Nat × Nat} {pc : Nat} {ls : List (Nat × kV)} {st : List kV} {n : Nat} {σ : kS} {r x : Int} (ho : M.1.cls = RX12) (hd : decode M.2.1 pc = .ok (.putfield 209, 3)) (hr : isO 12 n r) (k : ∀ s, s = kst σ r 16 x → K d M Post b (pc + 3) ls st n s) : K d M Post b pc ls ((0, x) :: (2, r) :: st) n σ := K_putf (j := 16) (C := RX12) (T := TX12) (N := 69) hd (by rw [ho]; exact fl12_209) ft12 (Or.inl rfl) hr (fun h => h) (k _ rfl)
theorem fl12_212 : kFL RX12 212 12 19 RX12 TX12 69 := ⟨rfl, by decide, by decide, rfl, uw12, Or.inl (tb6 5 rfl rfl)⟩
theorem gf12_212 {d : Nat} {M : kM} {Post : Option kV → Nat → kS → Prop} {b : Nat × Nat} {pc : Nat} {ls : List (Nat × kV)} {st : List kV} {n : Nat} {σ : kS} {r : Int} (ho : M.1.cls = RX12) (hd : decode M.2.1 pc = .ok (.getfield 212, 3)) (hr : isO 12 n r) (k : K d M Post b (pc + 3) ls ((0, σ r 19) :: st) n σ) : K d M Post b pc ls ((2, r) :: st) n σ := K_getf (j := 19) (C := RX12) (T := TX12) (N := 69) hd (by rw [ho]; exact fl12_212) hr k
theorem pf12_212 {d : Nat} {M : kM} {Post : Option kV → Nat → kS → Prop} {b : Nat × Nat} {pc : Nat} {ls : List (Nat × kV)} {st : List kV} {n : Nat} {σ : kS} {r x : Int} (ho : M.1.cls = RX12) (hd : decode M.2.1 pc = .ok (.putfield 212, 3)) (hr : isO 12 n r) (k : ∀ s, s = kst σ r 19 x → K d M Post b (pc + 3) ls st n s) : K d M Post b pc ls ((0, x) :: (2, r) :: st) n σ := K_putf (j := 19) (C := RX12) (T := TX12) (N := 69) hd (by rw [ho]; exact fl12_212) ft12 (Or.inl rfl) hr (fun h => h) (k _ rfl)
theorem fl12_215 : kFL RX12 215 12 20 RX12 TX12 69 := ⟨rfl, by decide, by decide, rfl, uw12, Or.inl (tb6 6 rfl rfl)⟩
theorem gf12_215 {d : Nat} {M : kM} {Post : Option kV → Nat → kS → Prop} {b : Nat × Nat} {pc : Nat} {ls : List (Nat × kV)} {st : List kV} {n : Nat} {σ : kS} {r : Int} (ho : M.1.cls = RX12) (hd : decode M.2.1 pc = .ok (.getfield 215, 3)) (hr : isO 12 n r) (k : K d M Post b (pc + 3) ls ((0, σ r 20) :: st) n σ) : K d M Post b pc ls ((2, r) :: st) n σ := K_getf (j := 20) (C := RX12) (T := TX12) (N := 69) hd (by rw [ho]; exact fl12_215) hr k
theorem pf12_215 {d : Nat} {M : kM} {Post : Option kV → Nat → kS → Prop} {b : Nat × Nat} {pc : Nat} {ls : List (Nat × kV)} {st : List kV} {n : Nat} {σ : kS} {r x : Int} (ho : M.1.cls = RX12) (hd : decode M.2.1 pc = .ok (.putfield 215, 3)) (hr : isO 12 n r) (k : ∀ s, s = kst σ r 20 x → K d M Post b (pc + 3) ls st n s) : K d M Post b pc ls ((0, x) :: (2, r) :: st) n σ := K_putf (j := 20) (C := RX12) (T := TX12) (N := 69) hd (by rw [ho]; exact fl12_215) ft12 (Or.inl rfl) hr (fun h => h) (k _ rfl)
theorem fl12_277 : kFL RX12 277 12 25 RX12 TX12 69 := ⟨rfl, by decide, by decide, rfl, uw12, Or.inl (tb6 11 rfl rfl)⟩
theorem gf12_277 {d : Nat} {M : kM} {Post : Option kV → Nat → kS → Prop} {b : Nat × Nat} {pc : Nat} {ls : List (Nat × kV)} {st : List kV} {n : Nat} {σ : kS} {r : Int} (ho : M.1.cls = RX12) (hd : decode M.2.1 pc = .ok (.getfield 277, 3)) (hr : isO 12 n r) (k : K d M Post b (pc + 3) ls ((0, σ r 25) :: st) n σ) : K d M Post b pc ls ((2, r) :: st) n σ := K_getf (j := 25) (C := RX12) (T := TX12) (N := 69) hd (by rw [ho]; exact fl12_277) hr k
theorem pf12_277 {d : Nat} {M : kM} {Post : Option kV → Nat → kS → Prop} {b : Nat × Nat} {pc : Nat} {ls : List (Nat × kV)} {st : List kV} {n : Nat} {σ : kS} {r x : Int} (ho : M.1.cls = RX12) (hd : decode M.2.1 pc = .ok (.putfield 277, 3)) (hr : isO 12 n r) (hx : 0 ≤ x ∧ x ≤ 1) (k : ∀ s, s = kst σ r 25 x → K d M Post b (pc + 3) ls st n s) : K d M Post b pc ls ((0, x) :: (2, r) :: st) n σ := K_putf (j := 25) (C := RX12) (T := TX12) (N := 69) hd (by rw [ho]; exact fl12_277) ft12 (Or.inl rfl) hr (fun _ => hx) (k _ rfl)
theorem fl12_281 : kFL RX12 281 12 21 RX12 TX12 69 := ⟨rfl, by decide, by decide, rfl, uw12, Or.inl (tb6 7 rfl rfl)⟩
theorem gf12_281 {d : Nat} {M : kM} {Post : Option kV → Nat → kS → Prop} {b : Nat × Nat} {pc : Nat} {ls : List (Nat × kV)} {st : List kV} {n : Nat} {σ : kS} {r : Int} (ho : M.1.cls = RX12) (hd : decode M.2.1 pc = .ok (.getfield 281, 3)) (hr : isO 12 n r) (k : K d M Post b (pc + 3) ls ((0, σ r 21) :: st) n σ) : K d M Post b pc ls ((2, r) :: st) n σ := K_getf (j := 21) (C := RX12) (T := TX12) (N := 69) hd (by rw [ho]; exact fl12_281) hr k
theorem pf12_281 {d : Nat} {M : kM} {Post : Option kV → Nat → kS → Prop} {b : Nat × Nat} {pc : Nat} {ls : List (Nat × kV)} {st : List kV} {n : Nat} {σ : kS} {r x : Int} (ho : M.1.cls = RX12) (hd : decode M.2.1 pc = .ok (.putfield 281, 3)) (hr : isO 12 n r) (k : ∀ s, s = kst σ r 21 x → K d M Post b (pc + 3) ls st n s) : K d M Post b pc ls ((0, x) :: (2, r) :: st) n σ := K_putf (j := 21) (C := RX12) (T := TX12) (N := 69) hd (by rw [ho]; exact fl12_281) ft12 (Or.inl rfl) hr (fun h => h) (k _ rfl)
theorem fl12_284 : kFL RX12 284 12 22 RX12 TX12 69 := ⟨rfl, by decide, by decide, rfl, uw12, Or.inl (tb6 8 rfl rfl)⟩
theorem gf12_284 {d : Nat} {M : kM} {Post : Option kV → Nat → kS → Prop} {b : Nat × Nat} {pc : Nat} {ls : List (Nat × kV)} {st : List kV} {n : Nat} {σ : kS} {r : Int} (ho : M.1.cls = RX12) (hd : decode M.2.1 pc = .ok (.getfield 284, 3)) (hr : isO 12 n r) (k : K d M Post b (pc + 3) ls ((0, σ r 22) :: st) n σ) : K d M Post b pc ls ((2, r) :: st) n σ := K_getf (j := 22) (C := RX12) (T := TX12) (N := 69) hd (by rw [ho]; exact fl12_284) hr k
theorem pf12_284 {d : Nat} {M : kM} {Post : Option kV → Nat → kS → Prop} {b : Nat × Nat} {pc : Nat} {ls : List (Nat × kV)} {st : List kV} {n : Nat} {σ : kS} {r x : Int} (ho : M.1.cls = RX12) (hd : decode M.2.1 pc = .ok (.putfield 284, 3)) (hr : isO 12 n r) (k : ∀ s, s = kst σ r 22 x → K d M Post b (pc + 3) ls st n s) : K d M Post b pc ls ((0, x) :: (2, r) :: st) n σ := K_putf (j := 22) (C := RX12) (T := TX12) (N := 69) hd (by rw [ho]; exact fl12_284) ft12 (Or.inl rfl) hr (fun h => h) (k _ rfl)
theorem fl12_294 : kFL RX12 294 12 15 RX12 TX12 69 := ⟨rfl, by decide, by decide, rfl, uw12, Or.inl (tb6 1 rfl rfl)⟩
theorem gf12_294 {d : Nat} {M : kM} {Post : Option kV → Nat → kS → Prop} {b : Nat × Nat} {pc : Nat} {ls : List (Nat × kV)} {st : List kV} {n : Nat} {σ : kS} {r : Int} (ho : M.1.cls = RX12) (hd : decode M.2.1 pc = .ok (.getfield 294, 3)) (hr : isO 12 n r) (k : K d M Post b (pc + 3) ls ((0, σ r 15) :: st) n σ) : K d M Post b pc ls ((2, r) :: st) n σ := K_getf (j := 15) (C := RX12) (T := TX12) (N := 69) hd (by rw [ho]; exact fl12_294) hr k
theorem pf12_294 {d : Nat} {M : kM} {Post : Option kV → Nat → kS → Prop} {b : Nat × Nat} {pc : Nat} {ls : List (Nat × kV)} {st : List kV} {n : Nat} {σ : kS} {r x : Int} (ho : M.1.cls = RX12) (hd : decode M.2.1 pc = .ok (.putfield 294, 3)) (hr : isO 12 n r) (k : ∀ s, s = kst σ r 15 x → K d M Post b (pc + 3) ls st n s) : K d M Post b pc ls ((0, x) :: (2, r) :: st) n σ := K_putf (j := 15) (C := RX12) (T := TX12) (N := 69) hd (by rw [ho]; exact fl12_294) ft12 (Or.inl rfl) hr (fun h => h) (k _ rfl)
theorem fl12_306 : kFL RX12 306 12 14 RX12 TX12 69 := ⟨rfl, by decide, by decide, rfl, uw12, Or.inl (tb6 0 rfl rfl)⟩
theorem gf12_306 {d : Nat} {M : kM} {Post : Option kV → Nat → kS → Prop} {b : Nat × Nat} {pc : Nat} {ls : List (Nat × kV)} {st : List kV} {n : Nat} {σ : kS} {r : Int} (ho : M.1.cls = RX12) (hd : decode M.2.1 pc = .ok (.getfield 306, 3)) (hr : isO 12 n r) (k : K d M Post b (pc + 3) ls ((0, σ r 14) :: st) n σ) : K d M Post b pc ls ((2, r) :: st) n σ := K_getf (j := 14) (C := RX12) (T := TX12) (N := 69) hd (by rw [ho]; exact fl12_306) hr k
theorem pf12_306 {d : Nat} {M : kM} {Post : Option kV → Nat → kS → Prop} {b : Nat × Nat} {pc : Nat} {ls : List (Nat × kV)} {st : List kV} {n : Nat} {σ : kS} {r x : Int} (ho : M.1.cls = RX12) (hd : decode M.2.1 pc = .ok (.putfield 306, 3)) (hr : isO 12 n r) (k : ∀ s, s = kst σ r 14 x → K d M Post b (pc + 3) ls st n s) : K d M Post b pc ls ((0, x) :: (2, r) :: st) n σ := K_putf (j := 14) (C := RX12) (T := TX12) (N := 69) hd (by rw [ho]; exact fl12_306) ft12 (Or.inl rfl) hr (fun h => h) (k _ rfl)
theorem fl12_330 : kFL RX12 330 12 30 RX12 TX12 69 := ⟨rfl, by decide, by decide, rfl, uw12, Or.inl (tb6 16 rfl rfl)⟩
theorem gf12_330 {d : Nat} {M : kM} {Post : Option kV → Nat → kS → Prop} {b : Nat × Nat} {pc : Nat} {ls : List (Nat × kV)} {st : List kV} {n : Nat} {σ : kS} {r : Int} (ho : M.1.cls = RX12) (hd : decode M.2.1 pc = .ok (.getfield 330, 3)) (hr : isO 12 n r) (k : K d M Post b (pc + 3) ls ((0, σ r 30) :: st) n σ) : K d M Post b pc ls ((2, r) :: st) n σ := K_getf (j := 30) (C := RX12) (T := TX12) (N := 69) hd (by rw [ho]; exact fl12_330) hr k
theorem pf12_330 {d : Nat} {M : kM} {Post : Option kV → Nat → kS → Prop} {b : Nat × Nat} {pc : Nat} {ls : List (Nat × kV)} {st : List kV} {n : Nat} {σ : kS} {r x : Int} (ho : M.1.cls = RX12) (hd : decode M.2.1 pc = .ok (.putfield 330, 3)) (hr : isO 12 n r) (k : ∀ s, s = kst σ r 30 x → K d M Post b (pc + 3) ls st n s) : K d M Post b pc ls ((0, x) :: (2, r) :: st) n σ := K_putf (j := 30) (C := RX12) (T := TX12) (N := 69) hd (by rw [ho]; exact fl12_330) ft12 (Or.inl rfl) hr (fun h => h) (k _ rfl)
theorem fl12_371 : kFL RX12 371 12 34 RX12 TX12 69 := ⟨rfl, by decide, by decide, rfl, uw12, Or.inl (tb6 20 rfl rfl)⟩
theorem gf12_371 {d : Nat} {M : kM} {Post : Option kV → Nat → kS → Prop} {b : Nat × Nat} {pc : Nat} {ls : List (Nat × kV)} {st : List kV} {n : Nat} {σ : kS} {r : Int} (ho : M.1.cls = RX12) (hd : decode M.2.1 pc = .ok (.getfield 371, 3)) (hr : isO 12 n r) (k : K d M Post b (pc + 3) ls ((0, σ r 34) :: st) n σ) : K d M Post b pc ls ((2, r) :: st) n σ := K_getf (j := 34) (C := RX12) (T := TX12) (N := 69) hd (by rw [ho]; exact fl12_371) hr k
theorem pf12_371 {d : Nat} {M : kM} {Post : Option kV → Nat → kS → Prop} {b : Nat × Nat} {pc : Nat} {ls : List (Nat × kV)} {st : List kV} {n : Nat} {σ : kS} {r x : Int} (ho : M.1.cls = RX12) (hd : decode M.2.1 pc = .ok (.putfield 371, 3)) (hr : isO 12 n r) (k : ∀ s, s = kst σ r 34 x → K d M Post b (pc + 3) ls st n s) : K d M Post b pc ls ((0, x) :: (2, r) :: st) n σ := K_putf (j := 34) (C := RX12) (T := TX12) (N := 69) hd (by rw [ho]; exact fl12_371) ft12 (Or.inl rfl) hr (fun h => h) (k _ rfl)
theorem fl12_400 : kFL RX12 400 12 38 RX12 TX12 69 := ⟨rfl, by decide, by decide, rfl, uw12, Or.inl (tb6 24 rfl rfl)⟩
theorem gf12_400 {d : Nat} {M : kM} {Post : Option kV → Nat → kS → Prop} {b : Nat × Nat} {pc : Nat} {ls : List (Nat × kV)} {st : List kV} {n : Nat} {σ : kS} {r : Int} (ho : M.1.cls = RX12) (hd : decode M.2.1 pc = .ok (.getfield 400, 3)) (hr : isO 12 n r) (k : K d M Post b (pc + 3) ls ((0, σ r 38) :: st) n σ) : K d M Post b pc ls ((2, r) :: st) n σ := K_getf (j := 38) (C := RX12) (T := TX12) (N := 69) hd (by rw [ho]; exact fl12_400) hr k
theorem pf12_400 {d : Nat} {M : kM} {Post : Option kV → Nat → kS → Prop} {b : Nat × Nat} {pc : Nat} {ls : List (Nat × kV)} {st : List kV} {n : Nat} {σ : kS} {r x : Int} (ho : M.1.cls = RX12) (hd : decode M.2.1 pc = .ok (.putfield 400, 3)) (hr : isO 12 n r) (k : ∀ s, s = kst σ r 38 x → K d M Post b (pc + 3) ls st n s) : K d M Post b pc ls ((0, x) :: (2, r) :: st) n σ := K_putf (j := 38) (C := RX12) (T := TX12) (N := 69) hd (by rw [ho]; exact fl12_400) ft12 (Or.inl rfl) hr (fun h => h) (k _ rfl)
theorem fl12_420 : kFL RX12 420 12 41 RX12 TX12 69 := ⟨rfl, by decide, by decide, rfl, uw12, Or.inl (tb6 27 rfl rfl)⟩
theorem gf12_420 {d : Nat} {M : kM} {Post : Option kV → Nat → kS → Prop} {b : Nat × Nat} {pc : Nat} {ls : List (Nat × kV)} {st : List kV} {n : Nat} {σ : kS} {r : Int} (ho : M.1.cls = RX12) (hd : decode M.2.1 pc = .ok (.getfield 420, 3)) (hr : isO 12 n r) (k : K d M Post b (pc + 3) ls ((0, σ r 41) :: st) n σ) : K d M Post b pc ls ((2, r) :: st) n σ := K_getf (j := 41) (C := RX12) (T := TX12) (N := 69) hd (by rw [ho]; exact fl12_420) hr k
theorem pf12_420 {d : Nat} {M : kM} {Post : Option kV → Nat → kS → Prop} {b : Nat × Nat} {pc : Nat} {ls : List (Nat × kV)} {st : List kV} {n : Nat} {σ : kS} {r x : Int} (ho : M.1.cls = RX12) (hd : decode M.2.1 pc = .ok (.putfield 420, 3)) (hr : isO 12 n r) (k : ∀ s, s = kst σ r 41 x → K d M Post b (pc + 3) ls st n s) : K d M Post b pc ls ((0, x) :: (2, r) :: st) n σ := K_putf (j := 41) (C := RX12) (T := TX12) (N := 69) hd (by rw [ho]; exact fl12_420) ft12 (Or.inl rfl) hr (fun h => h) (k _ rfl)
theorem fl12_465 : kFL RX12 465 12 49 RX12 TX12 69 := ⟨rfl, by decide, by decide, rfl, uw12, Or.inl (tb6 35 rfl rfl)⟩
theorem gf12_465 {d : Nat} {M : kM} {Post : Option kV → Nat → kS → Prop} {b : Nat × Nat} {pc : Nat} {ls : List (Nat × kV)} {st : List kV} {n : Nat} {σ : kS} {r : Int} (ho : M.1.cls = RX12) (hd : decode M.2.1 pc = .ok (.getfield 465, 3)) (hr : isO 12 n r) (k : K d M Post b (pc + 3) ls ((0, σ r 49) :: st) n σ) : K d M Post b pc ls ((2, r) :: st) n σ := K_getf (j := 49) (C := RX12) (T := TX12) (N := 69) hd (by rw [ho]; exact fl12_465) hr k
theorem pf12_465 {d : Nat} {M : kM} {Post : Option kV → Nat → kS → Prop} {b : Nat × Nat} {pc : Nat} {ls : List (Nat × kV)} {st : List kV} {n : Nat} {σ : kS} {r x : Int} (ho : M.1.cls = RX12) (hd : decode M.2.1 pc = .ok (.putfield 465, 3)) (hr : isO 12 n r) (k : ∀ s, s = kst σ r 49 x → K d M Post b (pc + 3) ls st n s) : K d M Post b pc ls ((0, x) :: (2, r) :: st) n σ := K_putf (j := 49) (C := RX12) (T := TX12) (N := 69) hd (by rw [ho]; exact fl12_465) ft12 (Or.inl rfl) hr (fun h => h) (k _ rfl)
theorem fl12_479 : kFL RX12 479 12 54 RX12 TX12 69 := ⟨rfl, by decide, by decide, rfl, uw12, Or.inl (tb6 40 rfl rfl)⟩
theorem gf12_479 {d : Nat} {M : kM} {Post : Option kV → Nat → kS → Prop} {b : Nat × Nat} {pc : Nat} {ls : List (Nat × kV)} {st : List kV} {n : Nat} {σ : kS} {r : Int} (ho : M.1.cls = RX12) (hd : decode M.2.1 pc = .ok (.getfield 479, 3)) (hr : isO 12 n r) (k : K d M Post b (pc + 3) ls ((0, σ r 54) :: st) n σ) : K d M Post b pc ls ((2, r) :: st) n σ := K_getf (j := 54) (C := RX12) (T := TX12) (N := 69) hd (by rw [ho]; exact fl12_479) hr k
theorem pf12_479 {d : Nat} {M : kM} {Post : Option kV → Nat → kS → Prop} {b : Nat × Nat} {pc : Nat} {ls : List (Nat × kV)} {st : List kV} {n : Nat} {σ : kS} {r x : Int} (ho : M.1.cls = RX12) (hd : decode M.2.1 pc = .ok (.putfield 479, 3)) (hr : isO 12 n r) (k : ∀ s, s = kst σ r 54 x → K d M Post b (pc + 3) ls st n s) : K d M Post b pc ls ((0, x) :: (2, r) :: st) n σ := K_putf (j := 54) (C := RX12) (T := TX12) (N := 69) hd (by rw [ho]; exact fl12_479) ft12 (Or.inl rfl) hr (fun h => h) (k _ rfl)
theorem fl12_488 : kFL RX12 488 12 58 RX12 TX12 69 := ⟨rfl, by decide, by decide, rfl, uw12, Or.inl (tb6 44 rfl rfl)⟩
theorem gf12_488 {d : Nat} {M : kM} {Post : Option kV → Nat → kS → Prop} {b : Nat × Nat} {pc : Nat} {ls : List (Nat × kV)} {st : List kV} {n : Nat} {σ : kS} {r : Int} (ho : M.1.cls = RX12) (hd : decode M.2.1 pc = .ok (.getfield 488, 3)) (hr : isO 12 n r) (k : K d M Post b (pc + 3) ls ((0, σ r 58) :: st) n σ) : K d M Post b pc ls ((2, r) :: st) n σ := K_getf (j := 58) (C := RX12) (T := TX12) (N := 69) hd (by rw [ho]; exact fl12_488) hr k
theorem pf12_488 {d : Nat} {M : kM} {Post : Option kV → Nat → kS → Prop} {b : Nat × Nat} {pc : Nat} {ls : List (Nat × kV)} {st : List kV} {n : Nat} {σ : kS} {r x : Int} (ho : M.1.cls = RX12) (hd : decode M.2.1 pc = .ok (.putfield 488, 3)) (hr : isO 12 n r) (k : ∀ s, s = kst σ r 58 x → K d M Post b (pc + 3) ls st n s) : K d M Post b pc ls ((0, x) :: (2, r) :: st) n σ := K_putf (j := 58) (C := RX12) (T := TX12) (N := 69) hd (by rw [ho]; exact fl12_488) ft12 (Or.inl rfl) hr (fun h => h) (k _ rfl)
theorem fl12_500 : kFL RX12 500 12 64 RX12 TX12 69 := ⟨rfl, by decide, by decide, rfl, uw12, Or.inl (tb6 50 rfl rfl)⟩
theorem gf12_500 {d : Nat} {M : kM} {Post : Option kV → Nat → kS → Prop} {b : Nat × Nat} {pc : Nat} {ls : List (Nat × kV)} {st : List kV} {n : Nat} {σ : kS} {r : Int} (ho : M.1.cls = RX12) (hd : decode M.2.1 pc = .ok (.getfield 500, 3)) (hr : isO 12 n r) (k : K d M Post b (pc + 3) ls ((1, σ r 64) :: st) n σ) : K d M Post b pc ls ((2, r) :: st) n σ := K_getf (j := 64) (C := RX12) (T := TX12) (N := 69) hd (by rw [ho]; exact fl12_500) hr k
theorem pf12_500 {d : Nat} {M : kM} {Post : Option kV → Nat → kS → Prop} {b : Nat × Nat} {pc : Nat} {ls : List (Nat × kV)} {st : List kV} {n : Nat} {σ : kS} {r x : Int} (ho : M.1.cls = RX12) (hd : decode M.2.1 pc = .ok (.putfield 500, 3)) (hr : isO 12 n r) (k : ∀ s, s = kst σ r 64 x → K d M Post b (pc + 3) ls st n s) : K d M Post b pc ls ((1, x) :: (2, r) :: st) n σ := K_putf (j := 64) (C := RX12) (T := TX12) (N := 69) hd (by rw [ho]; exact fl12_500) ft12 (Or.inl rfl) hr (fun h => h) (k _ rfl)
theorem fl12_514 : kFL RX12 514 12 61 RX12 TX12 69 := ⟨rfl, by decide, by decide, rfl, uw12, Or.inl (tb6 47 rfl rfl)⟩
theorem gf12_514 {d : Nat} {M : kM} {Post : Option kV → Nat → kS → Prop} {b : Nat × Nat} {pc : Nat} {ls : List (Nat × kV)} {st : List kV} {n : Nat} {σ : kS} {r : Int} (ho : M.1.cls = RX12) (hd : decode M.2.1 pc = .ok (.getfield 514, 3)) (hr : isO 12 n r) (k : K d M Post b (pc + 3) ls ((0, σ r 61) :: st) n σ) : K d M Post b pc ls ((2, r) :: st) n σ := K_getf (j := 61) (C := RX12) (T := TX12) (N := 69) hd (by rw [ho]; exact fl12_514) hr k
theorem pf12_514 {d : Nat} {M : kM} {Post : Option kV → Nat → kS → Prop} {b : Nat × Nat} {pc : Nat} {ls : List (Nat × kV)} {st : List kV} {n : Nat} {σ : kS} {r x : Int} (ho : M.1.cls = RX12) (hd : decode M.2.1 pc = .ok (.putfield 514, 3)) (hr : isO 12 n r) (k : ∀ s, s = kst σ r 61 x → K d M Post b (pc + 3) ls st n s) : K d M Post b pc ls ((0, x) :: (2, r) :: st) n σ := K_putf (j := 61) (C := RX12) (T := TX12) (N := 69) hd (by rw [ho]; exact fl12_514) ft12 (Or.inl rfl) hr (fun h => h) (k _ rfl)
theorem fl12_517 : kFL RX12 517 12 62 RX12 TX12 69 := ⟨rfl, by decide, by decide, rfl, uw12, Or.inl (tb6 48 rfl rfl)⟩
theorem gf12_517 {d : Nat} {M : kM} {Post : Option kV → Nat → kS → Prop} {b : Nat × Nat} {pc : Nat} {ls : List (Nat × kV)} {st : List kV} {n : Nat} {σ : kS} {r : Int} (ho : M.1.cls = RX12) (hd : decode M.2.1 pc = .ok (.getfield 517, 3)) (hr : isO 12 n r) (k : K d M Post b (pc + 3) ls ((0, σ r 62) :: st) n σ) : K d M Post b pc ls ((2, r) :: st) n σ := K_getf (j := 62) (C := RX12) (T := TX12) (N := 69) hd (by rw [ho]; exact fl12_517) hr k
theorem pf12_517 {d : Nat} {M : kM} {Post : Option kV → Nat → kS → Prop} {b : Nat × Nat} {pc : Nat} {ls : List (Nat × kV)} {st : List kV} {n : Nat} {σ : kS} {r x : Int} (ho : M.1.cls = RX12) (hd : decode M.2.1 pc = .ok (.putfield 517, 3)) (hr : isO 12 n r) (k : ∀ s, s = kst σ r 62 x → K d M Post b (pc + 3) ls st n s) : K d M Post b pc ls ((0, x) :: (2, r) :: st) n σ := K_putf (j := 62) (C := RX12) (T := TX12) (N := 69) hd (by rw [ho]; exact fl12_517) ft12 (Or.inl rfl) hr (fun h => h) (k _ rfl)
theorem fl12_520 : kFL RX12 520 12 63 RX12 TX12 69 := ⟨rfl, by decide, by decide, rfl, uw12, Or.inl (tb6 49 rfl rfl)⟩
theorem gf12_520 {d : Nat} {M : kM} {Post : Option kV → Nat → kS → Prop} {b : Nat × Nat} {pc : Nat} {ls : List (Nat × kV)} {st : List kV} {n : Nat} {σ : kS} {r : Int} (ho : M.1.cls = RX12) (hd : decode M.2.1 pc = .ok (.getfield 520, 3)) (hr : isO 12 n r) (k : K d M Post b (pc + 3) ls ((0, σ r 63) :: st) n σ) : K d M Post b pc ls ((2, r) :: st) n σ := K_getf (j := 63) (C := RX12) (T := TX12) (N := 69) hd (by rw [ho]; exact fl12_520) hr k
theorem pf12_520 {d : Nat} {M : kM} {Post : Option kV → Nat → kS → Prop} {b : Nat × Nat} {pc : Nat} {ls : List (Nat × kV)} {st : List kV} {n : Nat} {σ : kS} {r x : Int} (ho : M.1.cls = RX12) (hd : decode M.2.1 pc = .ok (.putfield 520, 3)) (hr : isO 12 n r) (hx : 0 ≤ x ∧ x ≤ 1) (k : ∀ s, s = kst σ r 63 x → K d M Post b (pc + 3) ls st n s) : K d M Post b pc ls ((0, x) :: (2, r) :: st) n σ := K_putf (j := 63) (C := RX12) (T := TX12) (N := 69) hd (by rw [ho]; exact fl12_520) ft12 (Or.inl rfl) hr (fun _ => hx) (k _ rfl)
theorem fl12_529 : kFL RX12 529 12 68 RX12 TX12 69 := ⟨rfl, by decide, by decide, rfl, uw12, Or.inl (tb6 54 rfl rfl)⟩
theorem gf12_529 {d : Nat} {M : kM} {Post : Option kV → Nat → kS → Prop} {b : Nat × Nat} {pc : Nat} {ls : List (Nat × kV)} {st : List kV} {n : Nat} {σ : kS} {r : Int} (ho : M.1.cls = RX12) (hd : decode M.2.1 pc = .ok (.getfield 529, 3)) (hr : isO 12 n r) (k : K d M Post b (pc + 3) ls ((0, σ r 68) :: st) n σ) : K d M Post b pc ls ((2, r) :: st) n σ := K_getf (j := 68) (C := RX12) (T := TX12) (N := 69) hd (by rw [ho]; exact fl12_529) hr k
theorem pf12_529 {d : Nat} {M : kM} {Post : Option kV → Nat → kS → Prop} {b : Nat × Nat} {pc : Nat} {ls : List (Nat × kV)} {st : List kV} {n : Nat} {σ : kS} {r x : Int} (ho : M.1.cls = RX12) (hd : decode M.2.1 pc = .ok (.putfield 529, 3)) (hr : isO 12 n r) (k : ∀ s, s = kst σ r 68 x → K d M Post b (pc + 3) ls st n s) : K d M Post b pc ls ((0, x) :: (2, r) :: st) n σ := K_putf (j := 68) (C := RX12) (T := TX12) (N := 69) hd (by rw [ho]; exact fl12_529) ft12 (Or.inl rfl) hr (fun h => h) (k _ rfl)
theorem lk11_9 : kLK RX11 9 MX5_init ∧ MX5_init.1.name = "<init>" ∧ Cond.instanceMethod MX5_init.1 ∈ TB := ⟨Or.inr ⟨"OldRoads", (tb1 36 rfl rfl)⟩, rfl, (tb1 37 rfl rfl)⟩
theorem lk11_22 : kLK RX11 22 MX8_init ∧ MX8_init.1.name = "<init>" ∧ Cond.instanceMethod MX8_init.1 ∈ TB := ⟨Or.inl (tb1 50 rfl rfl), rfl, (tb1 51 rfl rfl)⟩
theorem lk11_31 : kLK RX11 31 MX4_init ∧ MX4_init.1.name = "<init>" ∧ Cond.instanceMethod MX4_init.1 ∈ TB := ⟨Or.inr ⟨"OldRoads", (tb1 74 rfl rfl)⟩, rfl, (tb1 75 rfl rfl)⟩
theorem lk11_63 : kLK RX11 63 MX10_init ∧ MX10_init.1.name = "<init>" ∧ Cond.instanceMethod MX10_init.1 ∈ TB := ⟨Or.inl (tb1 124 rfl rfl), rfl, (tb1 125 rfl rfl)⟩
theorem lk11_70 : kLK RX11 70 MX9_init ∧ MX9_init.1.name = "<init>" ∧ Cond.instanceMethod MX9_init.1 ∈ TB := ⟨Or.inr ⟨"OldRoads", (tb1 194 rfl rfl)⟩, rfl, (tb1 195 rfl rfl)⟩
theorem lk11_77 : kLK RX11 77 MX2_init ∧ MX2_init.1.name = "<init>" ∧ Cond.instanceMethod MX2_init.1 ∈ TB := ⟨Or.inr ⟨"OldRoads", (tb1 217 rfl rfl)⟩, rfl, (tb1 218 rfl rfl)⟩
theorem lk11_84 : kLK RX11 84 MX7_init ∧ MX7_init.1.name = "<init>" ∧ Cond.instanceMethod MX7_init.1 ∈ TB := ⟨Or.inr ⟨"OldRoads", (tb1 236 rfl rfl)⟩, rfl, (tb1 237 rfl rfl)⟩
theorem lk11_91 : kLK RX11 91 MX1_init ∧ MX1_init.1.name = "<init>" ∧ Cond.instanceMethod MX1_init.1 ∈ TB := ⟨Or.inr ⟨"OldRoads", (tb2 15 rfl rfl)⟩, rfl, (tb2 16 rfl rfl)⟩
theorem lk11_98 : kLK RX11 98 MX6_init ∧ MX6_init.1.name = "<init>" ∧ Cond.instanceMethod MX6_init.1 ∈ TB := ⟨Or.inr ⟨"OldRoads", (tb2 41 rfl rfl)⟩, rfl, (tb2 42 rfl rfl)⟩
theorem lk11_103 : kLK RX11 103 MX3_init ∧ MX3_init.1.name = "<init>" ∧ Cond.instanceMethod MX3_init.1 ∈ TB := ⟨Or.inr ⟨"OldRoads", (tb2 53 rfl rfl)⟩, rfl, (tb1 81 rfl rfl)⟩
theorem lk11_104 : kLK RX11 104 MX0_init ∧ MX0_init.1.name = "<init>" ∧ Cond.instanceMethod MX0_init.1 ∈ TB := ⟨Or.inr ⟨"OldRoads", (tb2 55 rfl rfl)⟩, rfl, (tb2 56 rfl rfl)⟩
theorem lk11_105 : kLK RX11 105 MX11_isBox ∧ Cond.static MX11_isBox.1 ∈ TB := ⟨Or.inl (tb2 137 rfl rfl), (tb2 138 rfl rfl)⟩
theorem lk11_109 : kLK RX11 109 MX11_isLayer ∧ Cond.static MX11_isLayer.1 ∈ TB := ⟨Or.inl (tb2 140 rfl rfl), (tb2 141 rfl rfl)⟩
theorem lk11_113 : kLK RX11 113 MX5_put ∧ Cond.instanceMethod MX5_put.1 ∈ TB ∧ Cond.selects MX5_put.1.cls MX5_put.1 MX5_put.1 ∈ TB := ⟨Or.inl (tb2 143 rfl rfl), (tb2 144 rfl rfl), (tb2 145 rfl rfl)⟩
theorem lk11_117 : kLK RX11 117 MX11_isCell ∧ Cond.static MX11_isCell.1 ∈ TB := ⟨Or.inl (tb1 133 rfl rfl), (tb1 134 rfl rfl)⟩
theorem lk11_120 : kLK RX11 120 MX5_told ∧ Cond.instanceMethod MX5_told.1 ∈ TB ∧ Cond.selects MX5_told.1.cls MX5_told.1 MX5_told.1 ∈ TB := ⟨Or.inl (tb2 153 rfl rfl), (tb2 154 rfl rfl), (tb2 155 rfl rfl)⟩
theorem lk11_124 : kLK RX11 124 MX8_has ∧ Cond.instanceMethod MX8_has.1 ∈ TB ∧ Cond.selects MX8_has.1.cls MX8_has.1 MX8_has.1 ∈ TB := ⟨Or.inl (tb2 161 rfl rfl), (tb2 162 rfl rfl), (tb2 163 rfl rfl)⟩
theorem lk11_127 : kLK RX11 127 MX8_add ∧ Cond.instanceMethod MX8_add.1 ∈ TB ∧ Cond.selects MX8_add.1.cls MX8_add.1 MX8_add.1 ∈ TB := ⟨Or.inl (tb2 165 rfl rfl), (tb2 166 rfl rfl), (tb2 167 rfl rfl)⟩
theorem lk11_134 : kLK RX11 134 MX11_bytesIn ∧ Cond.static MX11_bytesIn.1 ∈ TB := ⟨Or.inl (tb2 173 rfl rfl), (tb2 174 rfl rfl)⟩
theorem lk11_138 : kLK RX11 138 MX11_addBytes ∧ Cond.instanceMethod MX11_addBytes.1 ∈ TB ∧ Cond.selects MX11_addBytes.1.cls MX11_addBytes.1 MX11_addBytes.1 ∈ TB := ⟨Or.inl (tb2 176 rfl rfl), (tb2 178 rfl rfl), (tbS 0 rfl rfl)⟩
theorem lk11_141 : kLK RX11 141 MX8_cut ∧ Cond.instanceMethod MX8_cut.1 ∈ TB ∧ Cond.selects MX8_cut.1.cls MX8_cut.1 MX8_cut.1 ∈ TB := ⟨Or.inl (tb2 184 rfl rfl), (tb2 185 rfl rfl), (tb2 186 rfl rfl)⟩
theorem lk11_144 : kLK RX11 144 MX4_reads ∧ Cond.instanceMethod MX4_reads.1 ∈ TB ∧ Cond.selects MX4_reads.1.cls MX4_reads.1 MX4_reads.1 ∈ TB := ⟨Or.inl (tb2 192 rfl rfl), (tb2 193 rfl rfl), (tb2 194 rfl rfl)⟩
theorem lk11_154 : kLK RX11 154 MX0_reads ∧ Cond.instanceMethod MX0_reads.1 ∈ TB ∧ Cond.selects MX0_reads.1.cls MX0_reads.1 MX0_reads.1 ∈ TB := ⟨Or.inl (tb3 15 rfl rfl), (tb3 16 rfl rfl), (tb3 17 rfl rfl)⟩
theorem lk11_165 : kLK RX11 165 MX3_take ∧ Cond.instanceMethod MX3_take.1 ∈ TB ∧ Cond.selects MX3_take.1.cls MX3_take.1 MX3_take.1 ∈ TB := ⟨Or.inl (tb3 42 rfl rfl), (tb3 43 rfl rfl), (tb3 44 rfl rfl)⟩
theorem lk11_169 : kLK RX11 169 MX11_isManner ∧ Cond.instanceMethod MX11_isManner.1 ∈ TB ∧ Cond.selects MX11_isManner.1.cls MX11_isManner.1 MX11_isManner.1 ∈ TB := ⟨Or.inl (tb3 57 rfl rfl), (tb3 59 rfl rfl), (tbS 16 rfl rfl)⟩
theorem lk11_173 : kLK RX11 173 MX11_stepFrom ∧ Cond.static MX11_stepFrom.1 ∈ TB := ⟨Or.inl (tb4 4 rfl rfl), (tb1 131 rfl rfl)⟩
theorem lk11_179 : kLK RX11 179 MX10_fit ∧ Cond.instanceMethod MX10_fit.1 ∈ TB ∧ Cond.selects MX10_fit.1.cls MX10_fit.1 MX10_fit.1 ∈ TB := ⟨Or.inl (tb3 61 rfl rfl), (tb3 62 rfl rfl), (tb3 63 rfl rfl)⟩
theorem lk11_183 : kLK RX11 183 MX10_toll ∧ Cond.instanceMethod MX10_toll.1 ∈ TB ∧ Cond.selects MX10_toll.1.cls MX10_toll.1 MX10_toll.1 ∈ TB := ⟨Or.inl (tb5 207 rfl rfl), (tb5 208 rfl rfl), (tb5 209 rfl rfl)⟩
theorem lk11_186 : kLK RX11 186 MX11_goes ∧ Cond.instanceMethod MX11_goes.1 ∈ TB ∧ Cond.selects MX11_goes.1.cls MX11_goes.1 MX11_goes.1 ∈ TB := ⟨Or.inl (tb3 53 rfl rfl), (tb3 55 rfl rfl), (tbS 15 rfl rfl)⟩
theorem lk11_190 : kLK RX11 190 MX10_least ∧ Cond.instanceMethod MX10_least.1 ∈ TB ∧ Cond.selects MX10_least.1.cls MX10_least.1 MX10_least.1 ∈ TB := ⟨Or.inl (tb3 126 rfl rfl), (tb3 127 rfl rfl), (tb3 128 rfl rfl)⟩
theorem lk11_196 : kLK RX11 196 MX8_at ∧ Cond.instanceMethod MX8_at.1 ∈ TB ∧ Cond.selects MX8_at.1.cls MX8_at.1 MX8_at.1 ∈ TB := ⟨Or.inl (tb3 134 rfl rfl), (tb2 209 rfl rfl), (tb2 210 rfl rfl)⟩
theorem lk11_198 : kLK RX11 198 MX11_isCellOrNone ∧ Cond.static MX11_isCellOrNone.1 ∈ TB := ⟨Or.inl (tb3 139 rfl rfl), (tb3 140 rfl rfl)⟩
theorem lk11_201 : kLK RX11 201 MX10_spreadFrom ∧ Cond.instanceMethod MX10_spreadFrom.1 ∈ TB ∧ Cond.selects MX10_spreadFrom.1.cls MX10_spreadFrom.1 MX10_spreadFrom.1 ∈ TB := ⟨Or.inl (tb3 142 rfl rfl), (tb3 143 rfl rfl), (tb3 144 rfl rfl)⟩
theorem lk11_204 : kLK RX11 204 MX10_through ∧ Cond.instanceMethod MX10_through.1 ∈ TB ∧ Cond.selects MX10_through.1.cls MX10_through.1 MX10_through.1 ∈ TB := ⟨Or.inl (tb3 146 rfl rfl), (tb3 147 rfl rfl), (tb3 148 rfl rfl)⟩
theorem lk11_207 : kLK RX11 207 MX9_isSeen ∧ Cond.instanceMethod MX9_isSeen.1 ∈ TB ∧ Cond.selects MX9_isSeen.1.cls MX9_isSeen.1 MX9_isSeen.1 ∈ TB := ⟨Or.inl (tb3 154 rfl rfl), (tb3 155 rfl rfl), (tb3 156 rfl rfl)⟩
theorem lk11_211 : kLK RX11 211 MX11_looks ∧ Cond.instanceMethod MX11_looks.1 ∈ TB ∧ Cond.selects MX11_looks.1.cls MX11_looks.1 MX11_looks.1 ∈ TB := ⟨Or.inl (tb3 176 rfl rfl), (tb3 178 rfl rfl), (tbS 22 rfl rfl)⟩
theorem lk11_219 : kLK RX11 219 MX11_keepLine ∧ Cond.instanceMethod MX11_keepLine.1 ∈ TB ∧ Cond.selects MX11_keepLine.1.cls MX11_keepLine.1 MX11_keepLine.1 ∈ TB := ⟨Or.inl (tb3 204 rfl rfl), (tb3 206 rfl rfl), (tbS 25 rfl rfl)⟩
theorem lk11_223 : kLK RX11 223 MX9_hopStraight ∧ Cond.instanceMethod MX9_hopStraight.1 ∈ TB ∧ Cond.selects MX9_hopStraight.1.cls MX9_hopStraight.1 MX9_hopStraight.1 ∈ TB := ⟨Or.inl (tb3 218 rfl rfl), (tb3 219 rfl rfl), (tb3 220 rfl rfl)⟩
theorem lk11_227 : kLK RX11 227 MX9_trace ∧ Cond.instanceMethod MX9_trace.1 ∈ TB ∧ Cond.selects MX9_trace.1.cls MX9_trace.1 MX9_trace.1 ∈ TB := ⟨Or.inl (tb3 222 rfl rfl), (tb3 223 rfl rfl), (tb3 224 rfl rfl)⟩
theorem lk11_233 : kLK RX11 233 MX11_isLine ∧ Cond.instanceMethod MX11_isLine.1 ∈ TB ∧ Cond.selects MX11_isLine.1.cls MX11_isLine.1 MX11_isLine.1 ∈ TB := ⟨Or.inl (tb3 235 rfl rfl), (tb3 237 rfl rfl), (tbS 26 rfl rfl)⟩
theorem lk11_236 : kLK RX11 236 MX8_last ∧ Cond.instanceMethod MX8_last.1 ∈ TB ∧ Cond.selects MX8_last.1.cls MX8_last.1 MX8_last.1 ∈ TB := ⟨Or.inl (tb3 239 rfl rfl), (tb4 0 rfl rfl), (tb4 1 rfl rfl)⟩
theorem lk11_240 : kLK RX11 240 MX8_miles ∧ Cond.instanceMethod MX8_miles.1 ∈ TB ∧ Cond.selects MX8_miles.1.cls MX8_miles.1 MX8_miles.1 ∈ TB := ⟨Or.inl (tb4 13 rfl rfl), (tb4 14 rfl rfl), (tb4 15 rfl rfl)⟩
theorem lk11_243 : kLK RX11 243 MX8_turns ∧ Cond.instanceMethod MX8_turns.1 ∈ TB ∧ Cond.selects MX8_turns.1.cls MX8_turns.1 MX8_turns.1 ∈ TB := ⟨Or.inl (tb4 17 rfl rfl), (tb4 18 rfl rfl), (tb4 19 rfl rfl)⟩
theorem lk11_246 : kLK RX11 246 MX8_longestRun ∧ Cond.instanceMethod MX8_longestRun.1 ∈ TB ∧ Cond.selects MX8_longestRun.1.cls MX8_longestRun.1 MX8_longestRun.1 ∈ TB := ⟨Or.inl (tb4 25 rfl rfl), (tb4 26 rfl rfl), (tb4 27 rfl rfl)⟩
theorem lk11_249 : kLK RX11 249 MX2_add ∧ Cond.instanceMethod MX2_add.1 ∈ TB ∧ Cond.selects MX2_add.1.cls MX2_add.1 MX2_add.1 ∈ TB := ⟨Or.inl (tb4 33 rfl rfl), (tb4 34 rfl rfl), (tb4 35 rfl rfl)⟩
theorem lk11_252 : kLK RX11 252 MX11_isSearch ∧ Cond.instanceMethod MX11_isSearch.1 ∈ TB ∧ Cond.selects MX11_isSearch.1.cls MX11_isSearch.1 MX11_isSearch.1 ∈ TB := ⟨Or.inl (tb4 42 rfl rfl), (tb4 44 rfl rfl), (tbS 28 rfl rfl)⟩
theorem lk11_255 : kLK RX11 255 MX2_nearMoved ∧ Cond.instanceMethod MX2_nearMoved.1 ∈ TB ∧ Cond.selects MX2_nearMoved.1.cls MX2_nearMoved.1 MX2_nearMoved.1 ∈ TB := ⟨Or.inl (tb4 46 rfl rfl), (tb4 47 rfl rfl), (tb4 48 rfl rfl)⟩
theorem lk11_259 : kLK RX11 259 MX2_besides ∧ Cond.instanceMethod MX2_besides.1 ∈ TB ∧ Cond.selects MX2_besides.1.cls MX2_besides.1 MX2_besides.1 ∈ TB := ⟨Or.inl (tb4 60 rfl rfl), (tb4 61 rfl rfl), (tb4 62 rfl rfl)⟩
theorem lk11_263 : kLK RX11 263 MX11_missOf ∧ Cond.instanceMethod MX11_missOf.1 ∈ TB ∧ Cond.selects MX11_missOf.1.cls MX11_missOf.1 MX11_missOf.1 ∈ TB := ⟨Or.inl (tb4 77 rfl rfl), (tb4 79 rfl rfl), (tbS 29 rfl rfl)⟩
theorem lk11_266 : kLK RX11 266 MX11_fillMisses ∧ Cond.instanceMethod MX11_fillMisses.1 ∈ TB ∧ Cond.selects MX11_fillMisses.1.cls MX11_fillMisses.1 MX11_fillMisses.1 ∈ TB := ⟨Or.inl (tb4 86 rfl rfl), (tb4 88 rfl rfl), (tbS 30 rfl rfl)⟩
theorem lk11_270 : kLK RX11 270 MX11_bestBut ∧ Cond.instanceMethod MX11_bestBut.1 ∈ TB ∧ Cond.selects MX11_bestBut.1.cls MX11_bestBut.1 MX11_bestBut.1 ∈ TB := ⟨Or.inl (tb4 90 rfl rfl), (tb4 92 rfl rfl), (tbS 31 rfl rfl)⟩
theorem lk11_273 : kLK RX11 273 MX11_fitBut ∧ Cond.instanceMethod MX11_fitBut.1 ∈ TB ∧ Cond.selects MX11_fitBut.1.cls MX11_fitBut.1 MX11_fitBut.1 ∈ TB := ⟨Or.inl (tb4 94 rfl rfl), (tb4 96 rfl rfl), (tbS 32 rfl rfl)⟩
theorem lk11_280 : kLK RX11 280 MX11_isStage ∧ Cond.instanceMethod MX11_isStage.1 ∈ TB ∧ Cond.selects MX11_isStage.1.cls MX11_isStage.1 MX11_isStage.1 ∈ TB := ⟨Or.inl (tb4 106 rfl rfl), (tb4 108 rfl rfl), (tbS 33 rfl rfl)⟩
theorem lk11_283 : kLK RX11 283 MX0_milesTold ∧ Cond.instanceMethod MX0_milesTold.1 ∈ TB ∧ Cond.selects MX0_milesTold.1.cls MX0_milesTold.1 MX0_milesTold.1 ∈ TB := ⟨Or.inl (tb4 115 rfl rfl), (tb4 116 rfl rfl), (tb4 117 rfl rfl)⟩
theorem lk11_286 : kLK RX11 286 MX0_townAt ∧ Cond.instanceMethod MX0_townAt.1 ∈ TB ∧ Cond.selects MX0_townAt.1.cls MX0_townAt.1 MX0_townAt.1 ∈ TB := ⟨Or.inl (tb4 123 rfl rfl), (tb4 124 rfl rfl), (tb4 125 rfl rfl)⟩
theorem lk11_290 : kLK RX11 290 MX11_milesOfStage ∧ Cond.instanceMethod MX11_milesOfStage.1 ∈ TB ∧ Cond.selects MX11_milesOfStage.1.cls MX11_milesOfStage.1 MX11_milesOfStage.1 ∈ TB := ⟨Or.inl (tb4 119 rfl rfl), (tb4 121 rfl rfl), (tbS 34 rfl rfl)⟩
theorem lk11_294 : kLK RX11 294 MX11_isBy ∧ Cond.static MX11_isBy.1 ∈ TB := ⟨Or.inl (tb4 131 rfl rfl), (tb4 132 rfl rfl)⟩
theorem lk11_297 : kLK RX11 297 MX11_slipOf ∧ Cond.static MX11_slipOf.1 ∈ TB := ⟨Or.inl (tb4 134 rfl rfl), (tb4 135 rfl rfl)⟩
theorem lk11_300 : kLK RX11 300 MX11_holdsInto ∧ Cond.instanceMethod MX11_holdsInto.1 ∈ TB ∧ Cond.selects MX11_holdsInto.1.cls MX11_holdsInto.1 MX11_holdsInto.1 ∈ TB := ⟨Or.inl (tb4 141 rfl rfl), (tb4 143 rfl rfl), (tbS 35 rfl rfl)⟩
theorem lk11_307 : kLK RX11 307 MX11_areTwoTowns ∧ Cond.instanceMethod MX11_areTwoTowns.1 ∈ TB ∧ Cond.selects MX11_areTwoTowns.1.cls MX11_areTwoTowns.1 MX11_areTwoTowns.1 ∈ TB := ⟨Or.inl (tb4 155 rfl rfl), (tb4 157 rfl rfl), (tbS 36 rfl rfl)⟩
theorem lk11_310 : kLK RX11 310 MX11_evidenceOf ∧ Cond.instanceMethod MX11_evidenceOf.1 ∈ TB ∧ Cond.selects MX11_evidenceOf.1.cls MX11_evidenceOf.1 MX11_evidenceOf.1 ∈ TB := ⟨Or.inl (tb4 159 rfl rfl), (tb4 161 rfl rfl), (tbS 37 rfl rfl)⟩
theorem lk11_316 : kLK RX11 316 MX7_forgetWorlds ∧ Cond.instanceMethod MX7_forgetWorlds.1 ∈ TB ∧ Cond.selects MX7_forgetWorlds.1.cls MX7_forgetWorlds.1 MX7_forgetWorlds.1 ∈ TB := ⟨Or.inl (tb4 179 rfl rfl), (tb4 180 rfl rfl), (tb4 181 rfl rfl)⟩
theorem lk11_319 : kLK RX11 319 MX7_addWorld ∧ Cond.instanceMethod MX7_addWorld.1 ∈ TB ∧ Cond.selects MX7_addWorld.1.cls MX7_addWorld.1 MX7_addWorld.1 ∈ TB := ⟨Or.inl (tb4 184 rfl rfl), (tb4 185 rfl rfl), (tb4 186 rfl rfl)⟩
theorem lk11_323 : kLK RX11 323 MX7_bestSet ∧ Cond.instanceMethod MX7_bestSet.1 ∈ TB ∧ Cond.selects MX7_bestSet.1.cls MX7_bestSet.1 MX7_bestSet.1 ∈ TB := ⟨Or.inl (tb4 191 rfl rfl), (tb4 192 rfl rfl), (tb4 193 rfl rfl)⟩
theorem lk11_326 : kLK RX11 326 MX11_meeting ∧ Cond.instanceMethod MX11_meeting.1 ∈ TB ∧ Cond.selects MX11_meeting.1.cls MX11_meeting.1 MX11_meeting.1 ∈ TB := ⟨Or.inl (tb4 228 rfl rfl), (tb4 230 rfl rfl), (tbS 42 rfl rfl)⟩
theorem lk11_330 : kLK RX11 330 MX11_staysInLand ∧ Cond.static MX11_staysInLand.1 ∈ TB := ⟨Or.inl (tb1 136 rfl rfl), (tb1 137 rfl rfl)⟩
theorem lk11_333 : kLK RX11 333 MX11_lies ∧ Cond.static MX11_lies.1 ∈ TB := ⟨Or.inl (tb5 4 rfl rfl), (tb5 5 rfl rfl)⟩
theorem lk11_337 : kLK RX11 337 MX6_begin ∧ Cond.instanceMethod MX6_begin.1 ∈ TB ∧ Cond.selects MX6_begin.1.cls MX6_begin.1 MX6_begin.1 ∈ TB := ⟨Or.inl (tb5 11 rfl rfl), (tb5 12 rfl rfl), (tb5 13 rfl rfl)⟩
theorem lk11_340 : kLK RX11 340 MX10_spreadTo ∧ Cond.instanceMethod MX10_spreadTo.1 ∈ TB ∧ Cond.selects MX10_spreadTo.1.cls MX10_spreadTo.1 MX10_spreadTo.1 ∈ TB := ⟨Or.inl (tb4 145 rfl rfl), (tb3 99 rfl rfl), (tb3 100 rfl rfl)⟩
theorem lk11_343 : kLK RX11 343 MX6_put ∧ Cond.instanceMethod MX6_put.1 ∈ TB ∧ Cond.selects MX6_put.1.cls MX6_put.1 MX6_put.1 ∈ TB := ⟨Or.inl (tb5 17 rfl rfl), (tb5 18 rfl rfl), (tb5 19 rfl rfl)⟩
theorem lk11_344 : kLK RX11 344 MX6_cost ∧ Cond.instanceMethod MX6_cost.1 ∈ TB ∧ Cond.selects MX6_cost.1.cls MX6_cost.1 MX6_cost.1 ∈ TB := ⟨Or.inl (tb5 21 rfl rfl), (tb5 22 rfl rfl), (tb5 23 rfl rfl)⟩
theorem lk11_347 : kLK RX11 347 MX6_needed ∧ Cond.instanceMethod MX6_needed.1 ∈ TB ∧ Cond.selects MX6_needed.1.cls MX6_needed.1 MX6_needed.1 ∈ TB := ⟨Or.inl (tb5 30 rfl rfl), (tb5 31 rfl rfl), (tb5 32 rfl rfl)⟩
theorem lk11_351 : kLK RX11 351 MX1_begin ∧ Cond.instanceMethod MX1_begin.1 ∈ TB ∧ Cond.selects MX1_begin.1.cls MX1_begin.1 MX1_begin.1 ∈ TB := ⟨Or.inl (tb5 42 rfl rfl), (tb5 43 rfl rfl), (tb5 44 rfl rfl)⟩
theorem lk11_354 : kLK RX11 354 MX1_goOnce ∧ Cond.instanceMethod MX1_goOnce.1 ∈ TB ∧ Cond.selects MX1_goOnce.1.cls MX1_goOnce.1 MX1_goOnce.1 ∈ TB := ⟨Or.inl (tb5 47 rfl rfl), (tb5 48 rfl rfl), (tb5 49 rfl rfl)⟩
theorem lk11_358 : kLK RX11 358 MX1_troddenCells ∧ Cond.instanceMethod MX1_troddenCells.1 ∈ TB ∧ Cond.selects MX1_troddenCells.1.cls MX1_troddenCells.1 MX1_troddenCells.1 ∈ TB := ⟨Or.inl (tb5 68 rfl rfl), (tb5 69 rfl rfl), (tb5 70 rfl rfl)⟩
theorem lk11_374 : kLK RX11 374 MX11_isOften ∧ Cond.static MX11_isOften.1 ∈ TB := ⟨Or.inl (tb5 84 rfl rfl), (tb5 85 rfl rfl)⟩
theorem lk11_380 : kLK RX11 380 MX5_take ∧ Cond.instanceMethod MX5_take.1 ∈ TB ∧ Cond.selects MX5_take.1.cls MX5_take.1 MX5_take.1 ∈ TB := ⟨Or.inl (tb5 95 rfl rfl), (tb5 96 rfl rfl), (tb5 97 rfl rfl)⟩
theorem lk11_383 : kLK RX11 383 MX11_isEra ∧ Cond.instanceMethod MX11_isEra.1 ∈ TB ∧ Cond.selects MX11_isEra.1.cls MX11_isEra.1 MX11_isEra.1 ∈ TB := ⟨Or.inl (tb5 104 rfl rfl), (tb5 106 rfl rfl), (tbS 48 rfl rfl)⟩
theorem lk11_386 : kLK RX11 386 MX5_unlikeCells ∧ Cond.instanceMethod MX5_unlikeCells.1 ∈ TB ∧ Cond.selects MX5_unlikeCells.1.cls MX5_unlikeCells.1 MX5_unlikeCells.1 ∈ TB := ⟨Or.inl (tb5 108 rfl rfl), (tb5 109 rfl rfl), (tb5 110 rfl rfl)⟩
theorem lk11_393 : kLK RX11 393 MX8_take ∧ Cond.instanceMethod MX8_take.1 ∈ TB ∧ Cond.selects MX8_take.1.cls MX8_take.1 MX8_take.1 ∈ TB := ⟨Or.inl (tb3 208 rfl rfl), (tb3 209 rfl rfl), (tb3 210 rfl rfl)⟩
theorem lk11_396 : kLK RX11 396 MX8_keepThoseIn ∧ Cond.instanceMethod MX8_keepThoseIn.1 ∈ TB ∧ Cond.selects MX8_keepThoseIn.1.cls MX8_keepThoseIn.1 MX8_keepThoseIn.1 ∈ TB := ⟨Or.inl (tb5 129 rfl rfl), (tb5 130 rfl rfl), (tb5 131 rfl rfl)⟩
theorem lk11_400 : kLK RX11 400 MX0_stages ∧ Cond.instanceMethod MX0_stages.1 ∈ TB ∧ Cond.selects MX0_stages.1.cls MX0_stages.1 MX0_stages.1 ∈ TB := ⟨Or.inl (tb4 110 rfl rfl), (tb4 111 rfl rfl), (tb4 112 rfl rfl)⟩
theorem lk11_403 : kLK RX11 403 MJm_abs ∧ Cond.static MJm_abs.1 ∈ TB := ⟨Or.inl (tb3 161 rfl rfl), (tb3 162 rfl rfl)⟩
theorem lk11_408 : kLK RX11 408 MJm_max ∧ Cond.static MJm_max.1 ∈ TB := ⟨Or.inl (tb3 164 rfl rfl), (tb1 55 rfl rfl)⟩
theorem lk11_417 : kLK RX11 417 MX10_lay ∧ Cond.instanceMethod MX10_lay.1 ∈ TB ∧ Cond.selects MX10_lay.1.cls MX10_lay.1 MX10_lay.1 ∈ TB := ⟨Or.inl (tb3 94 rfl rfl), (tb3 95 rfl rfl), (tb3 96 rfl rfl)⟩
theorem lk11_420 : kLK RX11 420 MX9_countHops ∧ Cond.instanceMethod MX9_countHops.1 ∈ TB ∧ Cond.selects MX9_countHops.1.cls MX9_countHops.1 MX9_countHops.1 ∈ TB := ⟨Or.inl (tb3 180 rfl rfl), (tb3 181 rfl rfl), (tb3 182 rfl rfl)⟩
theorem lk11_424 : kLK RX11 424 MX9_layHops ∧ Cond.instanceMethod MX9_layHops.1 ∈ TB ∧ Cond.selects MX9_layHops.1.cls MX9_layHops.1 MX9_layHops.1 ∈ TB := ⟨Or.inl (tb3 190 rfl rfl), (tb3 191 rfl rfl), (tb3 192 rfl rfl)⟩
theorem lk11_427 : kLK RX11 427 MX8_isNear ∧ Cond.instanceMethod MX8_isNear.1 ∈ TB ∧ Cond.selects MX8_isNear.1.cls MX8_isNear.1 MX8_isNear.1 ∈ TB := ⟨Or.inl (tb4 81 rfl rfl), (tb4 52 rfl rfl), (tb4 53 rfl rfl)⟩
theorem lk11_430 : kLK RX11 430 MX10_follow ∧ Cond.instanceMethod MX10_follow.1 ∈ TB ∧ Cond.selects MX10_follow.1.cls MX10_follow.1 MX10_follow.1 ∈ TB := ⟨Or.inl (tb4 146 rfl rfl), (tb3 117 rfl rfl), (tb3 118 rfl rfl)⟩
theorem lk11_433 : kLK RX11 433 MX2_speakFor ∧ Cond.instanceMethod MX2_speakFor.1 ∈ TB ∧ Cond.selects MX2_speakFor.1.cls MX2_speakFor.1 MX2_speakFor.1 ∈ TB := ⟨Or.inl (tb4 163 rfl rfl), (tb4 164 rfl rfl), (tb4 165 rfl rfl)⟩
theorem lk11_436 : kLK RX11 436 MX11_placeIn ∧ Cond.instanceMethod MX11_placeIn.1 ∈ TB ∧ Cond.selects MX11_placeIn.1.cls MX11_placeIn.1 MX11_placeIn.1 ∈ TB := ⟨Or.inl (tb4 232 rfl rfl), (tb4 234 rfl rfl), (tbS 43 rfl rfl)⟩
theorem lk0_11 : kLK RX0 11 MX8_init ∧ MX8_init.1.name = "<init>" ∧ Cond.instanceMethod MX8_init.1 ∈ TB := ⟨Or.inl (tb2 60 rfl rfl), rfl, (tb1 51 rfl rfl)⟩
theorem lk0_27 : kLK RX0 27 MX8_at ∧ Cond.instanceMethod MX8_at.1 ∈ TB ∧ Cond.selects MX8_at.1.cls MX8_at.1 MX8_at.1 ∈ TB := ⟨Or.inl (tb3 24 rfl rfl), (tb2 209 rfl rfl), (tb2 210 rfl rfl)⟩
theorem lk0_33 : kLK RX0 33 MX8_cut ∧ Cond.instanceMethod MX8_cut.1 ∈ TB ∧ Cond.selects MX8_cut.1.cls MX8_cut.1 MX8_cut.1 ∈ TB := ⟨Or.inl (tb3 19 rfl rfl), (tb2 185 rfl rfl), (tb2 186 rfl rfl)⟩
theorem lk0_37 : kLK RX0 37 MX0_skipBlanks ∧ Cond.instanceMethod MX0_skipBlanks.1 ∈ TB ∧ Cond.selects MX0_skipBlanks.1.cls MX0_skipBlanks.1 MX0_skipBlanks.1 ∈ TB := ⟨Or.inl (tb3 20 rfl rfl), (tb3 22 rfl rfl), (tbS 11 rfl rfl)⟩
theorem lk0_41 : kLK RX0 41 MX0_readsTown ∧ Cond.instanceMethod MX0_readsTown.1 ∈ TB ∧ Cond.selects MX0_readsTown.1.cls MX0_readsTown.1 MX0_readsTown.1 ∈ TB := ⟨Or.inl (tb3 25 rfl rfl), (tb3 27 rfl rfl), (tbS 12 rfl rfl)⟩
theorem lk0_45 : kLK RX0 45 MX0_readsMiles ∧ Cond.instanceMethod MX0_readsMiles.1 ∈ TB ∧ Cond.selects MX0_readsMiles.1.cls MX0_readsMiles.1 MX0_readsMiles.1 ∈ TB := ⟨Or.inl (tb3 30 rfl rfl), (tb3 32 rfl rfl), (tbS 13 rfl rfl)⟩
theorem lk0_49 : kLK RX0 49 MX8_add ∧ Cond.instanceMethod MX8_add.1 ∈ TB ∧ Cond.selects MX8_add.1.cls MX8_add.1 MX8_add.1 ∈ TB := ⟨Or.inl (tb3 29 rfl rfl), (tb2 166 rfl rfl), (tb2 167 rfl rfl)⟩
theorem lk0_52 : kLK RX0 52 MX0_isDigit ∧ Cond.instanceMethod MX0_isDigit.1 ∈ TB ∧ Cond.selects MX0_isDigit.1.cls MX0_isDigit.1 MX0_isDigit.1 ∈ TB := ⟨Or.inl (tb3 34 rfl rfl), (tb3 36 rfl rfl), (tbS 14 rfl rfl)⟩
theorem lk1_15 : kLK RX1 15 MJm_fill ∧ Cond.static MJm_fill.1 ∈ TB := ⟨Or.inl (tb5 46 rfl rfl), (tb3 66 rfl rfl)⟩
theorem lk1_41 : kLK RX1 41 MX1_oneOf ∧ Cond.instanceMethod MX1_oneOf.1 ∈ TB ∧ Cond.selects MX1_oneOf.1.cls MX1_oneOf.1 MX1_oneOf.1 ∈ TB := ⟨Or.inl (tb5 51 rfl rfl), (tb5 53 rfl rfl), (tbS 46 rfl rfl)⟩
theorem lk1_45 : kLK RX1 45 MX8_at ∧ Cond.instanceMethod MX8_at.1 ∈ TB ∧ Cond.selects MX8_at.1.cls MX8_at.1 MX8_at.1 ∈ TB := ⟨Or.inl (tb5 57 rfl rfl), (tb2 209 rfl rfl), (tb2 210 rfl rfl)⟩
theorem lk1_48 : kLK RX1 48 MX10_lay ∧ Cond.instanceMethod MX10_lay.1 ∈ TB ∧ Cond.selects MX10_lay.1.cls MX10_lay.1 MX10_lay.1 ∈ TB := ⟨Or.inl (tb5 58 rfl rfl), (tb3 95 rfl rfl), (tb3 96 rfl rfl)⟩
theorem lk1_54 : kLK RX1 54 MX1_tread ∧ Cond.instanceMethod MX1_tread.1 ∈ TB ∧ Cond.selects MX1_tread.1.cls MX1_tread.1 MX1_tread.1 ∈ TB := ⟨Or.inl (tb5 59 rfl rfl), (tb5 61 rfl rfl), (tbS 47 rfl rfl)⟩
theorem lk1_66 : kLK RX1 66 MX11_isCell ∧ Cond.static MX11_isCell.1 ∈ TB := ⟨Or.inr ⟨"OldRoads", (tb5 63 rfl rfl)⟩, (tb1 134 rfl rfl)⟩
theorem lk1_70 : kLK RX1 70 MX10_ease ∧ Cond.instanceMethod MX10_ease.1 ∈ TB ∧ Cond.selects MX10_ease.1.cls MX10_ease.1 MX10_ease.1 ∈ TB := ⟨Or.inl (tb5 64 rfl rfl), (tb5 65 rfl rfl), (tb5 66 rfl rfl)⟩
theorem lk2_11 : kLK RX2 11 MX8_init ∧ MX8_init.1.name = "<init>" ∧ Cond.instanceMethod MX8_init.1 ∈ TB := ⟨Or.inl (tb1 222 rfl rfl), rfl, (tb1 51 rfl rfl)⟩
theorem lk2_26 : kLK RX2 26 MX8_add ∧ Cond.instanceMethod MX8_add.1 ∈ TB ∧ Cond.selects MX8_add.1.cls MX8_add.1 MX8_add.1 ∈ TB := ⟨Or.inl (tb4 37 rfl rfl), (tb2 166 rfl rfl), (tb2 167 rfl rfl)⟩
theorem lk2_34 : kLK RX2 34 MX8_at ∧ Cond.instanceMethod MX8_at.1 ∈ TB ∧ Cond.selects MX8_at.1.cls MX8_at.1 MX8_at.1 ∈ TB := ⟨Or.inl (tb4 50 rfl rfl), (tb2 209 rfl rfl), (tb2 210 rfl rfl)⟩
theorem lk2_38 : kLK RX2 38 MX8_isNear ∧ Cond.instanceMethod MX8_isNear.1 ∈ TB ∧ Cond.selects MX8_isNear.1.cls MX8_isNear.1 MX8_isNear.1 ∈ TB := ⟨Or.inl (tb4 51 rfl rfl), (tb4 52 rfl rfl), (tb4 53 rfl rfl)⟩
theorem lk2_42 : kLK RX2 42 MX2_nearMoved ∧ Cond.instanceMethod MX2_nearMoved.1 ∈ TB ∧ Cond.selects MX2_nearMoved.1.cls MX2_nearMoved.1 MX2_nearMoved.1 ∈ TB := ⟨Or.inl (tb4 64 rfl rfl), (tb4 47 rfl rfl), (tb4 48 rfl rfl)⟩
theorem lk2_46 : kLK RX2 46 MX8_fitsMoved ∧ Cond.instanceMethod MX8_fitsMoved.1 ∈ TB ∧ Cond.selects MX8_fitsMoved.1.cls MX8_fitsMoved.1 MX8_fitsMoved.1 ∈ TB := ⟨Or.inl (tb4 65 rfl rfl), (tb4 66 rfl rfl), (tb4 67 rfl rfl)⟩
theorem lk3_35 : kLK RX3 35 MJm_max ∧ Cond.static MJm_max.1 ∈ TB := ⟨Or.inl (tb3 79 rfl rfl), (tb1 55 rfl rfl)⟩
theorem lk3_41 : kLK RX3 41 MX3_joined ∧ Cond.static MX3_joined.1 ∈ TB := ⟨Or.inl (tb3 80 rfl rfl), (tb3 81 rfl rfl)⟩
theorem lk3_49 : kLK RX3 49 MJm_minL ∧ Cond.static MJm_minL.1 ∈ TB := ⟨Or.inl (tb3 85 rfl rfl), (tb3 86 rfl rfl)⟩
theorem lk3_53 : kLK RX3 53 MJm_maxL ∧ Cond.static MJm_maxL.1 ∈ TB := ⟨Or.inl (tb3 88 rfl rfl), (tb3 89 rfl rfl)⟩
theorem lk4_11 : kLK RX4 11 MX3_init ∧ MX3_init.1.name = "<init>" ∧ Cond.instanceMethod MX3_init.1 ∈ TB := ⟨Or.inr ⟨"OldRoads", (tb1 80 rfl rfl)⟩, rfl, (tb1 81 rfl rfl)⟩
theorem lk4_20 : kLK RX4 20 MX8_init ∧ MX8_init.1.name = "<init>" ∧ Cond.instanceMethod MX8_init.1 ∈ TB := ⟨Or.inl (tb1 104 rfl rfl), rfl, (tb1 51 rfl rfl)⟩
theorem lk4_34 : kLK RX4 34 MX4_skipBlanks ∧ Cond.instanceMethod MX4_skipBlanks.1 ∈ TB ∧ Cond.selects MX4_skipBlanks.1.cls MX4_skipBlanks.1 MX4_skipBlanks.1 ∈ TB := ⟨Or.inl (tb2 196 rfl rfl), (tb2 198 rfl rfl), (tbS 1 rfl rfl)⟩
theorem lk4_37 : kLK RX4 37 MX4_clause ∧ Cond.instanceMethod MX4_clause.1 ∈ TB ∧ Cond.selects MX4_clause.1.cls MX4_clause.1 MX4_clause.1 ∈ TB := ⟨Or.inl (tb2 200 rfl rfl), (tb2 202 rfl rfl), (tbS 2 rfl rfl)⟩
theorem lk4_42 : kLK RX4 42 MX4_takes ∧ Cond.instanceMethod MX4_takes.1 ∈ TB ∧ Cond.selects MX4_takes.1.cls MX4_takes.1 MX4_takes.1 ∈ TB := ⟨Or.inl (tb2 204 rfl rfl), (tb2 206 rfl rfl), (tbS 3 rfl rfl)⟩
theorem lk4_46 : kLK RX4 46 MX8_at ∧ Cond.instanceMethod MX8_at.1 ∈ TB ∧ Cond.selects MX8_at.1.cls MX8_at.1 MX8_at.1 ∈ TB := ⟨Or.inl (tb2 208 rfl rfl), (tb2 209 rfl rfl), (tb2 210 rfl rfl)⟩
theorem lk4_49 : kLK RX4 49 MX4_sum ∧ Cond.instanceMethod MX4_sum.1 ∈ TB ∧ Cond.selects MX4_sum.1.cls MX4_sum.1 MX4_sum.1 ∈ TB := ⟨Or.inl (tb2 212 rfl rfl), (tb2 214 rfl rfl), (tbS 4 rfl rfl)⟩
theorem lk4_52 : kLK RX4 52 MX4_isComparison ∧ Cond.static MX4_isComparison.1 ∈ TB := ⟨Or.inl (tb2 235 rfl rfl), (tb2 236 rfl rfl)⟩
theorem lk4_56 : kLK RX4 56 MX3_add ∧ Cond.instanceMethod MX3_add.1 ∈ TB ∧ Cond.selects MX3_add.1.cls MX3_add.1 MX3_add.1 ∈ TB := ⟨Or.inl (tb2 228 rfl rfl), (tb2 229 rfl rfl), (tb2 230 rfl rfl)⟩
theorem lk4_59 : kLK RX4 59 MX4_condition ∧ Cond.instanceMethod MX4_condition.1 ∈ TB ∧ Cond.selects MX4_condition.1.cls MX4_condition.1 MX4_condition.1 ∈ TB := ⟨Or.inl (tb2 239 rfl rfl), (tb3 1 rfl rfl), (tbS 8 rfl rfl)⟩
theorem lk4_63 : kLK RX4 63 MX3_leadOn ∧ Cond.instanceMethod MX3_leadOn.1 ∈ TB ∧ Cond.selects MX3_leadOn.1.cls MX3_leadOn.1 MX3_leadOn.1 ∈ TB := ⟨Or.inl (tb3 11 rfl rfl), (tb3 12 rfl rfl), (tb3 13 rfl rfl)⟩
theorem lk4_66 : kLK RX4 66 MX4_truth ∧ Cond.instanceMethod MX4_truth.1 ∈ TB ∧ Cond.selects MX4_truth.1.cls MX4_truth.1 MX4_truth.1 ∈ TB := ⟨Or.inl (tb3 3 rfl rfl), (tb3 5 rfl rfl), (tbS 9 rfl rfl)⟩
theorem lk4_69 : kLK RX4 69 MX4_unit ∧ Cond.instanceMethod MX4_unit.1 ∈ TB ∧ Cond.selects MX4_unit.1.cls MX4_unit.1 MX4_unit.1 ∈ TB := ⟨Or.inl (tb3 7 rfl rfl), (tb3 9 rfl rfl), (tbS 10 rfl rfl)⟩
theorem lk4_72 : kLK RX4 72 MX4_term ∧ Cond.instanceMethod MX4_term.1 ∈ TB ∧ Cond.selects MX4_term.1.cls MX4_term.1 MX4_term.1 ∈ TB := ⟨Or.inl (tb2 216 rfl rfl), (tb2 218 rfl rfl), (tbS 5 rfl rfl)⟩
theorem lk4_75 : kLK RX4 75 MX4_atom ∧ Cond.instanceMethod MX4_atom.1 ∈ TB ∧ Cond.selects MX4_atom.1.cls MX4_atom.1 MX4_atom.1 ∈ TB := ⟨Or.inl (tb2 220 rfl rfl), (tb2 222 rfl rfl), (tbS 6 rfl rfl)⟩
theorem lk4_78 : kLK RX4 78 MX4_number ∧ Cond.instanceMethod MX4_number.1 ∈ TB ∧ Cond.selects MX4_number.1.cls MX4_number.1 MX4_number.1 ∈ TB := ⟨Or.inl (tb2 224 rfl rfl), (tb2 226 rfl rfl), (tbS 7 rfl rfl)⟩
theorem lk4_82 : kLK RX4 82 MX4_letterNumber ∧ Cond.static MX4_letterNumber.1 ∈ TB := ⟨Or.inl (tb2 232 rfl rfl), (tb2 233 rfl rfl)⟩
theorem lk5_16 : kLK RX5 16 MX11_isCell ∧ Cond.static MX11_isCell.1 ∈ TB := ⟨Or.inr ⟨"OldRoads", (tb2 147 rfl rfl)⟩, (tb1 134 rfl rfl)⟩
theorem lk5_20 : kLK RX5 20 MX11_isLayer ∧ Cond.static MX11_isLayer.1 ∈ TB := ⟨Or.inr ⟨"OldRoads", (tb2 148 rfl rfl)⟩, (tb2 141 rfl rfl)⟩
theorem lk5_29 : kLK RX5 29 MX5_isUnlike ∧ Cond.instanceMethod MX5_isUnlike.1 ∈ TB ∧ Cond.selects MX5_isUnlike.1.cls MX5_isUnlike.1 MX5_isUnlike.1 ∈ TB := ⟨Or.inl (tb5 112 rfl rfl), (tb5 114 rfl rfl), (tbS 49 rfl rfl)⟩
theorem lk5_33 : kLK RX5 33 MX5_told ∧ Cond.instanceMethod MX5_told.1 ∈ TB ∧ Cond.selects MX5_told.1.cls MX5_told.1 MX5_told.1 ∈ TB := ⟨Or.inl (tb5 116 rfl rfl), (tb2 154 rfl rfl), (tb2 155 rfl rfl)⟩
theorem lk6_16 : kLK RX6 16 MJm_min ∧ Cond.static MJm_min.1 ∈ TB := ⟨Or.inl (tb5 15 rfl rfl), (tb3 92 rfl rfl)⟩
theorem lk6_22 : kLK RX6 22 MJm_max ∧ Cond.static MJm_max.1 ∈ TB := ⟨Or.inl (tb5 16 rfl rfl), (tb1 55 rfl rfl)⟩
theorem lk6_30 : kLK RX6 30 MX6_costTo ∧ Cond.instanceMethod MX6_costTo.1 ∈ TB ∧ Cond.selects MX6_costTo.1.cls MX6_costTo.1 MX6_costTo.1 ∈ TB := ⟨Or.inl (tb5 26 rfl rfl), (tb5 28 rfl rfl), (tbS 44 rfl rfl)⟩
theorem lk6_33 : kLK RX6 33 MX6_reached ∧ Cond.instanceMethod MX6_reached.1 ∈ TB ∧ Cond.selects MX6_reached.1.cls MX6_reached.1 MX6_reached.1 ∈ TB := ⟨Or.inl (tb5 34 rfl rfl), (tb5 36 rfl rfl), (tbS 45 rfl rfl)⟩
theorem lk7_11 : kLK RX7 11 MX8_init ∧ MX8_init.1.name = "<init>" ∧ Cond.instanceMethod MX8_init.1 ∈ TB := ⟨Or.inl (tb2 1 rfl rfl), rfl, (tb1 51 rfl rfl)⟩
theorem lk7_26 : kLK RX7 26 MX8_cut ∧ Cond.instanceMethod MX8_cut.1 ∈ TB ∧ Cond.selects MX8_cut.1.cls MX8_cut.1 MX8_cut.1 ∈ TB := ⟨Or.inl (tb4 183 rfl rfl), (tb2 185 rfl rfl), (tb2 186 rfl rfl)⟩
theorem lk7_34 : kLK RX7 34 MX8_at ∧ Cond.instanceMethod MX8_at.1 ∈ TB ∧ Cond.selects MX8_at.1.cls MX8_at.1 MX8_at.1 ∈ TB := ⟨Or.inl (tb4 188 rfl rfl), (tb2 209 rfl rfl), (tb2 210 rfl rfl)⟩
theorem lk7_38 : kLK RX7 38 MX8_has ∧ Cond.instanceMethod MX8_has.1 ∈ TB ∧ Cond.selects MX8_has.1.cls MX8_has.1 MX8_has.1 ∈ TB := ⟨Or.inl (tb4 189 rfl rfl), (tb2 162 rfl rfl), (tb2 163 rfl rfl)⟩
theorem lk7_41 : kLK RX7 41 MX8_add ∧ Cond.instanceMethod MX8_add.1 ∈ TB ∧ Cond.selects MX8_add.1.cls MX8_add.1 MX8_add.1 ∈ TB := ⟨Or.inl (tb4 190 rfl rfl), (tb2 166 rfl rfl), (tb2 167 rfl rfl)⟩
theorem lk7_44 : kLK RX7 44 MX7_parted ∧ Cond.instanceMethod MX7_parted.1 ∈ TB ∧ Cond.selects MX7_parted.1.cls MX7_parted.1 MX7_parted.1 ∈ TB := ⟨Or.inl (tb4 195 rfl rfl), (tb4 197 rfl rfl), (tbS 38 rfl rfl)⟩
theorem lk7_47 : kLK RX7 47 MJm_bitCount ∧ Cond.static MJm_bitCount.1 ∈ TB := ⟨Or.inl (tb4 211 rfl rfl), (tb4 212 rfl rfl)⟩
theorem lk7_52 : kLK RX7 52 MX7_goesAhead ∧ Cond.static MX7_goesAhead.1 ∈ TB := ⟨Or.inl (tb4 217 rfl rfl), (tb4 218 rfl rfl)⟩
theorem lk7_56 : kLK RX7 56 MX7_isFirstToShow ∧ Cond.instanceMethod MX7_isFirstToShow.1 ∈ TB ∧ Cond.selects MX7_isFirstToShow.1.cls MX7_isFirstToShow.1 MX7_isFirstToShow.1 ∈ TB := ⟨Or.inl (tb4 199 rfl rfl), (tb4 201 rfl rfl), (tbS 39 rfl rfl)⟩
theorem lk7_59 : kLK RX7 59 MX7_evidenceAlike ∧ Cond.instanceMethod MX7_evidenceAlike.1 ∈ TB ∧ Cond.selects MX7_evidenceAlike.1.cls MX7_evidenceAlike.1 MX7_evidenceAlike.1 ∈ TB := ⟨Or.inl (tb4 207 rfl rfl), (tb4 209 rfl rfl), (tbS 41 rfl rfl)⟩
theorem lk7_63 : kLK RX7 63 MX7_showAlike ∧ Cond.instanceMethod MX7_showAlike.1 ∈ TB ∧ Cond.selects MX7_showAlike.1.cls MX7_showAlike.1 MX7_showAlike.1 ∈ TB := ⟨Or.inl (tb4 203 rfl rfl), (tb4 205 rfl rfl), (tbS 40 rfl rfl)⟩
theorem lk8_9 : kLK RX8 9 MJm_max ∧ Cond.static MJm_max.1 ∈ TB := ⟨Or.inl (tb1 54 rfl rfl), (tb1 55 rfl rfl)⟩
theorem lk8_25 : kLK RX8 25 MX8_at ∧ Cond.instanceMethod MX8_at.1 ∈ TB ∧ Cond.selects MX8_at.1.cls MX8_at.1 MX8_at.1 ∈ TB := ⟨Or.inl (tb4 3 rfl rfl), (tb2 209 rfl rfl), (tb2 210 rfl rfl)⟩
theorem lk8_29 : kLK RX8 29 MJm_min ∧ Cond.static MJm_min.1 ∈ TB := ⟨Or.inl (tb3 212 rfl rfl), (tb3 92 rfl rfl)⟩
theorem lk8_38 : kLK RX8 38 MX8_has ∧ Cond.instanceMethod MX8_has.1 ∈ TB ∧ Cond.selects MX8_has.1.cls MX8_has.1 MX8_has.1 ∈ TB := ⟨Or.inl (tb5 133 rfl rfl), (tb2 162 rfl rfl), (tb2 163 rfl rfl)⟩
theorem lk8_42 : kLK RX8 42 MJm_abs ∧ Cond.static MJm_abs.1 ∈ TB := ⟨Or.inl (tb4 55 rfl rfl), (tb3 162 rfl rfl)⟩
theorem lk8_45 : kLK RX8 45 MX8_turnsAt ∧ Cond.instanceMethod MX8_turnsAt.1 ∈ TB ∧ Cond.selects MX8_turnsAt.1.cls MX8_turnsAt.1 MX8_turnsAt.1 ∈ TB := ⟨Or.inl (tb4 21 rfl rfl), (tb4 23 rfl rfl), (tbS 27 rfl rfl)⟩
theorem lk9_20 : kLK RX9 20 MX8_init ∧ MX8_init.1.name = "<init>" ∧ Cond.instanceMethod MX8_init.1 ∈ TB := ⟨Or.inl (tb1 199 rfl rfl), rfl, (tb1 51 rfl rfl)⟩
theorem lk9_30 : kLK RX9 30 MX11_apart ∧ Cond.static MX11_apart.1 ∈ TB := ⟨Or.inr ⟨"OldRoads", (tb3 158 rfl rfl)⟩, (tb3 159 rfl rfl)⟩
theorem lk9_34 : kLK RX9 34 MX5_told ∧ Cond.instanceMethod MX5_told.1 ∈ TB ∧ Cond.selects MX5_told.1.cls MX5_told.1 MX5_told.1 ∈ TB := ⟨Or.inl (tb3 165 rfl rfl), (tb2 154 rfl rfl), (tb2 155 rfl rfl)⟩
theorem lk9_39 : kLK RX9 39 MX9_cellBetween ∧ Cond.static MX9_cellBetween.1 ∈ TB := ⟨Or.inl (tb3 166 rfl rfl), (tb3 167 rfl rfl)⟩
theorem lk9_43 : kLK RX9 43 MJm_floorDiv ∧ Cond.static MJm_floorDiv.1 ∈ TB := ⟨Or.inl (tb3 169 rfl rfl), (tb3 170 rfl rfl)⟩
theorem lk9_48 : kLK RX9 48 MX8_cut ∧ Cond.instanceMethod MX8_cut.1 ∈ TB ∧ Cond.selects MX8_cut.1.cls MX8_cut.1 MX8_cut.1 ∈ TB := ⟨Or.inl (tb3 194 rfl rfl), (tb2 185 rfl rfl), (tb2 186 rfl rfl)⟩
theorem lk9_52 : kLK RX9 52 MX8_add ∧ Cond.instanceMethod MX8_add.1 ∈ TB ∧ Cond.selects MX8_add.1.cls MX8_add.1 MX8_add.1 ∈ TB := ⟨Or.inl (tb3 195 rfl rfl), (tb2 166 rfl rfl), (tb2 167 rfl rfl)⟩
theorem lk9_55 : kLK RX9 55 MJm_fill ∧ Cond.static MJm_fill.1 ∈ TB := ⟨Or.inl (tb3 184 rfl rfl), (tb3 66 rfl rfl)⟩
theorem lk9_61 : kLK RX9 61 MX9_isHop ∧ Cond.instanceMethod MX9_isHop.1 ∈ TB ∧ Cond.selects MX9_isHop.1.cls MX9_isHop.1 MX9_isHop.1 ∈ TB := ⟨Or.inl (tb3 185 rfl rfl), (tb3 187 rfl rfl), (tbS 23 rfl rfl)⟩
theorem lk9_65 : kLK RX9 65 MX9_nextHop ∧ Cond.instanceMethod MX9_nextHop.1 ∈ TB ∧ Cond.selects MX9_nextHop.1.cls MX9_nextHop.1 MX9_nextHop.1 ∈ TB := ⟨Or.inl (tb3 196 rfl rfl), (tb3 198 rfl rfl), (tbS 24 rfl rfl)⟩
theorem lk9_69 : kLK RX9 69 MX9_isSeen ∧ Cond.instanceMethod MX9_isSeen.1 ∈ TB ∧ Cond.selects MX9_isSeen.1.cls MX9_isSeen.1 MX9_isSeen.1 ∈ TB := ⟨Or.inl (tb3 189 rfl rfl), (tb3 155 rfl rfl), (tb3 156 rfl rfl)⟩
theorem lk9_73 : kLK RX9 73 MX8_at ∧ Cond.instanceMethod MX8_at.1 ∈ TB ∧ Cond.selects MX8_at.1.cls MX8_at.1 MX8_at.1 ∈ TB := ⟨Or.inl (tb3 226 rfl rfl), (tb2 209 rfl rfl), (tb2 210 rfl rfl)⟩
theorem lk10_41 : kLK RX10 41 MX8_init ∧ MX8_init.1.name = "<init>" ∧ Cond.instanceMethod MX8_init.1 ∈ TB := ⟨Or.inl (tb1 129 rfl rfl), rfl, (tb1 51 rfl rfl)⟩
theorem lk10_51 : kLK RX10 51 MX11_stepFrom ∧ Cond.static MX11_stepFrom.1 ∈ TB := ⟨Or.inr ⟨"OldRoads", (tb1 130 rfl rfl)⟩, (tb1 131 rfl rfl)⟩
theorem lk10_67 : kLK RX10 67 MJm_fill ∧ Cond.static MJm_fill.1 ∈ TB := ⟨Or.inl (tb3 65 rfl rfl), (tb3 66 rfl rfl)⟩
theorem lk10_73 : kLK RX10 73 MX5_told ∧ Cond.instanceMethod MX5_told.1 ∈ TB ∧ Cond.selects MX5_told.1.cls MX5_told.1 MX5_told.1 ∈ TB := ⟨Or.inl (tb3 68 rfl rfl), (tb2 154 rfl rfl), (tb2 155 rfl rfl)⟩
theorem lk10_78 : kLK RX10 78 MX10_painOf ∧ Cond.instanceMethod MX10_painOf.1 ∈ TB ∧ Cond.selects MX10_painOf.1.cls MX10_painOf.1 MX10_painOf.1 ∈ TB := ⟨Or.inl (tb3 69 rfl rfl), (tb3 71 rfl rfl), (tbS 17 rfl rfl)⟩
theorem lk10_82 : kLK RX10 82 MJm_max ∧ Cond.static MJm_max.1 ∈ TB := ⟨Or.inl (tb3 73 rfl rfl), (tb1 55 rfl rfl)⟩
theorem lk10_87 : kLK RX10 87 MX3_worth ∧ Cond.instanceMethod MX3_worth.1 ∈ TB ∧ Cond.selects MX3_worth.1.cls MX3_worth.1 MX3_worth.1 ∈ TB := ⟨Or.inl (tb3 74 rfl rfl), (tb3 75 rfl rfl), (tb3 76 rfl rfl)⟩
theorem lk10_93 : kLK RX10 93 MJm_min ∧ Cond.static MJm_min.1 ∈ TB := ⟨Or.inl (tb3 91 rfl rfl), (tb3 92 rfl rfl)⟩
theorem lk10_96 : kLK RX10 96 MX10_spread ∧ Cond.instanceMethod MX10_spread.1 ∈ TB ∧ Cond.selects MX10_spread.1.cls MX10_spread.1 MX10_spread.1 ∈ TB := ⟨Or.inl (tb3 102 rfl rfl), (tb3 104 rfl rfl), (tbS 18 rfl rfl)⟩
theorem lk10_100 : kLK RX10 100 MX11_isCell ∧ Cond.static MX11_isCell.1 ∈ TB := ⟨Or.inr ⟨"OldRoads", (tb3 106 rfl rfl)⟩, (tb1 134 rfl rfl)⟩
theorem lk10_108 : kLK RX10 108 MX10_takeLeast ∧ Cond.instanceMethod MX10_takeLeast.1 ∈ TB ∧ Cond.selects MX10_takeLeast.1.cls MX10_takeLeast.1 MX10_takeLeast.1 ∈ TB := ⟨Or.inl (tb3 108 rfl rfl), (tb3 110 rfl rfl), (tbS 19 rfl rfl)⟩
theorem lk10_111 : kLK RX10 111 MX10_reach ∧ Cond.instanceMethod MX10_reach.1 ∈ TB ∧ Cond.selects MX10_reach.1.cls MX10_reach.1 MX10_reach.1 ∈ TB := ⟨Or.inl (tb3 112 rfl rfl), (tb3 114 rfl rfl), (tbS 20 rfl rfl)⟩
theorem lk10_115 : kLK RX10 115 MX10_spreadTo ∧ Cond.instanceMethod MX10_spreadTo.1 ∈ TB ∧ Cond.selects MX10_spreadTo.1.cls MX10_spreadTo.1 MX10_spreadTo.1 ∈ TB := ⟨Or.inl (tb3 98 rfl rfl), (tb3 99 rfl rfl), (tb3 100 rfl rfl)⟩
theorem lk10_118 : kLK RX10 118 MX10_follow ∧ Cond.instanceMethod MX10_follow.1 ∈ TB ∧ Cond.selects MX10_follow.1.cls MX10_follow.1 MX10_follow.1 ∈ TB := ⟨Or.inl (tb3 116 rfl rfl), (tb3 117 rfl rfl), (tb3 118 rfl rfl)⟩
theorem lk10_122 : kLK RX10 122 MX8_cut ∧ Cond.instanceMethod MX8_cut.1 ∈ TB ∧ Cond.selects MX8_cut.1.cls MX8_cut.1 MX8_cut.1 ∈ TB := ⟨Or.inl (tb3 120 rfl rfl), (tb2 185 rfl rfl), (tb2 186 rfl rfl)⟩
theorem lk10_125 : kLK RX10 125 MX8_add ∧ Cond.instanceMethod MX8_add.1 ∈ TB ∧ Cond.selects MX8_add.1.cls MX8_add.1 MX8_add.1 ∈ TB := ⟨Or.inl (tb3 121 rfl rfl), (tb2 166 rfl rfl), (tb2 167 rfl rfl)⟩
theorem lk10_128 : kLK RX10 128 MX10_nextOn ∧ Cond.instanceMethod MX10_nextOn.1 ∈ TB ∧ Cond.selects MX10_nextOn.1.cls MX10_nextOn.1 MX10_nextOn.1 ∈ TB := ⟨Or.inl (tb3 122 rfl rfl), (tb3 124 rfl rfl), (tbS 21 rfl rfl)⟩
theorem lkL_7 : kLK "OldRoadsLaw" 7 MX11_pain ∧ Cond.instanceMethod MX11_pain.1 ∈ TB ∧ Cond.selects MX11_pain.1.cls MX11_pain.1 MX11_pain.1 ∈ TB := ⟨Or.inl (tb5 142 rfl rfl), (tb5 143 rfl rfl), (tb5 144 rfl rfl)⟩
theorem lkL_15 : kLK "OldRoadsLaw" 15 MX11_stage ∧ Cond.instanceMethod MX11_stage.1 ∈ TB ∧ Cond.selects MX11_stage.1.cls MX11_stage.1 MX11_stage.1 ∈ TB := ⟨Or.inl (tb5 214 rfl rfl), (tb5 215 rfl rfl), (tb5 216 rfl rfl)⟩
theorem lkL_19 : kLK "OldRoadsLaw" 19 MX11_init ∧ MX11_init.1.name = "<init>" ∧ Cond.instanceMethod MX11_init.1 ∈ TB := ⟨Or.inl (tb1 28 rfl rfl), rfl, (tb1 29 rfl rfl)⟩
theorem lkL_22 : kLK "OldRoadsLaw" 22 MX12_init ∧ MX12_init.1.name = "<init>" ∧ Cond.instanceMethod MX12_init.1 ∈ TB := ⟨Or.inl (tb5 220 rfl rfl), rfl, (tb5 221 rfl rfl)⟩
theorem lkL_23 : kLK "OldRoadsLaw" 23 MX11_draw ∧ Cond.instanceMethod MX11_draw.1 ∈ TB ∧ Cond.selects MX11_draw.1.cls MX11_draw.1 MX11_draw.1 ∈ TB := ⟨Or.inl (tb2 133 rfl rfl), (tb2 134 rfl rfl), (tb2 135 rfl rfl)⟩
theorem lkL_27 : kLK "OldRoadsLaw" 27 MX12_draw ∧ Cond.instanceMethod MX12_draw.1 ∈ TB ∧ Cond.selects MX12_draw.1.cls MX12_draw.1 MX12_draw.1 ∈ TB := ⟨Or.inl (tb6 200 rfl rfl), (tb6 201 rfl rfl), (tb6 202 rfl rfl)⟩
theorem lkL_28 : kLK "OldRoadsLaw" 28 MX11_drawn ∧ Cond.instanceMethod MX11_drawn.1 ∈ TB ∧ Cond.selects MX11_drawn.1.cls MX11_drawn.1 MX11_drawn.1 ∈ TB := ⟨Or.inl (tb2 149 rfl rfl), (tb2 150 rfl rfl), (tb2 151 rfl rfl)⟩
theorem lkL_32 : kLK "OldRoadsLaw" 32 MX12_drawn ∧ Cond.instanceMethod MX12_drawn.1 ∈ TB ∧ Cond.selects MX12_drawn.1.cls MX12_drawn.1 MX12_drawn.1 ∈ TB := ⟨Or.inl (tb6 210 rfl rfl), (tb6 211 rfl rfl), (tb6 212 rfl rfl)⟩
theorem lkL_33 : kLK "OldRoadsLaw" 33 MX11_town ∧ Cond.instanceMethod MX11_town.1 ∈ TB ∧ Cond.selects MX11_town.1.cls MX11_town.1 MX11_town.1 ∈ TB := ⟨Or.inl (tb2 157 rfl rfl), (tb2 158 rfl rfl), (tb2 159 rfl rfl)⟩
theorem lkL_37 : kLK "OldRoadsLaw" 37 MX12_town ∧ Cond.instanceMethod MX12_town.1 ∈ TB ∧ Cond.selects MX12_town.1.cls MX12_town.1 MX12_town.1 ∈ TB := ⟨Or.inl (tb6 217 rfl rfl), (tb6 218 rfl rfl), (tb6 219 rfl rfl)⟩
theorem lkL_38 : kLK "OldRoadsLaw" 38 MX11_feed ∧ Cond.instanceMethod MX11_feed.1 ∈ TB ∧ Cond.selects MX11_feed.1.cls MX11_feed.1 MX11_feed.1 ∈ TB := ⟨Or.inl (tb2 169 rfl rfl), (tb2 170 rfl rfl), (tb2 171 rfl rfl)⟩
theorem lkL_42 : kLK "OldRoadsLaw" 42 MX12_feed ∧ Cond.instanceMethod MX12_feed.1 ∈ TB ∧ Cond.selects MX12_feed.1.cls MX12_feed.1 MX12_feed.1 ∈ TB := ⟨Or.inl (tb6 221 rfl rfl), (tb6 222 rfl rfl), (tb6 223 rfl rfl)⟩
theorem lkL_43 : kLK "OldRoadsLaw" 43 MX11_end ∧ Cond.instanceMethod MX11_end.1 ∈ TB ∧ Cond.selects MX11_end.1.cls MX11_end.1 MX11_end.1 ∈ TB := ⟨Or.inl (tb2 180 rfl rfl), (tb2 181 rfl rfl), (tb2 182 rfl rfl)⟩
theorem lkL_47 : kLK "OldRoadsLaw" 47 MX12_end ∧ Cond.instanceMethod MX12_end.1 ∈ TB ∧ Cond.selects MX12_end.1.cls MX12_end.1 MX12_end.1 ∈ TB := ⟨Or.inl (tb6 232 rfl rfl), (tb6 233 rfl rfl), (tb6 234 rfl rfl)⟩
theorem lkL_48 : kLK "OldRoadsLaw" 48 MX11_fault ∧ Cond.instanceMethod MX11_fault.1 ∈ TB ∧ Cond.selects MX11_fault.1.cls MX11_fault.1 MX11_fault.1 ∈ TB := ⟨Or.inl (tb2 188 rfl rfl), (tb2 189 rfl rfl), (tb2 190 rfl rfl)⟩
theorem lkL_51 : kLK "OldRoadsLaw" 51 MX12_fault ∧ Cond.instanceMethod MX12_fault.1 ∈ TB ∧ Cond.selects MX12_fault.1.cls MX12_fault.1 MX12_fault.1 ∈ TB := ⟨Or.inl (tb6 236 rfl rfl), (tb6 237 rfl rfl), (tb6 238 rfl rfl)⟩
theorem lkL_52 : kLK "OldRoadsLaw" 52 MX11_text ∧ Cond.instanceMethod MX11_text.1 ∈ TB ∧ Cond.selects MX11_text.1.cls MX11_text.1 MX11_text.1 ∈ TB := ⟨Or.inl (tb3 38 rfl rfl), (tb3 39 rfl rfl), (tb3 40 rfl rfl)⟩
theorem lkL_55 : kLK "OldRoadsLaw" 55 MX12_text ∧ Cond.instanceMethod MX12_text.1 ∈ TB ∧ Cond.selects MX12_text.1.cls MX12_text.1 MX12_text.1 ∈ TB := ⟨Or.inl (tb7 129 rfl rfl), (tb7 130 rfl rfl), (tb7 131 rfl rfl)⟩
theorem lkL_61 : kLK "OldRoadsLaw" 61 MX12_pain ∧ Cond.instanceMethod MX12_pain.1 ∈ TB ∧ Cond.selects MX12_pain.1.cls MX12_pain.1 MX12_pain.1 ∈ TB := ⟨Or.inl (tb7 134 rfl rfl), (tb7 135 rfl rfl), (tb7 136 rfl rfl)⟩
theorem lkL_62 : kLK "OldRoadsLaw" 62 MX12_thrown ∧ Cond.instanceMethod MX12_thrown.1 ∈ TB ∧ Cond.selects MX12_thrown.1.cls MX12_thrown.1 MX12_thrown.1 ∈ TB := ⟨Or.inl (tb6 196 rfl rfl), (tb6 197 rfl rfl), (tb6 198 rfl rfl)⟩
theorem lkL_66 : kLK "OldRoadsLaw" 66 MX11_pains ∧ Cond.instanceMethod MX11_pains.1 ∈ TB ∧ Cond.selects MX11_pains.1.cls MX11_pains.1 MX11_pains.1 ∈ TB := ⟨Or.inl (tb3 49 rfl rfl), (tb3 50 rfl rfl), (tb3 51 rfl rfl)⟩
theorem lkL_69 : kLK "OldRoadsLaw" 69 MX12_pains ∧ Cond.instanceMethod MX12_pains.1 ∈ TB ∧ Cond.selects MX12_pains.1.cls MX12_pains.1 MX12_pains.1 ∈ TB := ⟨Or.inl (tb7 161 rfl rfl), (tb7 162 rfl rfl), (tb7 163 rfl rfl)⟩
theorem lkL_70 : kLK "OldRoadsLaw" 70 MX11_way ∧ Cond.instanceMethod MX11_way.1 ∈ TB ∧ Cond.selects MX11_way.1.cls MX11_way.1 MX11_way.1 ∈ TB := ⟨Or.inl (tb3 130 rfl rfl), (tb3 131 rfl rfl), (tb3 132 rfl rfl)⟩
theorem lkL_74 : kLK "OldRoadsLaw" 74 MX12_way ∧ Cond.instanceMethod MX12_way.1 ∈ TB ∧ Cond.selects MX12_way.1.cls MX12_way.1 MX12_way.1 ∈ TB := ⟨Or.inl (tb7 186 rfl rfl), (tb7 187 rfl rfl), (tb7 188 rfl rfl)⟩
theorem lkL_75 : kLK "OldRoadsLaw" 75 MX11_nearly ∧ Cond.instanceMethod MX11_nearly.1 ∈ TB ∧ Cond.selects MX11_nearly.1.cls MX11_nearly.1 MX11_nearly.1 ∈ TB := ⟨Or.inl (tb3 135 rfl rfl), (tb3 136 rfl rfl), (tb3 137 rfl rfl)⟩
theorem lkL_79 : kLK "OldRoadsLaw" 79 MX12_nearly ∧ Cond.instanceMethod MX12_nearly.1 ∈ TB ∧ Cond.selects MX12_nearly.1.cls MX12_nearly.1 MX12_nearly.1 ∈ TB := ⟨Or.inl (tb7 190 rfl rfl), (tb7 191 rfl rfl), (tb7 192 rfl rfl)⟩
theorem lkL_80 : kLK "OldRoadsLaw" 80 MX11_sees ∧ Cond.instanceMethod MX11_sees.1 ∈ TB ∧ Cond.selects MX11_sees.1.cls MX11_sees.1 MX11_sees.1 ∈ TB := ⟨Or.inl (tb3 150 rfl rfl), (tb3 151 rfl rfl), (tb3 152 rfl rfl)⟩
theorem lkL_83 : kLK "OldRoadsLaw" 83 MX12_sees ∧ Cond.instanceMethod MX12_sees.1 ∈ TB ∧ Cond.selects MX12_sees.1.cls MX12_sees.1 MX12_sees.1 ∈ TB := ⟨Or.inl (tb7 198 rfl rfl), (tb7 199 rfl rfl), (tb7 200 rfl rfl)⟩
theorem lkL_84 : kLK "OldRoadsLaw" 84 MX11_sights ∧ Cond.instanceMethod MX11_sights.1 ∈ TB ∧ Cond.selects MX11_sights.1.cls MX11_sights.1 MX11_sights.1 ∈ TB := ⟨Or.inl (tb3 172 rfl rfl), (tb3 173 rfl rfl), (tb3 174 rfl rfl)⟩
theorem lkL_88 : kLK "OldRoadsLaw" 88 MX12_sights ∧ Cond.instanceMethod MX12_sights.1 ∈ TB ∧ Cond.selects MX12_sights.1.cls MX12_sights.1 MX12_sights.1 ∈ TB := ⟨Or.inl (tb7 214 rfl rfl), (tb7 215 rfl rfl), (tb7 216 rfl rfl)⟩
theorem lkL_89 : kLK "OldRoadsLaw" 89 MX11_lineOfWay ∧ Cond.instanceMethod MX11_lineOfWay.1 ∈ TB ∧ Cond.selects MX11_lineOfWay.1.cls MX11_lineOfWay.1 MX11_lineOfWay.1 ∈ TB := ⟨Or.inl (tb3 200 rfl rfl), (tb3 201 rfl rfl), (tb3 202 rfl rfl)⟩
theorem lkL_92 : kLK "OldRoadsLaw" 92 MX12_lineOfWay ∧ Cond.instanceMethod MX12_lineOfWay.1 ∈ TB ∧ Cond.selects MX12_lineOfWay.1.cls MX12_lineOfWay.1 MX12_lineOfWay.1 ∈ TB := ⟨Or.inl (tb7 226 rfl rfl), (tb7 227 rfl rfl), (tb7 228 rfl rfl)⟩
theorem lkL_93 : kLK "OldRoadsLaw" 93 MX11_lineOfSight ∧ Cond.instanceMethod MX11_lineOfSight.1 ∈ TB ∧ Cond.selects MX11_lineOfSight.1.cls MX11_lineOfSight.1 MX11_lineOfSight.1 ∈ TB := ⟨Or.inl (tb3 214 rfl rfl), (tb3 215 rfl rfl), (tb3 216 rfl rfl)⟩
theorem lkL_96 : kLK "OldRoadsLaw" 96 MX12_lineOfSight ∧ Cond.instanceMethod MX12_lineOfSight.1 ∈ TB ∧ Cond.selects MX12_lineOfSight.1.cls MX12_lineOfSight.1 MX12_lineOfSight.1 ∈ TB := ⟨Or.inl (tb7 238 rfl rfl), (tb7 239 rfl rfl), (tb8 0 rfl rfl)⟩
theorem lkL_97 : kLK "OldRoadsLaw" 97 MX11_lineAt ∧ Cond.instanceMethod MX11_lineAt.1 ∈ TB ∧ Cond.selects MX11_lineAt.1.cls MX11_lineAt.1 MX11_lineAt.1 ∈ TB := ⟨Or.inl (tb3 227 rfl rfl), (tb3 228 rfl rfl), (tb3 229 rfl rfl)⟩
theorem lkL_100 : kLK "OldRoadsLaw" 100 MX12_lineAt ∧ Cond.instanceMethod MX12_lineAt.1 ∈ TB ∧ Cond.selects MX12_lineAt.1.cls MX12_lineAt.1 MX12_lineAt.1 ∈ TB := ⟨Or.inl (tb8 6 rfl rfl), (tb8 7 rfl rfl), (tb8 8 rfl rfl)⟩
theorem lkL_101 : kLK "OldRoadsLaw" 101 MX11_goOn ∧ Cond.instanceMethod MX11_goOn.1 ∈ TB ∧ Cond.selects MX11_goOn.1.cls MX11_goOn.1 MX11_goOn.1 ∈ TB := ⟨Or.inl (tb3 231 rfl rfl), (tb3 232 rfl rfl), (tb3 233 rfl rfl)⟩
theorem lkL_104 : kLK "OldRoadsLaw" 104 MX12_goOn ∧ Cond.instanceMethod MX12_goOn.1 ∈ TB ∧ Cond.selects MX12_goOn.1.cls MX12_goOn.1 MX12_goOn.1 ∈ TB := ⟨Or.inl (tb8 10 rfl rfl), (tb8 11 rfl rfl), (tb8 12 rfl rfl)⟩
theorem lkL_105 : kLK "OldRoadsLaw" 105 MX11_line ∧ Cond.instanceMethod MX11_line.1 ∈ TB ∧ Cond.selects MX11_line.1.cls MX11_line.1 MX11_line.1 ∈ TB := ⟨Or.inl (tb4 5 rfl rfl), (tb4 6 rfl rfl), (tb4 7 rfl rfl)⟩
theorem lkL_108 : kLK "OldRoadsLaw" 108 MX12_line ∧ Cond.instanceMethod MX12_line.1 ∈ TB ∧ Cond.selects MX12_line.1.cls MX12_line.1 MX12_line.1 ∈ TB := ⟨Or.inl (tb8 14 rfl rfl), (tb8 15 rfl rfl), (tb8 16 rfl rfl)⟩
theorem lkL_109 : kLK "OldRoadsLaw" 109 MX11_about ∧ Cond.instanceMethod MX11_about.1 ∈ TB ∧ Cond.selects MX11_about.1.cls MX11_about.1 MX11_about.1 ∈ TB := ⟨Or.inl (tb4 9 rfl rfl), (tb4 10 rfl rfl), (tb4 11 rfl rfl)⟩
theorem lkL_112 : kLK "OldRoadsLaw" 112 MX12_about ∧ Cond.instanceMethod MX12_about.1 ∈ TB ∧ Cond.selects MX12_about.1.cls MX12_about.1 MX12_about.1 ∈ TB := ⟨Or.inl (tb8 26 rfl rfl), (tb8 27 rfl rfl), (tb8 28 rfl rfl)⟩
theorem lkL_113 : kLK "OldRoadsLaw" 113 MX11_find ∧ Cond.instanceMethod MX11_find.1 ∈ TB ∧ Cond.selects MX11_find.1.cls MX11_find.1 MX11_find.1 ∈ TB := ⟨Or.inl (tb4 29 rfl rfl), (tb4 30 rfl rfl), (tb4 31 rfl rfl)⟩
theorem lkL_116 : kLK "OldRoadsLaw" 116 MX12_find ∧ Cond.instanceMethod MX12_find.1 ∈ TB ∧ Cond.selects MX12_find.1.cls MX12_find.1 MX12_find.1 ∈ TB := ⟨Or.inl (tb8 41 rfl rfl), (tb8 42 rfl rfl), (tb8 43 rfl rfl)⟩
theorem lkL_117 : kLK "OldRoadsLaw" 117 MX11_near ∧ Cond.instanceMethod MX11_near.1 ∈ TB ∧ Cond.selects MX11_near.1.cls MX11_near.1 MX11_near.1 ∈ TB := ⟨Or.inl (tb4 38 rfl rfl), (tb4 39 rfl rfl), (tb4 40 rfl rfl)⟩
theorem lkL_120 : kLK "OldRoadsLaw" 120 MX12_near ∧ Cond.instanceMethod MX12_near.1 ∈ TB ∧ Cond.selects MX12_near.1.cls MX12_near.1 MX12_near.1 ∈ TB := ⟨Or.inl (tb8 45 rfl rfl), (tb8 46 rfl rfl), (tb8 47 rfl rfl)⟩
theorem lkL_121 : kLK "OldRoadsLaw" 121 MX11_against ∧ Cond.instanceMethod MX11_against.1 ∈ TB ∧ Cond.selects MX11_against.1.cls MX11_against.1 MX11_against.1 ∈ TB := ⟨Or.inl (tb4 56 rfl rfl), (tb4 57 rfl rfl), (tb4 58 rfl rfl)⟩
theorem lkL_124 : kLK "OldRoadsLaw" 124 MX12_against ∧ Cond.instanceMethod MX12_against.1 ∈ TB ∧ Cond.selects MX12_against.1.cls MX12_against.1 MX12_against.1 ∈ TB := ⟨Or.inl (tb8 64 rfl rfl), (tb8 65 rfl rfl), (tb8 66 rfl rfl)⟩
theorem lkL_125 : kLK "OldRoadsLaw" 125 MX11_known ∧ Cond.instanceMethod MX11_known.1 ∈ TB ∧ Cond.selects MX11_known.1.cls MX11_known.1 MX11_known.1 ∈ TB := ⟨Or.inl (tb4 69 rfl rfl), (tb4 70 rfl rfl), (tb4 71 rfl rfl)⟩
theorem lkL_128 : kLK "OldRoadsLaw" 128 MX12_known ∧ Cond.instanceMethod MX12_known.1 ∈ TB ∧ Cond.selects MX12_known.1.cls MX12_known.1 MX12_known.1 ∈ TB := ⟨Or.inl (tb8 72 rfl rfl), (tb8 73 rfl rfl), (tb8 74 rfl rfl)⟩
theorem lkL_129 : kLK "OldRoadsLaw" 129 MX11_miss ∧ Cond.instanceMethod MX11_miss.1 ∈ TB ∧ Cond.selects MX11_miss.1.cls MX11_miss.1 MX11_miss.1 ∈ TB := ⟨Or.inl (tb4 73 rfl rfl), (tb4 74 rfl rfl), (tb4 75 rfl rfl)⟩
theorem lkL_133 : kLK "OldRoadsLaw" 133 MX12_miss ∧ Cond.instanceMethod MX12_miss.1 ∈ TB ∧ Cond.selects MX12_miss.1.cls MX12_miss.1 MX12_miss.1 ∈ TB := ⟨Or.inl (tb8 76 rfl rfl), (tb8 77 rfl rfl), (tb8 78 rfl rfl)⟩
theorem lkL_134 : kLK "OldRoadsLaw" 134 MX11_best ∧ Cond.instanceMethod MX11_best.1 ∈ TB ∧ Cond.selects MX11_best.1.cls MX11_best.1 MX11_best.1 ∈ TB := ⟨Or.inl (tb4 82 rfl rfl), (tb4 83 rfl rfl), (tb4 84 rfl rfl)⟩
theorem lkL_138 : kLK "OldRoadsLaw" 138 MX12_best ∧ Cond.instanceMethod MX12_best.1 ∈ TB ∧ Cond.selects MX12_best.1.cls MX12_best.1 MX12_best.1 ∈ TB := ⟨Or.inl (tb8 84 rfl rfl), (tb8 85 rfl rfl), (tb8 86 rfl rfl)⟩
theorem lkL_139 : kLK "OldRoadsLaw" 139 MX11_tried ∧ Cond.instanceMethod MX11_tried.1 ∈ TB ∧ Cond.selects MX11_tried.1.cls MX11_tried.1 MX11_tried.1 ∈ TB := ⟨Or.inl (tb4 98 rfl rfl), (tb4 99 rfl rfl), (tb4 100 rfl rfl)⟩
theorem lkL_143 : kLK "OldRoadsLaw" 143 MX12_tried ∧ Cond.instanceMethod MX12_tried.1 ∈ TB ∧ Cond.selects MX12_tried.1.cls MX12_tried.1 MX12_tried.1 ∈ TB := ⟨Or.inl (tb8 100 rfl rfl), (tb8 101 rfl rfl), (tb8 102 rfl rfl)⟩
theorem lkL_147 : kLK "OldRoadsLaw" 147 MX12_stage ∧ Cond.instanceMethod MX12_stage.1 ∈ TB ∧ Cond.selects MX12_stage.1.cls MX12_stage.1 MX12_stage.1 ∈ TB := ⟨Or.inl (tb8 104 rfl rfl), (tb8 105 rfl rfl), (tb8 106 rfl rfl)⟩
theorem lkL_148 : kLK "OldRoadsLaw" 148 MX11_off ∧ Cond.instanceMethod MX11_off.1 ∈ TB ∧ Cond.selects MX11_off.1.cls MX11_off.1 MX11_off.1 ∈ TB := ⟨Or.inl (tb4 102 rfl rfl), (tb4 103 rfl rfl), (tb4 104 rfl rfl)⟩
theorem lkL_152 : kLK "OldRoadsLaw" 152 MX12_off ∧ Cond.instanceMethod MX12_off.1 ∈ TB ∧ Cond.selects MX12_off.1.cls MX12_off.1 MX12_off.1 ∈ TB := ⟨Or.inl (tb8 112 rfl rfl), (tb8 113 rfl rfl), (tb8 114 rfl rfl)⟩
theorem lkL_153 : kLK "OldRoadsLaw" 153 MX11_slip ∧ Cond.instanceMethod MX11_slip.1 ∈ TB ∧ Cond.selects MX11_slip.1.cls MX11_slip.1 MX11_slip.1 ∈ TB := ⟨Or.inl (tb4 127 rfl rfl), (tb4 128 rfl rfl), (tb4 129 rfl rfl)⟩
theorem lkL_157 : kLK "OldRoadsLaw" 157 MX12_slip ∧ Cond.instanceMethod MX12_slip.1 ∈ TB ∧ Cond.selects MX12_slip.1.cls MX12_slip.1 MX12_slip.1 ∈ TB := ⟨Or.inl (tb8 121 rfl rfl), (tb8 122 rfl rfl), (tb8 123 rfl rfl)⟩
theorem lkL_158 : kLK "OldRoadsLaw" 158 MX11_holds ∧ Cond.instanceMethod MX11_holds.1 ∈ TB ∧ Cond.selects MX11_holds.1.cls MX11_holds.1 MX11_holds.1 ∈ TB := ⟨Or.inl (tb4 137 rfl rfl), (tb4 138 rfl rfl), (tb4 139 rfl rfl)⟩
theorem lkL_161 : kLK "OldRoadsLaw" 161 MX12_holds ∧ Cond.instanceMethod MX12_holds.1 ∈ TB ∧ Cond.selects MX12_holds.1.cls MX12_holds.1 MX12_holds.1 ∈ TB := ⟨Or.inl (tb8 129 rfl rfl), (tb8 130 rfl rfl), (tb8 131 rfl rfl)⟩
theorem lkL_162 : kLK "OldRoadsLaw" 162 MX11_weigh ∧ Cond.instanceMethod MX11_weigh.1 ∈ TB ∧ Cond.selects MX11_weigh.1.cls MX11_weigh.1 MX11_weigh.1 ∈ TB := ⟨Or.inl (tb4 147 rfl rfl), (tb4 148 rfl rfl), (tb4 149 rfl rfl)⟩
theorem lkL_166 : kLK "OldRoadsLaw" 166 MX12_weigh ∧ Cond.instanceMethod MX12_weigh.1 ∈ TB ∧ Cond.selects MX12_weigh.1.cls MX12_weigh.1 MX12_weigh.1 ∈ TB := ⟨Or.inl (tb8 133 rfl rfl), (tb8 134 rfl rfl), (tb8 135 rfl rfl)⟩
theorem lkL_167 : kLK "OldRoadsLaw" 167 MX11_evidence ∧ Cond.instanceMethod MX11_evidence.1 ∈ TB ∧ Cond.selects MX11_evidence.1.cls MX11_evidence.1 MX11_evidence.1 ∈ TB := ⟨Or.inl (tb4 151 rfl rfl), (tb4 152 rfl rfl), (tb4 153 rfl rfl)⟩
theorem lkL_170 : kLK "OldRoadsLaw" 170 MX12_evidence ∧ Cond.instanceMethod MX12_evidence.1 ∈ TB ∧ Cond.selects MX12_evidence.1.cls MX12_evidence.1 MX12_evidence.1 ∈ TB := ⟨Or.inl (tb8 137 rfl rfl), (tb8 138 rfl rfl), (tb8 139 rfl rfl)⟩
theorem lkL_171 : kLK "OldRoadsLaw" 171 MX11_odds ∧ Cond.instanceMethod MX11_odds.1 ∈ TB ∧ Cond.selects MX11_odds.1.cls MX11_odds.1 MX11_odds.1 ∈ TB := ⟨Or.inl (tb4 167 rfl rfl), (tb4 168 rfl rfl), (tb4 169 rfl rfl)⟩
theorem lkL_174 : kLK "OldRoadsLaw" 174 MX12_odds ∧ Cond.instanceMethod MX12_odds.1 ∈ TB ∧ Cond.selects MX12_odds.1.cls MX12_odds.1 MX12_odds.1 ∈ TB := ⟨Or.inl (tb8 157 rfl rfl), (tb8 158 rfl rfl), (tb8 159 rfl rfl)⟩
theorem lkL_175 : kLK "OldRoadsLaw" 175 MX11_pit ∧ Cond.instanceMethod MX11_pit.1 ∈ TB ∧ Cond.selects MX11_pit.1.cls MX11_pit.1 MX11_pit.1 ∈ TB := ⟨Or.inl (tb4 171 rfl rfl), (tb4 172 rfl rfl), (tb4 173 rfl rfl)⟩
theorem lkL_178 : kLK "OldRoadsLaw" 178 MX12_pit ∧ Cond.instanceMethod MX12_pit.1 ∈ TB ∧ Cond.selects MX12_pit.1.cls MX12_pit.1 MX12_pit.1 ∈ TB := ⟨Or.inl (tb8 169 rfl rfl), (tb8 170 rfl rfl), (tb8 171 rfl rfl)⟩
theorem lkL_179 : kLK "OldRoadsLaw" 179 MX11_dig ∧ Cond.instanceMethod MX11_dig.1 ∈ TB ∧ Cond.selects MX11_dig.1.cls MX11_dig.1 MX11_dig.1 ∈ TB := ⟨Or.inl (tb4 175 rfl rfl), (tb4 176 rfl rfl), (tb4 177 rfl rfl)⟩
theorem lkL_182 : kLK "OldRoadsLaw" 182 MX12_dig ∧ Cond.instanceMethod MX12_dig.1 ∈ TB ∧ Cond.selects MX12_dig.1.cls MX12_dig.1 MX12_dig.1 ∈ TB := ⟨Or.inl (tb8 173 rfl rfl), (tb8 174 rfl rfl), (tb8 175 rfl rfl)⟩
theorem lkL_183 : kLK "OldRoadsLaw" 183 MX11_field ∧ Cond.instanceMethod MX11_field.1 ∈ TB ∧ Cond.selects MX11_field.1.cls MX11_field.1 MX11_field.1 ∈ TB := ⟨Or.inl (tb4 220 rfl rfl), (tb4 221 rfl rfl), (tb4 222 rfl rfl)⟩
theorem lkL_186 : kLK "OldRoadsLaw" 186 MX12_field ∧ Cond.instanceMethod MX12_field.1 ∈ TB ∧ Cond.selects MX12_field.1.cls MX12_field.1 MX12_field.1 ∈ TB := ⟨Or.inl (tb8 185 rfl rfl), (tb8 186 rfl rfl), (tb8 187 rfl rfl)⟩
theorem lkL_187 : kLK "OldRoadsLaw" 187 MX11_meets ∧ Cond.instanceMethod MX11_meets.1 ∈ TB ∧ Cond.selects MX11_meets.1.cls MX11_meets.1 MX11_meets.1 ∈ TB := ⟨Or.inl (tb4 224 rfl rfl), (tb4 225 rfl rfl), (tb4 226 rfl rfl)⟩
theorem lkL_190 : kLK "OldRoadsLaw" 190 MX12_meets ∧ Cond.instanceMethod MX12_meets.1 ∈ TB ∧ Cond.selects MX12_meets.1.cls MX12_meets.1 MX12_meets.1 ∈ TB := ⟨Or.inl (tb8 189 rfl rfl), (tb8 190 rfl rfl), (tb8 191 rfl rfl)⟩
theorem lkL_191 : kLK "OldRoadsLaw" 191 MX11_older ∧ Cond.instanceMethod MX11_older.1 ∈ TB ∧ Cond.selects MX11_older.1.cls MX11_older.1 MX11_older.1 ∈ TB := ⟨Or.inl (tb4 236 rfl rfl), (tb4 237 rfl rfl), (tb4 238 rfl rfl)⟩
theorem lkL_194 : kLK "OldRoadsLaw" 194 MX12_older ∧ Cond.instanceMethod MX12_older.1 ∈ TB ∧ Cond.selects MX12_older.1.cls MX12_older.1 MX12_older.1 ∈ TB := ⟨Or.inl (tb8 201 rfl rfl), (tb8 202 rfl rfl), (tb8 203 rfl rfl)⟩
theorem lkL_195 : kLK "OldRoadsLaw" 195 MX11_hedge ∧ Cond.instanceMethod MX11_hedge.1 ∈ TB ∧ Cond.selects MX11_hedge.1.cls MX11_hedge.1 MX11_hedge.1 ∈ TB := ⟨Or.inl (tb5 0 rfl rfl), (tb5 1 rfl rfl), (tb5 2 rfl rfl)⟩
theorem lkL_198 : kLK "OldRoadsLaw" 198 MX12_hedge ∧ Cond.instanceMethod MX12_hedge.1 ∈ TB ∧ Cond.selects MX12_hedge.1.cls MX12_hedge.1 MX12_hedge.1 ∈ TB := ⟨Or.inl (tb8 205 rfl rfl), (tb8 206 rfl rfl), (tb8 207 rfl rfl)⟩
theorem lkL_199 : kLK "OldRoadsLaw" 199 MX11_net ∧ Cond.instanceMethod MX11_net.1 ∈ TB ∧ Cond.selects MX11_net.1.cls MX11_net.1 MX11_net.1 ∈ TB := ⟨Or.inl (tb5 7 rfl rfl), (tb5 8 rfl rfl), (tb5 9 rfl rfl)⟩
theorem lkL_202 : kLK "OldRoadsLaw" 202 MX12_net ∧ Cond.instanceMethod MX12_net.1 ∈ TB ∧ Cond.selects MX12_net.1.cls MX12_net.1 MX12_net.1 ∈ TB := ⟨Or.inl (tb8 209 rfl rfl), (tb8 210 rfl rfl), (tb8 211 rfl rfl)⟩
theorem lkL_205 : kLK "OldRoadsLaw" 205 MX11_feet ∧ Cond.instanceMethod MX11_feet.1 ∈ TB ∧ Cond.selects MX11_feet.1.cls MX11_feet.1 MX11_feet.1 ∈ TB := ⟨Or.inl (tb5 38 rfl rfl), (tb5 39 rfl rfl), (tb5 40 rfl rfl)⟩
theorem lkL_209 : kLK "OldRoadsLaw" 209 MX12_feet ∧ Cond.instanceMethod MX12_feet.1 ∈ TB ∧ Cond.selects MX12_feet.1.cls MX12_feet.1 MX12_feet.1 ∈ TB := ⟨Or.inl (tb8 225 rfl rfl), (tb8 226 rfl rfl), (tb8 227 rfl rfl)⟩
theorem lkL_210 : kLK "OldRoadsLaw" 210 MX11_trodden ∧ Cond.instanceMethod MX11_trodden.1 ∈ TB ∧ Cond.selects MX11_trodden.1.cls MX11_trodden.1 MX11_trodden.1 ∈ TB := ⟨Or.inl (tb5 72 rfl rfl), (tb5 73 rfl rfl), (tb5 74 rfl rfl)⟩
theorem lkL_213 : kLK "OldRoadsLaw" 213 MX12_trodden ∧ Cond.instanceMethod MX12_trodden.1 ∈ TB ∧ Cond.selects MX12_trodden.1.cls MX12_trodden.1 MX12_trodden.1 ∈ TB := ⟨Or.inl (tb9 7 rfl rfl), (tb9 8 rfl rfl), (tb9 9 rfl rfl)⟩
theorem lkL_214 : kLK "OldRoadsLaw" 214 MX11_trips ∧ Cond.instanceMethod MX11_trips.1 ∈ TB ∧ Cond.selects MX11_trips.1.cls MX11_trips.1 MX11_trips.1 ∈ TB := ⟨Or.inl (tb5 76 rfl rfl), (tb5 77 rfl rfl), (tb5 78 rfl rfl)⟩
theorem lkL_217 : kLK "OldRoadsLaw" 217 MX12_trips ∧ Cond.instanceMethod MX12_trips.1 ∈ TB ∧ Cond.selects MX12_trips.1.cls MX12_trips.1 MX12_trips.1 ∈ TB := ⟨Or.inl (tb9 11 rfl rfl), (tb9 12 rfl rfl), (tb9 13 rfl rfl)⟩
theorem lkL_218 : kLK "OldRoadsLaw" 218 MX11_worn ∧ Cond.instanceMethod MX11_worn.1 ∈ TB ∧ Cond.selects MX11_worn.1.cls MX11_worn.1 MX11_worn.1 ∈ TB := ⟨Or.inl (tb5 80 rfl rfl), (tb5 81 rfl rfl), (tb5 82 rfl rfl)⟩
theorem lkL_221 : kLK "OldRoadsLaw" 221 MX12_worn ∧ Cond.instanceMethod MX12_worn.1 ∈ TB ∧ Cond.selects MX12_worn.1.cls MX12_worn.1 MX12_worn.1 ∈ TB := ⟨Or.inl (tb9 15 rfl rfl), (tb9 16 rfl rfl), (tb9 17 rfl rfl)⟩
theorem lkL_222 : kLK "OldRoadsLaw" 222 MX11_alike ∧ Cond.instanceMethod MX11_alike.1 ∈ TB ∧ Cond.selects MX11_alike.1.cls MX11_alike.1 MX11_alike.1 ∈ TB := ⟨Or.inl (tb5 87 rfl rfl), (tb5 88 rfl rfl), (tb5 89 rfl rfl)⟩
theorem lkL_225 : kLK "OldRoadsLaw" 225 MX12_alike ∧ Cond.instanceMethod MX12_alike.1 ∈ TB ∧ Cond.selects MX12_alike.1.cls MX12_alike.1 MX12_alike.1 ∈ TB := ⟨Or.inl (tb9 19 rfl rfl), (tb9 20 rfl rfl), (tb9 21 rfl rfl)⟩
theorem lkL_226 : kLK "OldRoadsLaw" 226 MX11_era ∧ Cond.instanceMethod MX11_era.1 ∈ TB ∧ Cond.selects MX11_era.1.cls MX11_era.1 MX11_era.1 ∈ TB := ⟨Or.inl (tb5 91 rfl rfl), (tb5 92 rfl rfl), (tb5 93 rfl rfl)⟩
theorem lkL_229 : kLK "OldRoadsLaw" 229 MX12_era ∧ Cond.instanceMethod MX12_era.1 ∈ TB ∧ Cond.selects MX12_era.1.cls MX12_era.1 MX12_era.1 ∈ TB := ⟨Or.inl (tb9 23 rfl rfl), (tb9 24 rfl rfl), (tb9 25 rfl rfl)⟩
theorem lkL_230 : kLK "OldRoadsLaw" 230 MX11_bring ∧ Cond.instanceMethod MX11_bring.1 ∈ TB ∧ Cond.selects MX11_bring.1.cls MX11_bring.1 MX11_bring.1 ∈ TB := ⟨Or.inl (tb5 100 rfl rfl), (tb5 101 rfl rfl), (tb5 102 rfl rfl)⟩
theorem lkL_233 : kLK "OldRoadsLaw" 233 MX12_bring ∧ Cond.instanceMethod MX12_bring.1 ∈ TB ∧ Cond.selects MX12_bring.1.cls MX12_bring.1 MX12_bring.1 ∈ TB := ⟨Or.inl (tb9 27 rfl rfl), (tb9 28 rfl rfl), (tb9 29 rfl rfl)⟩
theorem lkL_234 : kLK "OldRoadsLaw" 234 MX11_changed ∧ Cond.instanceMethod MX11_changed.1 ∈ TB ∧ Cond.selects MX11_changed.1.cls MX11_changed.1 MX11_changed.1 ∈ TB := ⟨Or.inl (tb5 117 rfl rfl), (tb5 118 rfl rfl), (tb5 119 rfl rfl)⟩
theorem lkL_237 : kLK "OldRoadsLaw" 237 MX12_changed ∧ Cond.instanceMethod MX12_changed.1 ∈ TB ∧ Cond.selects MX12_changed.1.cls MX12_changed.1 MX12_changed.1 ∈ TB := ⟨Or.inl (tb9 43 rfl rfl), (tb9 44 rfl rfl), (tb9 45 rfl rfl)⟩
theorem lkL_238 : kLK "OldRoadsLaw" 238 MX11_then ∧ Cond.instanceMethod MX11_then.1 ∈ TB ∧ Cond.selects MX11_then.1.cls MX11_then.1 MX11_then.1 ∈ TB := ⟨Or.inl (tb5 121 rfl rfl), (tb5 122 rfl rfl), (tb5 123 rfl rfl)⟩
theorem lkL_242 : kLK "OldRoadsLaw" 242 MX12_then ∧ Cond.instanceMethod MX12_then.1 ∈ TB ∧ Cond.selects MX12_then.1.cls MX12_then.1 MX12_then.1 ∈ TB := ⟨Or.inl (tb9 47 rfl rfl), (tb9 48 rfl rfl), (tb9 49 rfl rfl)⟩
theorem lkL_243 : kLK "OldRoadsLaw" 243 MX11_lasting ∧ Cond.instanceMethod MX11_lasting.1 ∈ TB ∧ Cond.selects MX11_lasting.1.cls MX11_lasting.1 MX11_lasting.1 ∈ TB := ⟨Or.inl (tb5 125 rfl rfl), (tb5 126 rfl rfl), (tb5 127 rfl rfl)⟩
theorem lkL_246 : kLK "OldRoadsLaw" 246 MX12_lasting ∧ Cond.instanceMethod MX12_lasting.1 ∈ TB ∧ Cond.selects MX12_lasting.1.cls MX12_lasting.1 MX12_lasting.1 ∈ TB := ⟨Or.inl (tb9 59 rfl rfl), (tb9 60 rfl rfl), (tb9 61 rfl rfl)⟩
theorem lkL_247 : kLK "OldRoadsLaw" 247 MX11_count ∧ Cond.instanceMethod MX11_count.1 ∈ TB ∧ Cond.selects MX11_count.1.cls MX11_count.1 MX11_count.1 ∈ TB := ⟨Or.inl (tb5 134 rfl rfl), (tb5 135 rfl rfl), (tb5 136 rfl rfl)⟩
theorem lkL_250 : kLK "OldRoadsLaw" 250 MX12_count ∧ Cond.instanceMethod MX12_count.1 ∈ TB ∧ Cond.selects MX12_count.1.cls MX12_count.1 MX12_count.1 ∈ TB := ⟨Or.inl (tb9 63 rfl rfl), (tb9 64 rfl rfl), (tb9 65 rfl rfl)⟩
theorem lk12_153 : kLK RX12 153 MX12_isIn ∧ Cond.static MX12_isIn.1 ∈ TB := ⟨Or.inl (tb6 207 rfl rfl), (tb6 208 rfl rfl)⟩
theorem lk12_157 : kLK RX12 157 MX12_isPlace ∧ Cond.static MX12_isPlace.1 ∈ TB := ⟨Or.inl (tb6 204 rfl rfl), (tb6 205 rfl rfl)⟩
theorem lk12_161 : kLK RX12 161 MX12_isCell ∧ Cond.static MX12_isCell.1 ∈ TB := ⟨Or.inl (tb6 214 rfl rfl), (tb6 215 rfl rfl)⟩
theorem lk12_168 : kLK RX12 168 MX12_east ∧ Cond.static MX12_east.1 ∈ TB := ⟨Or.inl (tb7 149 rfl rfl), (tb7 150 rfl rfl)⟩
theorem lk12_172 : kLK RX12 172 MX12_south ∧ Cond.static MX12_south.1 ∈ TB := ⟨Or.inl (tb7 152 rfl rfl), (tb7 153 rfl rfl)⟩
theorem lk12_175 : kLK RX12 175 MJm_abs ∧ Cond.static MJm_abs.1 ∈ TB := ⟨Or.inl (tb7 209 rfl rfl), (tb3 162 rfl rfl)⟩
theorem lk12_180 : kLK RX12 180 MJm_max ∧ Cond.static MJm_max.1 ∈ TB := ⟨Or.inl (tb7 159 rfl rfl), (tb1 55 rfl rfl)⟩
theorem lk12_184 : kLK RX12 184 MJ0_length_8abf5 ∧ Cond.instanceMethod MJ0_length_8abf5.1 ∈ TB ∧ Cond.selects MJ0_length_8abf5.1.cls MJ0_length_8abf5.1 MJ0_length_8abf5.1 ∈ TB := ⟨Or.inl (tb7 19 rfl rfl), (tb7 20 rfl rfl), (tb7 21 rfl rfl)⟩
theorem lk12_190 : kLK RX12 190 MJ0_charAt_5068e ∧ Cond.instanceMethod MJ0_charAt_5068e.1 ∈ TB ∧ Cond.selects MJ0_charAt_5068e.1.cls MJ0_charAt_5068e.1 MJ0_charAt_5068e.1 ∈ TB := ⟨Or.inl (tb7 29 rfl rfl), (tb7 30 rfl rfl), (tb7 31 rfl rfl)⟩
theorem lk12_196 : kLK RX12 196 MX12_bytesIn ∧ Cond.static MX12_bytesIn.1 ∈ TB := ⟨Or.inl (tb6 225 rfl rfl), (tb6 226 rfl rfl)⟩
theorem lk12_199 : kLK RX12 199 MX12_put ∧ Cond.instanceMethod MX12_put.1 ∈ TB ∧ Cond.selects MX12_put.1.cls MX12_put.1 MX12_put.1 ∈ TB := ⟨Or.inl (tb6 228 rfl rfl), (tb6 230 rfl rfl), (tbS 51 rfl rfl)⟩
theorem lk12_218 : kLK RX12 218 MX12_fails ∧ Cond.instanceMethod MX12_fails.1 ∈ TB ∧ Cond.selects MX12_fails.1.cls MX12_fails.1 MX12_fails.1 ∈ TB := ⟨Or.inl (tb7 67 rfl rfl), (tb7 69 rfl rfl), (tbS 56 rfl rfl)⟩
theorem lk12_222 : kLK RX12 222 MX12_look ∧ Cond.instanceMethod MX12_look.1 ∈ TB ∧ Cond.selects MX12_look.1.cls MX12_look.1 MX12_look.1 ∈ TB := ⟨Or.inl (tb7 12 rfl rfl), (tb7 14 rfl rfl), (tbS 55 rfl rfl)⟩
theorem lk12_229 : kLK RX12 229 MJm_minL ∧ Cond.static MJm_minL.1 ∈ TB := ⟨Or.inl (tb7 112 rfl rfl), (tb3 86 rfl rfl)⟩
theorem lk12_233 : kLK RX12 233 MJm_maxL ∧ Cond.static MJm_maxL.1 ∈ TB := ⟨Or.inl (tb7 113 rfl rfl), (tb3 89 rfl rfl)⟩
theorem lk12_235 : kLK RX12 235 MX12_isAmong ∧ Cond.static MX12_isAmong.1 ∈ TB := ⟨Or.inl (tb7 16 rfl rfl), (tb7 17 rfl rfl)⟩
theorem lk12_239 : kLK RX12 239 MX12_goesIn ∧ Cond.instanceMethod MX12_goesIn.1 ∈ TB ∧ Cond.selects MX12_goesIn.1.cls MX12_goesIn.1 MX12_goesIn.1 ∈ TB := ⟨Or.inl (tb7 99 rfl rfl), (tb7 101 rfl rfl), (tbS 64 rfl rfl)⟩
theorem lk12_242 : kLK RX12 242 MX12_sum ∧ Cond.instanceMethod MX12_sum.1 ∈ TB ∧ Cond.selects MX12_sum.1.cls MX12_sum.1 MX12_sum.1 ∈ TB := ⟨Or.inl (tb7 87 rfl rfl), (tb7 89 rfl rfl), (tbS 61 rfl rfl)⟩
theorem lk12_245 : kLK RX12 245 MX12_takes ∧ Cond.instanceMethod MX12_takes.1 ∈ TB ∧ Cond.selects MX12_takes.1.cls MX12_takes.1 MX12_takes.1 ∈ TB := ⟨Or.inl (tb7 71 rfl rfl), (tb7 73 rfl rfl), (tbS 57 rfl rfl)⟩
theorem lk12_248 : kLK RX12 248 MX12_isDigit ∧ Cond.instanceMethod MX12_isDigit.1 ∈ TB ∧ Cond.selects MX12_isDigit.1.cls MX12_isDigit.1 MX12_isDigit.1 ∈ TB := ⟨Or.inl (tb7 103 rfl rfl), (tb7 105 rfl rfl), (tbS 65 rfl rfl)⟩
theorem lk12_251 : kLK RX12 251 MX12_atom ∧ Cond.instanceMethod MX12_atom.1 ∈ TB ∧ Cond.selects MX12_atom.1.cls MX12_atom.1 MX12_atom.1 ∈ TB := ⟨Or.inl (tb7 95 rfl rfl), (tb7 97 rfl rfl), (tbS 63 rfl rfl)⟩
theorem lk12_254 : kLK RX12 254 MX12_within ∧ Cond.static MX12_within.1 ∈ TB := ⟨Or.inl (tb7 107 rfl rfl), (tb7 108 rfl rfl)⟩
theorem lk12_258 : kLK RX12 258 MX12_term ∧ Cond.instanceMethod MX12_term.1 ∈ TB ∧ Cond.selects MX12_term.1.cls MX12_term.1 MX12_term.1 ∈ TB := ⟨Or.inl (tb7 91 rfl rfl), (tb7 93 rfl rfl), (tbS 62 rfl rfl)⟩
theorem lk12_261 : kLK RX12 261 MX12_isSign ∧ Cond.static MX12_isSign.1 ∈ TB := ⟨Or.inl (tb7 114 rfl rfl), (tb7 115 rfl rfl)⟩
theorem lk12_264 : kLK RX12 264 MX12_unit ∧ Cond.instanceMethod MX12_unit.1 ∈ TB ∧ Cond.selects MX12_unit.1.cls MX12_unit.1 MX12_unit.1 ∈ TB := ⟨Or.inl (tb7 117 rfl rfl), (tb7 119 rfl rfl), (tbS 66 rfl rfl)⟩
theorem lk12_267 : kLK RX12 267 MX12_condition ∧ Cond.instanceMethod MX12_condition.1 ∈ TB ∧ Cond.selects MX12_condition.1.cls MX12_condition.1 MX12_condition.1 ∈ TB := ⟨Or.inl (tb7 75 rfl rfl), (tb7 77 rfl rfl), (tbS 58 rfl rfl)⟩
theorem lk12_271 : kLK RX12 271 MX12_compares ∧ Cond.instanceMethod MX12_compares.1 ∈ TB ∧ Cond.selects MX12_compares.1.cls MX12_compares.1 MX12_compares.1 ∈ TB := ⟨Or.inl (tb7 83 rfl rfl), (tb7 85 rfl rfl), (tbS 60 rfl rfl)⟩
theorem lk12_274 : kLK RX12 274 MX12_part ∧ Cond.instanceMethod MX12_part.1 ∈ TB ∧ Cond.selects MX12_part.1.cls MX12_part.1 MX12_part.1 ∈ TB := ⟨Or.inl (tb7 79 rfl rfl), (tb7 81 rfl rfl), (tbS 59 rfl rfl)⟩
theorem lk12_287 : kLK RX12 287 MX12_begin ∧ Cond.instanceMethod MX12_begin.1 ∈ TB ∧ Cond.selects MX12_begin.1.cls MX12_begin.1 MX12_begin.1 ∈ TB := ⟨Or.inl (tb7 4 rfl rfl), (tb7 6 rfl rfl), (tbS 53 rfl rfl)⟩
theorem lk12_291 : kLK RX12 291 MX12_clause ∧ Cond.instanceMethod MX12_clause.1 ∈ TB ∧ Cond.selects MX12_clause.1.cls MX12_clause.1 MX12_clause.1 ∈ TB := ⟨Or.inl (tb7 8 rfl rfl), (tb7 10 rfl rfl), (tbS 54 rfl rfl)⟩
theorem lk12_297 : kLK RX12 297 MX12_readTown ∧ Cond.instanceMethod MX12_readTown.1 ∈ TB ∧ Cond.selects MX12_readTown.1.cls MX12_readTown.1 MX12_readTown.1 ∈ TB := ⟨Or.inl (tb7 125 rfl rfl), (tb7 127 rfl rfl), (tbS 68 rfl rfl)⟩
theorem lk12_300 : kLK RX12 300 MX12_goThrough ∧ Cond.instanceMethod MX12_goThrough.1 ∈ TB ∧ Cond.selects MX12_goThrough.1.cls MX12_goThrough.1 MX12_goThrough.1 ∈ TB := ⟨Or.inl (tb7 0 rfl rfl), (tb7 2 rfl rfl), (tbS 52 rfl rfl)⟩
theorem lk12_303 : kLK RX12 303 MX12_readBook ∧ Cond.instanceMethod MX12_readBook.1 ∈ TB ∧ Cond.selects MX12_readBook.1.cls MX12_readBook.1 MX12_readBook.1 ∈ TB := ⟨Or.inl (tb7 121 rfl rfl), (tb7 123 rfl rfl), (tbS 67 rfl rfl)⟩
theorem lk12_309 : kLK RX12 309 MX12_fault ∧ Cond.instanceMethod MX12_fault.1 ∈ TB ∧ Cond.selects MX12_fault.1.cls MX12_fault.1 MX12_fault.1 ∈ TB := ⟨Or.inl (tb7 133 rfl rfl), (tb6 237 rfl rfl), (tb6 238 rfl rfl)⟩
theorem lk12_311 : kLK RX12 311 MX12_isGoer ∧ Cond.instanceMethod MX12_isGoer.1 ∈ TB ∧ Cond.selects MX12_isGoer.1.cls MX12_isGoer.1 MX12_isGoer.1 ∈ TB := ⟨Or.inl (tb7 142 rfl rfl), (tb7 144 rfl rfl), (tbS 70 rfl rfl)⟩
theorem lk12_314 : kLK RX12 314 MX12_step ∧ Cond.static MX12_step.1 ∈ TB := ⟨Or.inl (tb7 146 rfl rfl), (tb7 147 rfl rfl)⟩
theorem lk12_317 : kLK RX12 317 MJm_min ∧ Cond.static MJm_min.1 ∈ TB := ⟨Or.inl (tb7 160 rfl rfl), (tb3 92 rfl rfl)⟩
theorem lk12_319 : kLK RX12 319 MX12_isManner ∧ Cond.instanceMethod MX12_isManner.1 ∈ TB ∧ Cond.selects MX12_isManner.1.cls MX12_isManner.1 MX12_isManner.1 ∈ TB := ⟨Or.inl (tb7 138 rfl rfl), (tb7 140 rfl rfl), (tbS 69 rfl rfl)⟩
theorem lk12_322 : kLK RX12 322 MX12_painOf ∧ Cond.instanceMethod MX12_painOf.1 ∈ TB ∧ Cond.selects MX12_painOf.1.cls MX12_painOf.1 MX12_painOf.1 ∈ TB := ⟨Or.inl (tb7 155 rfl rfl), (tb7 157 rfl rfl), (tbS 71 rfl rfl)⟩
theorem lk12_327 : kLK RX12 327 MX12_layLeft ∧ Cond.instanceMethod MX12_layLeft.1 ∈ TB ∧ Cond.selects MX12_layLeft.1.cls MX12_layLeft.1 MX12_layLeft.1 ∈ TB := ⟨Or.inl (tb7 181 rfl rfl), (tb7 183 rfl rfl), (tbS 76 rfl rfl)⟩
theorem lk12_333 : kLK RX12 333 MX12_layPains ∧ Cond.instanceMethod MX12_layPains.1 ∈ TB ∧ Cond.selects MX12_layPains.1.cls MX12_layPains.1 MX12_layPains.1 ∈ TB := ⟨Or.inl (tb7 173 rfl rfl), (tb7 175 rfl rfl), (tbS 74 rfl rfl)⟩
theorem lk12_337 : kLK RX12 337 MX12_goWay ∧ Cond.instanceMethod MX12_goWay.1 ∈ TB ∧ Cond.selects MX12_goWay.1.cls MX12_goWay.1 MX12_goWay.1 ∈ TB := ⟨Or.inl (tb7 177 rfl rfl), (tb7 179 rfl rfl), (tbS 75 rfl rfl)⟩
theorem lk12_341 : kLK RX12 341 MX12_isWay ∧ Cond.instanceMethod MX12_isWay.1 ∈ TB ∧ Cond.selects MX12_isWay.1.cls MX12_isWay.1 MX12_isWay.1 ∈ TB := ⟨Or.inl (tb7 165 rfl rfl), (tb7 167 rfl rfl), (tbS 72 rfl rfl)⟩
theorem lk12_345 : kLK RX12 345 MX12_layWay ∧ Cond.instanceMethod MX12_layWay.1 ∈ TB ∧ Cond.selects MX12_layWay.1.cls MX12_layWay.1 MX12_layWay.1 ∈ TB := ⟨Or.inl (tb7 169 rfl rfl), (tb7 171 rfl rfl), (tbS 73 rfl rfl)⟩
theorem lk12_349 : kLK RX12 349 MX12_layFrom ∧ Cond.instanceMethod MX12_layFrom.1 ∈ TB ∧ Cond.selects MX12_layFrom.1.cls MX12_layFrom.1 MX12_layFrom.1 ∈ TB := ⟨Or.inl (tb7 194 rfl rfl), (tb7 196 rfl rfl), (tbS 77 rfl rfl)⟩
theorem lk12_352 : kLK RX12 352 MX12_apart ∧ Cond.static MX12_apart.1 ∈ TB := ⟨Or.inl (tb7 206 rfl rfl), (tb7 207 rfl rfl)⟩
theorem lk12_355 : kLK RX12 355 MJm_floorDiv ∧ Cond.static MJm_floorDiv.1 ∈ TB := ⟨Or.inl (tb7 213 rfl rfl), (tb3 170 rfl rfl)⟩
theorem lk12_358 : kLK RX12 358 MX12_onLine ∧ Cond.static MX12_onLine.1 ∈ TB := ⟨Or.inl (tb7 210 rfl rfl), (tb7 211 rfl rfl)⟩
theorem lk12_362 : kLK RX12 362 MX12_seesIt ∧ Cond.instanceMethod MX12_seesIt.1 ∈ TB ∧ Cond.selects MX12_seesIt.1.cls MX12_seesIt.1 MX12_seesIt.1 ∈ TB := ⟨Or.inl (tb7 202 rfl rfl), (tb7 204 rfl rfl), (tbS 78 rfl rfl)⟩
theorem lk12_365 : kLK RX12 365 MX12_layHops ∧ Cond.instanceMethod MX12_layHops.1 ∈ TB ∧ Cond.selects MX12_layHops.1.cls MX12_layHops.1 MX12_layHops.1 ∈ TB := ⟨Or.inl (tb7 218 rfl rfl), (tb7 220 rfl rfl), (tbS 79 rfl rfl)⟩
theorem lk12_368 : kLK RX12 368 MX12_nextHop ∧ Cond.instanceMethod MX12_nextHop.1 ∈ TB ∧ Cond.selects MX12_nextHop.1.cls MX12_nextHop.1 MX12_nextHop.1 ∈ TB := ⟨Or.inl (tb7 222 rfl rfl), (tb7 224 rfl rfl), (tbS 80 rfl rfl)⟩
theorem lk12_374 : kLK RX12 374 MX12_addCell ∧ Cond.instanceMethod MX12_addCell.1 ∈ TB ∧ Cond.selects MX12_addCell.1.cls MX12_addCell.1 MX12_addCell.1 ∈ TB := ⟨Or.inl (tb7 230 rfl rfl), (tb7 232 rfl rfl), (tbS 81 rfl rfl)⟩
theorem lk12_377 : kLK RX12 377 MX12_added ∧ Cond.instanceMethod MX12_added.1 ∈ TB ∧ Cond.selects MX12_added.1.cls MX12_added.1 MX12_added.1 ∈ TB := ⟨Or.inl (tb7 234 rfl rfl), (tb7 236 rfl rfl), (tbS 82 rfl rfl)⟩
theorem lk12_380 : kLK RX12 380 MX12_addHop ∧ Cond.instanceMethod MX12_addHop.1 ∈ TB ∧ Cond.selects MX12_addHop.1.cls MX12_addHop.1 MX12_addHop.1 ∈ TB := ⟨Or.inl (tb8 2 rfl rfl), (tb8 4 rfl rfl), (tbS 83 rfl rfl)⟩
theorem lk12_383 : kLK RX12 383 MX12_isLine ∧ Cond.instanceMethod MX12_isLine.1 ∈ TB ∧ Cond.selects MX12_isLine.1.cls MX12_isLine.1 MX12_isLine.1 ∈ TB := ⟨Or.inl (tb8 18 rfl rfl), (tb8 20 rfl rfl), (tbS 84 rfl rfl)⟩
theorem lk12_386 : kLK RX12 386 MX12_cellOf ∧ Cond.instanceMethod MX12_cellOf.1 ∈ TB ∧ Cond.selects MX12_cellOf.1.cls MX12_cellOf.1 MX12_cellOf.1 ∈ TB := ⟨Or.inl (tb8 22 rfl rfl), (tb8 24 rfl rfl), (tbS 85 rfl rfl)⟩
theorem lk12_389 : kLK RX12 389 MX12_directionOf ∧ Cond.static MX12_directionOf.1 ∈ TB := ⟨Or.inl (tb8 34 rfl rfl), (tb8 35 rfl rfl)⟩
theorem lk12_392 : kLK RX12 392 MX12_milesOfRow ∧ Cond.instanceMethod MX12_milesOfRow.1 ∈ TB ∧ Cond.selects MX12_milesOfRow.1.cls MX12_milesOfRow.1 MX12_milesOfRow.1 ∈ TB := ⟨Or.inl (tb8 30 rfl rfl), (tb8 32 rfl rfl), (tbS 86 rfl rfl)⟩
theorem lk12_396 : kLK RX12 396 MX12_turnsOf ∧ Cond.instanceMethod MX12_turnsOf.1 ∈ TB ∧ Cond.selects MX12_turnsOf.1.cls MX12_turnsOf.1 MX12_turnsOf.1 ∈ TB := ⟨Or.inl (tb8 37 rfl rfl), (tb8 39 rfl rfl), (tbS 87 rfl rfl)⟩
theorem lk12_403 : kLK RX12 403 MX12_has ∧ Cond.static MX12_has.1 ∈ TB := ⟨Or.inl (tb8 57 rfl rfl), (tb8 58 rfl rfl)⟩
theorem lk12_406 : kLK RX12 406 MX12_farFrom ∧ Cond.instanceMethod MX12_farFrom.1 ∈ TB ∧ Cond.selects MX12_farFrom.1.cls MX12_farFrom.1 MX12_farFrom.1 ∈ TB := ⟨Or.inl (tb8 60 rfl rfl), (tb8 62 rfl rfl), (tbS 90 rfl rfl)⟩
theorem lk12_410 : kLK RX12 410 MX12_isNear ∧ Cond.instanceMethod MX12_isNear.1 ∈ TB ∧ Cond.selects MX12_isNear.1.cls MX12_isNear.1 MX12_isNear.1 ∈ TB := ⟨Or.inl (tb8 49 rfl rfl), (tb8 51 rfl rfl), (tbS 88 rfl rfl)⟩
theorem lk12_413 : kLK RX12 413 MX12_nearOf ∧ Cond.instanceMethod MX12_nearOf.1 ∈ TB ∧ Cond.selects MX12_nearOf.1.cls MX12_nearOf.1 MX12_nearOf.1 ∈ TB := ⟨Or.inl (tb8 53 rfl rfl), (tb8 55 rfl rfl), (tbS 89 rfl rfl)⟩
theorem lk12_417 : kLK RX12 417 MX12_isInLand ∧ Cond.instanceMethod MX12_isInLand.1 ∈ TB ∧ Cond.selects MX12_isInLand.1.cls MX12_isInLand.1 MX12_isInLand.1 ∈ TB := ⟨Or.inl (tb8 68 rfl rfl), (tb8 70 rfl rfl), (tbS 91 rfl rfl)⟩
theorem lk12_423 : kLK RX12 423 MX12_missOf ∧ Cond.instanceMethod MX12_missOf.1 ∈ TB ∧ Cond.selects MX12_missOf.1.cls MX12_missOf.1 MX12_missOf.1 ∈ TB := ⟨Or.inl (tb8 80 rfl rfl), (tb8 82 rfl rfl), (tbS 92 rfl rfl)⟩
theorem lk12_426 : kLK RX12 426 MX12_fitOf ∧ Cond.instanceMethod MX12_fitOf.1 ∈ TB ∧ Cond.selects MX12_fitOf.1.cls MX12_fitOf.1 MX12_fitOf.1 ∈ TB := ⟨Or.inl (tb8 96 rfl rfl), (tb8 98 rfl rfl), (tbS 95 rfl rfl)⟩
theorem lk12_429 : kLK RX12 429 MX12_layMisses ∧ Cond.instanceMethod MX12_layMisses.1 ∈ TB ∧ Cond.selects MX12_layMisses.1.cls MX12_layMisses.1 MX12_layMisses.1 ∈ TB := ⟨Or.inl (tb8 88 rfl rfl), (tb8 90 rfl rfl), (tbS 93 rfl rfl)⟩
theorem lk12_433 : kLK RX12 433 MX12_bestOf ∧ Cond.instanceMethod MX12_bestOf.1 ∈ TB ∧ Cond.selects MX12_bestOf.1.cls MX12_bestOf.1 MX12_bestOf.1 ∈ TB := ⟨Or.inl (tb8 92 rfl rfl), (tb8 94 rfl rfl), (tbS 94 rfl rfl)⟩
theorem lk12_436 : kLK RX12 436 MX12_isStage ∧ Cond.instanceMethod MX12_isStage.1 ∈ TB ∧ Cond.selects MX12_isStage.1.cls MX12_isStage.1 MX12_isStage.1 ∈ TB := ⟨Or.inl (tb8 108 rfl rfl), (tb8 110 rfl rfl), (tbS 96 rfl rfl)⟩
theorem lk12_440 : kLK RX12 440 MX12_trueMiles ∧ Cond.instanceMethod MX12_trueMiles.1 ∈ TB ∧ Cond.selects MX12_trueMiles.1.cls MX12_trueMiles.1 MX12_trueMiles.1 ∈ TB := ⟨Or.inl (tb8 117 rfl rfl), (tb8 119 rfl rfl), (tbS 97 rfl rfl)⟩
theorem lk12_443 : kLK RX12 443 MX12_slipOf ∧ Cond.instanceMethod MX12_slipOf.1 ∈ TB ∧ Cond.selects MX12_slipOf.1.cls MX12_slipOf.1 MX12_slipOf.1 ∈ TB := ⟨Or.inl (tb8 125 rfl rfl), (tb8 127 rfl rfl), (tbS 98 rfl rfl)⟩
theorem lk12_446 : kLK RX12 446 MX12_isByWay ∧ Cond.instanceMethod MX12_isByWay.1 ∈ TB ∧ Cond.selects MX12_isByWay.1.cls MX12_isByWay.1 MX12_isByWay.1 ∈ TB := ⟨Or.inl (tb8 153 rfl rfl), (tb8 155 rfl rfl), (tbS 102 rfl rfl)⟩
theorem lk12_449 : kLK RX12 449 MX12_isTown ∧ Cond.instanceMethod MX12_isTown.1 ∈ TB ∧ Cond.selects MX12_isTown.1.cls MX12_isTown.1 MX12_isTown.1 ∈ TB := ⟨Or.inl (tb8 145 rfl rfl), (tb8 147 rfl rfl), (tbS 100 rfl rfl)⟩
theorem lk12_452 : kLK RX12 452 MX12_layWorld ∧ Cond.instanceMethod MX12_layWorld.1 ∈ TB ∧ Cond.selects MX12_layWorld.1.cls MX12_layWorld.1 MX12_layWorld.1 ∈ TB := ⟨Or.inl (tb8 149 rfl rfl), (tb8 151 rfl rfl), (tbS 101 rfl rfl)⟩
theorem lk12_456 : kLK RX12 456 MX12_areTowns ∧ Cond.instanceMethod MX12_areTowns.1 ∈ TB ∧ Cond.selects MX12_areTowns.1.cls MX12_areTowns.1 MX12_areTowns.1 ∈ TB := ⟨Or.inl (tb8 141 rfl rfl), (tb8 143 rfl rfl), (tbS 99 rfl rfl)⟩
theorem lk12_459 : kLK RX12 459 MX12_layWorlds ∧ Cond.instanceMethod MX12_layWorlds.1 ∈ TB ∧ Cond.selects MX12_layWorlds.1.cls MX12_layWorlds.1 MX12_layWorlds.1 ∈ TB := ⟨Or.inl (tb8 161 rfl rfl), (tb8 163 rfl rfl), (tbS 103 rfl rfl)⟩
theorem lk12_462 : kLK RX12 462 MX12_isOnWay ∧ Cond.instanceMethod MX12_isOnWay.1 ∈ TB ∧ Cond.selects MX12_isOnWay.1.cls MX12_isOnWay.1 MX12_isOnWay.1 ∈ TB := ⟨Or.inl (tb8 165 rfl rfl), (tb8 167 rfl rfl), (tbS 104 rfl rfl)⟩
theorem lk12_468 : kLK RX12 468 MJm_bitCount ∧ Cond.static MJm_bitCount.1 ∈ TB := ⟨Or.inl (tb8 181 rfl rfl), (tb4 212 rfl rfl)⟩
theorem lk12_473 : kLK RX12 473 MX12_partedBy ∧ Cond.instanceMethod MX12_partedBy.1 ∈ TB ∧ Cond.selects MX12_partedBy.1.cls MX12_partedBy.1 MX12_partedBy.1 ∈ TB := ⟨Or.inl (tb8 177 rfl rfl), (tb8 179 rfl rfl), (tbS 105 rfl rfl)⟩
theorem lk12_476 : kLK RX12 476 MX12_isBefore ∧ Cond.static MX12_isBefore.1 ∈ TB := ⟨Or.inl (tb8 182 rfl rfl), (tb8 183 rfl rfl)⟩
theorem lk12_482 : kLK RX12 482 MX12_lies ∧ Cond.instanceMethod MX12_lies.1 ∈ TB ∧ Cond.selects MX12_lies.1.cls MX12_lies.1 MX12_lies.1 ∈ TB := ⟨Or.inl (tb8 197 rfl rfl), (tb8 199 rfl rfl), (tbS 107 rfl rfl)⟩
theorem lk12_485 : kLK RX12 485 MX12_meetsOf ∧ Cond.instanceMethod MX12_meetsOf.1 ∈ TB ∧ Cond.selects MX12_meetsOf.1.cls MX12_meetsOf.1 MX12_meetsOf.1 ∈ TB := ⟨Or.inl (tb8 193 rfl rfl), (tb8 195 rfl rfl), (tbS 106 rfl rfl)⟩
theorem lk12_491 : kLK RX12 491 MX12_layRoads ∧ Cond.instanceMethod MX12_layRoads.1 ∈ TB ∧ Cond.selects MX12_layRoads.1.cls MX12_layRoads.1 MX12_layRoads.1 ∈ TB := ⟨Or.inl (tb8 213 rfl rfl), (tb8 215 rfl rfl), (tbS 108 rfl rfl)⟩
theorem lk12_494 : kLK RX12 494 MX12_costOfNet ∧ Cond.instanceMethod MX12_costOfNet.1 ∈ TB ∧ Cond.selects MX12_costOfNet.1.cls MX12_costOfNet.1 MX12_costOfNet.1 ∈ TB := ⟨Or.inl (tb8 217 rfl rfl), (tb8 219 rfl rfl), (tbS 109 rfl rfl)⟩
theorem lk12_497 : kLK RX12 497 MX12_reached ∧ Cond.instanceMethod MX12_reached.1 ∈ TB ∧ Cond.selects MX12_reached.1.cls MX12_reached.1 MX12_reached.1 ∈ TB := ⟨Or.inl (tb8 221 rfl rfl), (tb8 223 rfl rfl), (tbS 110 rfl rfl)⟩
theorem lk12_508 : kLK RX12 508 MX12_draw_ ∧ Cond.instanceMethod MX12_draw_.1 ∈ TB ∧ Cond.selects MX12_draw_.1.cls MX12_draw_.1 MX12_draw_.1 ∈ TB := ⟨Or.inl (tb8 233 rfl rfl), (tb8 235 rfl rfl), (tbS 112 rfl rfl)⟩
theorem lk12_511 : kLK RX12 511 MX12_easePains ∧ Cond.instanceMethod MX12_easePains.1 ∈ TB ∧ Cond.selects MX12_easePains.1.cls MX12_easePains.1 MX12_easePains.1 ∈ TB := ⟨Or.inl (tb8 239 rfl rfl), (tb9 1 rfl rfl), (tbS 113 rfl rfl)⟩
theorem lk12_523 : kLK RX12 523 MX12_goTrip ∧ Cond.instanceMethod MX12_goTrip.1 ∈ TB ∧ Cond.selects MX12_goTrip.1.cls MX12_goTrip.1 MX12_goTrip.1 ∈ TB := ⟨Or.inl (tb8 229 rfl rfl), (tb8 231 rfl rfl), (tbS 111 rfl rfl)⟩
theorem lk12_526 : kLK RX12 526 MX12_troddenMany ∧ Cond.instanceMethod MX12_troddenMany.1 ∈ TB ∧ Cond.selects MX12_troddenMany.1.cls MX12_troddenMany.1 MX12_troddenMany.1 ∈ TB := ⟨Or.inl (tb9 3 rfl rfl), (tb9 5 rfl rfl), (tbS 114 rfl rfl)⟩
theorem lk12_532 : kLK RX12 532 MX12_isEra ∧ Cond.instanceMethod MX12_isEra.1 ∈ TB ∧ Cond.selects MX12_isEra.1.cls MX12_isEra.1 MX12_isEra.1 ∈ TB := ⟨Or.inl (tb9 31 rfl rfl), (tb9 33 rfl rfl), (tbS 115 rfl rfl)⟩
theorem lk12_535 : kLK RX12 535 MX12_changedOf ∧ Cond.instanceMethod MX12_changedOf.1 ∈ TB ∧ Cond.selects MX12_changedOf.1.cls MX12_changedOf.1 MX12_changedOf.1 ∈ TB := ⟨Or.inl (tb9 35 rfl rfl), (tb9 37 rfl rfl), (tbS 116 rfl rfl)⟩
theorem lk12_538 : kLK RX12 538 MX12_goTo ∧ Cond.instanceMethod MX12_goTo.1 ∈ TB ∧ Cond.selects MX12_goTo.1.cls MX12_goTo.1 MX12_goTo.1 ∈ TB := ⟨Or.inl (tb9 39 rfl rfl), (tb9 41 rfl rfl), (tbS 117 rfl rfl)⟩
theorem lk12_541 : kLK RX12 541 MX12_leaveNow ∧ Cond.instanceMethod MX12_leaveNow.1 ∈ TB ∧ Cond.selects MX12_leaveNow.1.cls MX12_leaveNow.1 MX12_leaveNow.1 ∈ TB := ⟨Or.inl (tb9 51 rfl rfl), (tb9 53 rfl rfl), (tbS 118 rfl rfl)⟩
theorem lk12_544 : kLK RX12 544 MX12_comeBack ∧ Cond.instanceMethod MX12_comeBack.1 ∈ TB ∧ Cond.selects MX12_comeBack.1.cls MX12_comeBack.1 MX12_comeBack.1 ∈ TB := ⟨Or.inl (tb9 55 rfl rfl), (tb9 57 rfl rfl), (tbS 119 rfl rfl)⟩
