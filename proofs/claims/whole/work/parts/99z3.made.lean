/-! the constructors of the class and of the model, by program -/
theorem I12_166 {d : Nat} {σ : kS} (hd : 2 ≤ d) (hA : Ag 167 [(166, 1), (166, 2), (166, 4), (166, 5), (166, 6), (166, 7), (166, 8), (166, 9), (166, 10), (166, 11), (166, 26), (166, 27), (166, 28), (166, 29), (166, 31), (166, 32), (166, 33), (166, 35), (166, 36), (166, 37), (166, 39), (166, 40), (166, 42), (166, 43), (166, 44), (166, 45), (166, 46), (166, 47), (166, 48), (166, 50), (166, 51), (166, 52), (166, 53), (166, 55), (166, 56), (166, 57), (166, 59), (166, 60), (166, 65), (166, 66), (166, 67), (166, 12), (166, 23), (166, 24)] true σ) : Ni d MX12_init (41, 10019) [(2, 166)] 167 σ 208 (fun s => Ag 208 [] true s) := by
  obtain ⟨d, rfl⟩ : ∃ e, d = e + 1 := ⟨d - 1, by omega⟩
  refine Tri_of (by decide +kernel) (Nat.le_of_ble_eq_true rfl) (fun _ _ => ?_)
  show K (d + 1) MX12_init _ (41, 10019) 0 [(0, (2, 166))] [] 167 σ
  refine K_aload_n 0 (kdA dt_MX12_init 0 rfl) rfl rfl ?_
  refine K_oinit (kdA dt_MX12_init 1 rfl) (tb5 223 rfl rfl) (by decide) (Nat.le_of_ble_eq_true rfl) ?_
  refine K_aload_n 0 (kdA dt_MX12_init 2 rfl) rfl rfl ?_
  refine K_sipush (kdA dt_MX12_init 3 rfl) (by decide) ?_
  refine K_newi (b2 := (40, 9539)) (kdA dt_MX12_init 4 rfl) (by decide +kernel) (by decide) (by decide +kernel) ⟨by decide, by decide⟩ rfl (fun s1 es1 => ?_)
  have hA1 : Ag 168 [(166, 1), (166, 2), (166, 4), (166, 5), (166, 6), (166, 7), (166, 8), (166, 9), (166, 10), (166, 11), (166, 26), (166, 27), (166, 28), (166, 29), (166, 31), (166, 32), (166, 33), (166, 35), (166, 36), (166, 37), (166, 39), (166, 40), (166, 42), (166, 43), (166, 44), (166, 45), (166, 46), (166, 47), (166, 48), (166, 50), (166, 51), (166, 52), (166, 53), (166, 55), (166, 56), (166, 57), (166, 59), (166, 60), (166, 65), (166, 66), (166, 67), (166, 12), (166, 23), (166, 24)] true s1 := by rw [es1]; exact hA.new (by decide +kernel)
  refine pf12_9 rfl rfl (kdA dt_MX12_init 5 rfl) ⟨by decide, by decide, by decide +kernel⟩ (fun s2 es2 => ?_)
  have hA2 : Ag 168 [(166, 2), (166, 4), (166, 5), (166, 6), (166, 7), (166, 8), (166, 9), (166, 10), (166, 11), (166, 26), (166, 27), (166, 28), (166, 29), (166, 31), (166, 32), (166, 33), (166, 35), (166, 36), (166, 37), (166, 39), (166, 40), (166, 42), (166, 43), (166, 44), (166, 45), (166, 46), (166, 47), (166, 48), (166, 50), (166, 51), (166, 52), (166, 53), (166, 55), (166, 56), (166, 57), (166, 59), (166, 60), (166, 65), (166, 66), (166, 67), (166, 12), (166, 23), (166, 24)] true s2 := by rw [es2]; exact hA1.put (by decide +kernel)
  refine K_aload_n 0 (kdA dt_MX12_init 6 rfl) rfl rfl ?_
  refine K_bipush (kdA dt_MX12_init 7 rfl) (by decide) ?_
  refine K_newi (b2 := (39, 9531)) (kdA dt_MX12_init 8 rfl) (by decide +kernel) (by decide) (by decide +kernel) ⟨by decide, by decide⟩ rfl (fun s3 es3 => ?_)
  have hA3 : Ag 169 [(166, 2), (166, 4), (166, 5), (166, 6), (166, 7), (166, 8), (166, 9), (166, 10), (166, 11), (166, 26), (166, 27), (166, 28), (166, 29), (166, 31), (166, 32), (166, 33), (166, 35), (166, 36), (166, 37), (166, 39), (166, 40), (166, 42), (166, 43), (166, 44), (166, 45), (166, 46), (166, 47), (166, 48), (166, 50), (166, 51), (166, 52), (166, 53), (166, 55), (166, 56), (166, 57), (166, 59), (166, 60), (166, 65), (166, 66), (166, 67), (166, 12), (166, 23), (166, 24)] true s3 := by rw [es3]; exact hA2.new (by decide +kernel)
  refine pf12_13 rfl rfl (kdA dt_MX12_init 9 rfl) ⟨by decide, by decide, by decide +kernel⟩ (fun s4 es4 => ?_)
  have hA4 : Ag 169 [(166, 4), (166, 5), (166, 6), (166, 7), (166, 8), (166, 9), (166, 10), (166, 11), (166, 26), (166, 27), (166, 28), (166, 29), (166, 31), (166, 32), (166, 33), (166, 35), (166, 36), (166, 37), (166, 39), (166, 40), (166, 42), (166, 43), (166, 44), (166, 45), (166, 46), (166, 47), (166, 48), (166, 50), (166, 51), (166, 52), (166, 53), (166, 55), (166, 56), (166, 57), (166, 59), (166, 60), (166, 65), (166, 66), (166, 67), (166, 12), (166, 23), (166, 24)] true s4 := by rw [es4]; exact hA3.put (by decide +kernel)
  refine K_aload_n 0 (kdA dt_MX12_init 10 rfl) rfl rfl ?_
  refine K_bipush (kdA dt_MX12_init 11 rfl) (by decide) ?_
  refine K_newb (b2 := (38, 9411)) (kdA dt_MX12_init 12 rfl) (by decide +kernel) (by decide) (by decide +kernel) ⟨by decide, by decide⟩ rfl (fun s5 es5 => ?_)
  have hA5 : Ag 170 [(166, 4), (166, 5), (166, 6), (166, 7), (166, 8), (166, 9), (166, 10), (166, 11), (166, 26), (166, 27), (166, 28), (166, 29), (166, 31), (166, 32), (166, 33), (166, 35), (166, 36), (166, 37), (166, 39), (166, 40), (166, 42), (166, 43), (166, 44), (166, 45), (166, 46), (166, 47), (166, 48), (166, 50), (166, 51), (166, 52), (166, 53), (166, 55), (166, 56), (166, 57), (166, 59), (166, 60), (166, 65), (166, 66), (166, 67), (166, 12), (166, 23), (166, 24)] true s5 := by rw [es5]; exact hA4.new (by decide +kernel)
  refine pf12_16 rfl rfl (kdA dt_MX12_init 13 rfl) ⟨by decide, by decide, by decide +kernel⟩ (fun s6 es6 => ?_)
  have hA6 : Ag 170 [(166, 5), (166, 6), (166, 7), (166, 8), (166, 9), (166, 10), (166, 11), (166, 26), (166, 27), (166, 28), (166, 29), (166, 31), (166, 32), (166, 33), (166, 35), (166, 36), (166, 37), (166, 39), (166, 40), (166, 42), (166, 43), (166, 44), (166, 45), (166, 46), (166, 47), (166, 48), (166, 50), (166, 51), (166, 52), (166, 53), (166, 55), (166, 56), (166, 57), (166, 59), (166, 60), (166, 65), (166, 66), (166, 67), (166, 12), (166, 23), (166, 24)] true s6 := by rw [es6]; exact hA5.put (by decide +kernel)
  refine K_aload_n 0 (kdA dt_MX12_init 14 rfl) rfl rfl ?_
  refine K_sipush (kdA dt_MX12_init 15 rfl) (by decide) ?_
  refine K_newb (b2 := (37, 8691)) (kdA dt_MX12_init 16 rfl) (by decide +kernel) (by decide) (by decide +kernel) ⟨by decide, by decide⟩ rfl (fun s7 es7 => ?_)
  have hA7 : Ag 171 [(166, 5), (166, 6), (166, 7), (166, 8), (166, 9), (166, 10), (166, 11), (166, 26), (166, 27), (166, 28), (166, 29), (166, 31), (166, 32), (166, 33), (166, 35), (166, 36), (166, 37), (166, 39), (166, 40), (166, 42), (166, 43), (166, 44), (166, 45), (166, 46), (166, 47), (166, 48), (166, 50), (166, 51), (166, 52), (166, 53), (166, 55), (166, 56), (166, 57), (166, 59), (166, 60), (166, 65), (166, 66), (166, 67), (166, 12), (166, 23), (166, 24)] true s7 := by rw [es7]; exact hA6.new (by decide +kernel)
  refine pf12_20 rfl rfl (kdA dt_MX12_init 17 rfl) ⟨by decide, by decide, by decide +kernel⟩ (fun s8 es8 => ?_)
  have hA8 : Ag 171 [(166, 6), (166, 7), (166, 8), (166, 9), (166, 10), (166, 11), (166, 26), (166, 27), (166, 28), (166, 29), (166, 31), (166, 32), (166, 33), (166, 35), (166, 36), (166, 37), (166, 39), (166, 40), (166, 42), (166, 43), (166, 44), (166, 45), (166, 46), (166, 47), (166, 48), (166, 50), (166, 51), (166, 52), (166, 53), (166, 55), (166, 56), (166, 57), (166, 59), (166, 60), (166, 65), (166, 66), (166, 67), (166, 12), (166, 23), (166, 24)] true s8 := by rw [es8]; exact hA7.put (by decide +kernel)
  refine K_aload_n 0 (kdA dt_MX12_init 18 rfl) rfl rfl ?_
  refine K_bipush (kdA dt_MX12_init 19 rfl) (by decide) ?_
  refine K_newi (b2 := (36, 8685)) (kdA dt_MX12_init 20 rfl) (by decide +kernel) (by decide) (by decide +kernel) ⟨by decide, by decide⟩ rfl (fun s9 es9 => ?_)
  have hA9 : Ag 172 [(166, 6), (166, 7), (166, 8), (166, 9), (166, 10), (166, 11), (166, 26), (166, 27), (166, 28), (166, 29), (166, 31), (166, 32), (166, 33), (166, 35), (166, 36), (166, 37), (166, 39), (166, 40), (166, 42), (166, 43), (166, 44), (166, 45), (166, 46), (166, 47), (166, 48), (166, 50), (166, 51), (166, 52), (166, 53), (166, 55), (166, 56), (166, 57), (166, 59), (166, 60), (166, 65), (166, 66), (166, 67), (166, 12), (166, 23), (166, 24)] true s9 := by rw [es9]; exact hA8.new (by decide +kernel)
  refine pf12_23 rfl rfl (kdA dt_MX12_init 21 rfl) ⟨by decide, by decide, by decide +kernel⟩ (fun s10 es10 => ?_)
  have hA10 : Ag 172 [(166, 7), (166, 8), (166, 9), (166, 10), (166, 11), (166, 26), (166, 27), (166, 28), (166, 29), (166, 31), (166, 32), (166, 33), (166, 35), (166, 36), (166, 37), (166, 39), (166, 40), (166, 42), (166, 43), (166, 44), (166, 45), (166, 46), (166, 47), (166, 48), (166, 50), (166, 51), (166, 52), (166, 53), (166, 55), (166, 56), (166, 57), (166, 59), (166, 60), (166, 65), (166, 66), (166, 67), (166, 12), (166, 23), (166, 24)] true s10 := by rw [es10]; exact hA9.put (by decide +kernel)
  refine K_aload_n 0 (kdA dt_MX12_init 22 rfl) rfl rfl ?_
  refine K_sipush (kdA dt_MX12_init 23 rfl) (by decide) ?_
  refine K_newi (b2 := (35, 8557)) (kdA dt_MX12_init 24 rfl) (by decide +kernel) (by decide) (by decide +kernel) ⟨by decide, by decide⟩ rfl (fun s11 es11 => ?_)
  have hA11 : Ag 173 [(166, 7), (166, 8), (166, 9), (166, 10), (166, 11), (166, 26), (166, 27), (166, 28), (166, 29), (166, 31), (166, 32), (166, 33), (166, 35), (166, 36), (166, 37), (166, 39), (166, 40), (166, 42), (166, 43), (166, 44), (166, 45), (166, 46), (166, 47), (166, 48), (166, 50), (166, 51), (166, 52), (166, 53), (166, 55), (166, 56), (166, 57), (166, 59), (166, 60), (166, 65), (166, 66), (166, 67), (166, 12), (166, 23), (166, 24)] true s11 := by rw [es11]; exact hA10.new (by decide +kernel)
  refine pf12_26 rfl rfl (kdA dt_MX12_init 25 rfl) ⟨by decide, by decide, by decide +kernel⟩ (fun s12 es12 => ?_)
  have hA12 : Ag 173 [(166, 8), (166, 9), (166, 10), (166, 11), (166, 26), (166, 27), (166, 28), (166, 29), (166, 31), (166, 32), (166, 33), (166, 35), (166, 36), (166, 37), (166, 39), (166, 40), (166, 42), (166, 43), (166, 44), (166, 45), (166, 46), (166, 47), (166, 48), (166, 50), (166, 51), (166, 52), (166, 53), (166, 55), (166, 56), (166, 57), (166, 59), (166, 60), (166, 65), (166, 66), (166, 67), (166, 12), (166, 23), (166, 24)] true s12 := by rw [es12]; exact hA11.put (by decide +kernel)
  refine K_aload_n 0 (kdA dt_MX12_init 26 rfl) rfl rfl ?_
  refine K_iconst (kdA dt_MX12_init 27 rfl) (by decide) ?_
  refine K_newi (b2 := (34, 8552)) (kdA dt_MX12_init 28 rfl) (by decide +kernel) (by decide) (by decide +kernel) ⟨by decide, by decide⟩ rfl (fun s13 es13 => ?_)
  have hA13 : Ag 174 [(166, 8), (166, 9), (166, 10), (166, 11), (166, 26), (166, 27), (166, 28), (166, 29), (166, 31), (166, 32), (166, 33), (166, 35), (166, 36), (166, 37), (166, 39), (166, 40), (166, 42), (166, 43), (166, 44), (166, 45), (166, 46), (166, 47), (166, 48), (166, 50), (166, 51), (166, 52), (166, 53), (166, 55), (166, 56), (166, 57), (166, 59), (166, 60), (166, 65), (166, 66), (166, 67), (166, 12), (166, 23), (166, 24)] true s13 := by rw [es13]; exact hA12.new (by decide +kernel)
  refine pf12_29 rfl rfl (kdA dt_MX12_init 29 rfl) ⟨by decide, by decide, by decide +kernel⟩ (fun s14 es14 => ?_)
  have hA14 : Ag 174 [(166, 9), (166, 10), (166, 11), (166, 26), (166, 27), (166, 28), (166, 29), (166, 31), (166, 32), (166, 33), (166, 35), (166, 36), (166, 37), (166, 39), (166, 40), (166, 42), (166, 43), (166, 44), (166, 45), (166, 46), (166, 47), (166, 48), (166, 50), (166, 51), (166, 52), (166, 53), (166, 55), (166, 56), (166, 57), (166, 59), (166, 60), (166, 65), (166, 66), (166, 67), (166, 12), (166, 23), (166, 24)] true s14 := by rw [es14]; exact hA13.put (by decide +kernel)
  refine K_aload_n 0 (kdA dt_MX12_init 30 rfl) rfl rfl ?_
  refine K_sipush (kdA dt_MX12_init 31 rfl) (by decide) ?_
  refine K_newi (b2 := (33, 8252)) (kdA dt_MX12_init 32 rfl) (by decide +kernel) (by decide) (by decide +kernel) ⟨by decide, by decide⟩ rfl (fun s15 es15 => ?_)
  have hA15 : Ag 175 [(166, 9), (166, 10), (166, 11), (166, 26), (166, 27), (166, 28), (166, 29), (166, 31), (166, 32), (166, 33), (166, 35), (166, 36), (166, 37), (166, 39), (166, 40), (166, 42), (166, 43), (166, 44), (166, 45), (166, 46), (166, 47), (166, 48), (166, 50), (166, 51), (166, 52), (166, 53), (166, 55), (166, 56), (166, 57), (166, 59), (166, 60), (166, 65), (166, 66), (166, 67), (166, 12), (166, 23), (166, 24)] true s15 := by rw [es15]; exact hA14.new (by decide +kernel)
  refine pf12_32 rfl rfl (kdA dt_MX12_init 33 rfl) ⟨by decide, by decide, by decide +kernel⟩ (fun s16 es16 => ?_)
  have hA16 : Ag 175 [(166, 10), (166, 11), (166, 26), (166, 27), (166, 28), (166, 29), (166, 31), (166, 32), (166, 33), (166, 35), (166, 36), (166, 37), (166, 39), (166, 40), (166, 42), (166, 43), (166, 44), (166, 45), (166, 46), (166, 47), (166, 48), (166, 50), (166, 51), (166, 52), (166, 53), (166, 55), (166, 56), (166, 57), (166, 59), (166, 60), (166, 65), (166, 66), (166, 67), (166, 12), (166, 23), (166, 24)] true s16 := by rw [es16]; exact hA15.put (by decide +kernel)
  refine K_aload_n 0 (kdA dt_MX12_init 34 rfl) rfl rfl ?_
  refine K_sipush (kdA dt_MX12_init 35 rfl) (by decide) ?_
  refine K_newi (b2 := (32, 7952)) (kdA dt_MX12_init 36 rfl) (by decide +kernel) (by decide) (by decide +kernel) ⟨by decide, by decide⟩ rfl (fun s17 es17 => ?_)
  have hA17 : Ag 176 [(166, 10), (166, 11), (166, 26), (166, 27), (166, 28), (166, 29), (166, 31), (166, 32), (166, 33), (166, 35), (166, 36), (166, 37), (166, 39), (166, 40), (166, 42), (166, 43), (166, 44), (166, 45), (166, 46), (166, 47), (166, 48), (166, 50), (166, 51), (166, 52), (166, 53), (166, 55), (166, 56), (166, 57), (166, 59), (166, 60), (166, 65), (166, 66), (166, 67), (166, 12), (166, 23), (166, 24)] true s17 := by rw [es17]; exact hA16.new (by decide +kernel)
  refine pf12_35 rfl rfl (kdA dt_MX12_init 37 rfl) ⟨by decide, by decide, by decide +kernel⟩ (fun s18 es18 => ?_)
  have hA18 : Ag 176 [(166, 11), (166, 26), (166, 27), (166, 28), (166, 29), (166, 31), (166, 32), (166, 33), (166, 35), (166, 36), (166, 37), (166, 39), (166, 40), (166, 42), (166, 43), (166, 44), (166, 45), (166, 46), (166, 47), (166, 48), (166, 50), (166, 51), (166, 52), (166, 53), (166, 55), (166, 56), (166, 57), (166, 59), (166, 60), (166, 65), (166, 66), (166, 67), (166, 12), (166, 23), (166, 24)] true s18 := by rw [es18]; exact hA17.put (by decide +kernel)
  refine K_aload_n 0 (kdA dt_MX12_init 38 rfl) rfl rfl ?_
  refine K_sipush (kdA dt_MX12_init 39 rfl) (by decide) ?_
  refine K_newi (b2 := (31, 7652)) (kdA dt_MX12_init 40 rfl) (by decide +kernel) (by decide) (by decide +kernel) ⟨by decide, by decide⟩ rfl (fun s19 es19 => ?_)
  have hA19 : Ag 177 [(166, 11), (166, 26), (166, 27), (166, 28), (166, 29), (166, 31), (166, 32), (166, 33), (166, 35), (166, 36), (166, 37), (166, 39), (166, 40), (166, 42), (166, 43), (166, 44), (166, 45), (166, 46), (166, 47), (166, 48), (166, 50), (166, 51), (166, 52), (166, 53), (166, 55), (166, 56), (166, 57), (166, 59), (166, 60), (166, 65), (166, 66), (166, 67), (166, 12), (166, 23), (166, 24)] true s19 := by rw [es19]; exact hA18.new (by decide +kernel)
  refine pf12_38 rfl rfl (kdA dt_MX12_init 41 rfl) ⟨by decide, by decide, by decide +kernel⟩ (fun s20 es20 => ?_)
  have hA20 : Ag 177 [(166, 26), (166, 27), (166, 28), (166, 29), (166, 31), (166, 32), (166, 33), (166, 35), (166, 36), (166, 37), (166, 39), (166, 40), (166, 42), (166, 43), (166, 44), (166, 45), (166, 46), (166, 47), (166, 48), (166, 50), (166, 51), (166, 52), (166, 53), (166, 55), (166, 56), (166, 57), (166, 59), (166, 60), (166, 65), (166, 66), (166, 67), (166, 12), (166, 23), (166, 24)] true s20 := by rw [es20]; exact hA19.put (by decide +kernel)
  refine K_aload_n 0 (kdA dt_MX12_init 42 rfl) rfl rfl ?_
  refine K_aload_n 0 (kdA dt_MX12_init 43 rfl) rfl rfl ?_
  refine gf12_16 rfl (kdA dt_MX12_init 44 rfl) ⟨by decide, by decide, by decide +kernel⟩ ?_
  rw [hA20.at' (k := 166) (j := 4) (v := 169) (by decide +kernel)]
  refine pf12_41 rfl (kdA dt_MX12_init 45 rfl) ⟨by decide, by decide, by decide +kernel⟩ (fun s21 es21 => ?_)
  have hA21 : Ag 177 [(166, 26), (166, 27), (166, 28), (166, 29), (166, 31), (166, 32), (166, 33), (166, 35), (166, 36), (166, 37), (166, 39), (166, 40), (166, 42), (166, 43), (166, 44), (166, 45), (166, 46), (166, 47), (166, 48), (166, 50), (166, 51), (166, 52), (166, 53), (166, 55), (166, 56), (166, 57), (166, 59), (166, 60), (166, 65), (166, 66), (166, 67), (166, 23), (166, 24)] true s21 := by rw [es21]; exact hA20.put (by decide +kernel)
  refine K_aload_n 0 (kdA dt_MX12_init 46 rfl) rfl rfl ?_
  refine K_ldcY (kdA dt_MX12_init 47 rfl) rfl ?_
  refine pf12_46 rfl rfl (kdA dt_MX12_init 48 rfl) ⟨by decide, by decide, by decide +kernel⟩ (fun s22 es22 => ?_)
  have hA22 : Ag 177 [(166, 26), (166, 27), (166, 28), (166, 29), (166, 31), (166, 32), (166, 33), (166, 35), (166, 36), (166, 37), (166, 39), (166, 40), (166, 42), (166, 43), (166, 44), (166, 45), (166, 46), (166, 47), (166, 48), (166, 50), (166, 51), (166, 52), (166, 53), (166, 55), (166, 56), (166, 57), (166, 59), (166, 60), (166, 65), (166, 66), (166, 67), (166, 24)] true s22 := by rw [es22]; exact hA21.put (by decide +kernel)
  refine K_aload_n 0 (kdA dt_MX12_init 49 rfl) rfl rfl ?_
  refine K_ldcU (kdA dt_MX12_init 50 rfl) rfl ?_
  refine pf12_52 rfl rfl (kdA dt_MX12_init 51 rfl) ⟨by decide, by decide, by decide +kernel⟩ (fun s23 es23 => ?_)
  have hA23 : Ag 177 [(166, 26), (166, 27), (166, 28), (166, 29), (166, 31), (166, 32), (166, 33), (166, 35), (166, 36), (166, 37), (166, 39), (166, 40), (166, 42), (166, 43), (166, 44), (166, 45), (166, 46), (166, 47), (166, 48), (166, 50), (166, 51), (166, 52), (166, 53), (166, 55), (166, 56), (166, 57), (166, 59), (166, 60), (166, 65), (166, 66), (166, 67)] true s23 := by rw [es23]; exact hA22.put (by decide +kernel)
  refine K_aload_n 0 (kdA dt_MX12_init 52 rfl) rfl rfl ?_
  refine K_sipush (kdA dt_MX12_init 53 rfl) (by decide) ?_
  refine K_newi (b2 := (30, 6692)) (kdA dt_MX12_init 54 rfl) (by decide +kernel) (by decide) (by decide +kernel) ⟨by decide, by decide⟩ rfl (fun s24 es24 => ?_)
  have hA24 : Ag 178 [(166, 26), (166, 27), (166, 28), (166, 29), (166, 31), (166, 32), (166, 33), (166, 35), (166, 36), (166, 37), (166, 39), (166, 40), (166, 42), (166, 43), (166, 44), (166, 45), (166, 46), (166, 47), (166, 48), (166, 50), (166, 51), (166, 52), (166, 53), (166, 55), (166, 56), (166, 57), (166, 59), (166, 60), (166, 65), (166, 66), (166, 67)] true s24 := by rw [es24]; exact hA23.new (by decide +kernel)
  refine pf12_55 rfl rfl (kdA dt_MX12_init 55 rfl) ⟨by decide, by decide, by decide +kernel⟩ (fun s25 es25 => ?_)
  have hA25 : Ag 178 [(166, 27), (166, 28), (166, 29), (166, 31), (166, 32), (166, 33), (166, 35), (166, 36), (166, 37), (166, 39), (166, 40), (166, 42), (166, 43), (166, 44), (166, 45), (166, 46), (166, 47), (166, 48), (166, 50), (166, 51), (166, 52), (166, 53), (166, 55), (166, 56), (166, 57), (166, 59), (166, 60), (166, 65), (166, 66), (166, 67)] true s25 := by rw [es25]; exact hA24.put (by decide +kernel)
  refine K_aload_n 0 (kdA dt_MX12_init 56 rfl) rfl rfl ?_
  refine K_bipush (kdA dt_MX12_init 57 rfl) (by decide) ?_
  refine K_newi (b2 := (29, 6572)) (kdA dt_MX12_init 58 rfl) (by decide +kernel) (by decide) (by decide +kernel) ⟨by decide, by decide⟩ rfl (fun s26 es26 => ?_)
  have hA26 : Ag 179 [(166, 27), (166, 28), (166, 29), (166, 31), (166, 32), (166, 33), (166, 35), (166, 36), (166, 37), (166, 39), (166, 40), (166, 42), (166, 43), (166, 44), (166, 45), (166, 46), (166, 47), (166, 48), (166, 50), (166, 51), (166, 52), (166, 53), (166, 55), (166, 56), (166, 57), (166, 59), (166, 60), (166, 65), (166, 66), (166, 67)] true s26 := by rw [es26]; exact hA25.new (by decide +kernel)
  refine pf12_58 rfl rfl (kdA dt_MX12_init 59 rfl) ⟨by decide, by decide, by decide +kernel⟩ (fun s27 es27 => ?_)
  have hA27 : Ag 179 [(166, 28), (166, 29), (166, 31), (166, 32), (166, 33), (166, 35), (166, 36), (166, 37), (166, 39), (166, 40), (166, 42), (166, 43), (166, 44), (166, 45), (166, 46), (166, 47), (166, 48), (166, 50), (166, 51), (166, 52), (166, 53), (166, 55), (166, 56), (166, 57), (166, 59), (166, 60), (166, 65), (166, 66), (166, 67)] true s27 := by rw [es27]; exact hA26.put (by decide +kernel)
  refine K_aload_n 0 (kdA dt_MX12_init 60 rfl) rfl rfl ?_
  refine K_bipush (kdA dt_MX12_init 61 rfl) (by decide) ?_
  refine K_newi (b2 := (28, 6452)) (kdA dt_MX12_init 62 rfl) (by decide +kernel) (by decide) (by decide +kernel) ⟨by decide, by decide⟩ rfl (fun s28 es28 => ?_)
  have hA28 : Ag 180 [(166, 28), (166, 29), (166, 31), (166, 32), (166, 33), (166, 35), (166, 36), (166, 37), (166, 39), (166, 40), (166, 42), (166, 43), (166, 44), (166, 45), (166, 46), (166, 47), (166, 48), (166, 50), (166, 51), (166, 52), (166, 53), (166, 55), (166, 56), (166, 57), (166, 59), (166, 60), (166, 65), (166, 66), (166, 67)] true s28 := by rw [es28]; exact hA27.new (by decide +kernel)
  refine pf12_61 rfl rfl (kdA dt_MX12_init 63 rfl) ⟨by decide, by decide, by decide +kernel⟩ (fun s29 es29 => ?_)
  have hA29 : Ag 180 [(166, 29), (166, 31), (166, 32), (166, 33), (166, 35), (166, 36), (166, 37), (166, 39), (166, 40), (166, 42), (166, 43), (166, 44), (166, 45), (166, 46), (166, 47), (166, 48), (166, 50), (166, 51), (166, 52), (166, 53), (166, 55), (166, 56), (166, 57), (166, 59), (166, 60), (166, 65), (166, 66), (166, 67)] true s29 := by rw [es29]; exact hA28.put (by decide +kernel)
  refine K_aload_n 0 (kdA dt_MX12_init 64 rfl) rfl rfl ?_
  refine K_sipush (kdA dt_MX12_init 65 rfl) (by decide) ?_
  refine K_newi (b2 := (27, 6312)) (kdA dt_MX12_init 66 rfl) (by decide +kernel) (by decide) (by decide +kernel) ⟨by decide, by decide⟩ rfl (fun s30 es30 => ?_)
  have hA30 : Ag 181 [(166, 29), (166, 31), (166, 32), (166, 33), (166, 35), (166, 36), (166, 37), (166, 39), (166, 40), (166, 42), (166, 43), (166, 44), (166, 45), (166, 46), (166, 47), (166, 48), (166, 50), (166, 51), (166, 52), (166, 53), (166, 55), (166, 56), (166, 57), (166, 59), (166, 60), (166, 65), (166, 66), (166, 67)] true s30 := by rw [es30]; exact hA29.new (by decide +kernel)
  refine pf12_64 rfl rfl (kdA dt_MX12_init 67 rfl) ⟨by decide, by decide, by decide +kernel⟩ (fun s31 es31 => ?_)
  have hA31 : Ag 181 [(166, 31), (166, 32), (166, 33), (166, 35), (166, 36), (166, 37), (166, 39), (166, 40), (166, 42), (166, 43), (166, 44), (166, 45), (166, 46), (166, 47), (166, 48), (166, 50), (166, 51), (166, 52), (166, 53), (166, 55), (166, 56), (166, 57), (166, 59), (166, 60), (166, 65), (166, 66), (166, 67)] true s31 := by rw [es31]; exact hA30.put (by decide +kernel)
  refine K_aload_n 0 (kdA dt_MX12_init 68 rfl) rfl rfl ?_
  refine K_bipush (kdA dt_MX12_init 69 rfl) (by decide) ?_
  refine K_newi (b2 := (26, 6192)) (kdA dt_MX12_init 70 rfl) (by decide +kernel) (by decide) (by decide +kernel) ⟨by decide, by decide⟩ rfl (fun s32 es32 => ?_)
  have hA32 : Ag 182 [(166, 31), (166, 32), (166, 33), (166, 35), (166, 36), (166, 37), (166, 39), (166, 40), (166, 42), (166, 43), (166, 44), (166, 45), (166, 46), (166, 47), (166, 48), (166, 50), (166, 51), (166, 52), (166, 53), (166, 55), (166, 56), (166, 57), (166, 59), (166, 60), (166, 65), (166, 66), (166, 67)] true s32 := by rw [es32]; exact hA31.new (by decide +kernel)
  refine pf12_67 rfl rfl (kdA dt_MX12_init 71 rfl) ⟨by decide, by decide, by decide +kernel⟩ (fun s33 es33 => ?_)
  have hA33 : Ag 182 [(166, 32), (166, 33), (166, 35), (166, 36), (166, 37), (166, 39), (166, 40), (166, 42), (166, 43), (166, 44), (166, 45), (166, 46), (166, 47), (166, 48), (166, 50), (166, 51), (166, 52), (166, 53), (166, 55), (166, 56), (166, 57), (166, 59), (166, 60), (166, 65), (166, 66), (166, 67)] true s33 := by rw [es33]; exact hA32.put (by decide +kernel)
  refine K_aload_n 0 (kdA dt_MX12_init 72 rfl) rfl rfl ?_
  refine K_bipush (kdA dt_MX12_init 73 rfl) (by decide) ?_
  refine K_newi (b2 := (25, 6182)) (kdA dt_MX12_init 74 rfl) (by decide +kernel) (by decide) (by decide +kernel) ⟨by decide, by decide⟩ rfl (fun s34 es34 => ?_)
  have hA34 : Ag 183 [(166, 32), (166, 33), (166, 35), (166, 36), (166, 37), (166, 39), (166, 40), (166, 42), (166, 43), (166, 44), (166, 45), (166, 46), (166, 47), (166, 48), (166, 50), (166, 51), (166, 52), (166, 53), (166, 55), (166, 56), (166, 57), (166, 59), (166, 60), (166, 65), (166, 66), (166, 67)] true s34 := by rw [es34]; exact hA33.new (by decide +kernel)
  refine pf12_70 rfl rfl (kdA dt_MX12_init 75 rfl) ⟨by decide, by decide, by decide +kernel⟩ (fun s35 es35 => ?_)
  have hA35 : Ag 183 [(166, 33), (166, 35), (166, 36), (166, 37), (166, 39), (166, 40), (166, 42), (166, 43), (166, 44), (166, 45), (166, 46), (166, 47), (166, 48), (166, 50), (166, 51), (166, 52), (166, 53), (166, 55), (166, 56), (166, 57), (166, 59), (166, 60), (166, 65), (166, 66), (166, 67)] true s35 := by rw [es35]; exact hA34.put (by decide +kernel)
  refine K_aload_n 0 (kdA dt_MX12_init 76 rfl) rfl rfl ?_
  refine K_sipush (kdA dt_MX12_init 77 rfl) (by decide) ?_
  refine K_newi (b2 := (24, 4782)) (kdA dt_MX12_init 78 rfl) (by decide +kernel) (by decide) (by decide +kernel) ⟨by decide, by decide⟩ rfl (fun s36 es36 => ?_)
  have hA36 : Ag 184 [(166, 33), (166, 35), (166, 36), (166, 37), (166, 39), (166, 40), (166, 42), (166, 43), (166, 44), (166, 45), (166, 46), (166, 47), (166, 48), (166, 50), (166, 51), (166, 52), (166, 53), (166, 55), (166, 56), (166, 57), (166, 59), (166, 60), (166, 65), (166, 66), (166, 67)] true s36 := by rw [es36]; exact hA35.new (by decide +kernel)
  refine pf12_73 rfl rfl (kdA dt_MX12_init 79 rfl) ⟨by decide, by decide, by decide +kernel⟩ (fun s37 es37 => ?_)
  have hA37 : Ag 184 [(166, 35), (166, 36), (166, 37), (166, 39), (166, 40), (166, 42), (166, 43), (166, 44), (166, 45), (166, 46), (166, 47), (166, 48), (166, 50), (166, 51), (166, 52), (166, 53), (166, 55), (166, 56), (166, 57), (166, 59), (166, 60), (166, 65), (166, 66), (166, 67)] true s37 := by rw [es37]; exact hA36.put (by decide +kernel)
  refine K_aload_n 0 (kdA dt_MX12_init 80 rfl) rfl rfl ?_
  refine K_bipush (kdA dt_MX12_init 81 rfl) (by decide) ?_
  refine K_newi (b2 := (23, 4752)) (kdA dt_MX12_init 82 rfl) (by decide +kernel) (by decide) (by decide +kernel) ⟨by decide, by decide⟩ rfl (fun s38 es38 => ?_)
  have hA38 : Ag 185 [(166, 35), (166, 36), (166, 37), (166, 39), (166, 40), (166, 42), (166, 43), (166, 44), (166, 45), (166, 46), (166, 47), (166, 48), (166, 50), (166, 51), (166, 52), (166, 53), (166, 55), (166, 56), (166, 57), (166, 59), (166, 60), (166, 65), (166, 66), (166, 67)] true s38 := by rw [es38]; exact hA37.new (by decide +kernel)
  refine pf12_76 rfl rfl (kdA dt_MX12_init 83 rfl) ⟨by decide, by decide, by decide +kernel⟩ (fun s39 es39 => ?_)
  have hA39 : Ag 185 [(166, 36), (166, 37), (166, 39), (166, 40), (166, 42), (166, 43), (166, 44), (166, 45), (166, 46), (166, 47), (166, 48), (166, 50), (166, 51), (166, 52), (166, 53), (166, 55), (166, 56), (166, 57), (166, 59), (166, 60), (166, 65), (166, 66), (166, 67)] true s39 := by rw [es39]; exact hA38.put (by decide +kernel)
  refine K_aload_n 0 (kdA dt_MX12_init 84 rfl) rfl rfl ?_
  refine K_bipush (kdA dt_MX12_init 85 rfl) (by decide) ?_
  refine K_newi (b2 := (22, 4722)) (kdA dt_MX12_init 86 rfl) (by decide +kernel) (by decide) (by decide +kernel) ⟨by decide, by decide⟩ rfl (fun s40 es40 => ?_)
  have hA40 : Ag 186 [(166, 36), (166, 37), (166, 39), (166, 40), (166, 42), (166, 43), (166, 44), (166, 45), (166, 46), (166, 47), (166, 48), (166, 50), (166, 51), (166, 52), (166, 53), (166, 55), (166, 56), (166, 57), (166, 59), (166, 60), (166, 65), (166, 66), (166, 67)] true s40 := by rw [es40]; exact hA39.new (by decide +kernel)
  refine pf12_79 rfl rfl (kdA dt_MX12_init 87 rfl) ⟨by decide, by decide, by decide +kernel⟩ (fun s41 es41 => ?_)
  have hA41 : Ag 186 [(166, 37), (166, 39), (166, 40), (166, 42), (166, 43), (166, 44), (166, 45), (166, 46), (166, 47), (166, 48), (166, 50), (166, 51), (166, 52), (166, 53), (166, 55), (166, 56), (166, 57), (166, 59), (166, 60), (166, 65), (166, 66), (166, 67)] true s41 := by rw [es41]; exact hA40.put (by decide +kernel)
  refine K_aload_n 0 (kdA dt_MX12_init 88 rfl) rfl rfl ?_
  refine K_bipush (kdA dt_MX12_init 89 rfl) (by decide) ?_
  refine K_newi (b2 := (21, 4692)) (kdA dt_MX12_init 90 rfl) (by decide +kernel) (by decide) (by decide +kernel) ⟨by decide, by decide⟩ rfl (fun s42 es42 => ?_)
  have hA42 : Ag 187 [(166, 37), (166, 39), (166, 40), (166, 42), (166, 43), (166, 44), (166, 45), (166, 46), (166, 47), (166, 48), (166, 50), (166, 51), (166, 52), (166, 53), (166, 55), (166, 56), (166, 57), (166, 59), (166, 60), (166, 65), (166, 66), (166, 67)] true s42 := by rw [es42]; exact hA41.new (by decide +kernel)
  refine pf12_82 rfl rfl (kdA dt_MX12_init 91 rfl) ⟨by decide, by decide, by decide +kernel⟩ (fun s43 es43 => ?_)
  have hA43 : Ag 187 [(166, 39), (166, 40), (166, 42), (166, 43), (166, 44), (166, 45), (166, 46), (166, 47), (166, 48), (166, 50), (166, 51), (166, 52), (166, 53), (166, 55), (166, 56), (166, 57), (166, 59), (166, 60), (166, 65), (166, 66), (166, 67)] true s43 := by rw [es43]; exact hA42.put (by decide +kernel)
  refine K_aload_n 0 (kdA dt_MX12_init 92 rfl) rfl rfl ?_
  refine K_bipush (kdA dt_MX12_init 93 rfl) (by decide) ?_
  refine K_newi (b2 := (20, 4686)) (kdA dt_MX12_init 94 rfl) (by decide +kernel) (by decide) (by decide +kernel) ⟨by decide, by decide⟩ rfl (fun s44 es44 => ?_)
  have hA44 : Ag 188 [(166, 39), (166, 40), (166, 42), (166, 43), (166, 44), (166, 45), (166, 46), (166, 47), (166, 48), (166, 50), (166, 51), (166, 52), (166, 53), (166, 55), (166, 56), (166, 57), (166, 59), (166, 60), (166, 65), (166, 66), (166, 67)] true s44 := by rw [es44]; exact hA43.new (by decide +kernel)
  refine pf12_85 rfl rfl (kdA dt_MX12_init 95 rfl) ⟨by decide, by decide, by decide +kernel⟩ (fun s45 es45 => ?_)
  have hA45 : Ag 188 [(166, 40), (166, 42), (166, 43), (166, 44), (166, 45), (166, 46), (166, 47), (166, 48), (166, 50), (166, 51), (166, 52), (166, 53), (166, 55), (166, 56), (166, 57), (166, 59), (166, 60), (166, 65), (166, 66), (166, 67)] true s45 := by rw [es45]; exact hA44.put (by decide +kernel)
  refine K_aload_n 0 (kdA dt_MX12_init 96 rfl) rfl rfl ?_
  refine K_bipush (kdA dt_MX12_init 97 rfl) (by decide) ?_
  refine K_newi (b2 := (19, 4650)) (kdA dt_MX12_init 98 rfl) (by decide +kernel) (by decide) (by decide +kernel) ⟨by decide, by decide⟩ rfl (fun s46 es46 => ?_)
  have hA46 : Ag 189 [(166, 40), (166, 42), (166, 43), (166, 44), (166, 45), (166, 46), (166, 47), (166, 48), (166, 50), (166, 51), (166, 52), (166, 53), (166, 55), (166, 56), (166, 57), (166, 59), (166, 60), (166, 65), (166, 66), (166, 67)] true s46 := by rw [es46]; exact hA45.new (by decide +kernel)
  refine pf12_88 rfl rfl (kdA dt_MX12_init 99 rfl) ⟨by decide, by decide, by decide +kernel⟩ (fun s47 es47 => ?_)
  have hA47 : Ag 189 [(166, 42), (166, 43), (166, 44), (166, 45), (166, 46), (166, 47), (166, 48), (166, 50), (166, 51), (166, 52), (166, 53), (166, 55), (166, 56), (166, 57), (166, 59), (166, 60), (166, 65), (166, 66), (166, 67)] true s47 := by rw [es47]; exact hA46.put (by decide +kernel)
  refine K_aload_n 0 (kdA dt_MX12_init 100 rfl) rfl rfl ?_
  refine K_bipush (kdA dt_MX12_init 101 rfl) (by decide) ?_
  refine K_newi (b2 := (18, 4644)) (kdA dt_MX12_init 102 rfl) (by decide +kernel) (by decide) (by decide +kernel) ⟨by decide, by decide⟩ rfl (fun s48 es48 => ?_)
  have hA48 : Ag 190 [(166, 42), (166, 43), (166, 44), (166, 45), (166, 46), (166, 47), (166, 48), (166, 50), (166, 51), (166, 52), (166, 53), (166, 55), (166, 56), (166, 57), (166, 59), (166, 60), (166, 65), (166, 66), (166, 67)] true s48 := by rw [es48]; exact hA47.new (by decide +kernel)
  refine pf12_91 rfl rfl (kdA dt_MX12_init 103 rfl) ⟨by decide, by decide, by decide +kernel⟩ (fun s49 es49 => ?_)
  have hA49 : Ag 190 [(166, 43), (166, 44), (166, 45), (166, 46), (166, 47), (166, 48), (166, 50), (166, 51), (166, 52), (166, 53), (166, 55), (166, 56), (166, 57), (166, 59), (166, 60), (166, 65), (166, 66), (166, 67)] true s49 := by rw [es49]; exact hA48.put (by decide +kernel)
  refine K_aload_n 0 (kdA dt_MX12_init 104 rfl) rfl rfl ?_
  refine K_bipush (kdA dt_MX12_init 105 rfl) (by decide) ?_
  refine K_newi (b2 := (17, 4638)) (kdA dt_MX12_init 106 rfl) (by decide +kernel) (by decide) (by decide +kernel) ⟨by decide, by decide⟩ rfl (fun s50 es50 => ?_)
  have hA50 : Ag 191 [(166, 43), (166, 44), (166, 45), (166, 46), (166, 47), (166, 48), (166, 50), (166, 51), (166, 52), (166, 53), (166, 55), (166, 56), (166, 57), (166, 59), (166, 60), (166, 65), (166, 66), (166, 67)] true s50 := by rw [es50]; exact hA49.new (by decide +kernel)
  refine pf12_94 rfl rfl (kdA dt_MX12_init 107 rfl) ⟨by decide, by decide, by decide +kernel⟩ (fun s51 es51 => ?_)
  have hA51 : Ag 191 [(166, 44), (166, 45), (166, 46), (166, 47), (166, 48), (166, 50), (166, 51), (166, 52), (166, 53), (166, 55), (166, 56), (166, 57), (166, 59), (166, 60), (166, 65), (166, 66), (166, 67)] true s51 := by rw [es51]; exact hA50.put (by decide +kernel)
  refine K_aload_n 0 (kdA dt_MX12_init 108 rfl) rfl rfl ?_
  refine K_sipush (kdA dt_MX12_init 109 rfl) (by decide) ?_
  refine K_newi (b2 := (16, 3798)) (kdA dt_MX12_init 110 rfl) (by decide +kernel) (by decide) (by decide +kernel) ⟨by decide, by decide⟩ rfl (fun s52 es52 => ?_)
  have hA52 : Ag 192 [(166, 44), (166, 45), (166, 46), (166, 47), (166, 48), (166, 50), (166, 51), (166, 52), (166, 53), (166, 55), (166, 56), (166, 57), (166, 59), (166, 60), (166, 65), (166, 66), (166, 67)] true s52 := by rw [es52]; exact hA51.new (by decide +kernel)
  refine pf12_97 rfl rfl (kdA dt_MX12_init 111 rfl) ⟨by decide, by decide, by decide +kernel⟩ (fun s53 es53 => ?_)
  have hA53 : Ag 192 [(166, 45), (166, 46), (166, 47), (166, 48), (166, 50), (166, 51), (166, 52), (166, 53), (166, 55), (166, 56), (166, 57), (166, 59), (166, 60), (166, 65), (166, 66), (166, 67)] true s53 := by rw [es53]; exact hA52.put (by decide +kernel)
  refine K_aload_n 0 (kdA dt_MX12_init 112 rfl) rfl rfl ?_
  refine K_bipush (kdA dt_MX12_init 113 rfl) (by decide) ?_
  refine K_newi (b2 := (15, 3792)) (kdA dt_MX12_init 114 rfl) (by decide +kernel) (by decide) (by decide +kernel) ⟨by decide, by decide⟩ rfl (fun s54 es54 => ?_)
  have hA54 : Ag 193 [(166, 45), (166, 46), (166, 47), (166, 48), (166, 50), (166, 51), (166, 52), (166, 53), (166, 55), (166, 56), (166, 57), (166, 59), (166, 60), (166, 65), (166, 66), (166, 67)] true s54 := by rw [es54]; exact hA53.new (by decide +kernel)
  refine pf12_100 rfl rfl (kdA dt_MX12_init 115 rfl) ⟨by decide, by decide, by decide +kernel⟩ (fun s55 es55 => ?_)
  have hA55 : Ag 193 [(166, 46), (166, 47), (166, 48), (166, 50), (166, 51), (166, 52), (166, 53), (166, 55), (166, 56), (166, 57), (166, 59), (166, 60), (166, 65), (166, 66), (166, 67)] true s55 := by rw [es55]; exact hA54.put (by decide +kernel)
  refine K_aload_n 0 (kdA dt_MX12_init 116 rfl) rfl rfl ?_
  refine K_bipush (kdA dt_MX12_init 117 rfl) (by decide) ?_
  refine K_newi (b2 := (14, 3728)) (kdA dt_MX12_init 118 rfl) (by decide +kernel) (by decide) (by decide +kernel) ⟨by decide, by decide⟩ rfl (fun s56 es56 => ?_)
  have hA56 : Ag 194 [(166, 46), (166, 47), (166, 48), (166, 50), (166, 51), (166, 52), (166, 53), (166, 55), (166, 56), (166, 57), (166, 59), (166, 60), (166, 65), (166, 66), (166, 67)] true s56 := by rw [es56]; exact hA55.new (by decide +kernel)
  refine pf12_103 rfl rfl (kdA dt_MX12_init 119 rfl) ⟨by decide, by decide, by decide +kernel⟩ (fun s57 es57 => ?_)
  have hA57 : Ag 194 [(166, 47), (166, 48), (166, 50), (166, 51), (166, 52), (166, 53), (166, 55), (166, 56), (166, 57), (166, 59), (166, 60), (166, 65), (166, 66), (166, 67)] true s57 := by rw [es57]; exact hA56.put (by decide +kernel)
  refine K_aload_n 0 (kdA dt_MX12_init 120 rfl) rfl rfl ?_
  refine K_bipush (kdA dt_MX12_init 121 rfl) (by decide) ?_
  refine K_newi (b2 := (13, 3722)) (kdA dt_MX12_init 122 rfl) (by decide +kernel) (by decide) (by decide +kernel) ⟨by decide, by decide⟩ rfl (fun s58 es58 => ?_)
  have hA58 : Ag 195 [(166, 47), (166, 48), (166, 50), (166, 51), (166, 52), (166, 53), (166, 55), (166, 56), (166, 57), (166, 59), (166, 60), (166, 65), (166, 66), (166, 67)] true s58 := by rw [es58]; exact hA57.new (by decide +kernel)
  refine pf12_106 rfl rfl (kdA dt_MX12_init 123 rfl) ⟨by decide, by decide, by decide +kernel⟩ (fun s59 es59 => ?_)
  have hA59 : Ag 195 [(166, 48), (166, 50), (166, 51), (166, 52), (166, 53), (166, 55), (166, 56), (166, 57), (166, 59), (166, 60), (166, 65), (166, 66), (166, 67)] true s59 := by rw [es59]; exact hA58.put (by decide +kernel)
  refine K_aload_n 0 (kdA dt_MX12_init 124 rfl) rfl rfl ?_
  refine K_bipush (kdA dt_MX12_init 125 rfl) (by decide) ?_
  refine K_newi (b2 := (12, 3716)) (kdA dt_MX12_init 126 rfl) (by decide +kernel) (by decide) (by decide +kernel) ⟨by decide, by decide⟩ rfl (fun s60 es60 => ?_)
  have hA60 : Ag 196 [(166, 48), (166, 50), (166, 51), (166, 52), (166, 53), (166, 55), (166, 56), (166, 57), (166, 59), (166, 60), (166, 65), (166, 66), (166, 67)] true s60 := by rw [es60]; exact hA59.new (by decide +kernel)
  refine pf12_109 rfl rfl (kdA dt_MX12_init 127 rfl) ⟨by decide, by decide, by decide +kernel⟩ (fun s61 es61 => ?_)
  have hA61 : Ag 196 [(166, 50), (166, 51), (166, 52), (166, 53), (166, 55), (166, 56), (166, 57), (166, 59), (166, 60), (166, 65), (166, 66), (166, 67)] true s61 := by rw [es61]; exact hA60.put (by decide +kernel)
  refine K_aload_n 0 (kdA dt_MX12_init 128 rfl) rfl rfl ?_
  refine K_bipush (kdA dt_MX12_init 129 rfl) (by decide) ?_
  refine K_newi (b2 := (11, 3708)) (kdA dt_MX12_init 130 rfl) (by decide +kernel) (by decide) (by decide +kernel) ⟨by decide, by decide⟩ rfl (fun s62 es62 => ?_)
  have hA62 : Ag 197 [(166, 50), (166, 51), (166, 52), (166, 53), (166, 55), (166, 56), (166, 57), (166, 59), (166, 60), (166, 65), (166, 66), (166, 67)] true s62 := by rw [es62]; exact hA61.new (by decide +kernel)
  refine pf12_112 rfl rfl (kdA dt_MX12_init 131 rfl) ⟨by decide, by decide, by decide +kernel⟩ (fun s63 es63 => ?_)
  have hA63 : Ag 197 [(166, 51), (166, 52), (166, 53), (166, 55), (166, 56), (166, 57), (166, 59), (166, 60), (166, 65), (166, 66), (166, 67)] true s63 := by rw [es63]; exact hA62.put (by decide +kernel)
  refine K_aload_n 0 (kdA dt_MX12_init 132 rfl) rfl rfl ?_
  refine K_bipush (kdA dt_MX12_init 133 rfl) (by decide) ?_
  refine K_newi (b2 := (10, 3700)) (kdA dt_MX12_init 134 rfl) (by decide +kernel) (by decide) (by decide +kernel) ⟨by decide, by decide⟩ rfl (fun s64 es64 => ?_)
  have hA64 : Ag 198 [(166, 51), (166, 52), (166, 53), (166, 55), (166, 56), (166, 57), (166, 59), (166, 60), (166, 65), (166, 66), (166, 67)] true s64 := by rw [es64]; exact hA63.new (by decide +kernel)
  refine pf12_115 rfl rfl (kdA dt_MX12_init 135 rfl) ⟨by decide, by decide, by decide +kernel⟩ (fun s65 es65 => ?_)
  have hA65 : Ag 198 [(166, 52), (166, 53), (166, 55), (166, 56), (166, 57), (166, 59), (166, 60), (166, 65), (166, 66), (166, 67)] true s65 := by rw [es65]; exact hA64.put (by decide +kernel)
  refine K_aload_n 0 (kdA dt_MX12_init 136 rfl) rfl rfl ?_
  refine K_bipush (kdA dt_MX12_init 137 rfl) (by decide) ?_
  refine K_newi (b2 := (9, 3692)) (kdA dt_MX12_init 138 rfl) (by decide +kernel) (by decide) (by decide +kernel) ⟨by decide, by decide⟩ rfl (fun s66 es66 => ?_)
  have hA66 : Ag 199 [(166, 52), (166, 53), (166, 55), (166, 56), (166, 57), (166, 59), (166, 60), (166, 65), (166, 66), (166, 67)] true s66 := by rw [es66]; exact hA65.new (by decide +kernel)
  refine pf12_118 rfl rfl (kdA dt_MX12_init 139 rfl) ⟨by decide, by decide, by decide +kernel⟩ (fun s67 es67 => ?_)
  have hA67 : Ag 199 [(166, 53), (166, 55), (166, 56), (166, 57), (166, 59), (166, 60), (166, 65), (166, 66), (166, 67)] true s67 := by rw [es67]; exact hA66.put (by decide +kernel)
  refine K_aload_n 0 (kdA dt_MX12_init 140 rfl) rfl rfl ?_
  refine K_bipush (kdA dt_MX12_init 141 rfl) (by decide) ?_
  refine K_newi (b2 := (8, 3684)) (kdA dt_MX12_init 142 rfl) (by decide +kernel) (by decide) (by decide +kernel) ⟨by decide, by decide⟩ rfl (fun s68 es68 => ?_)
  have hA68 : Ag 200 [(166, 53), (166, 55), (166, 56), (166, 57), (166, 59), (166, 60), (166, 65), (166, 66), (166, 67)] true s68 := by rw [es68]; exact hA67.new (by decide +kernel)
  refine pf12_121 rfl rfl (kdA dt_MX12_init 143 rfl) ⟨by decide, by decide, by decide +kernel⟩ (fun s69 es69 => ?_)
  have hA69 : Ag 200 [(166, 55), (166, 56), (166, 57), (166, 59), (166, 60), (166, 65), (166, 66), (166, 67)] true s69 := by rw [es69]; exact hA68.put (by decide +kernel)
  refine K_aload_n 0 (kdA dt_MX12_init 144 rfl) rfl rfl ?_
  refine K_bipush (kdA dt_MX12_init 145 rfl) (by decide) ?_
  refine K_newi (b2 := (7, 3656)) (kdA dt_MX12_init 146 rfl) (by decide +kernel) (by decide) (by decide +kernel) ⟨by decide, by decide⟩ rfl (fun s70 es70 => ?_)
  have hA70 : Ag 201 [(166, 55), (166, 56), (166, 57), (166, 59), (166, 60), (166, 65), (166, 66), (166, 67)] true s70 := by rw [es70]; exact hA69.new (by decide +kernel)
  refine pf12_124 rfl rfl (kdA dt_MX12_init 147 rfl) ⟨by decide, by decide, by decide +kernel⟩ (fun s71 es71 => ?_)
  have hA71 : Ag 201 [(166, 56), (166, 57), (166, 59), (166, 60), (166, 65), (166, 66), (166, 67)] true s71 := by rw [es71]; exact hA70.put (by decide +kernel)
  refine K_aload_n 0 (kdA dt_MX12_init 148 rfl) rfl rfl ?_
  refine K_bipush (kdA dt_MX12_init 149 rfl) (by decide) ?_
  refine K_newi (b2 := (6, 3628)) (kdA dt_MX12_init 150 rfl) (by decide +kernel) (by decide) (by decide +kernel) ⟨by decide, by decide⟩ rfl (fun s72 es72 => ?_)
  have hA72 : Ag 202 [(166, 56), (166, 57), (166, 59), (166, 60), (166, 65), (166, 66), (166, 67)] true s72 := by rw [es72]; exact hA71.new (by decide +kernel)
  refine pf12_127 rfl rfl (kdA dt_MX12_init 151 rfl) ⟨by decide, by decide, by decide +kernel⟩ (fun s73 es73 => ?_)
  have hA73 : Ag 202 [(166, 57), (166, 59), (166, 60), (166, 65), (166, 66), (166, 67)] true s73 := by rw [es73]; exact hA72.put (by decide +kernel)
  refine K_aload_n 0 (kdA dt_MX12_init 152 rfl) rfl rfl ?_
  refine K_bipush (kdA dt_MX12_init 153 rfl) (by decide) ?_
  refine K_newi (b2 := (5, 3600)) (kdA dt_MX12_init 154 rfl) (by decide +kernel) (by decide) (by decide +kernel) ⟨by decide, by decide⟩ rfl (fun s74 es74 => ?_)
  have hA74 : Ag 203 [(166, 57), (166, 59), (166, 60), (166, 65), (166, 66), (166, 67)] true s74 := by rw [es74]; exact hA73.new (by decide +kernel)
  refine pf12_130 rfl rfl (kdA dt_MX12_init 155 rfl) ⟨by decide, by decide, by decide +kernel⟩ (fun s75 es75 => ?_)
  have hA75 : Ag 203 [(166, 59), (166, 60), (166, 65), (166, 66), (166, 67)] true s75 := by rw [es75]; exact hA74.put (by decide +kernel)
  refine K_aload_n 0 (kdA dt_MX12_init 156 rfl) rfl rfl ?_
  refine K_bipush (kdA dt_MX12_init 157 rfl) (by decide) ?_
  refine K_newi (b2 := (4, 3480)) (kdA dt_MX12_init 158 rfl) (by decide +kernel) (by decide) (by decide +kernel) ⟨by decide, by decide⟩ rfl (fun s76 es76 => ?_)
  have hA76 : Ag 204 [(166, 59), (166, 60), (166, 65), (166, 66), (166, 67)] true s76 := by rw [es76]; exact hA75.new (by decide +kernel)
  refine pf12_133 rfl rfl (kdA dt_MX12_init 159 rfl) ⟨by decide, by decide, by decide +kernel⟩ (fun s77 es77 => ?_)
  have hA77 : Ag 204 [(166, 60), (166, 65), (166, 66), (166, 67)] true s77 := by rw [es77]; exact hA76.put (by decide +kernel)
  refine K_aload_n 0 (kdA dt_MX12_init 160 rfl) rfl rfl ?_
  refine K_sipush (kdA dt_MX12_init 161 rfl) (by decide) ?_
  refine K_newi (b2 := (3, 2520)) (kdA dt_MX12_init 162 rfl) (by decide +kernel) (by decide) (by decide +kernel) ⟨by decide, by decide⟩ rfl (fun s78 es78 => ?_)
  have hA78 : Ag 205 [(166, 60), (166, 65), (166, 66), (166, 67)] true s78 := by rw [es78]; exact hA77.new (by decide +kernel)
  refine pf12_136 rfl rfl (kdA dt_MX12_init 163 rfl) ⟨by decide, by decide, by decide +kernel⟩ (fun s79 es79 => ?_)
  have hA79 : Ag 205 [(166, 65), (166, 66), (166, 67)] true s79 := by rw [es79]; exact hA78.put (by decide +kernel)
  refine K_aload_n 0 (kdA dt_MX12_init 164 rfl) rfl rfl ?_
  refine K_sipush (kdA dt_MX12_init 165 rfl) (by decide) ?_
  refine K_newi (b2 := (2, 600)) (kdA dt_MX12_init 166 rfl) (by decide +kernel) (by decide) (by decide +kernel) ⟨by decide, by decide⟩ rfl (fun s80 es80 => ?_)
  have hA80 : Ag 206 [(166, 65), (166, 66), (166, 67)] true s80 := by rw [es80]; exact hA79.new (by decide +kernel)
  refine pf12_139 rfl rfl (kdA dt_MX12_init 167 rfl) ⟨by decide, by decide, by decide +kernel⟩ (fun s81 es81 => ?_)
  have hA81 : Ag 206 [(166, 66), (166, 67)] true s81 := by rw [es81]; exact hA80.put (by decide +kernel)
  refine K_aload_n 0 (kdA dt_MX12_init 168 rfl) rfl rfl ?_
  refine K_sipush (kdA dt_MX12_init 169 rfl) (by decide) ?_
  refine K_newi (b2 := (1, 120)) (kdA dt_MX12_init 170 rfl) (by decide +kernel) (by decide) (by decide +kernel) ⟨by decide, by decide⟩ rfl (fun s82 es82 => ?_)
  have hA82 : Ag 207 [(166, 66), (166, 67)] true s82 := by rw [es82]; exact hA81.new (by decide +kernel)
  refine pf12_142 rfl rfl (kdA dt_MX12_init 171 rfl) ⟨by decide, by decide, by decide +kernel⟩ (fun s83 es83 => ?_)
  have hA83 : Ag 207 [(166, 67)] true s83 := by rw [es83]; exact hA82.put (by decide +kernel)
  refine K_aload_n 0 (kdA dt_MX12_init 172 rfl) rfl rfl ?_
  refine K_bipush (kdA dt_MX12_init 173 rfl) (by decide) ?_
  refine K_newz (b2 := (0, 0)) (kdA dt_MX12_init 174 rfl) (by decide +kernel) (by decide) (by decide +kernel) ⟨by decide, by decide⟩ rfl (fun s84 es84 => ?_)
  have hA84 : Ag 208 [(166, 67)] true s84 := by rw [es84]; exact hA83.new (by decide +kernel)
  refine pf12_145 rfl rfl (kdA dt_MX12_init 175 rfl) ⟨by decide, by decide, by decide +kernel⟩ (fun s85 es85 => ?_)
  have hA85 : Ag 208 [] true s85 := by rw [es85]; exact hA84.put (by decide +kernel)
  exact K_return (kdA dt_MX12_init 176 rfl) rfl ⟨rfl, rfl, hA85⟩
