/-! feed: bytes of ints; both sides -/
theorem b32_nat {x : Int} (hx : -2147483648 ≤ x ∧ x ≤ 2147483647) : (((Int32.ofInt x).toBitVec.toNat : Nat) : Int) = x % 4294967296 := by
  have h : (Int32.ofInt x).toBitVec.toInt = x := k32 hx
  rw [BitVec.toInt_eq_toNat_cond] at h
  have := (Int32.ofInt x).toBitVec.isLt
  split at h <;> omega
theorem kand_mod {x : Int} (hx : -2147483648 ≤ x ∧ x ≤ 2147483647) : kand x 255 = x % 256 := by
  have e : kand x 255 = ((Int32.ofInt x).toBitVec &&& (Int32.ofInt 255).toBitVec).toInt := rfl
  have e2 : ((Int32.ofInt 255).toBitVec).toNat = 2 ^ 8 - 1 := by decide
  have h1 : ((Int32.ofInt x).toBitVec &&& (Int32.ofInt 255).toBitVec).toNat = (Int32.ofInt x).toBitVec.toNat % 256 := by
    rw [BitVec.toNat_and, e2, Nat.and_two_pow_sub_one_eq_mod]
  have hN := b32_nat hx
  rw [e, BitVec.toInt_eq_toNat_cond, if_pos (by omega)]
  omega
theorem shr_gen {v : Int} (hv : -2147483648 ≤ v ∧ v ≤ 2147483647) {y : Int32} {k m : Nat} (hk : (y.toBitVec.smod 32).toNat = k) (hm : 2 ^ k = m) : (Int32.ofInt v >>> y).toInt = v / (m : Int) := by
  have e : (Int32.ofInt v >>> y).toInt = ((Int32.ofInt v).toBitVec.sshiftRight' (y.toBitVec.smod 32)).toInt := rfl
  rw [e, BitVec.toInt_sshiftRight', hk, show (Int32.ofInt v).toBitVec.toInt = v from k32 hv, Int.shiftRight_eq_div_pow, hm]
theorem ushr_nat {v : Int} {y : UInt32} {k m : Nat} (hk : y.toNat % 32 = k) (hm : 2 ^ k = m) : ((Int32.ofInt v).toUInt32 >>> y).toNat = (Int32.ofInt v).toBitVec.toNat / m := by
  rw [UInt32.toNat_shiftRight, hk, Nat.shiftRight_eq_div_pow, hm]
  rfl
theorem ushr_int (z : UInt32) (h : z.toNat < 2147483648) : z.toInt32.toInt = (z.toNat : Int) := by
  have e : z.toInt32.toInt = z.toBitVec.toInt := rfl
  have e2 : z.toBitVec.toNat = z.toNat := rfl
  rw [e, BitVec.toInt_eq_toNat_cond, if_pos (by omega), e2]
theorem kishr_24 {v : Int} (hv : -2147483648 ≤ v ∧ v ≤ 2147483647) : kishr v 24 = v / 16777216 := shr_gen (k := 24) (m := 16777216) hv (by decide) (by decide)
theorem kiushr_24 {v : Int} (hv : -2147483648 ≤ v ∧ v ≤ 2147483647) : kiushr v 24 = v % 4294967296 / 16777216 := by
  have h1 := ushr_nat (v := v) (y := (Int32.ofInt 24).toUInt32 &&& Int32.toUInt32 31) (k := 24) (m := 16777216) (by decide) (by decide)
  have hN := b32_nat hv
  have hl := (Int32.ofInt v).toBitVec.isLt
  unfold kiushr
  rw [ushr_int _ (by omega), h1]
  omega
theorem kishr_16 {v : Int} (hv : -2147483648 ≤ v ∧ v ≤ 2147483647) : kishr v 16 = v / 65536 := shr_gen (k := 16) (m := 65536) hv (by decide) (by decide)
theorem kiushr_16 {v : Int} (hv : -2147483648 ≤ v ∧ v ≤ 2147483647) : kiushr v 16 = v % 4294967296 / 65536 := by
  have h1 := ushr_nat (v := v) (y := (Int32.ofInt 16).toUInt32 &&& Int32.toUInt32 31) (k := 16) (m := 65536) (by decide) (by decide)
  have hN := b32_nat hv
  have hl := (Int32.ofInt v).toBitVec.isLt
  unfold kiushr
  rw [ushr_int _ (by omega), h1]
  omega
theorem kishr_8 {v : Int} (hv : -2147483648 ≤ v ∧ v ≤ 2147483647) : kishr v 8 = v / 256 := shr_gen (k := 8) (m := 256) hv (by decide) (by decide)
theorem kiushr_8 {v : Int} (hv : -2147483648 ≤ v ∧ v ≤ 2147483647) : kiushr v 8 = v % 4294967296 / 256 := by
  have h1 := ushr_nat (v := v) (y := (Int32.ofInt 8).toUInt32 &&& Int32.toUInt32 31) (k := 8) (m := 256) (by decide) (by decide)
  have hN := b32_nat hv
  have hl := (Int32.ofInt v).toBitVec.isLt
  unfold kiushr
  rw [ushr_int _ (by omega), h1]
  omega
theorem kishr_0 {v : Int} (hv : -2147483648 ≤ v ∧ v ≤ 2147483647) : kishr v 0 = v := by
  have h := shr_gen (y := Int32.ofInt 0 &&& 31) (k := 0) (m := 1) hv (by decide) (by decide)
  unfold kishr
  rw [h]
  omega
theorem kiushr_0 {v : Int} (hv : -2147483648 ≤ v ∧ v ≤ 2147483647) : kiushr v 0 = v := by
  have e : (Int32.ofInt 0).toUInt32 &&& Int32.toUInt32 31 = 0 := by decide
  unfold kiushr
  rw [e, UInt32.shiftRight_zero]
  exact k32 hv
theorem kbyte_v {x : Int} (hx : -2147483648 ≤ x ∧ x ≤ 2147483647) : gby (kbyte x) = x % 256 ∧ -128 ≤ kbyte x ∧ kbyte x ≤ 127 := by
  have e : kbyte x = x.bmod 256 := by
    unfold kbyte
    rw [Int32.toInt_toInt8, k32 hx]
  have hb : x.bmod 256 = if x % 256 < 128 then x % 256 else x % 256 - 256 := rfl
  rw [e, hb]
  unfold gby
  by_cases c : x % 256 < 128
  · rw [if_pos c, if_neg (by omega)]
    omega
  · rw [if_neg c, if_pos (by omega)]
    omega
def byk (v k : Int) : Int := kand (kiushr v k) 255
theorem byk_all {v k : Int} (hv : -2147483648 ≤ v ∧ v ≤ 2147483647) (hk : k = 24 ∨ k = 16 ∨ k = 8 ∨ k = 0) : kand (kishr v k) 255 = byk v k ∧ gby (kbyte (kishr v k)) = byk v k ∧ (-128 ≤ kbyte (kishr v k) ∧ kbyte (kishr v k) ≤ 127) ∧ 0 ≤ byk v k ∧ byk v k ≤ 255 := by
  unfold byk
  rcases hk with rfl | rfl | rfl | rfl
  · rw [kishr_24 hv, kiushr_24 hv, kand_mod (by omega), kand_mod (by omega)]
    have := kbyte_v (x := v / 16777216) (by omega)
    omega
  · rw [kishr_16 hv, kiushr_16 hv, kand_mod (by omega), kand_mod (by omega)]
    have := kbyte_v (x := v / 65536) (by omega)
    omega
  · rw [kishr_8 hv, kiushr_8 hv, kand_mod (by omega), kand_mod (by omega)]
    have := kbyte_v (x := v / 256) (by omega)
    omega
  · rw [kishr_0 hv, kiushr_0 hv, kand_mod (by omega)]
    have := kbyte_v (x := v) (by omega)
    omega
def by1 (v k : Int) : List Int := if byk v k = 0 then [] else [byk v k]
def bys (v : Int) : List Int := by1 v 24 ++ (by1 v 16 ++ (by1 v 8 ++ by1 v 0))
theorem by1_0 {v k : Int} (h : byk v k = 0) : by1 v k = [] := if_pos h
theorem by1_1 {v k : Int} (h : ¬ byk v k = 0) : by1 v k = [byk v k] := if_neg h
theorem by1_len {v k : Int} : (by1 v k).length ≤ 1 := by
  unfold by1
  split <;> simp
theorem bys_len {v : Int} : (bys v).length = (by1 v 24).length + (by1 v 16).length + (by1 v 8).length + (by1 v 0).length ∧ (bys v).length ≤ 4 := by
  have h1 := by1_len (v := v) (k := 24)
  have h2 := by1_len (v := v) (k := 16)
  have h3 := by1_len (v := v) (k := 8)
  have h4 := by1_len (v := v) (k := 0)
  unfold bys
  simp only [List.length_append]
  omega
theorem by1_mem {v k x : Int} (hv : -2147483648 ≤ v ∧ v ≤ 2147483647) (hk : k = 24 ∨ k = 16 ∨ k = 8 ∨ k = 0) (h : x ∈ by1 v k) : 1 ≤ x ∧ x ≤ 255 := by
  have hb := (byk_all hv hk).2.2.2
  unfold by1 at h
  split at h
  · exact absurd h (by simp)
  · rw [List.mem_singleton] at h
    omega
theorem bys_mem {v x : Int} (hv : -2147483648 ≤ v ∧ v ≤ 2147483647) (h : x ∈ bys v) : 1 ≤ x ∧ x ≤ 255 := by
  unfold bys at h
  rcases List.mem_append.mp h with h | h
  · exact by1_mem hv (by omega) h
  · rcases List.mem_append.mp h with h | h
    · exact by1_mem hv (by omega) h
    · rcases List.mem_append.mp h with h | h
      · exact by1_mem hv (by omega) h
      · exact by1_mem hv (by omega) h
theorem X_bytesIn {d : Nat} (hd : 1 ≤ d) {s : kS} {v : Int} {Q : Int → kS → Prop} (h : Q ((bys v).length : Int) s) : Ci d MX11_bytesIn [(0, v)] kN s Q := by
  obtain ⟨d, rfl⟩ : ∃ e, d = e + 1 := ⟨d - 1, by omega⟩
  refine EX11_bytesIn fun hv _ => SX11_bytesIn_0 ?_
  have step : ∀ k m : Int, 0 ≤ k → k ≤ 24 → 0 ≤ m → m ≤ 3 → LX11_bytesIn_5 d kN Q v (m + ((by1 v k).length : Int)) (k + (-8)) s → LX11_bytesIn_5 d kN Q v m k s := by
    intro k m k0 k1 m0 m1 hn
    refine SX11_bytesIn_5 ⟨fun q => by omega, fun q => ⟨fun c => ⟨by omega, ?_⟩, fun c => ⟨by omega, by omega, ?_⟩⟩⟩
    · rw [by1_0 (show byk v k = 0 from c)] at hn
      rw [show m + ((([] : List Int).length : Nat) : Int) = m from Int.add_zero m] at hn
      exact hn
    · rw [by1_1 (show ¬ byk v k = 0 from c)] at hn
      exact hn
  have h1 := by1_len (v := v) (k := 24)
  have h2 := by1_len (v := v) (k := 16)
  have h3 := by1_len (v := v) (k := 8)
  have hl := (bys_len (v := v)).1
  refine step 24 0 (by omega) (by omega) (by omega) (by omega) (step 16 _ (by omega) (by omega) (by omega) (by omega) (step 8 _ (by omega) (by omega) (by omega) (by omega) (step 0 _ (by omega) (by omega) (by omega) (by omega) ?_)))
  refine SX11_bytesIn_5 ⟨fun q => ?_, fun q => by omega⟩
  rw [show 0 + ((by1 v 24).length : Int) + ((by1 v 16).length : Int) + ((by1 v 8).length : Int) + ((by1 v 0).length : Int) = ((bys v).length : Int) by omega]
  exact h
theorem M_bytesIn {d : Nat} (hd : 1 ≤ d) {s : kS} {v : Int} {Q : Int → kS → Prop} (h : Q ((bys v).length : Int) s) : Ci d MX12_bytesIn [(0, v)] kN s Q := by
  obtain ⟨d, rfl⟩ : ∃ e, d = e + 1 := ⟨d - 1, by omega⟩
  refine EX12_bytesIn fun hv _ => SX12_bytesIn_0 ?_
  have step : ∀ k m : Int, (k = 24 ∨ k = 16 ∨ k = 8 ∨ k = 0) → 0 ≤ m → m ≤ 3 → LX12_bytesIn_5 d kN Q v (m + ((by1 v k).length : Int)) (k + (-8)) s → LX12_bytesIn_5 d kN Q v m k s := by
    intro k m hk m0 m1 hn
    have e := (byk_all hv hk).1
    refine SX12_bytesIn_5 ⟨fun q => by omega, fun q => ⟨fun c => ⟨by omega, by omega, ?_⟩, fun c => ⟨by omega, by omega, ?_⟩⟩⟩
    · rw [by1_0 (show byk v k = 0 by rw [← e]; exact c)] at hn
      exact hn
    · rw [by1_1 (show ¬ byk v k = 0 by rw [← e]; exact c)] at hn
      exact hn
  have h1 := by1_len (v := v) (k := 24)
  have h2 := by1_len (v := v) (k := 16)
  have h3 := by1_len (v := v) (k := 8)
  have hl := (bys_len (v := v)).1
  refine step 24 0 (by omega) (by omega) (by omega) (step 16 _ (by omega) (by omega) (by omega) (step 8 _ (by omega) (by omega) (by omega) (step 0 _ (by omega) (by omega) (by omega) ?_)))
  refine SX12_bytesIn_5 ⟨fun q => ?_, fun q => by omega⟩
  rw [show 0 + ((by1 v 24).length : Int) + ((by1 v 16).length : Int) + ((by1 v 8).length : Int) + ((by1 v 0).length : Int) = ((bys v).length : Int) by omega]
  exact h
theorem X_addBytes {d : Nat} (hd : 2 ≤ d) {s : kS} {v : Int} {Q : kS → Prop} (hL : Lay s) (hr : RowOK s 8) (hc : s 8 1 + ((bys v).length : Int) ≤ 120) (h : ∀ u, off [8, 9] s u → Lay u → RowOK u 8 → rowL u 8 = rowL s 8 ++ bys v → u 8 1 = s 8 1 + ((bys v).length : Int) → Q u) : Cv d MX11_addBytes [(2, 0), (0, v)] kN s Q := by
  obtain ⟨d, rfl⟩ : ∃ e, d = e + 1 := ⟨d - 1, by omega⟩
  have k9 : klen (8 + 1) = 120 := kl_9
  refine EX11_addBytes fun hv _ => SX11_addBytes_0 ?_
  have step : ∀ k : Int, ∀ w : kS, 0 ≤ k → k ≤ 24 → Lay w → RowOK w 8 → w 8 1 + ((by1 v k).length : Int) ≤ 120 → (∀ u, off [8, 9] w u → Lay u → RowOK u 8 → rowL u 8 = rowL w 8 ++ by1 v k → u 8 1 = w 8 1 + ((by1 v k).length : Int) → LX11_addBytes_3 d kN Q 0 v (k + (-8)) u) → LX11_addBytes_3 d kN Q 0 v k w := by
    intro k w k0 k1 hLw hrw hcw hn
    refine SX11_addBytes_3 ⟨fun q => by omega, fun q => ⟨fun c => ⟨by omega, ?_⟩, fun c => ⟨o_0, ?_⟩⟩⟩
    · rw [by1_0 (show byk v k = 0 from c)] at hn
      exact hn w off.rfl' hLw hrw (List.append_nil _).symm (Int.add_zero _).symm
    · have e1 := by1_1 (show ¬ byk v k = 0 from c)
      rw [e1] at hn hcw
      have hcw' : w 8 1 + 1 ≤ 120 := hcw
      rw [ly_0_3 hLw]
      refine ⟨o_8, Row_add (by omega) hLw hrw (fun _ => ⟨by omega, hn _ (rowPush_off off.rfl' (by decide) (by decide)) ((hLw.kstA a_9).kstO 1 o_8 (by decide)) ⟨o_8, ?_⟩ (rowPush_L hrw.2.1) ?_⟩) (fun z => by omega)⟩
      · have := hrw.2
        rw [rowPush_0]
        omega
      · rw [rowPush_0]
        rfl
  have hl := (bys_len (v := v)).1
  refine step 24 s (by omega) (by omega) hL hr (by omega) (fun u1 o1 L1 r1 l1 n1 => step 16 u1 (by omega) (by omega) L1 r1 (by omega) (fun u2 o2 L2 r2 l2 n2 => step 8 u2 (by omega) (by omega) L2 r2 (by omega) (fun u3 o3 L3 r3 l3 n3 => step 0 u3 (by omega) (by omega) L3 r3 (by omega) (fun u4 o4 L4 r4 l4 n4 => SX11_addBytes_3 ⟨fun q => h u4 (((o1.trans o2).trans o3).trans o4) L4 r4 ?_ (by omega), fun q => by omega⟩))))
  rw [l4, l3, l2, l1]
  unfold bys
  simp only [List.append_assoc]
/-- the model's tape -/
def mtL (s : kS) : List Int := seg (fun i => gby (s 169 i)) 0 (s 166 13)
def mtOK (s : kS) : Prop := (0 ≤ s 166 13 ∧ s 166 13 ≤ 120) ∧ ∀ i, 0 ≤ i → i < s 166 13 → -128 ≤ s 169 i ∧ s 169 i ≤ 127
theorem M_put {d : Nat} (hd : 1 ≤ d) {s : kS} {v : Int} {Q : kS → Prop} (hL : Lay s) (hr : mtOK s) (hc : s 166 13 + ((bys v).length : Int) ≤ 120) (h : ∀ u, off [166, 169] s u → (∀ j, j ≠ 13 → u 166 j = s 166 j) → Lay u → mtOK u → mtL u = mtL s ++ bys v → u 166 13 = s 166 13 + ((bys v).length : Int) → Q u) : Cv d MX12_put [(2, 166), (0, v)] kN s Q := by
  obtain ⟨d, rfl⟩ : ∃ e, d = e + 1 := ⟨d - 1, by omega⟩
  have k169 := kl_169
  refine EX12_put fun hv _ => SX12_put_0 ?_
  have step : ∀ k : Int, ∀ w : kS, (k = 24 ∨ k = 16 ∨ k = 8 ∨ k = 0) → Lay w → mtOK w → w 166 13 + ((by1 v k).length : Int) ≤ 120 → (∀ u, off [166, 169] w u → (∀ j, j ≠ 13 → u 166 j = w 166 j) → Lay u → mtOK u → mtL u = mtL w ++ by1 v k → u 166 13 = w 166 13 + ((by1 v k).length : Int) → LX12_put_3 d kN Q 166 v (k + (-8)) u) → LX12_put_3 d kN Q 166 v k w := by
    intro k w hk hLw hrw hcw hn
    obtain ⟨b1, b2, b3, b4⟩ := byk_all hv hk
    refine SX12_put_3 ⟨fun q => by omega, fun q => ⟨fun c => ⟨o_166, ?_⟩, fun c => ⟨by omega, ?_⟩⟩⟩
    · have e1 := by1_1 (show ¬ byk v k = 0 by rw [← b1]; exact c)
      rw [e1] at hn hcw
      have hcw' : w 166 13 + 1 ≤ 120 := hcw
      obtain ⟨⟨r1, r2⟩, r3⟩ := hrw
      rw [ly_166_4 hLw]
      refine ⟨a_169, by omega, b3, fun s1 e1 => ?_⟩
      have f1 : s1 166 13 = w 166 13 := by rw [e1, kst_k (by decide)]
      rw [f1]
      refine ⟨by omega, fun s2 e2 => ⟨by omega, ?_⟩⟩
      have f13 : s2 166 13 = w 166 13 + 1 := by rw [e2, kst_eq]
      have f169 : ∀ i, s2 169 i = if i = w 166 13 then kbyte (kishr v k) else w 169 i := fun i => by
        rw [e2, kst_k (by decide), e1, kst_ap]
        by_cases ei : i = w 166 13
        · rw [if_pos ⟨rfl, ei⟩, if_pos ei]
        · rw [if_neg (fun z => ei z.2), if_neg ei]
      refine hn s2 (by rw [e2, e1]; exact (off.rfl'.kst (by decide)).kst (by decide)) (fun j hj => by rw [e2, kst_kj hj, e1, kst_k (by decide)]) (by rw [e2, e1]; exact (hLw.kstA (c := 21) a_169).kstO 13 o_166 (by decide)) ⟨by omega, fun i i0 i1 => ?_⟩ ?_ (by rw [f13]; rfl)
      · rw [f169]
        by_cases ei : i = w 166 13
        · rw [if_pos ei]; exact b3
        · rw [if_neg ei]; exact r3 i i0 (by omega)
      · unfold mtL
        rw [f13, seg_snoc r1]
        congr 1
        · refine seg_cong (fun i i0 i1 => ?_)
          show gby (s2 169 (0 + i)) = gby (w 169 (0 + i))
          rw [f169, if_neg (by omega)]
        · show [gby (s2 169 (0 + w 166 13))] = [byk v k]
          rw [f169, if_pos (by omega), b2]
    · rw [by1_0 (show byk v k = 0 by rw [← b1]; exact Classical.not_not.mp c)] at hn
      exact hn w off.rfl' (fun _ _ => rfl) hLw hrw (List.append_nil _).symm (Int.add_zero _).symm
  have hl := (bys_len (v := v)).1
  refine step 24 s (by omega) hL hr (by omega) (fun u1 o1 j1 L1 r1 l1 n1 => step 16 u1 (by omega) L1 r1 (by omega) (fun u2 o2 j2 L2 r2 l2 n2 => step 8 u2 (by omega) L2 r2 (by omega) (fun u3 o3 j3 L3 r3 l3 n3 => step 0 u3 (by omega) L3 r3 (by omega) (fun u4 o4 j4 L4 r4 l4 n4 => SX12_put_3 ⟨fun q => h u4 (((o1.trans o2).trans o3).trans o4) (fun j hj => by rw [j4 j hj, j3 j hj, j2 j hj, j1 j hj]) L4 r4 ?_ (by omega), fun q => by omega⟩))))
  rw [l4, l3, l2, l1]
  unfold bys
  simp only [List.append_assoc]
theorem cTape.mt {s : kS} (h : cTape s) : mtOK s ∧ mtL s = rowL s 8 := by
  have k9 : klen (8 + 1) = 120 := kl_9
  obtain ⟨h1, h2, h3⟩ := h
  have := h1.2
  refine ⟨⟨by omega, fun i i0 i1 => (h3 i i0 (by omega)).2.2⟩, ?_⟩
  unfold mtL
  rw [rowL_seg, h2]
  refine seg_cong (fun i i0 i1 => ?_)
  show gby (s 169 (0 + i)) = s 9 (0 + i)
  rw [Int.zero_add]
  exact (h3 i i0 i1).2.1
theorem O_feed {v1 v2 v3 v4 v5 : Int} (hv1 : -2147483648 ≤ v1 ∧ v1 ≤ 2147483647) (hv2 : -2147483648 ≤ v2 ∧ v2 ≤ 2147483647) (hv3 : -2147483648 ≤ v3 ∧ v3 ≤ 2147483647) (hv4 : -2147483648 ≤ v4 ∧ v4 ≤ 2147483647) (hv5 : -2147483648 ≤ v5 ∧ v5 ≤ 2147483647) : Op MX11_feed MX12_feed [(0, v1), (0, v2), (0, v3), (0, v4), (0, v5)] := by
  intro d σ hd hI
  obtain ⟨d, rfl⟩ : ∃ e, d = e + 1 := ⟨d - 1, by omega⟩
  have ht := hI.2.2.2.2.2.1
  have hmt := ht.mt
  have k9 : klen (8 + 1) = 120 := kl_9
  have h0 := ht.1.2
  have l1 := (bys_len (v := v1)).2
  have l2 := (bys_len (v := v2)).2
  have l3 := (bys_len (v := v3)).2
  have l4 := (bys_len (v := v4)).2
  have l5 := (bys_len (v := v5)).2
  refine EX11_feed fun _ _ _ _ _ _ => SX11_feed_0 (X_bytesIn (by omega) (X_bytesIn (by omega) ⟨by omega, X_bytesIn (by omega) ⟨by omega, X_bytesIn (by omega) ⟨by omega, X_bytesIn (by omega) ⟨by omega, o_0, ?_⟩⟩⟩⟩))
  rw [ly_0_3 hI.1]
  refine ⟨o_8, by omega, fun c => ?_, fun c => ?_⟩
  · refine X_addBytes (by omega) hI.1 ht.1 (by omega) (fun s1 o1 L1 r1 e1 n1 => X_addBytes (by omega) L1 r1 (by omega) (fun s2 o2 L2 r2 e2 n2 => X_addBytes (by omega) L2 r2 (by omega) (fun s3 o3 L3 r3 e3 n3 => X_addBytes (by omega) L3 r3 (by omega) (fun s4 o4 L4 r4 e4 n4 => X_addBytes (by omega) L4 r4 (by omega) (fun s5 o5 L5 r5 e5 n5 => ?_)))))
    rw [ly_0_3 L5]
    refine ⟨o_8, ?_⟩
    have os : off [8, 9] σ s5 := (((o1.trans o2).trans o3).trans o4).trans o5
    have hR : rowL s5 8 = rowL σ 8 ++ bys v1 ++ bys v2 ++ bys v3 ++ bys v4 ++ bys v5 := by rw [e5, e4, e3, e2, e1]
    refine EX12_feed fun _ _ _ _ _ _ => SX12_feed_0 ⟨o_166, fun t1 et1 => ?_⟩
    have LT : Lay t1 := by rw [et1]; exact L5.kstO 0 o_166 (by decide)
    have oT : off [166] s5 t1 := by rw [et1]; exact off.rfl'.kst (by decide)
    have g1 : ∀ j, j ≠ 0 → t1 166 j = σ 166 j := fun j hj => by rw [et1, kst_kj hj, os 166 (by decide)]
    have g13 : t1 166 13 = σ 8 1 := by rw [g1 13 (by decide)]; exact ht.2.1
    have mT : mtL t1 = rowL σ 8 := by
      rw [← hmt.2]
      unfold mtL
      rw [g1 13 (by decide), oT 169 (by decide), os 169 (by decide)]
    have mOK : mtOK t1 := by
      unfold mtOK
      rw [g1 13 (by decide), oT 169 (by decide), os 169 (by decide)]
      exact hmt.1
    rw [g13]
    refine M_bytesIn (by omega) ⟨by omega, M_bytesIn (by omega) ⟨by omega, M_bytesIn (by omega) ⟨by omega, M_bytesIn (by omega) ⟨by omega, M_bytesIn (by omega) ⟨by omega, fun c2 => ?_, fun c2 => by omega⟩⟩⟩⟩⟩
    refine M_put (by omega) LT mOK (by omega) (fun u1 p1 j1 L1' q1 f1 m1 => M_put (by omega) L1' q1 (by omega) (fun u2 p2 j2 L2' q2 f2 m2 => M_put (by omega) L2' q2 (by omega) (fun u3 p3 j3 L3' q3 f3 m3 => M_put (by omega) L3' q3 (by omega) (fun u4 p4 j4 L4' q4 f4 m4 => M_put (by omega) L4' q4 (by omega) (fun u p5 j5 L5' q5 f5 m5 => ?_)))))
    have hM : mtL u = rowL s5 8 := by rw [f5, f4, f3, f2, f1, mT, hR]
    have ou : off [166, 169] t1 u := (((p1.trans p2).trans p3).trans p4).trans p5
    have ju : ∀ j, j ≠ 0 → j ≠ 13 → u 166 j = σ 166 j := fun j hj0 hj => by rw [j5 j hj, j4 j hj, j3 j hj, j2 j hj, j1 j hj, g1 j hj0]
    have e13 : u 166 13 = s5 8 1 := by omega
    have oU : off [8, 9, 166, 169] σ u := (os.mono (by simp)).trans ((oT.mono (by simp)).trans (ou.mono (by simp)))
    have u8 : u 8 = s5 8 := by rw [ou 8 (by decide), oT 8 (by decide)]
    have u9 : u 9 = s5 9 := by rw [ou 9 (by decide), oT 9 (by decide)]
    have hf : FrB [8, 9, 169] [13] σ u := by
      refine ⟨fun k hs hk hl => oU k ?_, fun j _ _ => by rw [oU 0 (by decide)], fun j hj hn => ?_⟩
      · simp only [List.mem_cons, List.not_mem_nil, or_false] at hl ⊢
        unfold scr at hs
        omega
      · simp only [List.mem_cons, List.not_mem_nil, or_false] at hn
        unfold esf at hj
        exact ju j (by omega) hn
    refine ⟨by omega, L5', hI.2.1.offU (fun k _ hk => oU k hk) (by rw [oU 0 (by decide)]) (by decide), Ess.upd hf hI.2.2 (c4 := fun _ => ⟨r5.cong u8, by rw [u8, e13], fun i i0 i1 => ?_⟩)⟩
    rw [u8] at i1
    have hg : gby (u 169 i) = s5 9 i := by
      have a1 := seg_getD (f := fun i => gby (u 169 i)) (n := u 166 13) (i := i) ⟨i0, by omega⟩
      have a2 := seg_getD (f := s5 9) (n := s5 8 1) (i := i) ⟨i0, i1⟩
      have hM' : seg (fun i => gby (u 169 i)) 0 (u 166 13) = seg (s5 9) 0 (s5 8 1) := hM.trans rowL_seg
      rw [hM'] at a1
      exact a1.symm.trans a2
    have hmem : s5 9 i ∈ rowL s5 8 := mem_rowL.mpr ⟨i, i0, i1, rfl⟩
    rw [u9]
    refine ⟨?_, hg, q5.2 i i0 (by omega)⟩
    rw [hR] at hmem
    simp only [List.mem_append] at hmem
    rcases hmem with ((((hm | hm) | hm) | hm) | hm) | hm
    · obtain ⟨j, j0, j1', ej⟩ := mem_rowL.mp hm
      have := (ht.2.2 j j0 j1').1
      have ej' : σ 9 j = s5 9 i := ej
      rw [ej'] at this
      exact this
    · exact bys_mem hv1 hm
    · exact bys_mem hv2 hm
    · exact bys_mem hv3 hm
    · exact bys_mem hv4 hm
    · exact bys_mem hv5 hm
  · refine EX12_feed fun _ _ _ _ _ _ => SX12_feed_0 ⟨o_166, fun t1 et1 => ?_⟩
    have g13 : t1 166 13 = σ 8 1 := by rw [et1, kst_kj (by decide)]; exact ht.2.1
    rw [g13]
    exact M_bytesIn (by omega) ⟨by omega, M_bytesIn (by omega) ⟨by omega, M_bytesIn (by omega) ⟨by omega, M_bytesIn (by omega) ⟨by omega, M_bytesIn (by omega) ⟨by omega, fun c2 => by omega, fun _ => ⟨rfl, by rw [et1]; exact hI.keep hI.thrown⟩⟩⟩⟩⟩⟩
