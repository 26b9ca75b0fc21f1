/-! rows for constructors; the table of steps -/
section KD
variable {d : Nat} {M : kM} {Post : Option kV → Nat → kS → Prop} {b : Nat × Nat} {pc : Nat} {ls : List (Nat × kV)} {st : List kV} {n : Nat} {σ : kS}
theorem K_lsd {ls' : List (Nat × kV)} (hm : ∀ q ∈ ls', q ∈ ls) (k : K d M Post b pc ls' st n σ) : K d M Post b pc ls st n σ := by
  intro p l e s m args below meth cd X H locs cells slots mc ms Qc arr ⟨hF, hP, hlv, h1, h2⟩
  exact k p l e s m args below meth cd X H locs cells slots mc ms Qc arr ⟨hF, hP, ⟨hlv.1, hlv.2.1, fun q hq => by
    obtain ⟨q', hq', rfl⟩ := List.mem_map.mp hq
    exact hlv.2.2 _ (List.mem_map_of_mem (hm q' hq'))⟩, fun q hq => h1 q (hm q hq), h2⟩
theorem K_new2 {idx c N : Nat} {C : String} {T : u_T} {ty0 : Nat → FieldType} {b2 : Nat × Nat} (hd : decode M.2.1 pc = .ok (.new idx, 3)) (hw : Cond.classLink M.1.cls idx C ∈ TB ∧ Cond.instantiable C N ∈ TB ∧ Cond.initialized C ∈ TB) (hc : kcls[c]? = some (C, T, N)) (hu : ∀ w ∈ u_ws C T N, w ∈ TB) (hT : kFT c T N ty0) (hn : n < kN) (hs : ksh n = (c, N)) (hb : 1 ≤ b.1 ∧ N ≤ b.2) (hb2 : (b.1 - 1, b.2 - N) = b2)
    (k : ∀ s, s = kini σ n → K d M Post b2 (pc + 3) ls ((2, (n : Int)) :: st) (n + 1) s) : K d M Post b pc ls st n σ :=
  K_new hd hw hc hu hT hn hs hb (by subst hb2; exact k _ rfl)
theorem K_anew2 {idx c : Nat} {L : Int} {C : String} {t0 : Nat} {b2 : Nat × Nat} (hd : decode M.2.1 pc = .ok (.anewarray idx, 3)) (hw : Cond.classLink M.1.cls idx C ∈ TB) (hao : ∀ (X : kX) (s : State), kEx X s s.heap → va_AO C s) (hc : 24 ≤ c) (ht : ∀ X : kX, (ktys X)[t0]? = some (X.2.2.2 c, .object C)) (hn : n < kN) (h0 : 0 ≤ L) (hs : ksh n = (c, L.toNat)) (hb : 1 ≤ b.1 ∧ L.toNat ≤ b.2) (hb2 : (b.1 - 1, b.2 - L.toNat) = b2)
    (k : ∀ s, s = kini σ n → K d M Post b2 (pc + 3) ls ((2, (n : Int)) :: st) (n + 1) s) : K d M Post b pc ls ((0, L) :: st) n σ :=
  K_anew hd hw hao hc ht hn h0 hs hb (by subst hb2; exact k _ rfl)
theorem K_newb {L : Int} {b2 : Nat × Nat} (hd : decode M.2.1 pc = .ok (.newarray .byte, 2)) (hn : n < kN) (h0 : 0 ≤ L) (hs : ksh n = (21, L.toNat)) (hb : 1 ≤ b.1 ∧ L.toNat ≤ b.2) (hb2 : (b.1 - 1, b.2 - L.toNat) = b2)
    (k : ∀ s, s = kini σ n → K d M Post b2 (pc + 2) ls ((2, (n : Int)) :: st) (n + 1) s) : K d M Post b pc ls ((0, L) :: st) n σ :=
  K_newarr (ty := .byte) (c := 21) (t0 := 1) (v := .int 0) hd rfl (by decide) (fun _ => rfl) ⟨rfl, rfl⟩ (fun C h => by cases h) (by decide) (tb6 194 rfl rfl) hn h0 hs hb (by subst hb2; exact k _ rfl)
theorem K_newz {L : Int} {b2 : Nat × Nat} (hd : decode M.2.1 pc = .ok (.newarray .boolean, 2)) (hn : n < kN) (h0 : 0 ≤ L) (hs : ksh n = (22, L.toNat)) (hb : 1 ≤ b.1 ∧ L.toNat ≤ b.2) (hb2 : (b.1 - 1, b.2 - L.toNat) = b2)
    (k : ∀ s, s = kini σ n → K d M Post b2 (pc + 2) ls ((2, (n : Int)) :: st) (n + 1) s) : K d M Post b pc ls ((0, L) :: st) n σ :=
  K_newarr (ty := .boolean) (c := 22) (t0 := 2) (v := .int 0) hd rfl (by decide) (fun _ => rfl) ⟨rfl, rfl⟩ (fun C h => by cases h) (by decide) (tb6 195 rfl rfl) hn h0 hs hb (by subst hb2; exact k _ rfl)
theorem K_mnew2 {idx n1 : Nat} {L1 L2 : Int} {b2 : Nat × Nat} (hd : decode M.2.1 pc = .ok (.multianewarray idx 2, 4)) (hw : Cond.classLink M.1.cls idx "[[I" ∈ TB) (hn : n + 1 + L1.toNat ≤ kN) (h01 : 0 ≤ L1) (h02 : 0 ≤ L2) (hs : ksh n = (24, L1.toNat)) (hi : ∀ j : Nat, j < L1.toNat → ksh (n + 1 + j) = (20, L2.toNat)) (hL : L1.toNat ≤ 1000 ∧ L2.toNat ≤ 100000) (hb : 1 + L1.toNat ≤ b.1 ∧ L1.toNat + L1.toNat * L2.toNat ≤ b.2) (hb2 : (b.1 - (1 + L1.toNat), b.2 - (L1.toNat + L1.toNat * L2.toNat)) = b2) (hn1 : n + (1 + L1.toNat) = n1)
    (k : ∀ s, s = kmini σ n L1.toNat → K d M Post b2 (pc + 4) ls ((2, (n : Int)) :: st) n1 s) : K d M Post b pc ls ((0, L2) :: (0, L1) :: st) n σ :=
  K_mnew hd hw hn h01 h02 hs hi hL hb (by subst hb2; subst hn1; exact k _ rfl)
end KD
def agAt9 (n : Nat) (P : List (Int × Int)) (k j v : Int) : Bool := decide (0 ≤ k) && decide (k < n) && decide (k ≠ 27) && decide (0 ≤ j) && decide (j < (ksh k.toNat).2) && decide ((k, j) ∉ P) && decide (w0 k j = v)
theorem Ag.at' {n : Nat} {P : List (Int × Int)} {F : Bool} {σ : kS} {k j v : Int} (h : Ag n P F σ) (hc : agAt9 n P k j v = true) : σ k j = v := by
  simp only [agAt9, Bool.and_eq_true, decide_eq_true_eq] at hc
  obtain ⟨⟨⟨⟨⟨⟨c1, c2⟩, c3⟩, c4⟩, c5⟩, c6⟩, c7⟩ := hc
  have h9 := h k.toNat (by omega) (fun e => absurd e (by omega)) j.toNat (by omega) (by rw [k_toNat c1, k_toNat c4]; exact c6)
  rw [k_toNat c1, k_toNat c4] at h9
  exact h9.trans c7
/-- the table of steps so far -/
def WI (P : List (Int × Int)) (s : kS) (m : Int) : Prop := Ag 40 P false s ∧ s 26 0 = 27 ∧ ∀ x : Int, 0 ≤ x → x < m → s 27 x = stp (x / 8) (x % 8)
theorem o_26c : isO 10 40 26 := ⟨by decide, by decide, by decide +kernel⟩
theorem a_27c : isA 20 40 27 := ⟨by decide, by decide, by decide +kernel⟩
theorem I10_in {d : Nat} (hd : 2 ≤ d) {b : Nat × Nat} {P : List (Int × Int)} {Post : Option kV → Nat → kS → Prop} {i : Int} (hi : 0 ≤ i ∧ i < 120) (kk : ∀ s, WI P s (8 * i + 8) → K (d + 1) MX10_init Post b 143 [(0, (2, 26)), (1, (0, i))] [] 40 s) : ∀ (m : Nat) (j : Int) (s : kS), 8 - j = m → 0 ≤ j → WI P s (8 * i + j) → K (d + 1) MX10_init Post b 115 [(0, (2, 26)), (1, (0, i)), (2, (0, j))] [] 40 s := by
  intro m
  induction m with
  | zero =>
    intro j s hm hj hW
    have ej : j = 8 := by omega
    subst ej
    refine K_iload_n 2 (kdA dt_MX10_init 57 rfl) rfl rfl ?_
    refine K_bipush (kdA dt_MX10_init 58 rfl) (by decide) ?_
    refine K_icmp_ge (tgt := 143) (kdA dt_MX10_init 59 rfl) rfl (fun _ => ?_) (fun c => absurd (Int.le_refl _) c)
    exact K_lsd (fun q hq => by
      simp only [List.mem_cons, List.not_mem_nil, or_false] at hq ⊢
      rcases hq with h | h
      · exact Or.inl h
      · exact Or.inr (Or.inl h)) (kk s hW)
  | succ m ih =>
    intro j s hm hj hW
    have k27 : klen 27 = 960 := by decide +kernel
    refine K_iload_n 2 (kdA dt_MX10_init 57 rfl) rfl rfl ?_
    refine K_bipush (kdA dt_MX10_init 58 rfl) (by decide) ?_
    refine K_icmp_ge (tgt := 143) (kdA dt_MX10_init 59 rfl) rfl (fun c => absurd c (by omega)) (fun _ => ?_)
    refine K_aload_n 0 (kdA dt_MX10_init 60 rfl) rfl rfl ?_
    refine gf10_9 rfl (kdA dt_MX10_init 61 rfl) o_26c ?_
    rw [hW.2.1]
    refine K_iload_n 1 (kdA dt_MX10_init 62 rfl) rfl rfl ?_
    refine K_bipush (kdA dt_MX10_init 63 rfl) (by decide) ?_
    refine K_imul (kdA dt_MX10_init 64 rfl) (by omega) ?_
    refine K_iload_n 2 (kdA dt_MX10_init 65 rfl) rfl rfl ?_
    refine K_iadd (kdA dt_MX10_init 66 rfl) (by omega) ?_
    refine K_iload_n 1 (kdA dt_MX10_init 67 rfl) rfl rfl ?_
    refine K_iload_n 2 (kdA dt_MX10_init 68 rfl) rfl rfl ?_
    refine K_bSi (as := [(0, i), (0, j)]) (st := [(0, i * 8 + j), (2, 27)]) (kdA dt_MX10_init 69 rfl) cl_MX11_stepFrom lk10_51 rfl rfl (Nat.le_of_ble_eq_true rfl) (X_stepFrom (by omega) ?_)
    refine K_iastore' (kdA dt_MX10_init 70 rfl) a_27c (by omega) (by omega) (fun s1 e1 => ?_)
    refine K_iinc (ls' := [(0, (2, 26)), (1, (0, i)), (2, (0, j + 1))]) 2 (kdA dt_MX10_init 71 rfl) rfl (by omega) (by decide) rfl ?_
    refine K_goto (tgt := 115) (kdA dt_MX10_init 72 rfl) rfl ?_
    refine ih (j + 1) s1 (by omega) (by omega) ⟨by rw [e1]; exact hW.1.put27, by rw [e1, kst_k (by decide)]; exact hW.2.1, fun x x0 x1 => ?_⟩
    rw [e1, kst_ap]
    by_cases hx : x = i * 8 + j
    · rw [if_pos ⟨rfl, hx⟩, hx, show (i * 8 + j) / 8 = i by omega, show (i * 8 + j) % 8 = j by omega]
    · rw [if_neg (fun z => hx z.2)]
      exact hW.2.2 x x0 (by omega)
theorem I10_out {d : Nat} (hd : 2 ≤ d) {b : Nat × Nat} {P : List (Int × Int)} {Post : Option kV → Nat → kS → Prop} (kk : ∀ s, WI P s 960 → Post none 40 s) : ∀ (m : Nat) (i : Int) (s : kS), 120 - i = m → 0 ≤ i → WI P s (8 * i) → K (d + 1) MX10_init Post b 107 [(0, (2, 26)), (1, (0, i))] [] 40 s := by
  intro m
  induction m with
  | zero =>
    intro i s hm hi hW
    have ei : i = 120 := by omega
    subst ei
    refine K_iload_n 1 (kdA dt_MX10_init 52 rfl) rfl rfl ?_
    refine K_bipush (kdA dt_MX10_init 53 rfl) (by decide) ?_
    refine K_icmp_ge (tgt := 149) (kdA dt_MX10_init 54 rfl) rfl (fun _ => ?_) (fun c => absurd (Int.le_refl _) c)
    exact K_return (kdA dt_MX10_init 75 rfl) rfl (kk s hW)
  | succ m ih =>
    intro i s hm hi hW
    refine K_iload_n 1 (kdA dt_MX10_init 52 rfl) rfl rfl ?_
    refine K_bipush (kdA dt_MX10_init 53 rfl) (by decide) ?_
    refine K_icmp_ge (tgt := 149) (kdA dt_MX10_init 54 rfl) rfl (fun c => absurd c (by omega)) (fun _ => ?_)
    refine K_iconst (kdA dt_MX10_init 55 rfl) (by decide) ?_
    refine K_istore_n (ls' := [(0, (2, 26)), (1, (0, i)), (2, (0, 0))]) (kdA dt_MX10_init 56 rfl) rfl (by decide) rfl ?_
    refine I10_in hd (by omega) (fun s1 hW1 => ?_) 8 0 s (by decide) (by decide) (by rw [Int.add_zero]; exact hW)
    refine K_iinc (ls' := [(0, (2, 26)), (1, (0, i + 1))]) 1 (kdA dt_MX10_init 73 rfl) rfl (by omega) (by decide) rfl ?_
    refine K_goto (tgt := 107) (kdA dt_MX10_init 74 rfl) rfl ?_
    exact ih (i + 1) s1 (by omega) (by omega) (by rw [show 8 * (i + 1) = 8 * i + 8 by omega]; exact hW1)
theorem I10_end {d : Nat} (hd : 2 ≤ d) {b : Nat × Nat} {P : List (Int × Int)} {Post : Option kV → Nat → kS → Prop} {s : kS} (hA : Ag 40 P false s) (h26 : s 26 0 = 27) (kk : ∀ s, Ag 40 P true s → Post none 40 s) : K (d + 1) MX10_init Post b 105 [(0, (2, 26))] [] 40 s := by
  refine K_iconst (kdA dt_MX10_init 50 rfl) (by decide) ?_
  refine K_istore_n (ls' := [(0, (2, 26)), (1, (0, 0))]) (kdA dt_MX10_init 51 rfl) rfl (by decide) rfl ?_
  refine I10_out hd (fun s1 hW => kk s1 (hW.1.flag fun j hj => ?_)) 120 0 s (by decide) (by decide) ⟨hA, h26, fun x x0 x1 => by omega⟩
  rw [hW.2.2 j (by omega) (by omega)]
  unfold w0
  rw [if_pos rfl]
