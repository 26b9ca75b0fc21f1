/-! what the segments say, and the rows in that form -/
def kPi (n : Nat) (Q : Int → kS → Prop) : Option kV → Nat → kS → Prop := fun v n' σ' => n' = n ∧ ∃ x, v = some (0, x) ∧ Q x σ'
def kPl (n : Nat) (Q : Int → kS → Prop) : Option kV → Nat → kS → Prop := fun v n' σ' => n' = n ∧ ∃ x, v = some (1, x) ∧ Q x σ'
def kPv (n : Nat) (Q : kS → Prop) : Option kV → Nat → kS → Prop := fun v n' σ' => n' = n ∧ v = none ∧ Q σ'
/-- the contracts: at these arguments and this world the method returns; of its answer and the world behind it Q holds -/
def Ci (d : Nat) (M : kM) (as : List kV) (n : Nat) (σ : kS) (Q : Int → kS → Prop) : Prop := Tri d M (0, 0) as n σ (kPi n Q)
def Cl (d : Nat) (M : kM) (as : List kV) (n : Nat) (σ : kS) (Q : Int → kS → Prop) : Prop := Tri d M (0, 0) as n σ (kPl n Q)
def Cv (d : Nat) (M : kM) (as : List kV) (n : Nat) (σ : kS) (Q : kS → Prop) : Prop := Tri d M (0, 0) as n σ (kPv n Q)
theorem Ci.mono {d : Nat} {M : kM} {as : List kV} {n : Nat} {σ : kS} {Q Q' : Int → kS → Prop} (h : Ci d M as n σ Q) (hq : ∀ x s, Q x s → Q' x s) : Ci d M as n σ Q' :=
  Tri.conseq h fun v n' σ' _ _ ⟨h1, x, h2, h3⟩ => ⟨h1, x, h2, hq x σ' h3⟩
theorem Cl.mono {d : Nat} {M : kM} {as : List kV} {n : Nat} {σ : kS} {Q Q' : Int → kS → Prop} (h : Cl d M as n σ Q) (hq : ∀ x s, Q x s → Q' x s) : Cl d M as n σ Q' :=
  Tri.conseq h fun v n' σ' _ _ ⟨h1, x, h2, h3⟩ => ⟨h1, x, h2, hq x σ' h3⟩
theorem Cv.mono {d : Nat} {M : kM} {as : List kV} {n : Nat} {σ : kS} {Q Q' : kS → Prop} (h : Cv d M as n σ Q) (hq : ∀ s, Q s → Q' s) : Cv d M as n σ Q' :=
  Tri.conseq h fun v n' σ' _ _ ⟨h1, h2, h3⟩ => ⟨h1, h2, hq σ' h3⟩
/-- the ranges of an int answer and of the world behind may be used too -/
theorem Ci.mono' {d : Nat} {M : kM} {as : List kV} {n : Nat} {σ : kS} {Q Q' : Int → kS → Prop} (h : Ci d M as n σ Q) (hq : ∀ x s, (-2147483648 ≤ x ∧ x ≤ 2147483647) → kokw n s → Q x s → Q' x s) : Ci d M as n σ Q' :=
  Tri.conseq h fun v n' σ' hv hw ⟨h1, x, h2, h3⟩ => ⟨h1, x, h2, hq x σ' (hv _ h2) (h1 ▸ hw) h3⟩
def kcpy (σ : kS) (a sp b dp ln : Int) : kS := fun k => if k = b then (fun j => if dp ≤ j ∧ j < dp + ln then σ a (sp + (j - dp)) else σ b j) else σ k
section KP
variable {d : Nat} {M : kM} {Post : Option kV → Nat → kS → Prop} {pc : Nat} {ls : List (Nat × kV)} {st : List kV} {n : Nat} {σ : kS}
theorem K_iastore' {b : Nat × Nat} {a i x : Int} (hd : decode M.2.1 pc = .ok (.iastore, 1)) (hA : isA 20 n a) (h0 : 0 ≤ i) (hlt : i < klen a) (k : ∀ s, s = kst σ a i x → K d M Post b (pc + 1) ls st n s) : K d M Post b pc ls ((0, x) :: (0, i) :: (2, a) :: st) n σ := K_iastore hd hA h0 hlt (k _ rfl)
theorem K_bastore' {b : Nat × Nat} {a i x : Int} (hd : decode M.2.1 pc = .ok (.bastore, 1)) (hA : (isA 21 n a ∧ -128 ≤ x ∧ x ≤ 127) ∨ (isA 22 n a ∧ 0 ≤ x ∧ x ≤ 1)) (h0 : 0 ≤ i) (hlt : i < klen a) (k : ∀ s, s = kst σ a i x → K d M Post b (pc + 1) ls st n s) : K d M Post b pc ls ((0, x) :: (0, i) :: (2, a) :: st) n σ := K_bastore hd hA h0 hlt (k _ rfl)
theorem K_lastore' {b : Nat × Nat} {a i x : Int} (hd : decode M.2.1 pc = .ok (.lastore, 1)) (hA : isA 23 n a) (h0 : 0 ≤ i) (hlt : i < klen a) (k : ∀ s, s = kst σ a i x → K d M Post b (pc + 1) ls st n s) : K d M Post b pc ls ((1, x) :: (0, i) :: (2, a) :: st) n σ := K_lastore hd hA h0 hlt (k _ rfl)
theorem K_cVi {M' : kM} {c : Nat} {T : u_T} {N idx n0 : Nat} {r : Int} {as stk : List kV} (hd : decode M.2.1 pc = .ok (.invokevirtual idx, 3)) (hc : kcls[c]? = some (M'.1.cls, T, N)) (hC : kCL M' n0) (hL : kLK M.1.cls idx M' ∧ Cond.instanceMethod M'.1 ∈ TB ∧ Cond.selects M'.1.cls M'.1 M'.1 ∈ TB) (hn : as.length = n0) (hs : stk = as.reverse ++ (2, r) :: st) (hcat : (st.map kcat).sum ≤ 8) (hr : isO c n r)
    (h : Ci d M' ((2, r) :: as) n σ (fun x s => K (d + 1) M Post (0, 0) (pc + 3) ls ((0, x) :: st) n s)) : K (d + 1) M Post (0, 0) pc ls stk n σ :=
  K_callV (d' := d) (b' := (0, 0)) hd (Nat.le_refl _) ⟨Nat.le_refl _, Nat.le_refl _⟩ hc hC hL hn hs hcat hr (fun _ _ => h) (fun v n' σ' _ _ ⟨h1, x, h2, h3⟩ => by subst h1; subst h2; exact h3)
theorem K_cVl {M' : kM} {c : Nat} {T : u_T} {N idx n0 : Nat} {r : Int} {as stk : List kV} (hd : decode M.2.1 pc = .ok (.invokevirtual idx, 3)) (hc : kcls[c]? = some (M'.1.cls, T, N)) (hC : kCL M' n0) (hL : kLK M.1.cls idx M' ∧ Cond.instanceMethod M'.1 ∈ TB ∧ Cond.selects M'.1.cls M'.1 M'.1 ∈ TB) (hn : as.length = n0) (hs : stk = as.reverse ++ (2, r) :: st) (hcat : (st.map kcat).sum ≤ 8) (hr : isO c n r)
    (h : Cl d M' ((2, r) :: as) n σ (fun x s => K (d + 1) M Post (0, 0) (pc + 3) ls ((1, x) :: st) n s)) : K (d + 1) M Post (0, 0) pc ls stk n σ :=
  K_callV (d' := d) (b' := (0, 0)) hd (Nat.le_refl _) ⟨Nat.le_refl _, Nat.le_refl _⟩ hc hC hL hn hs hcat hr (fun _ _ => h) (fun v n' σ' _ _ ⟨h1, x, h2, h3⟩ => by subst h1; subst h2; exact h3)
theorem K_cVv {M' : kM} {c : Nat} {T : u_T} {N idx n0 : Nat} {r : Int} {as stk : List kV} (hd : decode M.2.1 pc = .ok (.invokevirtual idx, 3)) (hc : kcls[c]? = some (M'.1.cls, T, N)) (hC : kCL M' n0) (hL : kLK M.1.cls idx M' ∧ Cond.instanceMethod M'.1 ∈ TB ∧ Cond.selects M'.1.cls M'.1 M'.1 ∈ TB) (hn : as.length = n0) (hs : stk = as.reverse ++ (2, r) :: st) (hcat : (st.map kcat).sum ≤ 8) (hr : isO c n r)
    (h : Cv d M' ((2, r) :: as) n σ (fun s => K (d + 1) M Post (0, 0) (pc + 3) ls st n s)) : K (d + 1) M Post (0, 0) pc ls stk n σ :=
  K_callV (d' := d) (b' := (0, 0)) hd (Nat.le_refl _) ⟨Nat.le_refl _, Nat.le_refl _⟩ hc hC hL hn hs hcat hr (fun _ _ => h) (fun v n' σ' _ _ ⟨h1, h2, h3⟩ => by subst h1; subst h2; exact h3)
theorem K_cSi {M' : kM} {idx n0 : Nat} {as stk : List kV} (hd : decode M.2.1 pc = .ok (.invokestatic idx, 3)) (hC : kCL M' n0) (hL : kLK M.1.cls idx M' ∧ Cond.static M'.1 ∈ TB) (hn : as.length = n0) (hs : stk = as.reverse ++ st) (hcat : (st.map kcat).sum ≤ 8)
    (h : Ci d M' as n σ (fun x s => K (d + 1) M Post (0, 0) (pc + 3) ls ((0, x) :: st) n s)) : K (d + 1) M Post (0, 0) pc ls stk n σ :=
  K_callS (d' := d) (b' := (0, 0)) hd (Nat.le_refl _) ⟨Nat.le_refl _, Nat.le_refl _⟩ hC hL hn hs hcat (fun _ _ => h) (fun v n' σ' _ _ ⟨h1, x, h2, h3⟩ => by subst h1; subst h2; exact h3)
theorem K_cSl {M' : kM} {idx n0 : Nat} {as stk : List kV} (hd : decode M.2.1 pc = .ok (.invokestatic idx, 3)) (hC : kCL M' n0) (hL : kLK M.1.cls idx M' ∧ Cond.static M'.1 ∈ TB) (hn : as.length = n0) (hs : stk = as.reverse ++ st) (hcat : (st.map kcat).sum ≤ 8)
    (h : Cl d M' as n σ (fun x s => K (d + 1) M Post (0, 0) (pc + 3) ls ((1, x) :: st) n s)) : K (d + 1) M Post (0, 0) pc ls stk n σ :=
  K_callS (d' := d) (b' := (0, 0)) hd (Nat.le_refl _) ⟨Nat.le_refl _, Nat.le_refl _⟩ hC hL hn hs hcat (fun _ _ => h) (fun v n' σ' _ _ ⟨h1, x, h2, h3⟩ => by subst h1; subst h2; exact h3)
theorem K_cSv {M' : kM} {idx n0 : Nat} {as stk : List kV} (hd : decode M.2.1 pc = .ok (.invokestatic idx, 3)) (hC : kCL M' n0) (hL : kLK M.1.cls idx M' ∧ Cond.static M'.1 ∈ TB) (hn : as.length = n0) (hs : stk = as.reverse ++ st) (hcat : (st.map kcat).sum ≤ 8)
    (h : Cv d M' as n σ (fun s => K (d + 1) M Post (0, 0) (pc + 3) ls st n s)) : K (d + 1) M Post (0, 0) pc ls stk n σ :=
  K_callS (d' := d) (b' := (0, 0)) hd (Nat.le_refl _) ⟨Nat.le_refl _, Nat.le_refl _⟩ hC hL hn hs hcat (fun _ _ => h) (fun v n' σ' _ _ ⟨h1, h2, h3⟩ => by subst h1; subst h2; exact h3)
theorem tb_acN : Cond.native arraycopyName ∈ TB ∧ Cond.static arraycopyName ∈ TB ∧ Cond.initialized "java/lang/System" ∈ TB := ⟨tb3 48 rfl rfl, tb3 47 rfl rfl, tb1 19 rfl rfl⟩
theorem K_acopy {a b' sp dp ln : Int} {idx : Nat} (hd : decode M.2.1 pc = .ok (.invokestatic idx, 3)) (hw : Cond.methodLink M.1.cls idx arraycopyName ∈ TB) (hA : isA 20 n a) (hB : isA 20 n b') (h : kN ≤ n ∧ a ≠ b' ∧ (0 ≤ sp ∧ 0 ≤ dp ∧ 0 ≤ ln) ∧ sp + ln ≤ klen a ∧ dp + ln ≤ klen b') (hcat : (st.map kcat).sum ≤ 8)
    (k : ∀ s, s = kcpy σ a sp b' dp ln → K (d + 1) M Post (0, 0) (pc + 3) ls st n s) : K (d + 1) M Post (0, 0) pc ls ((0, ln) :: (0, dp) :: (2, b') :: (0, sp) :: (2, a) :: st) n σ := by
  intro p l e s m args below meth cd X H locs cells slots mc ms Qc arr ⟨hF, hP, hlv, h1, h2, h3⟩
  obtain ⟨a1, a2, a3⟩ := hA
  obtain ⟨b1, b2, b3⟩ := hB
  obtain ⟨hn, hne, ⟨g1, g2, g3⟩, g4, g5⟩ := h
  have han : a.toNat < n := by omega
  have hbn : b'.toNat < n := by omega
  have hata := kwl_at (X := X) (σ := σ) han
  rw [a3, kent_i (by omega) (by omega), k_toNat a1] at hata
  have hatb := kwl_at (X := X) (σ := σ) hbn
  rw [b3, kent_i (by omega) (by omega), k_toNat b1] at hatb
  have hsa := ksh_small a.toNat
  have hsb := ksh_small b'.toNat
  have g4' : sp + ln ≤ ((ksh a.toNat).2 : Int) := g4
  have g5' : dp + ln ≤ ((ksh b'.toNat).2 : Int) := g5
  have pos : ∀ {x : Int}, 0 ≤ x → x ≤ 2147483647 → ¬ Int32.ofInt x < 0 := fun {x} hx hx2 q => by
    rw [Int32.lt_iff_toInt_lt, k32 ⟨by omega, hx2⟩, Int32.toInt_zero] at q
    omega
  show W p l e (kRm (d + 1) mc ms) s m args below meth cd H locs cells slots _ (F0 m pc arr (kcv X (0, ln) :: kcv X (0, dp) :: kcv X (2, b') :: kcv X (0, sp) :: kcv X (2, a) :: st.map (kcv X)))
  rw [kcv_ref a1, kcv_ref b1]
  obtain ⟨f1, f2, f3, f4, f5, f6, f7, f8, f9, f10⟩ := id hF
  refine va_copyi f1 f2 (by rw [f3]; exact hlv.1.symm) f6 (f8 _ hw) (f8 _ tb_acN.1) (f8 _ tb_acN.2.1) (f8 _ tb_acN.2.2) f9 hP.1 kwl_D hP.2.1 a.toNat b'.toNat 0 0 (ty := .int) hata hatb rfl rfl rfl (pos g1 (by omega)) (pos g2 (by omega)) (pos g3 (by omega)) (by rw [k_clamp g1 (by omega), k_clamp g3 (by omega)]; omega) (by rw [k_clamp g2 (by omega), k_clamp g3 (by omega)]; omega) (fun i _ => rfl) (Nat.succ_le_succ (Nat.zero_le d)) ?_ hd fun H1 locs1 w1 w2 w3 => ?_
  · rw [List.map_map, show (fun v : Value => v.category) ∘ kcv X = kcat from funext fun v => kcat_cv X v]
    have hq : nativeFrameWords "java/lang/System" "arraycopy" 5 + 11 ≤ 56 := by decide +kernel
    show (st.map kcat).sum + _ ≤ 64 * (d + 1)
    omega
  · rw [k_clamp g1 (by omega), k_clamp g2 (by omega), k_clamp g3 (by omega)] at w1
    refine k _ rfl p l e s m args below meth cd X H1 locs1 cells slots mc ms Qc arr ⟨hF, ⟨?_, w3, fun q hq j hj => ?_, fun h => absurd h (by omega), hP.2.2.2.2.1, ?_⟩, hlv, h1, kht (kht (kht (kht (kht h2)))), h3⟩
    · rw [kwl_set (σ' := kcpy σ a sp b' dp ln) ?_ (fun q hq => if_neg (by rw [k_toNat b1] at hq; exact hq))] at w1
      · exact w1
      · rw [b3, kent_i (by omega) (by omega), k_toNat b1]
        refine congrArg (fun f => Sum.inl (X.2.2.2 20, (ksh b'.toNat).2, Sum.inl f)) (funext fun q => ?_)
        unfold va_cpy kcpy
        rw [if_pos rfl]
        by_cases hq : dp.toNat ≤ q ∧ q < dp.toNat + ln.toNat
        · rw [if_pos hq, if_pos (by omega)]
          have : ((sp.toNat + (q - dp.toNat) : Nat) : Int) = sp + ((q : Int) - dp) := by omega
          show Int32.ofInt (σ a ((sp.toNat + (q - dp.toNat) : Nat) : Int)) = _
          rw [this]
        · rw [if_neg hq, if_neg (by omega)]
    · unfold kcpy
      by_cases hqb : (q : Int) = b'
      · rw [if_pos hqb]
        have eq : q = b'.toNat := by omega
        rw [eq, b3]
        by_cases hj2 : dp ≤ (j : Int) ∧ (j : Int) < dp + ln
        · rw [if_pos hj2]
          have := hP.2.2.1 a.toNat han (sp + ((j : Int) - dp)).toNat (by omega)
          rw [a3, k_toNat a1, k_toNat (by omega)] at this
          exact this
        · rw [if_neg hj2]
          have := hP.2.2.1 q hq j hj
          rw [eq, b3] at this
          rw [k_toNat b1] at this
          exact this
      · rw [if_neg hqb]
        exact hP.2.2.1 q hq j hj
    · have h6 := hP.2.2.2.2.2
      unfold kSc at h6 ⊢
      have e4 : kcpy σ a sp b' dp ln (-4) = σ (-4) := if_neg (by omega)
      rw [e4]
      exact h6
end KP
