/-! calls with a budget; the operation pain, which throws -/
section ZQ
variable {d : Nat} {M : kM} {F : kFin} {Post : Option kV → Nat → kS → Prop} {b : Nat × Nat} {pc : Nat} {ls : List (Nat × kV)} {st : List kV} {n : Nat} {σ : kS}
theorem Z_cVi {M' : kM} {c : Nat} {T : u_T} {N idx n0 : Nat} {r : Int} {as stk : List kV} (hd : decode M.2.1 pc = .ok (.invokevirtual idx, 3)) (hc : kcls[c]? = some (M'.1.cls, T, N)) (hC : kCL M' n0) (hL : kLK M.1.cls idx M' ∧ Cond.instanceMethod M'.1 ∈ TB ∧ Cond.selects M'.1.cls M'.1 M'.1 ∈ TB) (hn : as.length = n0) (hs : stk = as.reverse ++ (2, r) :: st) (hcat : (st.map kcat).sum ≤ 8) (hr : isO c n r)
    (h : Ci d M' ((2, r) :: as) n σ (fun x s => scrEq σ s → Z (d + 1) M F b (pc + 3) ls ((0, x) :: st) n s)) : Z (d + 1) M F b pc ls stk n σ :=
  Z_callV (d' := d) (b' := (0, 0)) hd (Nat.le_refl _) ⟨Nat.zero_le _, Nat.zero_le _⟩ hc hC hL hn hs hcat hr (fun _ _ => h) (fun v n' σ' _ _ ⟨h1, x, h2, h3⟩ hse => by subst h1; subst h2; exact h3 hse)
theorem Z_cVl {M' : kM} {c : Nat} {T : u_T} {N idx n0 : Nat} {r : Int} {as stk : List kV} (hd : decode M.2.1 pc = .ok (.invokevirtual idx, 3)) (hc : kcls[c]? = some (M'.1.cls, T, N)) (hC : kCL M' n0) (hL : kLK M.1.cls idx M' ∧ Cond.instanceMethod M'.1 ∈ TB ∧ Cond.selects M'.1.cls M'.1 M'.1 ∈ TB) (hn : as.length = n0) (hs : stk = as.reverse ++ (2, r) :: st) (hcat : (st.map kcat).sum ≤ 8) (hr : isO c n r)
    (h : Cl d M' ((2, r) :: as) n σ (fun x s => scrEq σ s → Z (d + 1) M F b (pc + 3) ls ((1, x) :: st) n s)) : Z (d + 1) M F b pc ls stk n σ :=
  Z_callV (d' := d) (b' := (0, 0)) hd (Nat.le_refl _) ⟨Nat.zero_le _, Nat.zero_le _⟩ hc hC hL hn hs hcat hr (fun _ _ => h) (fun v n' σ' _ _ ⟨h1, x, h2, h3⟩ hse => by subst h1; subst h2; exact h3 hse)
theorem Z_cSi {M' : kM} {idx n0 : Nat} {as stk : List kV} (hd : decode M.2.1 pc = .ok (.invokestatic idx, 3)) (hC : kCL M' n0) (hL : kLK M.1.cls idx M' ∧ Cond.static M'.1 ∈ TB) (hn : as.length = n0) (hs : stk = as.reverse ++ st) (hcat : (st.map kcat).sum ≤ 8)
    (h : Ci d M' as n σ (fun x s => scrEq σ s → Z (d + 1) M F b (pc + 3) ls ((0, x) :: st) n s)) : Z (d + 1) M F b pc ls stk n σ :=
  Z_callS (d' := d) (b' := (0, 0)) hd (Nat.le_refl _) ⟨Nat.zero_le _, Nat.zero_le _⟩ hC hL hn hs hcat (fun _ _ => h) (fun v n' σ' _ _ ⟨h1, x, h2, h3⟩ hse => by subst h1; subst h2; exact h3 hse)
theorem K_bVi {M' : kM} {c : Nat} {T : u_T} {N idx n0 : Nat} {r : Int} {as stk : List kV} (hd : decode M.2.1 pc = .ok (.invokevirtual idx, 3)) (hc : kcls[c]? = some (M'.1.cls, T, N)) (hC : kCL M' n0) (hL : kLK M.1.cls idx M' ∧ Cond.instanceMethod M'.1 ∈ TB ∧ Cond.selects M'.1.cls M'.1 M'.1 ∈ TB) (hn : as.length = n0) (hs : stk = as.reverse ++ (2, r) :: st) (hcat : (st.map kcat).sum ≤ 8) (hr : isO c n r)
    (h : Ci d M' ((2, r) :: as) n σ (fun x s => K (d + 1) M Post b (pc + 3) ls ((0, x) :: st) n s)) : K (d + 1) M Post b pc ls stk n σ :=
  K_callV (d' := d) (b' := (0, 0)) hd (Nat.le_refl _) ⟨Nat.zero_le _, Nat.zero_le _⟩ hc hC hL hn hs hcat hr (fun _ _ => h) (fun v n' σ' _ _ ⟨h1, x, h2, h3⟩ => by subst h1; subst h2; exact h3)
theorem K_bVv {M' : kM} {c : Nat} {T : u_T} {N idx n0 : Nat} {r : Int} {as stk : List kV} (hd : decode M.2.1 pc = .ok (.invokevirtual idx, 3)) (hc : kcls[c]? = some (M'.1.cls, T, N)) (hC : kCL M' n0) (hL : kLK M.1.cls idx M' ∧ Cond.instanceMethod M'.1 ∈ TB ∧ Cond.selects M'.1.cls M'.1 M'.1 ∈ TB) (hn : as.length = n0) (hs : stk = as.reverse ++ (2, r) :: st) (hcat : (st.map kcat).sum ≤ 8) (hr : isO c n r)
    (h : Cv d M' ((2, r) :: as) n σ (fun s => K (d + 1) M Post b (pc + 3) ls st n s)) : K (d + 1) M Post b pc ls stk n σ :=
  K_callV (d' := d) (b' := (0, 0)) hd (Nat.le_refl _) ⟨Nat.zero_le _, Nat.zero_le _⟩ hc hC hL hn hs hcat hr (fun _ _ => h) (fun v n' σ' _ _ ⟨h1, h2, h3⟩ => by subst h1; subst h2; exact h3)
end ZQ
def painOK (σ : kS) (g load c k : Int) : Prop := isMan σ g load ∧ stp c k ≠ -1
noncomputable def painV (σ : kS) (g load wet c k : Int) : Int := tolN σ g load wet (c * 8 + k)
theorem painOK_fr {σ s : kS} (h : Fr σ s) {g load c k : Int} : painOK s g load c k ↔ painOK σ g load c k := by
  unfold painOK
  rw [isMan_fr h]
theorem X_pain {d : Nat} (hd : 60 ≤ d) {σ : kS} {g load wet c k : Int} (hI : Inv σ) (hw : wet = 0 ∨ wet = 1) : TriX d MX11_pain (1, 6) [(2, 0), (0, g), (0, load), (0, wet), (0, c), (0, k)] kN σ (kPi kN fun x s => painOK σ g load c k ∧ x = painV σ g load wet c k ∧ Keep σ s) (fun s => ¬ painOK σ g load c k ∧ Keep σ s) kNSE := by
  obtain ⟨d, rfl⟩ : ∃ e, d = e + 1 := ⟨d - 1, by omega⟩
  have k17 := kl_17
  have hg6 := hI.2.2.2.2.2.2.1.1
  refine TriX_of (by decide +kernel) (Nat.le_of_ble_eq_true rfl) (fun _ _ => ?_)
  show Z (d + 1) MX11_pain _ (1, 6) 0 [(0, (2, 0)), (1, (0, g)), (2, (0, load)), (3, (0, wet)), (4, (0, c)), (5, (0, k))] [] kN σ
  have hthrow : ¬ painOK σ g load c k → Z (d + 1) MX11_pain (zFinX (kPi kN fun x s => painOK σ g load c k ∧ x = painV σ g load wet c k ∧ Keep σ s) (fun s => ¬ painOK σ g load c k ∧ Keep σ s) kNSE) (1, 6) 20 [(0, (2, 0)), (1, (0, g)), (2, (0, load)), (3, (0, wet)), (4, (0, c)), (5, (0, k))] [] kN σ := fun z =>
    Z_throw rfl (kdA dt_MX11_pain 10 rfl) (kdA dt_MX11_pain 11 rfl) (kdA dt_MX11_pain 12 rfl) (kdA dt_MX11_pain 13 rfl) (by omega) ⟨by decide, by decide⟩ (by decide) ⟨z, hI.self⟩
  refine Z_aload_n 0 (kdA dt_MX11_pain 0 rfl) rfl rfl ?_
  refine Z_iload_n 1 (kdA dt_MX11_pain 1 rfl) rfl rfl ?_
  refine Z_iload_n 2 (kdA dt_MX11_pain 2 rfl) rfl rfl ?_
  refine Z_cVi (c := 11) (as := [(0, g), (0, load)]) (st := []) (kdA dt_MX11_pain 3 rfl) rfl cl_MX11_isManner lk11_169 rfl rfl (Nat.le_of_ble_eq_true rfl) o_0 (X_isManner (by omega) (fun cm _ => ?_) (fun cm _ => ?_))
  · refine Z_if_eq (tgt := 20) (kdA dt_MX11_pain 4 rfl) rfl (fun e => by omega) (fun _ => ?_)
    refine Z_iload 4 (kdA dt_MX11_pain 5 rfl) rfl ?_
    refine Z_iload 5 (kdA dt_MX11_pain 6 rfl) rfl ?_
    refine Z_cSi (as := [(0, c), (0, k)]) (st := []) (kdA dt_MX11_pain 7 rfl) cl_MX11_stepFrom lk11_173 rfl rfl (Nat.le_of_ble_eq_true rfl) (X_stepFrom (by omega) (fun _ => ?_))
    refine Z_iconst (kdA dt_MX11_pain 8 rfl) (by decide) ?_
    refine Z_icmp_ne (tgt := 28) (kdA dt_MX11_pain 9 rfl) rfl (fun cs => ?_) (fun cs => hthrow (fun z => cs z.2))
    refine Z_ofKX ?_
    have hcm : isMan σ g load := cm
    have hc := stp_cell cs
    have hgo := goer_at hI.1 (i := g) (by omega)
    refine K_aload_n 0 (kdA dt_MX11_pain 14 rfl) rfl rfl ?_
    refine gf11_64 rfl (kdA dt_MX11_pain 15 rfl) o_0 ?_
    refine K_aload_n 0 (kdA dt_MX11_pain 16 rfl) rfl rfl ?_
    refine gf11_38 rfl (kdA dt_MX11_pain 17 rfl) o_0 ?_
    refine K_iload_n 1 (kdA dt_MX11_pain 18 rfl) rfl rfl ?_
    rw [ly_0_14 hI.1, ly_0_5 hI.1]
    refine K_aaload (kdA dt_MX11_pain 19 rfl) (c := 26) (by decide) a_17 (by omega) (by omega) ?_
    rw [hgo.1]
    refine K_iload_n 2 (kdA dt_MX11_pain 20 rfl) rfl rfl ?_
    refine K_iload_n 3 (kdA dt_MX11_pain 21 rfl) rfl rfl ?_
    refine K_aload_n 0 (kdA dt_MX11_pain 22 rfl) rfl rfl ?_
    refine gf11_10 rfl (kdA dt_MX11_pain 23 rfl) o_0 ?_
    rw [ly_0_0 hI.1]
    refine K_bVv (c := 10) (as := [(2, 97 + 4 * g), (0, load), (0, wet), (2, 1)]) (st := []) (kdA dt_MX11_pain 24 rfl) rfl cl_MX10_fit lk11_179 rfl rfl (Nat.le_of_ble_eq_true rfl) o_26 (X_fitK (by omega) hI hcm hw (fun s hk hT _ => ?_))
    have hIs := hI.keep hk
    refine K_aload_n 0 (kdA dt_MX11_pain 25 rfl) rfl rfl ?_
    refine gf11_64 rfl (kdA dt_MX11_pain 26 rfl) o_0 ?_
    refine K_iload 4 (kdA dt_MX11_pain 27 rfl) rfl ?_
    refine K_iload 5 (kdA dt_MX11_pain 28 rfl) rfl ?_
    rw [ly_0_14 hIs.1]
    refine K_bVi (c := 10) (as := [(0, c), (0, k)]) (st := []) (kdA dt_MX11_pain 29 rfl) rfl cl_MX10_toll lk11_183 rfl rfl (Nat.le_of_ble_eq_true rfl) o_26 (Ways_toll (by omega) hIs.1 hc.1 hc.2.1 ?_)
    exact K_ireturn (kdA dt_MX11_pain 30 rfl) rfl ⟨rfl, _, rfl, ⟨hcm, cs⟩, hT c k hc.1.1 hc.1.2 hc.2.1.1 hc.2.1.2 cs, hk⟩
  · exact Z_if_eq (tgt := 20) (kdA dt_MX11_pain 4 rfl) rfl (fun _ => hthrow (fun z => cm z.1)) (fun e => absurd rfl e)
theorem M_pain {d : Nat} (hd : 60 ≤ d) {σ : kS} {g load wet c k : Int} {Q : Int → kS → Prop} (hI : Inv σ) (hw : wet = 0 ∨ wet = 1) (h1 : painOK σ g load c k → ∀ s, Keep σ s → s 166 0 = 0 → Q (painV σ g load wet c k) s) (h0 : ¬ painOK σ g load c k → ∀ s, Keep σ s → s 166 0 = 1 → Q 0 s) : Ci d MX12_pain [(2, 166), (0, g), (0, load), (0, wet), (0, c), (0, k)] kN σ Q := by
  obtain ⟨d, rfl⟩ : ∃ e, d = e + 1 := ⟨d - 1, by omega⟩
  have hg6 := hI.2.2.2.2.2.2.1.1
  have hno : ¬ painOK σ g load c k → ∀ s2, s2 = kst σ 166 0 1 → ((s2 166 0) ≤ 0 → Ci d MX12_painOf [(2, 166), (0, g), (0, load), (0, wet), (0, c), (0, k)] kN s2 (fun x3 s3 => Q x3 s3)) ∧ (¬ (s2 166 0) ≤ 0 → Q 0 s2) := fun z s2 e2 => by
    have e : s2 166 0 = 1 := by rw [e2, kst_eq]
    exact ⟨fun q => by omega, fun _ => h0 z s2 (by rw [e2]; exact hI.thrown) e⟩
  refine EX12_pain fun _ _ _ _ _ _ => SX12_pain_0 ⟨o_166, ?_⟩
  refine MI_isMan (by omega) hI (fun cm => ⟨fun e => by omega, fun _ => ?_⟩) (fun cm => ⟨fun _ => hno (fun z => cm z.1), fun e => absurd rfl e⟩)
  refine M_isCell (by omega) (fun cc => ⟨fun e => by omega, fun _ => ?_⟩) (fun cc => ⟨fun _ => hno (fun z => cc (stp_cell z.2).1), fun e => absurd rfl e⟩)
  refine M_isIn (by omega) (fun ck => ⟨fun e => by omega, fun _ => ?_⟩) (fun ck => ⟨fun _ => hno (fun z => ck (by have := (stp_cell z.2).2.1; omega)), fun e => absurd rfl e⟩)
  refine M_step (by omega) cc (by omega) ⟨fun e => hno (fun z => z.2 e), fun cs s5 e5 => ?_⟩
  have e : s5 166 0 = 0 := by rw [e5, kst_eq]
  have hk5 : Keep σ s5 := by rw [e5]; exact hI.thrown
  have hI5 := hI.keep hk5
  have cm5 : isMan s5 g load := by rw [isMan_fr hk5.1]; exact cm
  refine ⟨fun _ => M_painOf (by omega) hI5.1 ⟨cm.1.1, by have := cm.1.2; omega⟩ (hI5.2.2.2.2.2.2.1.gm cm5.1) hw hI5.2.2.1.eq.2 cs (fun s ho hj hL => ?_), fun q => by omega⟩
  have hks : Keep s5 s := M_keep (L := [166, 172]) hI5 ho hL (by decide) (fun j hj9 => hj j (by unfold esf at hj9; omega) (by unfold esf at hj9; omega) (by unfold esf at hj9; omega))
  have hv : pnP (tb s5 g) (tn s5 g) (landM s5) load wet c k = painV σ g load wet c k := by
    unfold painV
    rw [← tolN_fr hk5.1]
    exact (tolT_at (stp_cell cs).2.1).symm
  rw [hv]
  exact h1 ⟨cm, cs⟩ s (hk5.trans hks) (by rw [hj 0 (by decide) (by decide) (by decide)]; exact e)
