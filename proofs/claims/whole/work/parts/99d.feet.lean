/-! FEET: draws, a trip on both sides -/
theorem nxL_ex : ∃ f : Int → Int, ∀ x, f x = kladd (klmul x 6364136223846793005) 1442695040888963407 := ⟨_, fun _ => rfl⟩
noncomputable def nxL : Int → Int := Classical.choose nxL_ex
theorem nxL_def (x : Int) : nxL x = kladd (klmul x 6364136223846793005) 1442695040888963407 := Classical.choose_spec nxL_ex x
theorem drw_ex : ∃ f : Int → Int → Int, ∀ x m, f x m = klrem (klushr x 33) m := ⟨_, fun _ _ => rfl⟩
noncomputable def drw : Int → Int → Int := Classical.choose drw_ex
theorem drw_def (x m : Int) : drw x m = klrem (klushr x 33) m := Classical.choose_spec drw_ex x m
theorem klushr33 {x : Int} : 0 ≤ klushr x 33 ∧ klushr x 33 < 2147483648 := by
  have hs : ((Int32.ofInt 33).toInt64.toUInt64 &&& Int64.toUInt64 63) = 33 := by decide +kernel
  unfold klushr
  rw [hs]
  generalize (Int64.ofInt x).toUInt64 = y
  have h1 : (y >>> 33).toNat < 2147483648 := by
    rw [UInt64.toNat_shiftRight]
    have hy := y.toNat_lt
    have e : (33 : UInt64).toNat % 64 = 33 := by decide
    rw [e, Nat.shiftRight_eq_div_pow]
    have : (2 : Nat) ^ 33 = 8589934592 := by decide
    rw [this]
    omega
  have h2 : ((y >>> 33).toInt64).toInt = (y >>> 33).toBitVec.toInt := rfl
  have h3 : (y >>> 33).toBitVec.toNat = (y >>> 33).toNat := rfl
  rw [h2, BitVec.toInt_eq_toNat_cond, if_pos (by omega)]
  omega
theorem drw_b {x m : Int} (hm : 1 ≤ m ∧ m ≤ 8) : 0 ≤ drw x m ∧ drw x m < m := by
  have hA := klushr33 (x := x)
  rw [drw_def]
  unfold klrem
  generalize klushr x 33 = A at *
  have hd := k_divle (a := A) (b := m) hA.1 (by omega)
  have e1 : Int.tdiv A m = A / m := k_tdiv hA.1
  have h0 : 0 ≤ A / m * m := Int.mul_nonneg hd.1 (by omega)
  have h1 : A - A / m * m = A % m := by
    rw [Int.emod_def, Int.mul_comm]
  have h2 := Int.emod_nonneg A (show m ≠ 0 by omega)
  have h3 := Int.emod_lt_of_pos A (show 0 < m by omega)
  rw [k64_div (a := A) (b := m) ⟨by omega, by omega⟩ ⟨by omega, by omega⟩ (by rw [e1]; exact ⟨by omega, by omega⟩), e1, ← Int64.ofInt_mul, ← Int64.ofInt_sub, k64 ⟨by omega, by omega⟩, h1]
  exact ⟨h2, h3⟩
theorem IsWL.tcong {T T' : Int → Int} {c g : Int} {l : List Int} (h : TEq T T') (hw : IsWL T c g l) : IsWL T' c g l := by
  obtain ⟨S, f, n, h1, h2, h3, h4, h5⟩ := hw
  exact ⟨S, f, n, h1.tcong h, h2.tcong h h4, h3, h4, h5⟩
theorem easeT_cong {T f f' : Int → Int} {e : Int} (h : ∀ c, 0 ≤ c → c < 120 → f c = f' c) : TEq (easeT T e f) (easeT T e f') := fun x k x0 x1 k0 k1 hn => by
  have hs := (stp_cell hn).2.2.1
  rw [easeT_at ⟨k0, k1⟩, easeT_at ⟨k0, k1⟩, h _ hs.1 hs.2]
/-- what a trip has: trodden, new ones, settled, x -/
abbrev kFt : Type := (Int → Int) × Int × Int × Int
noncomputable def trO (m x : Int) : Int := drw (nxL x) m
noncomputable def trP (m x : Int) : Int := if drw (nxL (nxL x)) (m - 1) < trO m x then drw (nxL (nxL x)) (m - 1) else drw (nxL (nxL x)) (m - 1) + 1
theorem tr_b {m x : Int} (hm : 2 ≤ m ∧ m ≤ 8) : (0 ≤ trO m x ∧ trO m x < m) ∧ 0 ≤ trP m x ∧ trP m x < m := by
  have h1 := drw_b (x := nxL x) (m := m) (by omega)
  have h2 := drw_b (x := nxL (nxL x)) (m := m - 1) (by omega)
  unfold trP
  refine ⟨h1, ?_⟩
  unfold trO
  split <;> omega
noncomputable def trW (T : Int → Int) (e m : Int) (tc : Int → Int) (q : kFt) : List Int := wayP (easeT T e q.1) (tc (trO m q.2.2.2)) (tc (trP m q.2.2.2))
noncomputable def ftS (T : Int → Int) (e m : Int) (tc : Int → Int) (t : Int) (q : kFt) : kFt := (tdF q.1 (trW T e m tc q), (if tdN q.1 0 (trW T e m tc q) = 0 then q.2.1 else q.2.1 + 1), (if tdN q.1 0 (trW T e m tc q) = 0 then q.2.2.1 else t), nxL (nxL q.2.2.2))
noncomputable def ftF (T : Int → Int) (e m : Int) (tc : Int → Int) (seed : Int) : Nat → kFt
  | 0 => (fun _ => 0, 0, 0, seed)
  | n + 1 => ftS T e m tc (n + 1 : Nat) (ftF T e m tc seed n)
theorem ftF_s {T : Int → Int} {e m : Int} {tc : Int → Int} {seed t : Int} (h : 1 ≤ t) : ftF T e m tc seed t.toNat = ftS T e m tc t (ftF T e m tc seed (t - 1).toNat) := by
  obtain ⟨n, rfl⟩ : ∃ n : Nat, t = ((n + 1 : Nat) : Int) := ⟨(t - 1).toNat, by omega⟩
  rw [show (((n + 1 : Nat) : Int)).toNat = n + 1 by omega, show (((n + 1 : Nat) : Int) - 1).toNat = n by omega]
  rfl
theorem ftF_b {T : Int → Int} {e m : Int} {tc : Int → Int} {seed : Int} : ∀ n : Nat, 0 ≤ (ftF T e m tc seed n).2.1 ∧ (ftF T e m tc seed n).2.1 ≤ n := by
  intro n
  induction n with
  | zero => exact ⟨Int.le_refl _, Int.le_refl _⟩
  | succ n ih =>
    rw [ftF, ftS]
    by_cases c : tdN (ftF T e m tc seed n).1 0 (trW T e m tc (ftF T e m tc seed n)) = 0
    · rw [if_pos c]
      dsimp only
      omega
    · rw [if_neg c]
      dsimp only
      omega
/-- the class's feet stand so -/
def FS (u : kS) (T : Int → Int) (e : Int) (q : kFt) : Prop := (∀ c, 0 ≤ c → c < 120 → u 62 c = q.1 c ∧ 0 ≤ q.1 c ∧ q.1 c ≤ 99) ∧ (u 61 1 = q.2.2.2 ∧ u 61 2 = q.2.1 ∧ u 61 3 = q.2.2.1) ∧ TEq (u 28) (easeT T e q.1)
theorem Feet_oneOf {d : Nat} (hd : 1 ≤ d) {u : kS} {m : Int} {Q : Int → kS → Prop} (hm : 1 ≤ m ∧ m ≤ 8) (h : ∀ s, s = kst u 61 1 (nxL (u 61 1)) → Q (drw (nxL (u 61 1)) m) s) : Ci d MX1_oneOf [(2, 61), (0, m)] kN u Q := by
  obtain ⟨d, rfl⟩ : ∃ e, d = e + 1 := ⟨d - 1, by omega⟩
  refine EX1_oneOf fun _ _ => SX1_oneOf_0 ⟨o_61, fun s1 e1 => ⟨fun _ => ?_, fun q => by omega⟩⟩
  have e : s1 61 1 = nxL (u 61 1) := by rw [e1, kst_eq, nxL_def]
  rw [← nxL_def] at e1
  rw [e, ← drw_def]
  have hb := drw_b (x := nxL (u 61 1)) hm
  exact ⟨by omega, by omega, h s1 e1⟩
theorem Feet_goOnce {d : Nat} (hd : 7 ≤ d) {u : kS} {T : Int → Int} {e t : Int} {q : kFt} {Q : kS → Prop} (hL : Lay u) (hB : Bes u) (h19 : RowC u 19) (hm : 2 ≤ u 19 1 ∧ u 19 1 ≤ 8) (ht : TolOK T) (he : 0 ≤ e ∧ e ≤ 9) (h36 : 0 ≤ u 36 1) (hq : FS u T e q) (hb : 0 ≤ q.2.1 ∧ q.2.1 ≤ 1000) (h : ∀ s, off [26, 28, 29, 31, 36, 37, 61, 62] u s → (∀ j, j ≠ 5 → s 26 j = u 26 j) → Lay s → RowC s 36 → s 61 4 = u 61 4 → FS s T e (ftS T e (u 19 1) (u 20) t q) → Q s) : Cv d MX1_goOnce [(2, 61), (2, 26), (2, 19), (0, t), (0, e)] kN u Q := by
  obtain ⟨d, rfl⟩ : ∃ e, d = e + 1 := ⟨d - 1, by omega⟩
  obtain ⟨q1, ⟨q2, q3, q4⟩, q5⟩ := hq
  refine EX1_goOnce fun _ _ _ => SX1_goOnce_0 ⟨o_19, o_61, Feet_oneOf (by omega) (by omega) (fun s1 e1 => ?_)⟩
  have L1 : Lay s1 := by rw [e1]; exact hL.kstO 1 o_61 (by decide)
  have s19 : s1 19 = u 19 := by rw [e1, kst_k (by decide)]
  have s611 : s1 61 1 = nxL (u 61 1) := by rw [e1, kst_eq]
  rw [s19]
  refine ⟨by omega, Feet_oneOf (by omega) (by omega) (fun s2 e2 => ?_)⟩
  have L2 : Lay s2 := by rw [e2]; exact L1.kstO 1 o_61 (by decide)
  have o2 : off [61] u s2 := by rw [e2, e1]; exact (off.rfl'.kst (by decide)).kst (by decide)
  have f2 : ∀ j, j ≠ 1 → s2 61 j = u 61 j := fun j hj => by rw [e2, kst_kj hj, e1, kst_kj hj]
  have x2 : s2 61 1 = nxL (nxL (u 61 1)) := by rw [e2, kst_eq, s611]
  rw [s611, q2]
  have hbb := tr_b (x := q.2.2.2) hm
  have e19 : s2 19 = u 19 := o2 19 (by decide)
  have e20 : s2 20 = u 20 := o2 20 (by decide)
  have R2 : RowOK s2 19 := h19.1.cong e19
  have go : ∀ p, p = trP (u 19 1) q.2.2.2 → Ci d MX8_at [(2, 19), (0, trO (u 19 1) q.2.2.2)] kN s2 (fun x6 s3 => Ci d MX8_at [(2, 19), (0, p)] kN s3 (fun x7 s4 => isO 10 kN 26 ∧ (Cv d MX10_lay [(2, 26), (0, x6), (0, x7)] kN s4 (fun s5 => Ci d MX1_tread [(2, 61), (2, 26), (0, e)] kN s5 (fun x10 s6 => (x10 = 0 → Q s6) ∧ (¬ x10 = 0 → (-2147483648 ≤ (s6 61 2) + 1 ∧ (s6 61 2) + 1 ≤ 2147483647) ∧ (∀ s7, s7 = kst s6 61 2 ((s6 61 2) + 1) → ∀ s8, s8 = kst s7 61 3 t → Q s8))))))) := by
    intro p hp
    rw [hp]
    refine Row_atI (by omega) L2 R2 (by rw [e19]; exact hbb.1) (Row_atI (by omega) L2 R2 (by rw [e19]; exact hbb.2) ⟨o_26, ?_⟩)
    show Cv d MX10_lay [(2, 26), (0, s2 20 (trO (u 19 1) q.2.2.2)), (0, s2 20 (trP (u 19 1) q.2.2.2))] kN s2 _
    rw [e20]
    have c1 := h19.2 _ hbb.1.1 hbb.1.2
    have c2 := h19.2 _ hbb.2.1 hbb.2.2
    have hE : TolOK (easeT T e q.1) := easeT_ok ht he.1 (fun z z0 z1 => (q1 z z0 z1).2.1)
    have hT2 : TEq (s2 28) (easeT T e q.1) := by rw [o2 28 (by decide)]; exact q5
    refine Ways_lay (by omega) L2 (fun c k c0 c1 k0 k1 => by rw [o2 27 (by decide)]; exact hB c k c0 c1 k0 k1) (TolOK.tcong (fun x k x0 x1 k0 k1 hn => (hT2 x k x0 x1 k0 k1 hn).symm) hE) c2 c1 (by rw [o2 36 (by decide)]; exact h36) (fun s5 hs5 => ?_)
    have hwl := (hs5.wl hE hT2 c2).1
    have hW : rowL s5 36 = trW T e (u 19 1) (u 20) q := (wayP_eq hE hwl).symm
    have hWc := (hwl.facts hE c1).2.2.1
    obtain ⟨l1, l2, l3, l4, l5, l6, l7, l8, l9⟩ := hs5
    have e62 : s5 62 = u 62 := by rw [l1 62 (by decide), o2 62 (by decide)]
    have a62 : ∀ c, 0 ≤ c → c < 120 → s5 62 c = q.1 c := fun c c0 c1 => by rw [e62]; exact (q1 c c0 c1).1
    refine X_tread (by omega) l3 l6 ht he ?_ (fun c c0 c1 => by rw [e62]; have := q1 c c0 c1; omega) (fun s6 o6 L6 h62 hT6 hf6 hN => ?_)
    · rw [l1 28 (by decide)]
      exact TEq.trans' hT2 (easeT_cong (fun c c0 c1 => (a62 c c0 c1).symm))
    · have hN' : tdN (s5 62) 0 (rowL s5 36) = tdN q.1 0 (trW T e (u 19 1) (u 20) q) := by
        rw [← hW]
        exact tdN_cong _ _ _ 0 hWc a62
      have hF' : ∀ c, 0 ≤ c → c < 120 → s6 62 c = tdF q.1 (trW T e (u 19 1) (u 20) q) c := fun c c0 c1 => by
        rw [h62, ← hW]
        exact tdF_cong _ _ _ hWc a62 c c0 c1
      have o6u : off [26, 28, 29, 31, 36, 37, 61, 62] u s6 := ((o2.mono (by simp)).trans (l1.mono (by simp))).trans (o6.mono (by simp))
      have f6 : ∀ j, s6 61 j = s2 61 j := fun j => by rw [o6 61 (by decide), l1 61 (by decide)]
      have g26 : ∀ j, j ≠ 5 → s6 26 j = u 26 j := fun j hj => by rw [o6 26 (by decide), l2 j hj, o2 26 (by decide)]
      have R6 : RowC s6 36 := l6.cong (o6 36 (by decide)) (o6 37 (by decide))
      have T6 : TEq (s6 28) (easeT T e (tdF q.1 (trW T e (u 19 1) (u 20) q))) := TEq.trans' hT6 (easeT_cong hF')
      have b6 : ∀ c, 0 ≤ c → c < 120 → s6 62 c = tdF q.1 (trW T e (u 19 1) (u 20) q) c ∧ 0 ≤ tdF q.1 (trW T e (u 19 1) (u 20) q) c ∧ tdF q.1 (trW T e (u 19 1) (u 20) q) c ≤ 99 := fun c c0 c1 => by
        have := hf6 c c0 c1
        rw [hF' c c0 c1] at this
        exact ⟨hF' c c0 c1, this⟩
      rw [hN']
      have w2 : s6 61 2 = q.2.1 := by rw [f6, f2 2 (by decide), q3]
      refine ⟨fun hz => h s6 o6u g26 L6 R6 (by rw [f6, f2 4 (by decide)]) ⟨b6, ⟨?_, ?_, ?_⟩, T6⟩, fun hz => ⟨by omega, fun s7 e7 s8 e8 => h s8 ?_ (fun j hj => ?_) ?_ ?_ ?_ ⟨fun c c0 c1 => ?_, ⟨?_, ?_, ?_⟩, ?_⟩⟩⟩
      · rw [f6, x2, q2]; rfl
      · show s6 61 2 = if _ then _ else _
        rw [if_pos hz, w2]
      · show s6 61 3 = if _ then _ else _
        rw [if_pos hz, f6, f2 3 (by decide), q4]
      · rw [e8, e7]; exact (o6u.kst (by decide)).kst (by decide)
      · rw [e8, kst_k (by decide), e7, kst_k (by decide)]; exact g26 j hj
      · rw [e8, e7]; exact (L6.kstO 2 o_61 (by decide)).kstO 3 o_61 (by decide)
      · rw [e8, e7]
        exact RowC.cong (σ := s6) (by rw [kst_k (by decide), kst_k (by decide)]) (by rw [kst_k (by decide), kst_k (by decide)]) R6
      · rw [e8, kst_kj (by decide), e7, kst_kj (by decide), f6, f2 4 (by decide)]
      · rw [e8, kst_k (by decide), e7, kst_k (by decide)]; exact b6 c c0 c1
      · rw [e8, kst_kj (by decide), e7, kst_kj (by decide), f6, x2, q2]; rfl
      · show s8 61 2 = if _ then _ else _
        rw [if_neg hz, e8, kst_kj (by decide), e7, kst_eq, w2]
      · show s8 61 3 = if _ then _ else _
        rw [if_neg hz, e8, kst_eq]
      · rw [e8, kst_k (by decide), e7, kst_k (by decide)]; exact T6
  exact ⟨fun c => go _ (if_pos c).symm, fun c => ⟨by have := drw_b (x := nxL (nxL q.2.2.2)) (m := u 19 1 - 1) (by omega); omega, go _ (if_neg c).symm⟩⟩
/-! a trip of the model -/
def MF (u : kS) (T : Int → Int) (q : kFt) : Prop := (∀ c, 0 ≤ c → c < 120 → u 203 c = q.1 c ∧ 0 ≤ q.1 c ∧ q.1 c ≤ 99) ∧ u 166 64 = q.2.2.2 ∧ TEq (u 204) T
theorem M_draw_ {d : Nat} (hd : 1 ≤ d) {u : kS} {m : Int} {Q : Int → kS → Prop} (hm : 1 ≤ m ∧ m ≤ 8) (h : ∀ s, s = kst u 166 64 (nxL (u 166 64)) → Q (drw (nxL (u 166 64)) m) s) : Ci d MX12_draw_ [(2, 166), (0, m)] kN u Q := by
  obtain ⟨d, rfl⟩ : ∃ e, d = e + 1 := ⟨d - 1, by omega⟩
  refine EX12_draw_ fun _ _ => SX12_draw__0 ⟨o_166, fun s1 e1 => ?_⟩
  have e : s1 166 64 = nxL (u 166 64) := by rw [e1, kst_eq, nxL_def]
  rw [← nxL_def] at e1
  rw [e, ← drw_def]
  have hb := drw_b (x := nxL (u 166 64)) hm
  exact ⟨by omega, by omega, h s1 e1⟩
theorem M_goTrip {d : Nat} (hd : 7 ≤ d) {u : kS} {T : Int → Int} {e m : Int} {q : kFt} {Q : Int → kS → Prop} (hL : Lay u) (h3 : u 166 3 = m) (hm : 2 ≤ m ∧ m ≤ 8) (hc : ∀ i, 0 ≤ i → i < m → 0 ≤ u 168 i ∧ u 168 i < 120) (ht : TolOK T) (he : 0 ≤ e ∧ e ≤ 9) (hq : MF u T q) (h : ∀ s, off [166, 177, 178, 180, 203] u s → (∀ j, j ≠ 30 → j ≠ 64 → s 166 j = u 166 j) → Lay s → (∀ c, 0 ≤ c → c < 120 → s 203 c = tdF q.1 (trW T e m (u 168) q) c ∧ 0 ≤ s 203 c ∧ s 203 c ≤ 99) → s 166 64 = nxL (nxL q.2.2.2) → Q (tdN q.1 0 (trW T e m (u 168) q)) s) : Ci d MX12_goTrip [(2, 166), (0, e)] kN u Q := by
  obtain ⟨d, rfl⟩ : ∃ e, d = e + 1 := ⟨d - 1, by omega⟩
  have k168 := kl_168
  obtain ⟨q1, q2, q5⟩ := hq
  refine EX12_goTrip fun _ _ => SX12_goTrip_0 ⟨o_166, ?_⟩
  rw [h3]
  refine M_draw_ (by omega) (by omega) (fun s1 e1 => ?_)
  have L1 : Lay s1 := by rw [e1]; exact hL.kstO 64 o_166 (by decide)
  have s3 : s1 166 3 = m := by rw [e1, kst_kj (by decide), h3]
  have s64 : s1 166 64 = nxL (u 166 64) := by rw [e1, kst_eq]
  rw [s3]
  refine ⟨by omega, M_draw_ (by omega) (by omega) (fun s2 e2 => ?_)⟩
  have L2 : Lay s2 := by rw [e2]; exact L1.kstO 64 o_166 (by decide)
  have o2 : off [166] u s2 := by rw [e2, e1]; exact (off.rfl'.kst (by decide)).kst (by decide)
  have f2 : ∀ j, j ≠ 64 → s2 166 j = u 166 j := fun j hj => by rw [e2, kst_kj hj, e1, kst_kj hj]
  have x2 : s2 166 64 = nxL (nxL (u 166 64)) := by rw [e2, kst_eq, s64]
  rw [s64, q2]
  have hbb := tr_b (x := q.2.2.2) hm
  have go : ∀ p, p = trP m q.2.2.2 → Cv d MX12_easePains [(2, 166), (0, e)] kN s2 (fun s3 => isA 20 kN (s3 166 2) ∧ (((0 : Int) ≤ trO m q.2.2.2 ∧ trO m q.2.2.2 < klen (s3 166 2)) ∧ (((0 : Int) ≤ p ∧ p < klen (s3 166 2)) ∧ (Cv d MX12_goWay [(2, 166), (0, (s3 (s3 166 2) (trO m q.2.2.2))), (0, (s3 (s3 166 2) p))] kN s3 (fun s4 => LX12_goTrip_60 d kN Q 166 0 0 s4))))) := by
    intro p hp
    rw [hp]
    have a203 : ∀ c, 0 ≤ c → c < 120 → s2 203 c = q.1 c := fun c c0 c1 => by rw [o2 203 (by decide)]; exact (q1 c c0 c1).1
    have h204 : s2 204 = u 204 := o2 204 (by decide)
    refine M_easePains (by omega) L2 (by rw [h204]; exact TolOK.tcong (fun x k x0 x1 k0 k1 hn => (q5 x k x0 x1 k0 k1 hn).symm) ht) he (fun c c0 c1 => by rw [a203 c c0 c1]; exact (q1 c c0 c1).2) (fun s3 o3 L3 hT3 => ?_)
    have e168 : s3 168 = u 168 := by rw [o3 168 (by decide), o2 168 (by decide)]
    rw [ly_166_2 L3, e168]
    refine ⟨a_168, by omega, by omega, ?_⟩
    have c1 := hc _ hbb.1.1 hbb.1.2
    have c2 := hc _ hbb.2.1 hbb.2.2
    have hE : TolOK (easeT T e q.1) := easeT_ok ht he.1 (fun z z0 z1 => (q1 z z0 z1).2.1)
    have hT : TEq (s3 177) (easeT T e q.1) := by
      intro x k x0 x1 k0 k1 hn
      have hs := (stp_cell hn).2.2.1
      rw [hT3 x k x0 x1 k0 k1 hn, easeT_at ⟨k0, k1⟩, easeT_at ⟨k0, k1⟩, a203 _ hs.1 hs.2, h204, q5 x k x0 x1 k0 k1 hn]
    refine M_goT (by omega) L3 c1 c2 hE hT (fun s4 hs4 h30 o4 => ?_)
    obtain ⟨w1, w2, w3, w4, w5, w6, w7, w8, w9⟩ := hs4
    have hW : seg (s4 180) 0 (s4 166 30) = trW T e m (u 168) q := w7
    have hWc := (w6.facts hE c1).2.2.1
    have a4 : ∀ c, 0 ≤ c → c < 120 → s4 203 c = q.1 c := fun c c0 c1 => by rw [o4 203 (by decide), o3 203 (by decide)]; exact a203 c c0 c1
    refine M_treads (by omega) w3 w4 w5 (fun c c0 c1 => by rw [a4 c c0 c1]; exact (q1 c c0 c1).2) (fun s5 o5 L5 h203 hf5 hN => ?_)
    have hN' : tdN (s4 203) 0 (seg (s4 180) 0 (s4 166 30)) = tdN q.1 0 (trW T e m (u 168) q) := by
      rw [← hW]
      exact tdN_cong _ _ _ 0 hWc a4
    rw [hN']
    refine h s5 (((o2.mono (by simp)).trans (o3.mono (by simp))).trans ((o4.mono (by simp)).trans (o5.mono (by simp)))) (fun j j1 j2 => ?_) L5 (fun c c0 c1 => ⟨?_, hf5 c c0 c1⟩) ?_
    · rw [o5 166 (by decide), h30 j j1, o3 166 (by decide), f2 j j2]
    · rw [h203, ← hW]
      exact tdF_cong _ _ _ hWc a4 c c0 c1
    · rw [o5 166 (by decide), h30 64 (by decide), o3 166 (by decide), x2, q2]
  have hd2 := drw_b (x := nxL (nxL q.2.2.2)) (m := m - 1) (by omega)
  exact ⟨fun c => ⟨by omega, go _ (by rw [Int.add_zero]; exact (if_pos c).symm)⟩, fun c => ⟨by omega, go _ (if_neg c).symm⟩⟩
