/-! sums of squares by groups; bits of six -/
def grp (key E : Int → Int) (n : Nat) (k : Int) : Int := sm (fun g => if key g = k then E g else 0) n
def prtM (key E : Int → Int) (n : Nat) : Int := sm (fun k => grp key E n k * grp key E n k) 64
def fstW (key : Int → Int) (w : Int) : Prop := ∀ v : Int, 0 ≤ v → v < w → key v ≠ key w
noncomputable def prtC (key E : Int → Int) (n m : Nat) : Int := sm (fun w => cif (fstW key w) (grp key E n (key w) * grp key E n (key w)) 0) m
theorem prt_part {key E : Int → Int} {n : Nat} (hk : ∀ g : Int, 0 ≤ g → g < n → 0 ≤ key g ∧ key g < 64) : ∀ m : Nat, m ≤ n → prtC key E n m = sm (fun k => cif (∃ w : Int, 0 ≤ w ∧ w < m ∧ key w = k) (grp key E n k * grp key E n k) 0) 64 := by
  intro m
  induction m with
  | zero =>
    intro _
    have h := sm_b (f := fun k => cif (∃ w : Int, 0 ≤ w ∧ w < ((0 : Nat) : Int) ∧ key w = k) (grp key E n k * grp key E n k) 0) (B := 0) (n := 64) (fun i _ _ => by
      rw [cif_neg (fun ⟨w, w0, w1, _⟩ => by omega)]
      omega)
    show (0 : Int) = _
    omega
  | succ m ih =>
    intro hm
    have hi := ih (by omega)
    have hkm := hk m (by omega) (by omega)
    unfold prtC at hi ⊢
    rw [sm, hi]
    by_cases hf : fstW key m
    · rw [cif_pos hf]
      have h2 := sm_up (f := fun k => cif (∃ w : Int, 0 ≤ w ∧ w < (m : Int) ∧ key w = k) (grp key E n k * grp key E n k) 0) (g := fun k => cif (∃ w : Int, 0 ≤ w ∧ w < ((m + 1 : Nat) : Int) ∧ key w = k) (grp key E n k * grp key E n k) 0) (c := key m) (n := 64) hkm.1 (by omega) (fun i i0 i1 hi => by
        by_cases c : ∃ w : Int, 0 ≤ w ∧ w < (m : Int) ∧ key w = i
        · obtain ⟨w, w0, w1, w2⟩ := c
          rw [cif_pos ⟨w, w0, by omega, w2⟩, cif_pos ⟨w, w0, w1, w2⟩]
        · rw [cif_neg c, cif_neg (fun ⟨w, w0, w1, w2⟩ => by
            by_cases ew : w = m
            · rw [ew] at w2
              exact hi w2.symm
            · exact c ⟨w, w0, by omega, w2⟩)])
      have e1 : cif (∃ w : Int, 0 ≤ w ∧ w < ((m + 1 : Nat) : Int) ∧ key w = key m) (grp key E n (key m) * grp key E n (key m)) 0 = grp key E n (key m) * grp key E n (key m) := cif_pos ⟨m, by omega, by omega, rfl⟩
      have e2 : cif (∃ w : Int, 0 ≤ w ∧ w < (m : Int) ∧ key w = key m) (grp key E n (key m) * grp key E n (key m)) 0 = 0 := cif_neg (fun ⟨w, w0, w1, w2⟩ => hf w w0 w1 w2)
      simp only [e1, e2] at h2
      rw [h2]
      omega
    · rw [cif_neg hf]
      have h2 := sm_cong (f := fun k => cif (∃ w : Int, 0 ≤ w ∧ w < (m : Int) ∧ key w = k) (grp key E n k * grp key E n k) 0) (g := fun k => cif (∃ w : Int, 0 ≤ w ∧ w < ((m + 1 : Nat) : Int) ∧ key w = k) (grp key E n k * grp key E n k) 0) (n := 64) (fun i i0 i1 => by
        by_cases c : ∃ w : Int, 0 ≤ w ∧ w < (m : Int) ∧ key w = i
        · obtain ⟨w, w0, w1, w2⟩ := c
          simp only [cif_pos (show ∃ w : Int, 0 ≤ w ∧ w < ((m + 1 : Nat) : Int) ∧ key w = i from ⟨w, w0, by omega, w2⟩), cif_pos (show ∃ w : Int, 0 ≤ w ∧ w < (m : Int) ∧ key w = i from ⟨w, w0, w1, w2⟩)]
        · have c2 : ¬ ∃ w : Int, 0 ≤ w ∧ w < ((m + 1 : Nat) : Int) ∧ key w = i := fun ⟨w, w0, w1, w2⟩ => by
            by_cases ew : w = m
            · have hx : ∃ v : Int, 0 ≤ v ∧ v < (m : Int) ∧ key v = key m := Classical.byContradiction (fun z => hf (fun v v0 v1 v2 => z ⟨v, v0, v1, v2⟩))
              obtain ⟨v, v0, v1, v2⟩ := hx
              rw [ew] at w2
              exact c ⟨v, v0, v1, v2.trans w2⟩
            · exact c ⟨w, w0, by omega, w2⟩
          simp only [cif_neg c, cif_neg c2])
      rw [← h2]
      omega
theorem grp_0 {key E : Int → Int} {n : Nat} {k : Int} (h : ∀ g : Int, 0 ≤ g → g < n → key g ≠ k) : grp key E n k = 0 := by
  have h1 := sm_b (f := fun g => if key g = k then E g else 0) (B := 0) (n := n) (fun i i0 i1 => by
    rw [if_neg (h i i0 i1)]
    omega)
  unfold grp
  omega
theorem prt_eq {key E : Int → Int} {n : Nat} (hk : ∀ g : Int, 0 ≤ g → g < n → 0 ≤ key g ∧ key g < 64) : prtC key E n n = prtM key E n := by
  rw [prt_part hk n (Nat.le_refl n)]
  unfold prtM
  refine sm_cong (fun k k0 k1 => ?_)
  by_cases c : ∃ w : Int, 0 ≤ w ∧ w < (n : Int) ∧ key w = k
  · rw [cif_pos c]
  · rw [cif_neg c, grp_0 (fun g g0 g1 g2 => c ⟨g, g0, g1, g2⟩)]
    rfl
theorem grp_b {key E : Int → Int} {n : Nat} {k B : Int} (hE : ∀ g : Int, 0 ≤ g → g < n → 0 ≤ E g ∧ E g ≤ B) : 0 ≤ grp key E n k ∧ grp key E n k ≤ B * n := sm_b (fun g g0 g1 => by
  have := hE g g0 g1
  by_cases c : key g = k
  · rw [if_pos c]; exact this
  · rw [if_neg c]; omega)
theorem sq_b {x B : Int} (h : 0 ≤ x ∧ x ≤ B) : 0 ≤ x * x ∧ x * x ≤ B * B := ⟨Int.mul_nonneg h.1 h.1, Int.mul_le_mul h.2 h.2 h.1 (by omega)⟩
theorem prtC_b {key E : Int → Int} {n m : Nat} {B : Int} (hE : ∀ g : Int, 0 ≤ g → g < n → 0 ≤ E g ∧ E g ≤ B) : 0 ≤ prtC key E n m ∧ prtC key E n m ≤ B * n * (B * n) * m := sm_b (fun w w0 w1 => by
  have := sq_b (grp_b (key := key) (k := key w) hE)
  by_cases c : fstW key w
  · rw [cif_pos c]; exact this
  · rw [cif_neg c]; omega)
theorem sm_mono {f : Int → Int} {m : Nat} : ∀ n : Nat, m ≤ n → (∀ i : Int, 0 ≤ i → i < n → 0 ≤ f i) → sm f m ≤ sm f n := by
  intro n
  induction n with
  | zero =>
    intro h _
    rw [show m = 0 by omega]
    exact Int.le_refl _
  | succ n ih =>
    intro h hf
    by_cases e : m = n + 1
    · rw [e]
      exact Int.le_refl _
    · have h1 := ih (by omega) (fun i i0 i1 => hf i i0 (by omega))
      have h2 := hf n (by omega) (by omega)
      rw [sm]
      omega
/-! bits of numbers below 64 -/
theorem fin64 {P : Int → Prop} (h : ∀ x : Fin 64, P (x : Nat)) {x : Int} (hx : 0 ≤ x ∧ x < 64) : P x := by
  have := h ⟨x.toNat, by omega⟩
  rwa [show (((⟨x.toNat, by omega⟩ : Fin 64) : Nat) : Int) = x by show ((x.toNat : Nat) : Int) = x; omega] at this
def bcA (x : Int) : Int := x - kand (kiushr x 1) 1431655765
def bcB (x : Int) : Int := kand x 858993459 + kand (kiushr x 2) 858993459
def bcC (x : Int) : Int := x + kiushr x 4
def bcD (x : Int) : Int := kand x 252645135
def bcE (x : Int) : Int := x + kiushr x 8
def bcF (x : Int) : Int := x + kiushr x 16
def bcG (x : Int) : Int := kand (bcF (bcE (bcD (bcC (bcB (bcA x)))))) 63
def r32 (x : Int) : Prop := -2147483648 ≤ x ∧ x ≤ 2147483647
theorem bc_all {x : Int} (hx : 0 ≤ x ∧ x < 64) : ((-2147483648 ≤ bcA x ∧ bcA x ≤ 2147483647) ∧ (-2147483648 ≤ bcB (bcA x) ∧ bcB (bcA x) ≤ 2147483647) ∧ (-2147483648 ≤ bcC (bcB (bcA x)) ∧ bcC (bcB (bcA x)) ≤ 2147483647) ∧ (-2147483648 ≤ bcE (bcD (bcC (bcB (bcA x)))) ∧ bcE (bcD (bcC (bcB (bcA x)))) ≤ 2147483647) ∧ (-2147483648 ≤ bcF (bcE (bcD (bcC (bcB (bcA x))))) ∧ bcF (bcE (bcD (bcC (bcB (bcA x))))) ≤ 2147483647)) ∧ 0 ≤ bcG x ∧ bcG x ≤ 6 :=
  fin64 (P := fun x => ((-2147483648 ≤ bcA x ∧ bcA x ≤ 2147483647) ∧ (-2147483648 ≤ bcB (bcA x) ∧ bcB (bcA x) ≤ 2147483647) ∧ (-2147483648 ≤ bcC (bcB (bcA x)) ∧ bcC (bcB (bcA x)) ≤ 2147483647) ∧ (-2147483648 ≤ bcE (bcD (bcC (bcB (bcA x)))) ∧ bcE (bcD (bcC (bcB (bcA x)))) ≤ 2147483647) ∧ (-2147483648 ≤ bcF (bcE (bcD (bcC (bcB (bcA x))))) ∧ bcF (bcE (bcD (bcC (bcB (bcA x))))) ≤ 2147483647)) ∧ 0 ≤ bcG x ∧ bcG x ≤ 6) (by decide +kernel) hx
theorem J_bitCount {d n : Nat} (hd : 1 ≤ d) {σ : kS} {x : Int} {Q : Int → kS → Prop} (hx : 0 ≤ x ∧ x < 64) (h : Q (bcG x) σ) : Ci d MJm_bitCount [(0, x)] n σ Q := by
  obtain ⟨d, rfl⟩ : ∃ e, d = e + 1 := ⟨d - 1, by omega⟩
  obtain ⟨⟨h1, h2, h3, h4, h5⟩, -⟩ := bc_all hx
  exact EJm_bitCount fun _ _ => SJm_bitCount_0 ⟨h1, h2, h3, h4, h5, h⟩
theorem kor_b {x k : Int} (hx : 0 ≤ x ∧ x < 64) (hk : 0 ≤ k ∧ k < 6) : 0 ≤ kor x (kishl 1 k) ∧ kor x (kishl 1 k) < 64 := by
  have key : ∀ x : Fin 64, (0 ≤ kor ((x : Nat) : Int) (kishl 1 0) ∧ kor ((x : Nat) : Int) (kishl 1 0) < 64) ∧ (0 ≤ kor ((x : Nat) : Int) (kishl 1 1) ∧ kor ((x : Nat) : Int) (kishl 1 1) < 64) ∧ (0 ≤ kor ((x : Nat) : Int) (kishl 1 2) ∧ kor ((x : Nat) : Int) (kishl 1 2) < 64) ∧ (0 ≤ kor ((x : Nat) : Int) (kishl 1 3) ∧ kor ((x : Nat) : Int) (kishl 1 3) < 64) ∧ (0 ≤ kor ((x : Nat) : Int) (kishl 1 4) ∧ kor ((x : Nat) : Int) (kishl 1 4) < 64) ∧ (0 ≤ kor ((x : Nat) : Int) (kishl 1 5) ∧ kor ((x : Nat) : Int) (kishl 1 5) < 64) := by decide +kernel
  have h := fin64 (P := fun x => (0 ≤ kor x (kishl 1 0) ∧ kor x (kishl 1 0) < 64) ∧ (0 ≤ kor x (kishl 1 1) ∧ kor x (kishl 1 1) < 64) ∧ (0 ≤ kor x (kishl 1 2) ∧ kor x (kishl 1 2) < 64) ∧ (0 ≤ kor x (kishl 1 3) ∧ kor x (kishl 1 3) < 64) ∧ (0 ≤ kor x (kishl 1 4) ∧ kor x (kishl 1 4) < 64) ∧ (0 ≤ kor x (kishl 1 5) ∧ kor x (kishl 1 5) < 64)) key hx
  rcases (show k = 0 ∨ k = 1 ∨ k = 2 ∨ k = 3 ∨ k = 4 ∨ k = 5 by omega) with rfl | rfl | rfl | rfl | rfl | rfl
  · exact h.1
  · exact h.2.1
  · exact h.2.2.1
  · exact h.2.2.2.1
  · exact h.2.2.2.2.1
  · exact h.2.2.2.2.2
theorem kor_0 {x : Int} (hx : 0 ≤ x ∧ x < 64) : kor x 0 = x := fin64 (P := fun x => kor x 0 = x) (by decide +kernel) hx
theorem kand_b {x y : Int} (hx : 0 ≤ x ∧ x < 64) (hy : 0 ≤ y ∧ y < 64) : 0 ≤ kand x y ∧ kand x y < 64 := by
  have e : kand x y = ((Int32.ofInt x).toBitVec &&& (Int32.ofInt y).toBitVec).toInt := rfl
  have hn : ((Int32.ofInt x).toBitVec).toNat < 64 := by
    have := k32 (x := x) (by omega)
    have h2 : (Int32.ofInt x).toBitVec.toInt = x := this
    rw [BitVec.toInt_eq_toNat_cond] at h2
    have h3 := (Int32.ofInt x).toBitVec.isLt
    split at h2 <;> omega
  have h1 : ((Int32.ofInt x).toBitVec &&& (Int32.ofInt y).toBitVec).toNat < 64 := by
    rw [BitVec.toNat_and]
    exact Nat.lt_of_le_of_lt Nat.and_le_left hn
  rw [e, BitVec.toInt_eq_toNat_cond, if_pos (by omega)]
  omega
theorem pow_b {k : Int} (hk : 0 ≤ k ∧ k ≤ 6) : 1 ≤ kishl 1 k ∧ kishl 1 k ≤ 64 := by
  rcases (show k = 0 ∨ k = 1 ∨ k = 2 ∨ k = 3 ∨ k = 4 ∨ k = 5 ∨ k = 6 by omega) with rfl | rfl | rfl | rfl | rfl | rfl | rfl <;> decide
theorem kxor_b {x y : Int} (hx : 0 ≤ x ∧ x < 64) (hy : 0 ≤ y ∧ y < 64) : -2147483648 ≤ -(kxor x y) ∧ -(kxor x y) ≤ 2147483647 := by
  have h1 := (kxor_sign (a := x) (b := y) (by omega) (by omega)).mpr hx.1
  have h2 := (Int32.ofInt x ^^^ Int32.ofInt y).toInt_lt
  have e : kxor x y = (Int32.ofInt x ^^^ Int32.ofInt y).toInt := rfl
  rw [← e] at h2
  omega
noncomputable def bitsF (on : Int → Prop) : Nat → Int
  | 0 => 0
  | p + 1 => cif (on p) (kor (bitsF on p) (kishl 1 p)) (bitsF on p)
theorem bitsF_b {on : Int → Prop} : ∀ p : Nat, p ≤ 6 → 0 ≤ bitsF on p ∧ bitsF on p < 64 := by
  intro p
  induction p with
  | zero => intro _; unfold bitsF; omega
  | succ p ih =>
    intro hp
    have h := ih (by omega)
    unfold bitsF
    by_cases c : on p
    · rw [cif_pos c]
      exact kor_b h (by omega)
    · rw [cif_neg c]
      exact h
theorem bitsF_s {on : Int → Prop} {p : Int} (h : 0 ≤ p) : bitsF on (p + 1).toNat = cif (on p) (kor (bitsF on p.toNat) (kishl 1 p)) (bitsF on p.toNat) := by
  rw [show (p + 1).toNat = p.toNat + 1 by omega, bitsF, k_toNat h]
theorem bitsF_cong {on on' : Int → Prop} {n : Nat} (h : ∀ p : Int, 0 ≤ p → p < n → (on p ↔ on' p)) : ∀ p : Nat, p ≤ n → bitsF on p = bitsF on' p := by
  intro p
  induction p with
  | zero => intro _; rfl
  | succ p ih =>
    intro hp
    have e := h p (by omega) (by omega)
    unfold bitsF
    rw [ih (by omega)]
    by_cases c : on p
    · rw [cif_pos c, cif_pos (e.mp c)]
    · rw [cif_neg c, cif_neg (fun z => c (e.mpr z))]
