/-! the cells of a line: each a step from the one before -/
def bOff (D n i : Int) : Int := (2 * i * D + n) / (2 * n)
theorem bOff_fin : ∀ (n i : Fin 11) (D : Fin 23), (i : Nat) ≤ n → -((n : Nat) : Int) - 1 ≤ ((D : Nat) : Int) - 11 → ((D : Nat) : Int) - 11 ≤ ((n : Nat) : Int) + 1 → (-1 ≤ bOff (((D : Nat) : Int) - 11) (((n : Nat) : Int) + 1) (((i : Nat) : Int) + 1) - bOff (((D : Nat) : Int) - 11) (((n : Nat) : Int) + 1) ((i : Nat) : Int) ∧ bOff (((D : Nat) : Int) - 11) (((n : Nat) : Int) + 1) (((i : Nat) : Int) + 1) - bOff (((D : Nat) : Int) - 11) (((n : Nat) : Int) + 1) ((i : Nat) : Int) ≤ 1) ∧ (((D : Nat) : Int) - 11 = ((n : Nat) : Int) + 1 ∨ ((D : Nat) : Int) - 11 = -((n : Nat) : Int) - 1 → bOff (((D : Nat) : Int) - 11) (((n : Nat) : Int) + 1) (((i : Nat) : Int) + 1) - bOff (((D : Nat) : Int) - 11) (((n : Nat) : Int) + 1) ((i : Nat) : Int) ≠ 0) := by decide +kernel
theorem bOff_end : ∀ (n : Fin 11) (D : Fin 23), bOff (((D : Nat) : Int) - 11) (((n : Nat) : Int) + 1) (((n : Nat) : Int) + 1) = ((D : Nat) : Int) - 11 ∧ bOff (((D : Nat) : Int) - 11) (((n : Nat) : Int) + 1) 0 = 0 := by decide +kernel
theorem bOff_step {D n i : Int} (hn : 1 ≤ n ∧ n ≤ 11) (hi : 0 ≤ i ∧ i < n) (hD : -n ≤ D ∧ D ≤ n) : (-1 ≤ bOff D n (i + 1) - bOff D n i ∧ bOff D n (i + 1) - bOff D n i ≤ 1) ∧ (D = n ∨ D = -n → bOff D n (i + 1) - bOff D n i ≠ 0) := by
  have h := bOff_fin ⟨(n - 1).toNat, by omega⟩ ⟨i.toNat, by omega⟩ ⟨(D + 11).toNat, by omega⟩ (by show i.toNat ≤ (n - 1).toNat; omega) (by show -(((n - 1).toNat : Nat) : Int) - 1 ≤ (((D + 11).toNat : Nat) : Int) - 11; omega) (by show (((D + 11).toNat : Nat) : Int) - 11 ≤ (((n - 1).toNat : Nat) : Int) + 1; omega)
  have e1 : (((n - 1).toNat : Nat) : Int) + 1 = n := by omega
  have e2 : ((i.toNat : Nat) : Int) = i := k_toNat hi.1
  have e3 : (((D + 11).toNat : Nat) : Int) - 11 = D := by omega
  simp only [e1, e2, e3] at h
  exact ⟨h.1, fun q => h.2 (q.imp id (fun q => by omega))⟩
theorem bOff_ends {D n : Int} (hn : 1 ≤ n ∧ n ≤ 11) (hD : -11 ≤ D ∧ D ≤ 11) : bOff D n n = D ∧ bOff D n 0 = 0 := by
  have h := bOff_end ⟨(n - 1).toNat, by omega⟩ ⟨(D + 11).toNat, by omega⟩
  have e1 : (((n - 1).toNat : Nat) : Int) + 1 = n := by omega
  have e3 : (((D + 11).toNat : Nat) : Int) - 11 = D := by omega
  simp only [e1, e3] at h
  exact h
theorem btw_ends {a b : Int} (ha : 0 ≤ a ∧ a < 120) (hb : 0 ≤ b ∧ b < 120) (hn : 1 ≤ apart a b) : btw a b 0 (apart a b) = a ∧ btw a b (apart a b) (apart a b) = b := by
  have h11 := apart_cells ha hb
  have hx := bOff_ends (D := b % 12 - a % 12) (n := apart a b) ⟨hn, h11⟩ (by omega)
  have hy := bOff_ends (D := b / 12 - a / 12) (n := apart a b) ⟨hn, h11⟩ (by omega)
  unfold bOff at hx hy
  unfold btw
  rw [hx.1, hx.2, hy.1, hy.2]
  omega
theorem btw_adj {a b k : Int} (ha : 0 ≤ a ∧ a < 120) (hb : 0 ≤ b ∧ b < 120) (hk : 0 ≤ k ∧ k < apart a b) : ∃ d, (0 ≤ d ∧ d < 8) ∧ stp (btw a b k (apart a b)) d = btw a b (k + 1) (apart a b) := by
  have h11 := apart_cells ha hb
  have hle := (apart_le (a := a) (b := b) (k := apart a b)).mp (Int.le_refl _)
  have hor : b % 12 - a % 12 = apart a b ∨ b % 12 - a % 12 = - apart a b ∨ b / 12 - a / 12 = apart a b ∨ b / 12 - a / 12 = - apart a b := by
    unfold apart kabs
    omega
  have hx := bOff_step (D := b % 12 - a % 12) (n := apart a b) (i := k) (by omega) hk (by omega)
  have hy := bOff_step (D := b / 12 - a / 12) (n := apart a b) (i := k) (by omega) hk (by omega)
  have c0 := btw_xy (i := k) (n := apart a b) ha hb (by omega) (by omega)
  have c1 := btw_xy (i := k + 1) (n := apart a b) ha hb (by omega) (by omega)
  have e0x : (2 * k * (b % 12 - a % 12) + apart a b) / (2 * apart a b) = bOff (b % 12 - a % 12) (apart a b) k := rfl
  have e1x : (2 * (k + 1) * (b % 12 - a % 12) + apart a b) / (2 * apart a b) = bOff (b % 12 - a % 12) (apart a b) (k + 1) := rfl
  have e0y : (2 * k * (b / 12 - a / 12) + apart a b) / (2 * apart a b) = bOff (b / 12 - a / 12) (apart a b) k := rfl
  have e1y : (2 * (k + 1) * (b / 12 - a / 12) + apart a b) / (2 * apart a b) = bOff (b / 12 - a / 12) (apart a b) (k + 1) := rfl
  rw [e0x, e0y] at c0
  rw [e1x, e1y] at c1
  obtain ⟨d, hd, e1, e2⟩ := dir_of (a := bOff (b % 12 - a % 12) (apart a b) (k + 1) - bOff (b % 12 - a % 12) (apart a b) k) (b := bOff (b / 12 - a / 12) (apart a b) (k + 1) - bOff (b / 12 - a / 12) (apart a b) k) (by omega) (by omega) (by
    rcases hor with q | q | q | q
    · exact Or.inl (hx.2 (Or.inl q))
    · exact Or.inl (hx.2 (Or.inr q))
    · exact Or.inr (hy.2 (Or.inl q))
    · exact Or.inr (hy.2 (Or.inr q)))
  refine ⟨d, hd, ?_⟩
  generalize bOff (b % 12 - a % 12) (apart a b) (k + 1) = p1 at *
  generalize bOff (b % 12 - a % 12) (apart a b) k = p0 at *
  generalize bOff (b / 12 - a / 12) (apart a b) (k + 1) = q1 at *
  generalize bOff (b / 12 - a / 12) (apart a b) k = q0 at *
  rw [stp_eq c0.1 hd (by omega) (by omega)]
  omega
