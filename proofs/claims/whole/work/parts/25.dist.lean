/-! least sums: pure -/
def opp (d : Int) : Int := if d < 4 then d + 4 else d - 4
theorem kxor4 {d : Int} (h : 0 ≤ d ∧ d < 8) : kxor d 4 = opp d := by
  rcases (show d = 0 ∨ d = 1 ∨ d = 2 ∨ d = 3 ∨ d = 4 ∨ d = 5 ∨ d = 6 ∨ d = 7 by omega) with rfl | rfl | rfl | rfl | rfl | rfl | rfl | rfl <;> decide
theorem opp_b {d : Int} (h : 0 ≤ d ∧ d < 8) : 0 ≤ opp d ∧ opp d < 8 := by
  unfold opp
  split <;> omega
theorem opp_opp {d : Int} (h : 0 ≤ d ∧ d < 8) : opp (opp d) = d := by
  unfold opp
  split <;> split <;> omega
theorem dx_opp {d : Int} (h : 0 ≤ d ∧ d < 8) : dx (opp d) = - dx d ∧ dy (opp d) = - dy d := by
  rcases (show d = 0 ∨ d = 1 ∨ d = 2 ∨ d = 3 ∨ d = 4 ∨ d = 5 ∨ d = 6 ∨ d = 7 by omega) with rfl | rfl | rfl | rfl | rfl | rfl | rfl | rfl <;> decide
theorem stp_eq {c d : Int} (hc : 0 ≤ c ∧ c < 120) (hd : 0 ≤ d ∧ d < 8) (hx : 0 ≤ c % 12 + dx d ∧ c % 12 + dx d < 12) (hy : 0 ≤ c / 12 + dy d ∧ c / 12 + dy d < 10) : stp c d = c + dy d * 12 + dx d := by
  unfold stp
  rw [if_pos ⟨⟨hc, hd⟩, hx, hy⟩]
theorem stp_back {c d : Int} (h : stp c d ≠ -1) : stp (stp c d) (opp d) = c := by
  obtain ⟨hc, hd, hs, hx, hy⟩ := stp_cell h
  obtain ⟨ox, oy⟩ := dx_opp hd
  have := dx_b hd
  rw [stp_eq hs (opp_b hd) (by rw [hx, ox]; omega) (by rw [hy, oy]; omega), ox, oy]
  omega
/-- there is a direction with these signs -/
theorem dir_of {a b : Int} (ha : a = -1 ∨ a = 0 ∨ a = 1) (hb : b = -1 ∨ b = 0 ∨ b = 1) (h : a ≠ 0 ∨ b ≠ 0) : ∃ d, (0 ≤ d ∧ d < 8) ∧ dx d = a ∧ dy d = b := by
  rcases ha with rfl | rfl | rfl <;> rcases hb with rfl | rfl | rfl
  · exact ⟨7, by decide, by decide, by decide⟩
  · exact ⟨6, by decide, by decide, by decide⟩
  · exact ⟨5, by decide, by decide, by decide⟩
  · exact ⟨0, by decide, by decide, by decide⟩
  · omega
  · exact ⟨4, by decide, by decide, by decide⟩
  · exact ⟨1, by decide, by decide, by decide⟩
  · exact ⟨2, by decide, by decide, by decide⟩
  · exact ⟨3, by decide, by decide, by decide⟩
theorem sgn_of (k : Int) : ∃ s : Int, (s = -1 ∨ s = 0 ∨ s = 1) ∧ ((s = -1 ∧ k < 0) ∨ (s = 0 ∧ k = 0) ∨ (s = 1 ∧ 0 < k)) := by
  rcases (show k < 0 ∨ k = 0 ∨ 0 < k by omega) with h | h | h
  · exact ⟨-1, Or.inl rfl, Or.inl ⟨rfl, h⟩⟩
  · exact ⟨0, Or.inr (Or.inl rfl), Or.inr (Or.inl ⟨rfl, h⟩)⟩
  · exact ⟨1, Or.inr (Or.inr rfl), Or.inr (Or.inr ⟨rfl, h⟩)⟩
theorem toward {c g : Int} (hc : 0 ≤ c ∧ c < 120) (hg : 0 ≤ g ∧ g < 120) (h : c ≠ g) : ∃ d, stp c d ≠ -1 ∧ apart (stp c d) g < apart c g := by
  obtain ⟨a, ha, ha'⟩ := sgn_of (g % 12 - c % 12)
  obtain ⟨b, hb, hb'⟩ := sgn_of (g / 12 - c / 12)
  obtain ⟨d, hd, ed, es⟩ := dir_of ha hb (by omega)
  have e := stp_eq (c := c) hc hd (by omega) (by omega)
  have hne : stp c d ≠ -1 := by rw [e]; omega
  obtain ⟨_, _, hs, hx, hy⟩ := stp_cell hne
  refine ⟨d, hne, ?_⟩
  unfold apart kabs
  rw [hx, hy, ed, es]
  omega
/-- the least sums from st over the steps nb with the weights wg -/
def GD (nb wg : Int → Int → Int) (st : Int) (S : Int → Int) : Prop :=
  S st = 0 ∧ (∀ c, 0 ≤ c → c < 120 → 0 ≤ S c) ∧ (∀ x k, 0 ≤ x → x < 120 → 0 ≤ k → k < 8 → nb x k ≠ -1 → S (nb x k) ≤ S x + wg x k) ∧ (∀ y, 0 ≤ y → y < 120 → y ≠ st → ∃ x k, (0 ≤ x ∧ x < 120) ∧ (0 ≤ k ∧ k < 8) ∧ nb x k = y ∧ S y = S x + wg x k)
/-- what the steps must be like -/
def GW (nb wg : Int → Int → Int) (W : Int) : Prop := ∀ x k, 0 ≤ x → x < 120 → 0 ≤ k → k < 8 → nb x k ≠ -1 → (0 ≤ nb x k ∧ nb x k < 120) ∧ 1 ≤ wg x k ∧ wg x k ≤ W
theorem GD.le {nb wg : Int → Int → Int} {st W : Int} {S T : Int → Int} (hw : GW nb wg W) (h1 : GD nb wg st S) (h2 : GD nb wg st T) : ∀ c, 0 ≤ c → c < 120 → S c ≤ T c := by
  have key : ∀ n : Nat, ∀ c, 0 ≤ c → c < 120 → (T c).toNat = n → S c ≤ T c := by
    intro n
    induction n using Nat.strongRecOn with
    | ind n ih =>
      intro c c0 c1 hn
      by_cases e : c = st
      · rw [e, h1.1, h2.1]
        exact Int.le_refl _
      · obtain ⟨x, k, hx, hk, e1, e2⟩ := h2.2.2.2 c c0 c1 e
        have hne : nb x k ≠ -1 := by omega
        have hb := hw x k hx.1 hx.2 hk.1 hk.2 hne
        have hx0 := h2.2.1 x hx.1 hx.2
        have h3 := ih (T x).toNat (by omega) x hx.1 hx.2 rfl
        have h4 := h1.2.2.1 x k hx.1 hx.2 hk.1 hk.2 hne
        rw [e1] at h4
        omega
  exact fun c c0 c1 => key _ c c0 c1 rfl
theorem GD.uniq {nb wg : Int → Int → Int} {st W : Int} {S T : Int → Int} (hw : GW nb wg W) (h1 : GD nb wg st S) (h2 : GD nb wg st T) (c : Int) (c0 : 0 ≤ c) (c1 : c < 120) : S c = T c :=
  Int.le_antisymm (GD.le hw h1 h2 c c0 c1) (GD.le hw h2 h1 c c0 c1)
/-! the search -/
def DH (nb wg : Int → Int → Int) (st : Int) (S : Int → Int) (O : Int → Prop) (p : Int) : Prop :=
  S st = 0 ∧ (∀ y, O y → (0 ≤ y ∧ y < 120) ∧ S y ≠ 1073741824) ∧ (∀ y, 0 ≤ y → y < 120 → S y ≠ 1073741824 → 0 ≤ S y ∧ S y ≤ p * 1280001) ∧ (∀ x, 0 ≤ x → x < 120 → S x ≠ 1073741824 → ¬ O x → (∀ y, O y → S x ≤ S y) ∧ ∀ k, 0 ≤ k → k < 8 → nb x k ≠ -1 → S (nb x k) ≤ S x + wg x k) ∧ (∀ y, 0 ≤ y → y < 120 → y ≠ st → S y ≠ 1073741824 → ∃ x k, (0 ≤ x ∧ x < 120) ∧ S x ≠ 1073741824 ∧ ¬ O x ∧ (0 ≤ k ∧ k < 8) ∧ nb x k = y ∧ S y = S x + wg x k)
def DI (nb wg : Int → Int → Int) (st : Int) (S : Int → Int) (O : Int → Prop) (p u j : Int) : Prop :=
  S st = 0 ∧ (∀ y, O y → (0 ≤ y ∧ y < 120) ∧ S y ≠ 1073741824 ∧ S u ≤ S y) ∧ (∀ y, 0 ≤ y → y < 120 → S y ≠ 1073741824 → 0 ≤ S y ∧ S y ≤ p * 1280001) ∧ (∀ x, 0 ≤ x → x < 120 → S x ≠ 1073741824 → ¬ O x → S x ≤ S u ∧ ∀ k, 0 ≤ k → k < 8 → nb x k ≠ -1 → (x = u → k < j) → S (nb x k) ≤ S x + wg x k) ∧ (∀ y, 0 ≤ y → y < 120 → y ≠ st → S y ≠ 1073741824 → ∃ x k, (0 ≤ x ∧ x < 120) ∧ S x ≠ 1073741824 ∧ ¬ O x ∧ (0 ≤ k ∧ k < 8) ∧ nb x k = y ∧ S y = S x + wg x k) ∧ (0 ≤ u ∧ u < 120) ∧ S u ≠ 1073741824 ∧ ¬ O u ∧ S u ≤ (p - 1) * 1280001
theorem DH.pop {nb wg : Int → Int → Int} {st : Int} {S : Int → Int} {O O' : Int → Prop} {p u : Int} (h : DH nb wg st S O p) (hu : O u) (hm : ∀ y, O y → S u ≤ S y) (hO : ∀ y, O' y ↔ O y ∧ y ≠ u) : DI nb wg st S O' (p + 1) u 0 := by
  obtain ⟨h1, h2, h3, h4, h5⟩ := h
  refine ⟨h1, fun y hy => ⟨(h2 y ((hO y).mp hy).1).1, (h2 y ((hO y).mp hy).1).2, hm y ((hO y).mp hy).1⟩, fun y y0 y1 hy => ?_, fun x x0 x1 hx hn => ?_, fun y y0 y1 hy hf => ?_, (h2 u hu).1, (h2 u hu).2, fun hn => ((hO u).mp hn).2 rfl, ?_⟩
  · have := h3 y y0 y1 hy
    omega
  · by_cases e : x = u
    · subst e
      exact ⟨Int.le_refl _, fun k k0 k1 _ hk => by have := hk rfl; omega⟩
    · have h6 := h4 x x0 x1 hx (fun ho => hn ((hO x).mpr ⟨ho, e⟩))
      exact ⟨h6.1 u hu, fun k k0 k1 k2 _ => h6.2 k k0 k1 k2⟩
  · obtain ⟨x, k, a1, a2, a3, a4⟩ := h5 y y0 y1 hy hf
    exact ⟨x, k, a1, a2, fun ho => a3 ((hO x).mp ho).1, a4⟩
  · have := h3 u (h2 u hu).1.1 (h2 u hu).1.2 (h2 u hu).2
    omega
theorem DI.done {nb wg : Int → Int → Int} {st : Int} {S : Int → Int} {O : Int → Prop} {p u j : Int} (h : DI nb wg st S O p u j) (hj : 8 ≤ j) : DH nb wg st S O p := by
  obtain ⟨h1, h2, h3, h4, h5, h6, h7, h8, h9⟩ := h
  refine ⟨h1, fun y hy => ⟨(h2 y hy).1, (h2 y hy).2.1⟩, h3, fun x x0 x1 hx hn => ⟨fun y hy => ?_, fun k k0 k1 k2 => (h4 x x0 x1 hx hn).2 k k0 k1 k2 (fun _ => by omega)⟩, h5⟩
  have := (h4 x x0 x1 hx hn).1
  have := (h2 y hy).2.2
  omega
theorem DI.skip {nb wg : Int → Int → Int} {st : Int} {S : Int → Int} {O : Int → Prop} {p u j : Int} (h : DI nb wg st S O p u j) (hj : 0 ≤ j) (hs : nb u j ≠ -1 → S (nb u j) ≤ S u + wg u j) : DI nb wg st S O p u (j + 1) := by
  obtain ⟨h1, h2, h3, h4, h5, h6⟩ := h
  refine ⟨h1, h2, h3, fun x x0 x1 hx hn => ⟨(h4 x x0 x1 hx hn).1, fun k k0 k1 k2 k3 => ?_⟩, h5, h6⟩
  by_cases e : x = u ∧ k = j
  · rw [e.1, e.2] at k2 ⊢
    exact hs k2
  · exact (h4 x x0 x1 hx hn).2 k k0 k1 k2 (fun ex => by have := k3 ex; omega)
theorem DI.relax {nb wg : Int → Int → Int} {st : Int} {S S' : Int → Int} {O O' : Int → Prop} {p u j : Int} (hw : GW nb wg 1280001) (hp : p ≤ 120) (h : DI nb wg st S O p u j) (hj : 0 ≤ j ∧ j < 8) (hn : nb u j ≠ -1) (hlt : S u + wg u j < S (nb u j)) (hS : ∀ z, S' z = if z = nb u j then S u + wg u j else S z) (hO : ∀ z, O' z ↔ O z ∨ z = nb u j) : DI nb wg st S' O' p u (j + 1) := by
  obtain ⟨h1, h2, h3, h4, h5, ⟨h6, h7⟩, h8, h9, h10⟩ := h
  obtain ⟨⟨y0, y1⟩, w0, w1⟩ := hw u j h6 h7 hj.1 hj.2 hn
  have hu0 := h3 u h6 h7 h8
  have e1 : S' (nb u j) = S u + wg u j := by rw [hS, if_pos rfl]
  have e2 : ∀ z, z ≠ nb u j → S' z = S z := fun z hz => by rw [hS, if_neg hz]
  have hst : st ≠ nb u j := fun e => by rw [← e, h1] at hlt; omega
  have hu : u ≠ nb u j := fun e => by rw [← e] at hlt; omega
  have hsmall : S u + wg u j ≠ 1073741824 := by omega
  have done : ∀ x, 0 ≤ x → x < 120 → S x ≠ 1073741824 → ¬ O x → x ≠ nb u j := fun x x0 x1 hx hno e => by
    have := (h4 x x0 x1 hx hno).1
    rw [← e] at hlt
    omega
  refine ⟨by rw [e2 _ hst]; exact h1, fun y hy => ?_, fun y z0 z1 hy => ?_, fun x x0 x1 hx hno => ?_, fun y z0 z1 hy hf => ?_, ⟨h6, h7⟩, by rw [e2 _ hu]; exact h8, fun ho => ?_, by rw [e2 _ hu]; exact h10⟩
  · rw [e2 _ hu]
    by_cases e : y = nb u j
    · rw [e, e1]
      exact ⟨⟨y0, y1⟩, hsmall, by omega⟩
    · rw [e2 _ e]
      exact h2 y (((hO y).mp hy).resolve_right e)
  · by_cases e : y = nb u j
    · rw [e, e1]
      omega
    · rw [e2 _ e] at hy ⊢
      exact h3 y z0 z1 hy
  · have hx1 : x ≠ nb u j := fun e => hno ((hO x).mpr (Or.inr e))
    have hx2 : ¬ O x := fun ho => hno ((hO x).mpr (Or.inl ho))
    rw [e2 _ hx1] at hx ⊢
    rw [e2 _ hu]
    have h11 := h4 x x0 x1 hx hx2
    refine ⟨h11.1, fun k k0 k1 k2 k3 => ?_⟩
    by_cases e : x = u ∧ k = j
    · rw [e.1, e.2, e1]
      exact Int.le_refl _
    · have h12 := h11.2 k k0 k1 k2 (fun ex => by have := k3 ex; omega)
      by_cases e3 : nb x k = nb u j
      · rw [e3, e1]
        rw [e3] at h12
        omega
      · rw [e2 _ e3]
        exact h12
  · by_cases e : y = nb u j
    · refine ⟨u, j, ⟨h6, h7⟩, by rw [e2 _ hu]; exact h8, fun ho => ?_, hj, e.symm, by rw [e, e1, e2 _ hu]⟩
      rcases (hO u).mp ho with h | h
      · exact h9 h
      · exact hu h
    · rw [e2 _ e] at hf
      obtain ⟨x, k, a1, a2, a3, a4, a5, a6⟩ := h5 y z0 z1 hy hf
      have hx1 := done x a1.1 a1.2 a2 a3
      refine ⟨x, k, a1, by rw [e2 _ hx1]; exact a2, fun ho => ?_, a4, a5, by rw [e2 _ e, e2 _ hx1]; exact a6⟩
      rcases (hO x).mp ho with h | h
      · exact a3 h
      · exact hx1 h
  · rcases (hO u).mp ho with h | h
    · exact h9 h
    · exact hu h
theorem DH.out {nb wg : Int → Int → Int} {st : Int} {S : Int → Int} {O : Int → Prop} {p : Int} (hw : GW nb wg 1280001) (hp : p ≤ 120) (hst : 0 ≤ st ∧ st < 120) (hc : ∀ c, 0 ≤ c → c < 120 → c ≠ st → ∃ x k, (0 ≤ x ∧ x < 120) ∧ (0 ≤ k ∧ k < 8) ∧ nb x k = c ∧ apart x st < apart c st) (h : DH nb wg st S O p) (hO : ∀ y, ¬ O y) : GD nb wg st S ∧ ∀ c, 0 ≤ c → c < 120 → S c ≤ 153600120 := by
  obtain ⟨h1, h2, h3, h4, h5⟩ := h
  have fin : ∀ n : Nat, ∀ c, 0 ≤ c → c < 120 → (apart c st).toNat = n → S c ≠ 1073741824 := by
    intro n
    induction n using Nat.strongRecOn with
    | ind n ih =>
      intro c c0 c1 hn
      by_cases e : c = st
      · rw [e, h1]; omega
      · obtain ⟨x, k, hx, hk, e1, e2⟩ := hc c c0 c1 e
        have := apart_nn (a := x) (b := st)
        have hf := ih (apart x st).toNat (by omega) x hx.1 hx.2 rfl
        have hne : nb x k ≠ -1 := by omega
        have h6 := (h4 x hx.1 hx.2 hf (hO x)).2 k hk.1 hk.2 hne
        have h7 := hw x k hx.1 hx.2 hk.1 hk.2 hne
        have h8 := h3 x hx.1 hx.2 hf
        rw [e1] at h6
        omega
  have fin' := fun c c0 c1 => fin _ c c0 c1 rfl
  refine ⟨⟨h1, fun c c0 c1 => (h3 c c0 c1 (fin' c c0 c1)).1, fun x k x0 x1 k0 k1 hk => (h4 x x0 x1 (fin' x x0 x1) (hO x)).2 k k0 k1 hk, fun y y0 y1 hy => ?_⟩, fun c c0 c1 => ?_⟩
  · obtain ⟨x, k, a1, a2, a3, a4, a5, a6⟩ := h5 y y0 y1 hy (fin' y y0 y1)
    exact ⟨x, k, a1, a4, a5, a6⟩
  · have := h3 c c0 c1 (fin' c c0 c1)
    omega
theorem DH.start {nb wg : Int → Int → Int} {st : Int} {S : Int → Int} {O : Int → Prop} (hst : 0 ≤ st ∧ st < 120) (hS : S st = 0) (hF : ∀ c, c ≠ st → 0 ≤ c → c < 120 → S c = 1073741824) (hO : ∀ y, O y ↔ y = st) : DH nb wg st S O 0 := by
  refine ⟨hS, fun y hy => ?_, fun y y0 y1 hy => ?_, fun x x0 x1 hx hn => ?_, fun y y0 y1 hy hf => absurd (hF y hy y0 y1) hf⟩
  · rw [(hO y).mp hy, hS]
    exact ⟨hst, by omega⟩
  · have : y = st := Classical.byContradiction fun e => hy (hF y e y0 y1)
    rw [this, hS]
    omega
  · have : x = st := Classical.byContradiction fun e => hx (hF x e x0 x1)
    exact absurd ((hO x).mpr this) hn
