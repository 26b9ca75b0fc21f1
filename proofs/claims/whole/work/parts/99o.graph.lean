/-! graphs of towns: what is reached, what a net costs -/
def Rch (adj : Int → Int → Prop) (a v : Int) : Prop := ∀ A : Int → Prop, A a → (∀ u w, A u → adj u w → A w) → A v
theorem Rch.rf {adj : Int → Int → Prop} {a : Int} : Rch adj a a := fun _ h _ => h
theorem Rch.st {adj : Int → Int → Prop} {a u w : Int} (h : Rch adj a u) (e : adj u w) : Rch adj a w := fun A h1 h2 => h2 u w (h A h1 h2) e
theorem Rch.tr {adj : Int → Int → Prop} {a u w : Int} (h : Rch adj a u) (h' : Rch adj u w) : Rch adj a w := fun A h1 h2 => h' A (h A h1 h2) h2
theorem Rch.sy {adj : Int → Int → Prop} (hs : ∀ u w, adj u w → adj w u) {a v : Int} (h : Rch adj a v) : Rch adj v a :=
  h (fun w => Rch adj w a) Rch.rf (fun u w hu e => (Rch.rf.st (hs u w e)).tr hu)
theorem Rch.cong {adj adj' : Int → Int → Prop} (h : ∀ u w, adj u w ↔ adj' u w) {a v : Int} : Rch adj a v ↔ Rch adj' a v :=
  ⟨fun z A h1 h2 => z A h1 (fun u w hu e => h2 u w hu ((h u w).mp e)), fun z A h1 h2 => z A h1 (fun u w hu e => h2 u w hu ((h u w).mpr e))⟩
/-- what is not closed has a way out -/
theorem Rch.out {adj : Int → Int → Prop} {a v : Int} {S : Int → Prop} (h : Rch adj a v) (ha : S a) (hv : ¬ S v) : ∃ u w, S u ∧ ¬ S w ∧ adj u w ∧ Rch adj a u :=
  Classical.byContradiction (fun z => hv ((h (fun x => S x ∧ Rch adj a x) ⟨ha, Rch.rf⟩ (fun u w hu e => ⟨Classical.byContradiction (fun y => z ⟨u, w, hu.1, y, e, hu.2⟩), hu.2.st e⟩)).1))
theorem least {P : Int → Prop} {v : Int} (h0 : 0 ≤ v) (h : P v) : ∃ w, 0 ≤ w ∧ P w ∧ ∀ u, 0 ≤ u → u < w → ¬ P u := by
  have key : ∀ n : Nat, ∀ v : Int, v.toNat ≤ n → 0 ≤ v → P v → ∃ w, 0 ≤ w ∧ P w ∧ ∀ u, 0 ≤ u → u < w → ¬ P u := by
    intro n
    induction n with
    | zero => intro v hv v0 hp; exact ⟨v, v0, hp, fun u u0 u1 => by omega⟩
    | succ n ih =>
      intro v hv v0 hp
      by_cases c : ∃ u, 0 ≤ u ∧ u < v ∧ P u
      · obtain ⟨u, u0, u1, u2⟩ := c
        exact ih u (by omega) u0 u2
      · exact ⟨v, v0, hp, fun u u0 u1 u2 => c ⟨u, u0, u1, u2⟩⟩
  exact key v.toNat v (Nat.le_refl _) h0 h
/-- how many of 0 .. m are in it -/
noncomputable def cnt (m : Int) (S : Int → Prop) : Int := sm (fun k => cif (S k) 1 0) m.toNat
theorem cnt_b {m : Int} {S : Int → Prop} (hm : 0 ≤ m) : 0 ≤ cnt m S ∧ cnt m S ≤ m := by
  have := sm_b (f := fun k => cif (S k) 1 0) (B := 1) (n := m.toNat) (fun _ _ _ => cif_b)
  unfold cnt
  omega
theorem cnt_le {m : Int} {S S' : Int → Prop} (h : ∀ k, S k → S' k) : cnt m S ≤ cnt m S' := sm_le (fun k _ _ => by
  by_cases c : S k
  · rw [cif_pos c, cif_pos (h k c)]
    exact Int.le_refl _
  · rw [cif_neg c]
    exact cif_b.1)
theorem cnt_lt {m : Int} {S S' : Int → Prop} (h : ∀ k, S k → S' k) {c : Int} (hc : 0 ≤ c ∧ c < m) (h1 : ¬ S c) (h2 : S' c) : cnt m S + 1 ≤ cnt m S' := by
  have e := sm_up (f := fun k => cif (S k) 1 0) (g := fun k => cif (S k ∨ k = c) 1 0) (c := c) (n := m.toNat) hc.1 (by omega) (fun i i0 i1 hi => by
    by_cases q : S i
    · rw [cif_pos q, cif_pos (Or.inl q)]
    · rw [cif_neg q, cif_neg (fun z => z.elim q hi)])
  have e : sm (fun k => cif (S k ∨ k = c) 1 0) m.toNat = sm (fun k => cif (S k) 1 0) m.toNat + (cif (S c ∨ c = c) 1 0 - cif (S c) 1 0) := e
  rw [cif_neg h1, cif_pos (show S c ∨ c = c from Or.inr rfl)] at e
  have h3 := cnt_le (m := m) (S := fun k => S k ∨ k = c) (S' := S') (fun k hk => hk.elim (h k) (fun z => by rw [z]; exact h2))
  have h4 : cnt m (fun k => S k ∨ k = c) = sm (fun k => cif (S k ∨ k = c) 1 0) m.toNat := rfl
  have h5 : cnt m S = sm (fun k => cif (S k) 1 0) m.toNat := rfl
  omega
theorem cnt_all {m : Int} {S : Int → Prop} (hm : 0 ≤ m) (h : m ≤ cnt m S) : ∀ k, 0 ≤ k → k < m → S k := fun k k0 k1 => by
  refine Classical.byContradiction (fun z => ?_)
  have h1 := cnt_lt (m := m) (S := S) (S' := fun _ => True) (fun _ _ => trivial) ⟨k0, k1⟩ z trivial
  have := cnt_b (m := m) (S := fun _ => True) hm
  omega
theorem cnt_ex {m : Int} {S : Int → Prop} (h : cnt m S < m) : ∃ k, 0 ≤ k ∧ k < m ∧ ¬ S k := by
  refine Classical.byContradiction (fun z => ?_)
  have hall : ∀ k, 0 ≤ k → k < m → S k := fun k k0 k1 => Classical.byContradiction (fun y => z ⟨k, k0, k1, y⟩)
  have e := sm_cong (f := fun k => cif (S k) 1 0) (g := fun _ => 1) (n := m.toNat) (fun i i0 i1 => cif_pos (hall i i0 (by omega)))
  have e2 : ∀ n : Nat, sm (fun _ => 1) n = n := by
    intro n
    induction n with
    | zero => rfl
    | succ n ih =>
      rw [sm, ih]
      omega
  rw [e2] at e
  unfold cnt at h
  have h1 : sm (fun k => cif (S k) 1 0) m.toNat < m := h
  by_cases hm : 0 ≤ m
  · omega
  · rw [show m.toNat = 0 by omega] at h1
    have : sm (fun k => cif (S k) 1 0) 0 = 0 := rfl
    omega
/-- a pass widens what is reached -/
theorem reach_pass {m i : Int} {adj : Int → Int → Prop} {a : Int} {S S' : Int → Prop} (hV : ∀ u w, adj u w → 0 ≤ w ∧ w < m) (ha : S a) (h : (∀ v, Rch adj a v → S v) ∨ i ≤ cnt m S) (h1 : ∀ k, S k → S' k) (h2 : ∀ u w, S u → adj u w → S' w) : (∀ v, Rch adj a v → S' v) ∨ i + 1 ≤ cnt m S' := by
  by_cases c : ∀ v, Rch adj a v → S v
  · exact Or.inl (fun v hv => h1 v (c v hv))
  · obtain ⟨v, hv⟩ := Classical.not_forall.mp c
    obtain ⟨hv1, hv2⟩ := Classical.not_imp.mp hv
    obtain ⟨u, w, hu, hw, e, _⟩ := hv1.out ha hv2
    have := cnt_lt (m := m) (S := S) (S' := S') h1 (hV u w e) hw (h2 u w hu e)
    refine Or.inr (h.elim (fun h => absurd h c) (fun h => by omega))
/-! what a net costs: by thresholds -/
def Eg (m : Int) (W : Int → Int → Int) (t u v : Int) : Prop := (0 ≤ u ∧ u < m) ∧ (0 ≤ v ∧ v < m) ∧ u ≠ v ∧ W u v ≤ t
def cl (m : Int) (W : Int → Int → Int) (t : Int) (S : Int → Prop) (v : Int) : Prop := ∃ s, S s ∧ Rch (Eg m W t) s v
def rsd (m : Int) (W : Int → Int → Int) (t : Int) (S : Int → Prop) (v : Int) : Prop := ¬ cl m W t S v ∧ ∀ u, 0 ≤ u → u < v → ¬ Rch (Eg m W t) u v
noncomputable def pot (m : Int) (W : Int → Int → Int) (M : Nat) (S : Int → Prop) : Int := sm (fun t => sm (fun v => cif (rsd m W t S v) 1 0) m.toNat) M
theorem sm_below {M : Nat} {c : Int} (hc : 0 ≤ c ∧ c ≤ M) : sm (fun t => if t < c then 1 else 0) M = c := by
  have key : ∀ n : Nat, sm (fun t => if t < c then 1 else 0) n = min (n : Int) c := by
    intro n
    induction n with
    | zero =>
      show (0 : Int) = _
      omega
    | succ n ih =>
      rw [sm, ih]
      by_cases q : (n : Int) < c
      · rw [if_pos q]; omega
      · rw [if_neg q]; omega
  rw [key]
  omega
theorem Eg.sy {m : Int} {W : Int → Int → Int} (hW : ∀ u v, W u v = W v u) {t : Int} : ∀ u v, Eg m W t u v → Eg m W t v u := fun u v h => ⟨h.2.1, h.1, fun e => h.2.2.1 e.symm, by rw [hW]; exact h.2.2.2⟩
theorem Rch.inV {m : Int} {W : Int → Int → Int} {t a v : Int} (h : Rch (Eg m W t) a v) (ha : 0 ≤ a ∧ a < m) : 0 ≤ v ∧ v < m := h (fun x => 0 ≤ x ∧ x < m) ha (fun u w _ e => e.2.1)
/-- one road more -/
theorem pot_step {m : Int} {W : Int → Int → Int} {M : Nat} {S : Int → Prop} {s0 v0 c : Int} (hW : ∀ u v, W u v = W v u) (hS : ∀ k, S k → 0 ≤ k ∧ k < m) (h0 : S s0) (hv0 : 0 ≤ v0 ∧ v0 < m) (hn : ¬ S v0) (hc : W s0 v0 = c) (hmin : ∀ s v, S s → 0 ≤ v → v < m → ¬ S v → c ≤ W s v) (hcM : 0 ≤ c ∧ c ≤ M) : pot m W M S = pot m W M (fun k => S k ∨ k = v0) + c := by
  have key : ∀ t : Int, sm (fun v => cif (rsd m W t S v) 1 0) m.toNat = sm (fun v => cif (rsd m W t (fun k => S k ∨ k = v0) v) 1 0) m.toNat + (if t < c then 1 else 0) := by
    intro t
    by_cases ht : t < c
    · rw [if_pos ht]
      -- S is closed
      have hcl : ∀ v, cl m W t S v → S v := fun v ⟨s, hs, hr⟩ => by
        refine Classical.byContradiction (fun z => ?_)
        obtain ⟨u, w, hu, hw, e, _⟩ := hr.out hs z
        have := hmin u w hu e.2.1.1 e.2.1.2 hw
        have := e.2.2.2
        omega
      have hdis : ∀ v, Rch (Eg m W t) v0 v → ¬ S v := fun v hr hs => hn (hcl v0 ⟨v, hs, hr.sy (Eg.sy hW)⟩)
      obtain ⟨r, r0, hr, hrl⟩ := least (P := Rch (Eg m W t) v0) hv0.1 Rch.rf
      have hrV := hr.inV hv0
      have hup := sm_up (f := fun v => cif (rsd m W t (fun k => S k ∨ k = v0) v) 1 0) (g := fun v => cif (rsd m W t S v) 1 0) (c := r) (n := m.toNat) r0 (by omega) (fun v v0' v1 hvr => by
        have hiff : rsd m W t S v ↔ rsd m W t (fun k => S k ∨ k = v0) v := by
          constructor
          · rintro ⟨a1, a2⟩
            refine ⟨fun ⟨s, hs, hrs⟩ => ?_, a2⟩
            rcases hs with hs | hs
            · exact a1 ⟨s, hs, hrs⟩
            · rw [hs] at hrs
              have h1 : Rch (Eg m W t) r v := (hr.sy (Eg.sy hW)).tr hrs
              by_cases q : r < v
              · exact a2 r r0 q h1
              · exact hrl v v0' (by omega) hrs
          · rintro ⟨a1, a2⟩
            exact ⟨fun ⟨s, hs, hrs⟩ => a1 ⟨s, Or.inl hs, hrs⟩, a2⟩
        by_cases q : rsd m W t S v
        · rw [cif_pos q, cif_pos (hiff.mp q)]
        · rw [cif_neg q, cif_neg (fun z => q (hiff.mpr z))])
      have e1 : rsd m W t S r := ⟨fun z => hdis r hr (hcl r z), fun u u0 u1 hu => hrl u u0 u1 (hr.tr (hu.sy (Eg.sy hW)))⟩
      have e2 : ¬ rsd m W t (fun k => S k ∨ k = v0) r := fun z => z.1 ⟨v0, Or.inr rfl, hr⟩
      simp only [cif_pos e1, cif_neg e2] at hup
      rw [hup]
      omega
    · rw [if_neg ht, Int.add_zero]
      have hE : Eg m W t s0 v0 := ⟨hS s0 h0, hv0, fun e => hn (by rw [← e]; exact h0), by omega⟩
      refine sm_cong (fun v _ _ => ?_)
      have hiff : rsd m W t S v ↔ rsd m W t (fun k => S k ∨ k = v0) v := by
        constructor
        · rintro ⟨a1, a2⟩
          refine ⟨fun ⟨s, hs, hrs⟩ => ?_, a2⟩
          rcases hs with hs | hs
          · exact a1 ⟨s, hs, hrs⟩
          · rw [hs] at hrs
            exact a1 ⟨s0, h0, (Rch.rf.st hE).tr hrs⟩
        · rintro ⟨a1, a2⟩
          exact ⟨fun ⟨s, hs, hrs⟩ => a1 ⟨s, Or.inl hs, hrs⟩, a2⟩
      by_cases q : rsd m W t S v
      · rw [cif_pos q, cif_pos (hiff.mp q)]
      · rw [cif_neg q, cif_neg (fun z => q (hiff.mpr z))]
  have h1 := sm_cong (f := fun t => sm (fun v => cif (rsd m W t S v) 1 0) m.toNat) (g := fun t => sm (fun v => cif (rsd m W t (fun k => S k ∨ k = v0) v) 1 0) m.toNat + (if t < c then 1 else 0)) (n := M) (fun t _ _ => key t)
  have h2 := sm_add (f := fun t => sm (fun v => cif (rsd m W t (fun k => S k ∨ k = v0) v) 1 0) m.toNat) (g := fun t => if t < c then 1 else 0) M
  have h3 := sm_below (M := M) hcM
  unfold pot
  rw [h1, h2, h3]
theorem pot_end {m : Int} {W : Int → Int → Int} {M : Nat} {S : Int → Prop} (h : ∀ k, 0 ≤ k → k < m → S k) : pot m W M S = 0 := by
  have key : ∀ t : Int, sm (fun v => cif (rsd m W t S v) 1 0) m.toNat = 0 := fun t => by
    have := sm_b (f := fun v => cif (rsd m W t S v) 1 0) (B := 0) (n := m.toNat) (fun v v0 v1 => by
      rw [cif_neg (fun z => z.1 ⟨v, h v v0 (by omega), Rch.rf⟩)]
      omega)
    omega
  have h1 := sm_cong (f := fun t => sm (fun v => cif (rsd m W t S v) 1 0) m.toNat) (g := fun _ => 0) (n := M) (fun t _ _ => key t)
  unfold pot
  rw [h1]
  exact sm_zero M
theorem pot_cong {m : Int} {W W' : Int → Int → Int} {M : Nat} {S S' : Int → Prop} (hW : ∀ u v, 0 ≤ u → u < m → 0 ≤ v → v < m → u ≠ v → W u v = W' u v) (hS : ∀ k, S k ↔ S' k) : pot m W M S = pot m W' M S' := by
  have hE : ∀ t u v, Eg m W t u v ↔ Eg m W' t u v := fun t u v => by
    unfold Eg
    constructor
    · rintro ⟨a1, a2, a3, a4⟩
      exact ⟨a1, a2, a3, by rw [← hW u v a1.1 a1.2 a2.1 a2.2 a3]; exact a4⟩
    · rintro ⟨a1, a2, a3, a4⟩
      exact ⟨a1, a2, a3, by rw [hW u v a1.1 a1.2 a2.1 a2.2 a3]; exact a4⟩
  refine sm_cong (fun t _ _ => sm_cong (fun v _ _ => ?_))
  have hiff : rsd m W t S v ↔ rsd m W' t S' v := by
    unfold rsd cl
    constructor
    · rintro ⟨a1, a2⟩
      exact ⟨fun ⟨s, hs, hr⟩ => a1 ⟨s, (hS s).mpr hs, (Rch.cong (hE t)).mpr hr⟩, fun u u0 u1 hr => a2 u u0 u1 ((Rch.cong (hE t)).mpr hr)⟩
    · rintro ⟨a1, a2⟩
      exact ⟨fun ⟨s, hs, hr⟩ => a1 ⟨s, (hS s).mp hs, (Rch.cong (hE t)).mp hr⟩, fun u u0 u1 hr => a2 u u0 u1 ((Rch.cong (hE t)).mp hr)⟩
  by_cases q : rsd m W t S v
  · rw [cif_pos q, cif_pos (hiff.mp q)]
  · rw [cif_neg q, cif_neg (fun z => q (hiff.mpr z))]
