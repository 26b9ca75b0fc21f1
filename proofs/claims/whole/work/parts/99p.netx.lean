/-! NET: the class's side -/
def NW (s : kS) (m : Int) (W : Int → Int → Int) : Prop := s 63 1 = m ∧ (2 ≤ m ∧ m ≤ 8) ∧ ∀ u v, 0 ≤ u → u < m → 0 ≤ v → v < m → u ≠ v → s (65 + u) v = W u v ∧ 0 ≤ W u v ∧ W u v ≤ 1300000
theorem net_row {s : kS} (hL : Lay s) {a : Int} (ha : 0 ≤ a ∧ a < 8) : s 64 a = 65 + a ∧ isA 20 kN (65 + a) ∧ klen (65 + a) = 8 := by
  rcases (show a = 0 ∨ a = 1 ∨ a = 2 ∨ a = 3 ∨ a = 4 ∨ a = 5 ∨ a = 6 ∨ a = 7 by omega) with rfl | rfl | rfl | rfl | rfl | rfl | rfl | rfl
  · exact ⟨ly_64_0 hL, isA_k (by decide +kernel), by decide +kernel⟩
  · exact ⟨ly_64_1 hL, isA_k (by decide +kernel), by decide +kernel⟩
  · exact ⟨ly_64_2 hL, isA_k (by decide +kernel), by decide +kernel⟩
  · exact ⟨ly_64_3 hL, isA_k (by decide +kernel), by decide +kernel⟩
  · exact ⟨ly_64_4 hL, isA_k (by decide +kernel), by decide +kernel⟩
  · exact ⟨ly_64_5 hL, isA_k (by decide +kernel), by decide +kernel⟩
  · exact ⟨ly_64_6 hL, isA_k (by decide +kernel), by decide +kernel⟩
  · exact ⟨ly_64_7 hL, isA_k (by decide +kernel), by decide +kernel⟩
theorem net_64 {s : kS} (hL : Lay s) : isA 24 kN 64 ∧ klen 64 = 8 := ⟨⟨by omega, by decide, by decide +kernel⟩, by decide +kernel⟩
theorem X6_costTo {d : Nat} (hd : 2 ≤ d) {s : kS} {m b bits : Int} {W : Int → Int → Int} {S : Int → Prop} {Q : Int → kS → Prop} (hL : Lay s) (hN : NW s m W) (hb : 0 ≤ b ∧ b < m) (hbs : BSet bits S) (hV : ∀ k, S k → 0 ≤ k ∧ k < m) (hnb : ¬ S b) (h0 : ∃ k, S k) (h : ∀ x, (∃ k, S k ∧ W k b = x) → (∀ k, S k → x ≤ W k b) → Q x s) : Ci d MX6_costTo [(2, 63), (0, b), (0, bits)] kN s Q := by
  obtain ⟨d, rfl⟩ : ∃ e, d = e + 1 := ⟨d - 1, by omega⟩
  obtain ⟨n1, n2, n3⟩ := hN
  have k64 := (net_64 hL).2
  have key : ∀ a x : Int, 0 ≤ a → a ≤ m → ((x = 1073741824 ∧ ∀ k, 0 ≤ k → k < a → ¬ S k) ∨ ((∃ k, S k ∧ W k b = x) ∧ ∀ k, 0 ≤ k → k < a → S k → x ≤ W k b)) → LX6_costTo_6 d kN Q 63 b bits x a s := by
    refine up_to (e := m) ?_
    intro a ih x a0 a1 hx
    refine SX6_costTo_6 ⟨isO_k (by decide +kernel), ?_⟩
    rw [n1, ly_63_0 hL]
    refine ⟨fun q => ?_, fun q => ?_⟩
    · rcases hx with ⟨_, hx2⟩ | ⟨hx1, hx2⟩
      · obtain ⟨k, hk⟩ := h0
        exact absurd hk (hx2 k (hV k hk).1 (by have := (hV k hk).2; omega))
      · exact h x hx1 (fun k hk => hx2 k (hV k hk).1 (by have := (hV k hk).2; omega) hk)
    · have hr := net_row hL (a := a) (by omega)
      have ht := hbs.t (k := a) (by omega)
      rw [ht, hr.1]
      refine ⟨fun c => ⟨by omega, ih (by omega) x (by omega) (by omega) ?_⟩, fun c => ⟨(net_64 hL).1, by omega, hr.2.1, by omega, J_min (by omega) ⟨by omega, ih (by omega) _ (by omega) (by omega) ?_⟩⟩⟩
      · have hna : ¬ S a := fun z => c (cif_pos z)
        rcases hx with ⟨hx1, hx2⟩ | ⟨hx1, hx2⟩
        · refine Or.inl ⟨hx1, fun k k0 k1 => ?_⟩
          by_cases e : k = a
          · rw [e]; exact hna
          · exact hx2 k k0 (by omega)
        · refine Or.inr ⟨hx1, fun k k0 k1 hk => ?_⟩
          by_cases e : k = a
          · rw [e] at hk; exact absurd hk hna
          · exact hx2 k k0 (by omega) hk
      · have hSa : S a := Classical.byContradiction (fun z => c (by rw [cif_neg z]; omega))
        have hab : a ≠ b := fun e => hnb (by rw [← e]; exact hSa)
        have hv := n3 a b (by omega) (by omega) hb.1 hb.2 hab
        rw [hv.1]
        rcases hx with ⟨hx1, hx2⟩ | ⟨⟨k1, hk1, hk2⟩, hx2⟩
        · refine Or.inr ⟨⟨a, hSa, by omega⟩, fun k k0 k1 hk => ?_⟩
          by_cases e : k = a
          · rw [e]; omega
          · exact absurd hk (hx2 k k0 (by omega))
        · refine Or.inr ⟨?_, fun k k0 kk hk => ?_⟩
          · by_cases q2 : x ≤ W a b
            · exact ⟨k1, hk1, by omega⟩
            · exact ⟨a, hSa, by omega⟩
          · by_cases e : k = a
            · rw [e]; omega
            · have := hx2 k k0 (by omega) hk
              omega
  exact EX6_costTo fun _ _ _ => SX6_costTo_0 (key 0 1073741824 (by omega) (by omega) (Or.inl ⟨rfl, fun k k0 k1 => by omega⟩))
theorem potM_ex : ∃ n : Nat, 1300000 ≤ n := ⟨1300000, Nat.le_refl _⟩
noncomputable def potM : Nat := Classical.choose potM_ex
theorem potM_le : 1300000 ≤ potM := Classical.choose_spec potM_ex
theorem X6_cost {d : Nat} (hd : 3 ≤ d) {s : kS} {m : Int} {W : Int → Int → Int} {Q : Int → kS → Prop} (hL : Lay s) (hN : NW s m W) (hW : ∀ u v, W u v = W v u) (h : Q (pot m W potM (fun k => k = 0)) s) : Ci d MX6_cost [(2, 63)] kN s Q := by
  obtain ⟨d, rfl⟩ : ∃ e, d = e + 1 := ⟨d - 1, by omega⟩
  obtain ⟨n1, n2, n3⟩ := id hN
  have hM := potM_le
  have key6 : ∀ i bits sum : Int, ∀ S : Int → Prop, 1 ≤ i → i ≤ m → BSet bits S → S 0 → (∀ k, S k → 0 ≤ k ∧ k < m) → i ≤ cnt m S → (0 ≤ sum ∧ sum ≤ 1300000 * i) → pot m W potM (fun k => k = 0) = sum + pot m W potM S → LX6_cost_6 d kN Q 63 bits sum i s := by
    refine up_to (e := m) ?_
    intro i ih bits sum S i1 im hbs hS0 hV hcn hsum hpot
    refine SX6_cost_6 ⟨isO_k (by decide +kernel), ?_⟩
    rw [n1]
    refine ⟨fun q => ?_, fun q => ?_⟩
    · have hp0 := pot_end (m := m) (W := W) (M := potM) (S := S) (cnt_all (by omega) (by omega))
      have he : pot m W potM (fun k => k = 0) = sum := by omega
      rw [he] at h
      exact h
    · have key24 : ∀ b best least : Int, 0 ≤ b → b ≤ m → ((best = -1 ∧ least = 1073741824 ∧ ∀ k, 0 ≤ k → k < b → S k) ∨ ((0 ≤ best ∧ best < b ∧ ¬ S best) ∧ (∃ k, S k ∧ W k best = least) ∧ ∀ v, 0 ≤ v → v < b → ¬ S v → ∀ k, S k → least ≤ W k v)) → LX6_cost_24 d kN Q 63 bits sum i best least b s := by
        refine up_to (e := m) ?_
        intro b ihb best least b0 bm hbl
        have hleast : least ≤ 1073741824 := by
          rcases hbl with ⟨_, e, _⟩ | ⟨hb, ⟨k, hk, e⟩, _⟩
          · omega
          · have hkv := hV k hk
            have hne : k ≠ best := fun z => hb.2.2 (by rw [← z]; exact hk)
            have := n3 k best hkv.1 hkv.2 hb.1 (by omega) hne
            omega
        refine SX6_cost_24 ⟨isO_k (by decide +kernel), ?_⟩
        rw [n1]
        refine ⟨fun q2 => ⟨fun q3 => ⟨by omega, ih (by omega) bits sum S (by omega) (by omega) hbs hS0 hV ?_ (by omega) hpot⟩, fun q3 => ?_⟩, fun q2 => ?_⟩
        · rcases hbl with ⟨_, _, hall⟩ | ⟨hb, _⟩
          · have hc : cnt m (fun k => 0 ≤ k ∧ k < m) ≤ cnt m S := cnt_le (fun k hk => hall k hk.1 (by omega))
            have hc2 : m ≤ cnt m (fun k => 0 ≤ k ∧ k < m) := by
              refine Classical.byContradiction (fun z => ?_)
              obtain ⟨k, k0, k1, hk⟩ := cnt_ex (m := m) (S := fun k => 0 ≤ k ∧ k < m) (by omega)
              exact hk ⟨k0, k1⟩
            omega
          · omega
        · rcases hbl with ⟨e, _⟩ | ⟨hb, ⟨k, hk, e⟩, hmin⟩
          · exact absurd e q3
          · have hkv := hV k hk
            have hne : k ≠ best := fun z => hb.2.2 (by rw [← z]; exact hk)
            have hw := n3 k best hkv.1 hkv.2 hb.1 (by omega) hne
            have hst := pot_step (M := potM) (c := least) hW hV hk ⟨hb.1, by omega⟩ hb.2.2 e (fun s' v hs' v0 v1 hv => hmin v v0 (by omega) hv s' hs') (by omega)
            refine ⟨by omega, by omega, ih (by omega) _ (sum + least) (fun k => S k ∨ k = best) (by omega) (by omega) (hbs.add (by omega)) (Or.inl hS0) (fun k hk => hk.elim (hV k) (fun z => by omega)) ?_ (by omega) (by omega)⟩
            have := cnt_lt (m := m) (S := S) (S' := fun k => S k ∨ k = best) (fun k hk => Or.inl hk) (c := best) (by omega) hb.2.2 (Or.inr rfl)
            omega
        · rw [hbs.t (k := b) (by omega)]
          refine ⟨fun c => ?_, fun c => ?_⟩
          · have hnb : ¬ S b := fun z => c (cif_pos z)
            refine X6_costTo (by omega) hL hN (by omega) hbs hV hnb ⟨0, hS0⟩ (fun x hx1 hx2 => ⟨fun q3 => ⟨by omega, ihb (by omega) best least (by omega) (by omega) ?_⟩, fun q3 => ⟨by omega, ihb (by omega) b x (by omega) (by omega) ?_⟩⟩)
            · rcases hbl with ⟨_, e, _⟩ | ⟨hb, he, hmin⟩
              · obtain ⟨k, hk, ex⟩ := hx1
                have hkv := hV k hk
                have hne : k ≠ b := fun z => hnb (by rw [← z]; exact hk)
                have := n3 k b hkv.1 hkv.2 (by omega) (by omega) hne
                omega
              · refine Or.inr ⟨⟨hb.1, by omega, hb.2.2⟩, he, fun v v0 v1 hv k hk => ?_⟩
                by_cases ev : v = b
                · rw [ev]
                  have := hx2 k hk
                  omega
                · exact hmin v v0 (by omega) hv k hk
            · refine Or.inr ⟨⟨by omega, by omega, hnb⟩, hx1, fun v v0 v1 hv k hk => ?_⟩
              by_cases ev : v = b
              · rw [ev]
                exact hx2 k hk
              · rcases hbl with ⟨_, _, hall⟩ | ⟨hb, he, hmin⟩
                · exact absurd (hall v v0 (by omega)) hv
                · have := hmin v v0 (by omega) hv k hk
                  omega
          · have hSb : S b := Classical.byContradiction (fun z => c (by rw [cif_neg z]; omega))
            refine ⟨fun q3 => ⟨by omega, ihb (by omega) best least (by omega) (by omega) ?_⟩, fun q3 => absurd hleast q3⟩
            rcases hbl with ⟨e1, e2, hall⟩ | ⟨hb, he, hmin⟩
            · refine Or.inl ⟨e1, e2, fun k k0 k1 => ?_⟩
              by_cases e : k = b
              · rw [e]; exact hSb
              · exact hall k k0 (by omega)
            · refine Or.inr ⟨⟨hb.1, by omega, hb.2.2⟩, he, fun v v0 v1 hv k hk => ?_⟩
              by_cases ev : v = b
              · rw [ev] at hv; exact absurd hSb hv
              · exact hmin v v0 (by omega) hv k hk
      exact key24 0 (-1) 1073741824 (by omega) (by omega) (Or.inl ⟨rfl, rfl, fun k k0 k1 => by omega⟩)
  have hone : BSet 1 (fun k => k = 0) := BSet.one (a := 0) (by omega)
  have hc1 : 1 ≤ cnt m (fun k => k = 0) := by
    have := cnt_lt (m := m) (S := fun _ => False) (S' := fun k => k = 0) (fun k hk => hk.elim) (c := 0) (by omega) (fun z => z) rfl
    have := cnt_b (m := m) (S := fun _ => False) (by omega)
    omega
  exact EX6_cost fun _ => SX6_cost_0 (key6 1 1 0 (fun k => k = 0) (by omega) (by omega) hone rfl (fun k hk => by omega) hc1 (by omega) (by omega))
/-- the ways to a town that are cheaper, without the road itself -/
def adN (m : Int) (W : Int → Int → Int) (a b t u w : Int) : Prop := (0 ≤ u ∧ u < m) ∧ (0 ≤ w ∧ w < m) ∧ u ≠ w ∧ ¬ (u = a ∧ w = b) ∧ ¬ (u = b ∧ w = a) ∧ W u w < t
theorem X6_reached {d : Nat} (hd : 1 ≤ d) {s : kS} {m a b t : Int} {W : Int → Int → Int} {Q : Int → kS → Prop} (hL : Lay s) (hN : NW s m W) (hab : (0 ≤ a ∧ a < m) ∧ (0 ≤ b ∧ b < m) ∧ a ≠ b) (h : ∀ x, BSet x (Rch (adN m W a b t) a) → Q x s) : Ci d MX6_reached [(2, 63), (0, a), (0, b), (0, t)] kN s Q := by
  obtain ⟨d, rfl⟩ : ∃ e, d = e + 1 := ⟨d - 1, by omega⟩
  obtain ⟨n1, n2, n3⟩ := id hN
  have k64 := (net_64 hL).2
  have hadV : ∀ u w, adN m W a b t u w → 0 ≤ w ∧ w < m := fun u w e => e.2.1
  have hRV : ∀ k, Rch (adN m W a b t) a k → 0 ≤ k ∧ k < m := fun k hk => hk (fun x => 0 ≤ x ∧ x < m) hab.1 (fun u w _ e => e.2.1)
  have key8 : ∀ i bits : Int, ∀ S : Int → Prop, 1 ≤ i → i ≤ m → BSet bits S → S a → (∀ k, S k → Rch (adN m W a b t) a k) → ((∀ v, Rch (adN m W a b t) a v → S v) ∨ i ≤ cnt m S) → LX6_reached_8 d kN Q 63 a b t bits i s := by
    refine up_to (e := m) ?_
    intro i ih bits S i1 im hbs hSa hSR hcl
    refine SX6_reached_8 ⟨isO_k (by decide +kernel), ?_⟩
    rw [n1]
    refine ⟨fun q => h bits (hbs.cong (fun k k0 => ⟨hSR k, fun hk => ?_⟩)), fun q => ?_⟩
    · rcases hcl with hcl | hcl
      · exact hcl k hk
      · exact cnt_all (by omega) (by omega) k k0 (hRV k hk).2
    · have key20 : ∀ one bits : Int, ∀ S' : Int → Prop, 0 ≤ one → one ≤ m → BSet bits S' → (∀ k, S k → S' k) → (∀ k, S' k → Rch (adN m W a b t) a k) → (∀ u w, 0 ≤ u → u < one → S u → adN m W a b t u w → S' w) → LX6_reached_20 d kN Q 63 a b t bits i one s := by
        refine up_to (e := m) ?_
        intro one iho bits S' o0 om hbs' hSS hSR' hdone
        refine SX6_reached_20 ⟨isO_k (by decide +kernel), ?_⟩
        rw [n1]
        refine ⟨fun q2 => ⟨by omega, ih (by omega) bits S' (by omega) (by omega) hbs' (hSS a hSa) hSR' (reach_pass hadV hSa hcl hSS (fun u w hu e => hdone u w e.1.1 (by have := e.1.2; omega) hu e))⟩, fun q2 => ?_⟩
        have hr := net_row hL (a := one) (by omega)
        have key32 : ∀ oth bits : Int, ∀ S2 : Int → Prop, 0 ≤ oth → oth ≤ m → BSet bits S2 → (∀ k, S' k → S2 k) → (∀ k, S2 k → Rch (adN m W a b t) a k) → (∀ w, 0 ≤ w → w < oth → S one → adN m W a b t one w → S2 w) → LX6_reached_32 d kN Q 63 a b t bits i one oth s := by
          refine up_to (e := m) ?_
          intro oth ihw bits S2 w0 wm hbs2 hS2 hSR2 hd2
          refine SX6_reached_32 ⟨isO_k (by decide +kernel), ?_⟩
          rw [n1, hbs2.t (k := one) (by omega), ly_63_0 hL, hr.1]
          refine ⟨fun q3 => ⟨by omega, iho (by omega) bits S2 (by omega) (by omega) hbs2 (fun k hk => hS2 k (hSS k hk)) hSR2 (fun u w u0 u1 hu e => ?_)⟩, fun q3 => ?_⟩
          · by_cases eu : u = one
            · rw [eu] at hu e
              exact hd2 w e.2.1.1 (by have := e.2.1.2; omega) hu e
            · exact hS2 w (hdone u w u0 (by omega) hu e)
          · have skip : ¬ (S one ∧ adN m W a b t one oth) → (-2147483648 ≤ oth + 1 ∧ oth + 1 ≤ 2147483647) ∧ LX6_reached_32 d kN Q 63 a b t bits i one (oth + 1) s := fun hno => ⟨by omega, ihw (by omega) bits S2 (by omega) (by omega) hbs2 hS2 hSR2 (fun w w0' w1 hu e => by
              by_cases ew : w = oth
              · rw [ew] at e
                exact absurd ⟨hu, e⟩ hno
              · exact hd2 w w0' (by omega) hu e)⟩
            have addb : S2 one → (adN m W a b t one oth ∨ oth = one) → (-2147483648 ≤ oth + 1 ∧ oth + 1 ≤ 2147483647) ∧ LX6_reached_32 d kN Q 63 a b t (kor bits (kishl 1 oth)) i one (oth + 1) s := fun h1 h2 => ⟨by omega, ihw (by omega) _ (fun k => S2 k ∨ k = oth) (by omega) (by omega) (hbs2.add (by omega)) (fun k hk => Or.inl (hS2 k hk)) (fun k hk => by
              rcases hk with hk | hk
              · exact hSR2 k hk
              · rw [hk]
                rcases h2 with h2 | h2
                · exact (hSR2 one h1).st h2
                · rw [h2]; exact hSR2 one h1) (fun w w0' w1 hu e => by
              by_cases ew : w = oth
              · exact Or.inr ew
              · exact Or.inl (hd2 w w0' (by omega) hu e))⟩
            have nin : ¬ cif (S2 one) 1 0 = 1 → ¬ S one := fun c z => c (cif_pos (hS2 one (hSS one z)))
            have isin : ¬ ¬ cif (S2 one) 1 0 = 1 → S2 one := fun c => Classical.byContradiction (fun z => c (by rw [cif_neg z]; omega))
            have val : one ≠ oth → s (65 + one) oth = W one oth := fun hne => (n3 one oth (by omega) (by omega) (by omega) (by omega) hne).1
            have gofar : ¬ (one = a ∧ oth = b) → ¬ (one = b ∧ oth = a) → (¬ cif (S2 one) 1 0 = 1 → (-2147483648 ≤ oth + 1 ∧ oth + 1 ≤ 2147483647) ∧ LX6_reached_32 d kN Q 63 a b t bits i one (oth + 1) s) ∧ (¬ ¬ cif (S2 one) 1 0 = 1 → isA 24 kN 64 ∧ (((0 : Int) ≤ one ∧ one < klen 64) ∧ (isA 20 kN (65 + one) ∧ (((0 : Int) ≤ oth ∧ oth < klen (65 + one)) ∧ ((t ≤ s (65 + one) oth → (-2147483648 ≤ oth + 1 ∧ oth + 1 ≤ 2147483647) ∧ LX6_reached_32 d kN Q 63 a b t bits i one (oth + 1) s) ∧ (¬ t ≤ s (65 + one) oth → (-2147483648 ≤ oth + 1 ∧ oth + 1 ≤ 2147483647) ∧ LX6_reached_32 d kN Q 63 a b t (kor bits (kishl 1 oth)) i one (oth + 1) s)))))) := fun g1 g2 => ⟨fun c => skip (fun z => nin c z.1), fun c => ⟨(net_64 hL).1, by omega, hr.2.1, by omega, fun c2 => skip (fun z => by
              have := z.2.2.2.2.2.2
              have := val z.2.2.2.1
              omega), fun c2 => addb (isin c) (by
              by_cases e : oth = one
              · exact Or.inr e
              · refine Or.inl ⟨by omega, by omega, fun z => e z.symm, g1, g2, ?_⟩
                have := val (fun z => e z.symm)
                omega)⟩⟩
            have self : (one = a ∧ oth = b) ∨ (one = b ∧ oth = a) → (-2147483648 ≤ oth + 1 ∧ oth + 1 ≤ 2147483647) ∧ LX6_reached_32 d kN Q 63 a b t bits i one (oth + 1) s := fun hs => skip (fun z => hs.elim z.2.2.2.2.1 z.2.2.2.2.2.1)
            exact ⟨fun p1 => ⟨fun p2 => gofar (by omega) (by omega), fun p2 => ⟨fun p3 => gofar (by omega) (by omega), fun p3 => ⟨fun _ => self (by omega), fun _ => self (by omega)⟩⟩⟩, fun p1 => ⟨fun p2 => ⟨fun _ => self (by omega), fun _ => self (by omega)⟩, fun p2 => ⟨fun p3 => gofar (by omega) (by omega), fun p3 => by omega⟩⟩⟩
        exact key32 0 bits S' (by omega) (by omega) hbs' (fun k hk => hk) hSR' (fun w w0 w1 => by omega)
      exact key20 0 bits S (by omega) (by omega) hbs (fun k hk => hk) hSR (fun u w u0 u1 => by omega)
  have hc1 : 1 ≤ cnt m (fun k => k = a) := by
    have := cnt_lt (m := m) (S := fun _ => False) (S' := fun k => k = a) (fun k hk => hk.elim) (c := a) hab.1 (fun z => z) rfl
    have := cnt_b (m := m) (S := fun _ => False) (by omega)
    omega
  exact EX6_reached fun _ _ _ _ => SX6_reached_0 (key8 1 _ (fun k => k = a) (by omega) (by omega) (BSet.one (by omega)) rfl (fun k hk => by rw [hk]; exact Rch.rf) (Or.inr hc1))
