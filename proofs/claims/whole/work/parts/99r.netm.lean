/-! NET: the model's side -/
/-- the model's roads -/
def NM (s : kS) (m : Int) (W : Int → Int → Int) : Prop := s 166 3 = m ∧ (2 ≤ m ∧ m ≤ 8) ∧ s 166 58 = rdN m ∧ ∀ a b, 0 ≤ a → a < b → b < m → s 201 (rd m a b) = a ∧ s 202 (rd m a b) = b ∧ s 200 (rd m a b) = W a b ∧ 0 ≤ W a b ∧ W a b ≤ 1300000
theorem NM.at' {s : kS} {m : Int} {W : Int → Int → Int} (h : NM s m W) {r : Int} (hr : 0 ≤ r ∧ r < rdN m) : ∃ a b, (0 ≤ a ∧ a < b ∧ b < m) ∧ r = rd m a b ∧ s 201 r = a ∧ s 202 r = b ∧ s 200 r = W a b ∧ 0 ≤ W a b ∧ W a b ≤ 1300000 := by
  obtain ⟨a, b, hab, e⟩ := rd_sur hr
  have := h.2.2.2 a b hab.1 hab.2.1 hab.2.2
  refine ⟨a, b, hab, e, ?_⟩
  rw [e]
  exact this
theorem M_reached {d : Nat} (hd : 2 ≤ d) {s : kS} {m a b t bound : Int} {W : Int → Int → Int} {Q : Int → kS → Prop} (hL : Lay s) (hN : NM s m W) (hW : ∀ u v, W u v = W v u) (hab : 0 ≤ a ∧ a < b ∧ b < m) (ht : t = bound + 1) (h : ∀ x, BSet x (Rch (adN m W a b t) a) → Q x s) : Ci d MX12_reached [(2, 166), (0, a), (0, bound), (0, rd m a b)] kN s Q := by
  obtain ⟨d, rfl⟩ : ∃ e, d = e + 1 := ⟨d - 1, by omega⟩
  obtain ⟨n1, n2, n3, n4⟩ := id hN
  have k200 := kl_200
  have k201 := kl_201
  have k202 := kl_202
  have h28 := rdN_28 n2
  have hadV : ∀ u w, adN m W a b t u w → 0 ≤ w ∧ w < m := fun u w e => e.2.1
  have hRV : ∀ k, Rch (adN m W a b t) a k → 0 ≤ k ∧ k < m := fun k hk => hk (fun x => 0 ≤ x ∧ x < m) ⟨hab.1, by omega⟩ (fun u w _ e => e.2.1)
  have key8 : ∀ i bits : Int, ∀ S : Int → Prop, 0 ≤ i → i ≤ m → BSet bits S → S a → (∀ k, S k → Rch (adN m W a b t) a k) → ((∀ v, Rch (adN m W a b t) a v → S v) ∨ i + 1 ≤ cnt m S) → LX12_reached_8 d kN Q 166 bound (rd m a b) bits i s := by
    refine up_to (e := m) ?_
    intro i ih bits S i1 im hbs hSa hSR hcl
    refine SX12_reached_8 ⟨o_166, ?_⟩
    rw [n1]
    refine ⟨fun q => h bits (hbs.cong (fun k k0 => ⟨hSR k, fun hk => ?_⟩)), fun q => ?_⟩
    · rcases hcl with hcl | hcl
      · exact hcl k hk
      · exact cnt_all (by omega) (by omega) k k0 (hRV k hk).2
    · have key20 : ∀ r bits : Int, ∀ S' : Int → Prop, 0 ≤ r → r ≤ rdN m → BSet bits S' → (∀ k, S k → S' k) → (∀ k, S' k → Rch (adN m W a b t) a k) → (∀ x y, 0 ≤ x → x < y → y < m → rd m x y < r → adN m W a b t x y → (S x → S' y) ∧ (S y → S' x)) → LX12_reached_20 d kN Q 166 bound (rd m a b) bits i r s := by
        refine up_to (e := rdN m) ?_
        intro r ihr bits S' r0 rm hbs' hSS hSR' hdone
        refine SX12_reached_20 ⟨o_166, ?_⟩
        rw [n3, ly_166_55 hL, ly_166_56 hL]
        refine ⟨fun q2 => ⟨by omega, ih (by omega) bits S' (by omega) (by omega) hbs' (hSS a hSa) hSR' (reach_pass hadV hSa hcl hSS (fun u w hu e => ?_))⟩, fun q2 => ?_⟩
        · have e1 := e.1
          have e2 := e.2.1
          have e3 := e.2.2.1
          by_cases c : u < w
          · have := rd_lt (m := m) (a := u) (b := w) ⟨e1.1, c, e2.2⟩
            exact (hdone u w e1.1 c e2.2 (by omega) e).1 hu
          · have := rd_lt (m := m) (a := w) (b := u) ⟨e2.1, by omega, e1.2⟩
            exact (hdone w u e2.1 (by omega) e1.2 (by omega) ⟨e2, e1, fun z => e3 z.symm, fun z => e.2.2.2.2.1 ⟨z.2, z.1⟩, fun z => e.2.2.2.1 ⟨z.2, z.1⟩, by rw [hW]; exact e.2.2.2.2.2⟩).2 hu
        · obtain ⟨x, y, hxy, er, x1, x2, x3, x4, x5⟩ := hN.at' (r := r) ⟨r0, by omega⟩
          have ex := hbs'.t (k := x) (by omega)
          have ey := hbs'.t (k := y) (by omega)
          have skip : ¬ ((S x ∨ S y) ∧ adN m W a b t x y) → (-2147483648 ≤ r + 1 ∧ r + 1 ≤ 2147483647) ∧ LX12_reached_20 d kN Q 166 bound (rd m a b) bits i (r + 1) s := fun hn => ⟨by omega, ihr (by omega) bits S' (by omega) (by omega) hbs' hSS hSR' (fun u w u0 uw wm hr e => by
            by_cases c : rd m u w = r
            · obtain ⟨e1, e2⟩ := rd_inj ⟨u0, uw, wm⟩ hxy (c.trans er)
              rw [e1, e2] at e ⊢
              exact ⟨fun z => absurd ⟨Or.inl z, e⟩ hn, fun z => absurd ⟨Or.inr z, e⟩ hn⟩
            · exact hdone u w u0 uw wm (by omega) e)⟩
          have addb : (S' x ∨ S' y) → adN m W a b t x y → (-2147483648 ≤ r + 1 ∧ r + 1 ≤ 2147483647) ∧ LX12_reached_20 d kN Q 166 bound (rd m a b) (kor bits (kor (kishl 1 x) (kishl 1 y))) i (r + 1) s := fun h1 had => ⟨by omega, ihr (by omega) _ (fun k => (S' k ∨ k = x) ∨ k = y) (by omega) (by omega) (hbs'.add2 (by omega) (by omega)) (fun k hk => Or.inl (Or.inl (hSS k hk))) (fun k hk => by
            have had' : adN m W a b t y x := ⟨had.2.1, had.1, fun z => had.2.2.1 z.symm, fun z => had.2.2.2.2.1 ⟨z.2, z.1⟩, fun z => had.2.2.2.1 ⟨z.2, z.1⟩, by rw [hW]; exact had.2.2.2.2.2⟩
            have hx : Rch (adN m W a b t) a x := h1.elim (hSR' x) (fun z => (hSR' y z).st had')
            have hy : Rch (adN m W a b t) a y := h1.elim (fun z => (hSR' x z).st had) (hSR' y)
            rcases hk with (hk | hk) | hk
            · exact hSR' k hk
            · rw [hk]; exact hx
            · rw [hk]; exact hy) (fun u w u0 uw wm hr e => by
            by_cases c : rd m u w = r
            · obtain ⟨e1, e2⟩ := rd_inj ⟨u0, uw, wm⟩ hxy (c.trans er)
              rw [e1, e2]
              exact ⟨fun _ => Or.inr rfl, fun _ => Or.inl (Or.inr rfl)⟩
            · have := hdone u w u0 uw wm (by omega) e
              exact ⟨fun z => Or.inl (Or.inl (this.1 z)), fun z => Or.inl (Or.inl (this.2 z))⟩)⟩
          rw [x1, x3]
          refine ⟨fun c => skip (fun z => ?_), fun c => ⟨a_200, by omega, fun c2 => ⟨a_201, by omega, M_has (by omega) (fun c3 => ⟨fun _ => ?_, fun e => by omega⟩) (fun c3 => ⟨fun e => absurd rfl e, fun _ => ?_⟩)⟩, fun c2 => skip (fun z => ?_)⟩⟩
          · obtain ⟨e1, e2⟩ := rd_inj hxy hab (er.symm.trans c)
            exact z.2.2.2.2.1 ⟨e1, e2⟩
          · have hSx : S' x := Classical.byContradiction (fun z => by rw [ex, cif_neg z] at c3; omega)
            have had : adN m W a b t x y := ⟨by omega, by omega, by omega, fun z => c (by rw [er, z.1, z.2]), fun z => by omega, by omega⟩
            rw [ly_166_56 hL, ly_166_57 hL, x1, x2]
            exact ⟨a_201, by omega, a_202, by omega, addb (Or.inl hSx) had⟩
          · have hnx : ¬ S' x := fun z => by rw [ex, cif_pos z] at c3; omega
            rw [ly_166_57 hL, x2]
            refine ⟨a_202, by omega, M_has (by omega) (fun c4 => ⟨fun e => by omega, fun _ => ?_⟩) (fun c4 => ⟨fun _ => skip (fun z => ?_), fun e => absurd rfl e⟩)⟩
            · have hSy : S' y := Classical.byContradiction (fun z => by rw [ey, cif_neg z] at c4; omega)
              have had : adN m W a b t x y := ⟨by omega, by omega, by omega, fun z => c (by rw [er, z.1, z.2]), fun z => by omega, by omega⟩
              rw [ly_166_56 hL, ly_166_57 hL, x1, x2]
              exact ⟨a_201, by omega, a_202, by omega, addb (Or.inr hSy) had⟩
            · have hny : ¬ S' y := fun z => by rw [ey, cif_pos z] at c4; omega
              exact z.1.elim (fun y => hnx (hSS _ y)) (fun y => hny (hSS _ y))
          · have := z.2.2.2.2.2.2
            omega
      exact key20 0 bits S (by omega) (by omega) hbs (fun k hk => hk) hSR (fun x y x0 xy ym hr => by
        have := rd_lt (m := m) (a := x) (b := y) ⟨x0, xy, ym⟩
        omega)
  have hc1 : 1 ≤ cnt m (fun k => k = a) := by
    have := cnt_lt (m := m) (S := fun _ => False) (S' := fun k => k = a) (fun k hk => hk.elim) (c := a) ⟨hab.1, by omega⟩ (fun z => z) rfl
    have := cnt_b (m := m) (S := fun _ => False) (by omega)
    omega
  exact EX12_reached fun _ _ _ _ => SX12_reached_0 (key8 0 _ (fun k => k = a) (by omega) (by omega) (BSet.one (by omega)) rfl (fun k hk => by rw [hk]; exact Rch.rf) (Or.inr (by omega)))
theorem M_costOfNet {d : Nat} (hd : 2 ≤ d) {s : kS} {m : Int} {W : Int → Int → Int} {Q : Int → kS → Prop} (hL : Lay s) (hN : NM s m W) (hW : ∀ u v, W u v = W v u) (h : Q (pot m W potM (fun k => k = 0)) s) : Ci d MX12_costOfNet [(2, 166)] kN s Q := by
  obtain ⟨d, rfl⟩ : ∃ e, d = e + 1 := ⟨d - 1, by omega⟩
  obtain ⟨n1, n2, n3, n4⟩ := id hN
  have k200 := kl_200
  have k201 := kl_201
  have k202 := kl_202
  have h28 := rdN_28 n2
  have hM := potM_le
  have hp2 := p2_le (j := m) (by omega)
  have hks := kishl_1 (j := m) (by omega)
  have key4 : ∀ f : Nat, ∀ bits sum : Int, ∀ S : Int → Prop, m - cnt m S ≤ f → BSet bits S → S 0 → (∀ k, S k → 0 ≤ k ∧ k < m) → (0 ≤ sum ∧ sum ≤ 1300000 * cnt m S) → pot m W potM (fun k => k = 0) = sum + pot m W potM S → LX12_costOfNet_4 d kN Q 166 bits sum s := by
    intro f
    induction f with
    | zero =>
      intro bits sum S hf hbs hS0 hV hsum hpot
      have hall := cnt_all (m := m) (S := S) (by omega) (by omega)
      have hp0 := pot_end (m := m) (W := W) (M := potM) (S := S) hall
      have he : pot m W potM (fun k => k = 0) = sum := by omega
      refine SX12_costOfNet_4 ⟨o_166, ?_⟩
      rw [n1]
      refine ⟨by omega, fun _ => by rw [he] at h; exact h, fun c => absurd ((hbs.full (by omega) hV).mpr hall) c⟩
    | succ f ih =>
      intro bits sum S hf hbs hS0 hV hsum hpot
      have hcb := cnt_b (m := m) (S := S) (by omega)
      refine SX12_costOfNet_4 ⟨o_166, ?_⟩
      rw [n1]
      refine ⟨by omega, fun c => ?_, fun c => ?_⟩
      · have hall := (hbs.full (by omega) hV).mp c
        have hp0 := pot_end (m := m) (W := W) (M := potM) (S := S) hall
        have he : pot m W potM (fun k => k = 0) = sum := by omega
        rw [he] at h
        exact h
      · have hex : ∃ v, 0 ≤ v ∧ v < m ∧ ¬ S v := Classical.byContradiction (fun z => c ((hbs.full (by omega) hV).mpr (fun k k0 k1 => Classical.byContradiction (fun y => z ⟨k, k0, k1, y⟩))))
        obtain ⟨v1, v10, v1m, hv1⟩ := hex
        have cr : ∀ r, 0 ≤ r → r < rdN m → Prop := fun _ _ _ => True
        have key21 : ∀ r best : Int, 0 ≤ r → r ≤ rdN m → ((best = -1 ∧ ∀ x y, 0 ≤ x → x < y → y < m → rd m x y < r → (S x ↔ S y)) ∨ ((0 ≤ best ∧ best < r) ∧ (¬ (S (s 201 best) ↔ S (s 202 best))) ∧ ∀ x y, 0 ≤ x → x < y → y < m → rd m x y < r → ¬ (S x ↔ S y) → s 200 best ≤ W x y)) → LX12_costOfNet_21 d kN Q 166 bits sum best r s := by
          refine up_to (e := rdN m) ?_
          intro r ihr best r0 rm hb
          refine SX12_costOfNet_21 ⟨o_166, ?_⟩
          rw [n3, ly_166_55 hL, ly_166_56 hL, ly_166_57 hL]
          refine ⟨fun q => ?_, fun q => ?_⟩
          · rcases hb with ⟨_, hno⟩ | ⟨hb, hcr, hmin⟩
            · have hlt := rd_lt (m := m) (a := 0) (b := v1) ⟨by omega, by have : v1 ≠ 0 := fun e => hv1 (by rw [e]; exact hS0); omega, v1m⟩
              exact absurd ((hno 0 v1 (by omega) (by have : v1 ≠ 0 := fun e => hv1 (by rw [e]; exact hS0); omega) v1m (by omega)).mp hS0) hv1
            · obtain ⟨x, y, hxy, er, x1, x2, x3, x4, x5⟩ := hN.at' (r := best) ⟨hb.1, by omega⟩
              rw [x1, x2] at hcr
              rw [x1, x2, x3]
              have hmin' : ∀ p v, S p → 0 ≤ v → v < m → ¬ S v → W x y ≤ W p v := fun p v hp v0 vm hv => by
                have hpv := hV p hp
                by_cases c1 : p < v
                · have hlt := rd_lt (m := m) (a := p) (b := v) ⟨hpv.1, c1, vm⟩
                  have := hmin p v hpv.1 c1 vm (by omega) (fun z => hv (z.mp hp))
                  omega
                · have hne : p ≠ v := fun e => hv (by rw [← e]; exact hp)
                  have hlt := rd_lt (m := m) (a := v) (b := p) ⟨v0, by omega, hpv.2⟩
                  have := hmin v p v0 (by omega) hpv.2 (by omega) (fun z => hv (z.mpr hp))
                  rw [hW p v]
                  omega
              have go : ∀ p v, S p → ¬ S v → (0 ≤ v ∧ v < m) → W p v = W x y → (∀ k, ((S k ∨ k = x) ∨ k = y) ↔ (S k ∨ k = v)) → LX12_costOfNet_4 d kN Q 166 (kor bits (kor (kishl 1 x) (kishl 1 y))) (sum + W x y) s := fun p v hp hv hvm hpv hiff => by
                have hst := pot_step (M := potM) (c := W x y) hW hV hp hvm hv hpv hmin' (by omega)
                have hcl := cnt_lt (m := m) (S := S) (S' := fun k => S k ∨ k = v) (fun k hk => Or.inl hk) (c := v) hvm hv (Or.inr rfl)
                refine ih _ _ (fun k => S k ∨ k = v) (by omega) ((hbs.add2 (by omega) (by omega)).cong (fun k _ => hiff k)) (Or.inl hS0) (fun k hk => hk.elim (hV k) (fun z => by omega)) (by omega) (by omega)
              refine ⟨a_200, by omega, by omega, a_201, by omega, a_202, by omega, ?_⟩
              by_cases hx : S x
              · have hy : ¬ S y := fun z => hcr ⟨fun _ => z, fun _ => hx⟩
                refine go x y hx hy (by omega) rfl (fun k => ⟨fun z => z.elim (fun z => z.elim Or.inl (fun e => by rw [e]; exact Or.inl hx)) Or.inr, fun z => z.elim (fun z => Or.inl (Or.inl z)) Or.inr⟩)
              · have hy : S y := Classical.byContradiction (fun z => hcr ⟨fun w => absurd w hx, fun w => absurd w z⟩)
                refine go y x hy hx (by omega) (hW y x) (fun k => ⟨fun z => z.elim (fun z => z.elim Or.inl Or.inr) (fun e => by rw [e]; exact Or.inl hy), fun z => z.elim (fun z => Or.inl (Or.inl z)) (fun z => Or.inl (Or.inr z))⟩)
          · obtain ⟨x, y, hxy, er, x1, x2, x3, x4, x5⟩ := hN.at' (r := r) ⟨r0, by omega⟩
            have ex := hbs.t (k := x) (by omega)
            have ey := hbs.t (k := y) (by omega)
            have skip : (S x ↔ S y) ∨ ((0 ≤ best ∧ best < r) ∧ s 200 best ≤ W x y) → (-2147483648 ≤ r + 1 ∧ r + 1 ≤ 2147483647) ∧ LX12_costOfNet_21 d kN Q 166 bits sum best (r + 1) s := fun hc => ⟨by omega, ihr (by omega) best (by omega) (by omega) (by
              rcases hb with ⟨e, hno⟩ | ⟨hb, hcr, hmin⟩
              · refine Or.inl ⟨e, fun u w u0 uw wm hr => ?_⟩
                by_cases cc : rd m u w = r
                · obtain ⟨e1, e2⟩ := rd_inj ⟨u0, uw, wm⟩ hxy (cc.trans er)
                  rw [e1, e2]
                  exact hc.elim id (fun z => by omega)
                · exact hno u w u0 uw wm (by omega)
              · refine Or.inr ⟨by omega, hcr, fun u w u0 uw wm hr hn => ?_⟩
                by_cases cc : rd m u w = r
                · obtain ⟨e1, e2⟩ := rd_inj ⟨u0, uw, wm⟩ hxy (cc.trans er)
                  rw [e1, e2] at hn ⊢
                  exact hc.elim (fun z => absurd z hn) (fun z => z.2)
                · exact hmin u w u0 uw wm (by omega) hn)⟩
            have take : ¬ (S x ↔ S y) → (best = -1 ∨ W x y < s 200 best) → (-2147483648 ≤ r + 1 ∧ r + 1 ≤ 2147483647) ∧ LX12_costOfNet_21 d kN Q 166 bits sum r (r + 1) s := fun hc hl => ⟨by omega, ihr (by omega) r (by omega) (by omega) (Or.inr ⟨by omega, by rw [x1, x2]; exact hc, fun u w u0 uw wm hr hn => by
              rw [x3]
              by_cases cc : rd m u w = r
              · obtain ⟨e1, e2⟩ := rd_inj ⟨u0, uw, wm⟩ hxy (cc.trans er)
                rw [e1, e2]
                exact Int.le_refl _
              · rcases hb with ⟨e, hno⟩ | ⟨hb, hcr, hmin⟩
                · exact absurd (hno u w u0 uw wm (by omega)) hn
                · have := hmin u w u0 uw wm (by omega) hn
                  omega⟩)⟩
            rw [x1]
            have fin : ∀ u v : Int, ((u = 1 ∧ S x) ∨ (u = 0 ∧ ¬ S x)) → ((v = 1 ∧ S y) ∨ (v = 0 ∧ ¬ S y)) → (u = v → (-2147483648 ≤ r + 1 ∧ r + 1 ≤ 2147483647) ∧ LX12_costOfNet_21 d kN Q 166 bits sum best (r + 1) s) ∧ (¬ u = v → (best = -1 → (-2147483648 ≤ r + 1 ∧ r + 1 ≤ 2147483647) ∧ LX12_costOfNet_21 d kN Q 166 bits sum r (r + 1) s) ∧ (¬ best = -1 → isA 20 kN 200 ∧ (((0 : Int) ≤ r ∧ r < klen 200) ∧ (((0 : Int) ≤ best ∧ best < klen 200) ∧ ((s 200 best ≤ s 200 r → (-2147483648 ≤ r + 1 ∧ r + 1 ≤ 2147483647) ∧ LX12_costOfNet_21 d kN Q 166 bits sum best (r + 1) s) ∧ (¬ s 200 best ≤ s 200 r → (-2147483648 ≤ r + 1 ∧ r + 1 ≤ 2147483647) ∧ LX12_costOfNet_21 d kN Q 166 bits sum r (r + 1) s)))))) := fun u v hu hv => by
              have hbr : ¬ best = -1 → 0 ≤ best ∧ best < r := fun z => hb.elim (fun y => absurd y.1 z) (fun y => y.1)
              refine ⟨fun c => skip (Or.inl ?_), fun c => ⟨fun c2 => take ?_ (Or.inl c2), fun c2 => ⟨a_200, by omega, by have := hbr c2; omega, fun c3 => skip (Or.inr ⟨hbr c2, by omega⟩), fun c3 => take ?_ (Or.inr (by omega))⟩⟩⟩
              · rcases hu with ⟨e1, h1⟩ | ⟨e1, h1⟩ <;> rcases hv with ⟨e2, h2⟩ | ⟨e2, h2⟩
                · exact ⟨fun _ => h2, fun _ => h1⟩
                · omega
                · omega
                · exact ⟨fun z => absurd z h1, fun z => absurd z h2⟩
              · rcases hu with ⟨e1, h1⟩ | ⟨e1, h1⟩ <;> rcases hv with ⟨e2, h2⟩ | ⟨e2, h2⟩
                · omega
                · exact fun z => h2 (z.mp h1)
                · exact fun z => h1 (z.mpr h2)
                · omega
              · rcases hu with ⟨e1, h1⟩ | ⟨e1, h1⟩ <;> rcases hv with ⟨e2, h2⟩ | ⟨e2, h2⟩
                · omega
                · exact fun z => h2 (z.mp h1)
                · exact fun z => h1 (z.mpr h2)
                · omega
            have i1 : ∀ z, kand (kishr bits x) 1 = 1 → (1 = z → S x) := fun z c3 _ => Classical.byContradiction (fun w => by rw [ex, cif_neg w] at c3; omega)
            have i0 : ¬ kand (kishr bits x) 1 = 1 → ¬ S x := fun c3 w => c3 (by rw [ex, cif_pos w])
            have j1 : kand (kishr bits y) 1 = 1 → S y := fun c3 => Classical.byContradiction (fun w => by rw [ey, cif_neg w] at c3; omega)
            have j0 : ¬ kand (kishr bits y) 1 = 1 → ¬ S y := fun c3 w => c3 (by rw [ey, cif_pos w])
            refine ⟨a_201, by omega, M_has (by omega) (fun c3 => ?_) (fun c3 => ?_)⟩
            · rw [ly_166_57 hL, x2]
              exact ⟨a_202, by omega, M_has (by omega) (fun c4 => by rw [ly_166_55 hL]; exact fin 1 1 (Or.inl ⟨rfl, i1 1 c3 rfl⟩) (Or.inl ⟨rfl, j1 c4⟩)) (fun c4 => by rw [ly_166_55 hL]; exact fin 1 0 (Or.inl ⟨rfl, i1 1 c3 rfl⟩) (Or.inr ⟨rfl, j0 c4⟩))⟩
            · rw [ly_166_57 hL, x2]
              exact ⟨a_202, by omega, M_has (by omega) (fun c4 => by rw [ly_166_55 hL]; exact fin 0 1 (Or.inr ⟨rfl, i0 c3⟩) (Or.inl ⟨rfl, j1 c4⟩)) (fun c4 => by rw [ly_166_55 hL]; exact fin 0 0 (Or.inr ⟨rfl, i0 c3⟩) (Or.inr ⟨rfl, j0 c4⟩))⟩
        exact key21 0 (-1) (by omega) (by omega) (Or.inl ⟨rfl, fun x y x0 xy ym hr => by
          have := rd_lt (m := m) (a := x) (b := y) ⟨x0, xy, ym⟩
          omega⟩)
  have hone : BSet 1 (fun k => k = 0) := BSet.one (a := 0) (by omega)
  have hc1 := cnt_b (m := m) (S := fun k => k = 0) (by omega)
  exact EX12_costOfNet fun _ => SX12_costOfNet_0 (key4 8 1 0 (fun k => k = 0) (by omega) hone rfl (fun k hk => by omega) (by omega) (by omega))
