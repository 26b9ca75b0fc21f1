/-! NET: the roads' numbers; which are needed; the class's net -/
def bsR (m : Int) : Nat → Int
  | 0 => 0
  | n + 1 => bsR m n + (m - 1 - n)
def rd (m a b : Int) : Int := bsR m a.toNat + (b - a - 1)
theorem rd_s {m a b : Int} : rd m a (b + 1) = rd m a b + 1 := by
  unfold rd
  omega
theorem rd_nx {m a : Int} (ha : 0 ≤ a) : rd m (a + 1) (a + 1 + 1) = rd m a m := by
  unfold rd
  rw [show (a + 1).toNat = a.toNat + 1 by omega, bsR]
  omega
theorem bsR_mono {m : Int} {n : Nat} : ∀ k : Nat, n ≤ k → (k : Int) ≤ m → bsR m n ≤ bsR m k := by
  intro k
  induction k with
  | zero =>
    intro h _
    rw [show n = 0 by omega]
    exact Int.le_refl _
  | succ k ih =>
    intro h hm
    by_cases e : n = k + 1
    · rw [e]
      exact Int.le_refl _
    · have := ih (by omega) (by omega)
      rw [bsR]
      omega
theorem rd_b {m a b : Int} (h : 0 ≤ a ∧ a < b ∧ b < m) : 0 ≤ rd m a b ∧ rd m a b < bsR m (a.toNat + 1) ∧ bsR m (a.toNat + 1) ≤ bsR m m.toNat ∧ bsR m a.toNat ≤ rd m a b := by
  have h1 := bsR_mono (m := m) (n := 0) a.toNat (by omega) (by omega)
  have h2 := bsR_mono (m := m) (n := a.toNat + 1) m.toNat (by omega) (by omega)
  have h0 : bsR m 0 = 0 := rfl
  have e : bsR m (a.toNat + 1) = bsR m a.toNat + (m - 1 - a.toNat) := rfl
  unfold rd
  omega
theorem rd_inj {m a b a' b' : Int} (h : 0 ≤ a ∧ a < b ∧ b < m) (h' : 0 ≤ a' ∧ a' < b' ∧ b' < m) (e : rd m a b = rd m a' b') : a = a' ∧ b = b' := by
  have r1 := rd_b h
  have r2 := rd_b h'
  by_cases c1 : a < a'
  · have := bsR_mono (m := m) (n := a.toNat + 1) a'.toNat (by omega) (by omega)
    omega
  · by_cases c2 : a' < a
    · have := bsR_mono (m := m) (n := a'.toNat + 1) a.toNat (by omega) (by omega)
      omega
    · have ea : a = a' := by omega
      subst ea
      unfold rd at e
      exact ⟨rfl, by omega⟩
def rdN (m : Int) : Int := rd m m (m + 1)
theorem rdN_eq {m : Int} : rdN m = bsR m m.toNat := by
  unfold rdN rd
  omega
theorem rd_lt {m a b : Int} (h : 0 ≤ a ∧ a < b ∧ b < m) : 0 ≤ rd m a b ∧ rd m a b < rdN m := by
  have := rd_b h
  rw [rdN_eq]
  omega
theorem rdN_28 {m : Int} (h : 2 ≤ m ∧ m ≤ 8) : 1 ≤ rdN m ∧ rdN m ≤ 28 := by
  rcases (show m = 2 ∨ m = 3 ∨ m = 4 ∨ m = 5 ∨ m = 6 ∨ m = 7 ∨ m = 8 by omega) with rfl | rfl | rfl | rfl | rfl | rfl | rfl <;> decide
theorem rd_sur {m r : Int} (h : 0 ≤ r ∧ r < rdN m) : ∃ a b, (0 ≤ a ∧ a < b ∧ b < m) ∧ r = rd m a b := by
  have key : ∀ n : Nat, (n : Int) ≤ m → r < bsR m n → ∃ a b, (0 ≤ a ∧ a < b ∧ b < m) ∧ r = rd m a b := by
    intro n
    induction n with
    | zero =>
      intro _ hr
      have h0 : bsR m 0 = 0 := rfl
      omega
    | succ n ih =>
      intro hn hr
      by_cases c : r < bsR m n
      · exact ih (by omega) c
      · rw [bsR] at hr
        refine ⟨n, r - bsR m n + n + 1, by omega, ?_⟩
        unfold rd
        rw [show ((n : Int)).toNat = n by omega]
        omega
  rw [rdN_eq] at h
  by_cases hm : 0 ≤ m
  · exact key m.toNat (by omega) h.2
  · rw [show m.toNat = 0 by omega] at h
    have h0 : bsR m 0 = 0 := rfl
    omega
def onN (m : Int) (W : Int → Int → Int) (ia r : Int) : Prop := ∃ a b, (0 ≤ a ∧ a < b ∧ b < m) ∧ r = rd m a b ∧ ¬ Rch (adN m W a b (W a b + ia)) a b
theorem onN_at {m : Int} {W : Int → Int → Int} {ia a b : Int} (h : 0 ≤ a ∧ a < b ∧ b < m) : onN m W ia (rd m a b) ↔ ¬ Rch (adN m W a b (W a b + ia)) a b := by
  constructor
  · rintro ⟨a', b', h', e, hn⟩
    obtain ⟨e1, e2⟩ := rd_inj h h' e
    rw [e1, e2]
    exact hn
  · intro hn
    exact ⟨a, b, h, rfl, hn⟩
noncomputable def netB (m : Int) (W : Int → Int → Int) (ia : Int) : Int := bitsF (onN m W ia) (rdN m).toNat
theorem X6_needed {d : Nat} (hd : 2 ≤ d) {s : kS} {m f ia : Int} {W : Int → Int → Int} {Q : Int → kS → Prop} (hL : Lay s) (hN : NW s m W) (hf : (f = 0 ∧ ia = 0) ∨ (f = 1 ∧ ia = 1)) (h : Q (netB m W ia) s) : Ci d MX6_needed [(2, 63), (0, f)] kN s Q := by
  obtain ⟨d, rfl⟩ : ∃ e, d = e + 1 := ⟨d - 1, by omega⟩
  obtain ⟨n1, n2, n3⟩ := id hN
  have k64 := (net_64 hL).2
  have h28 := rdN_28 n2
  have key7 : ∀ a bits road : Int, 0 ≤ a → a ≤ m → road = rd m a (a + 1) → bits = bitsF (onN m W ia) road.toNat → LX6_needed_7 d kN Q 63 f bits road a s := by
    refine up_to (e := m) ?_
    intro a iha bits road a0 am hrd hbits
    refine SX6_needed_7 ⟨isO_k (by decide +kernel), ?_⟩
    rw [n1]
    refine ⟨fun q => ?_, fun q => ⟨by omega, ?_⟩⟩
    · rw [hbits, hrd, show a = m by omega]
      exact h
    · have key22 : ∀ b bits road : Int, a + 1 ≤ b → b ≤ m → road = rd m a b → bits = bitsF (onN m W ia) road.toNat → LX6_needed_22 d kN Q 63 f bits road a b s := by
        refine up_to (e := m) ?_
        intro b ihb bits road b0 bm hrd hbits
        refine SX6_needed_22 ⟨isO_k (by decide +kernel), ?_⟩
        rw [n1, ly_63_0 hL]
        refine ⟨fun q2 => ⟨by omega, iha (by omega) bits road (by omega) (by omega) (by rw [hrd, show b = m by omega, rd_nx a0]) hbits⟩, fun q2 => ?_⟩
        have hr := net_row hL (a := a) (by omega)
        have hv := n3 a b (by omega) (by omega) (by omega) (by omega) (by omega)
        have hp : 0 ≤ a ∧ a < b ∧ b < m := ⟨a0, by omega, by omega⟩
        have hlt := rd_lt hp
        have hbs := bitsF_s (on := onN m W ia) (p := road) (by omega)
        rw [hr.1, hv.1]
        have nx1 : Rch (adN m W a b (W a b + ia)) a b → (-2147483648 ≤ road + 1 ∧ road + 1 ≤ 2147483647) ∧ (-2147483648 ≤ b + 1 ∧ b + 1 ≤ 2147483647) ∧ LX6_needed_22 d kN Q 63 f bits (road + 1) a (b + 1) s := fun hR => ⟨by omega, by omega, ihb (by omega) bits (road + 1) (by omega) (by omega) (by rw [rd_s, hrd]) (by rw [hbs, cif_neg (fun z => by rw [hrd] at z; exact (onN_at hp).mp z hR), hbits])⟩
        have nx0 : ¬ Rch (adN m W a b (W a b + ia)) a b → (-2147483648 ≤ road + 1 ∧ road + 1 ≤ 2147483647) ∧ (-2147483648 ≤ b + 1 ∧ b + 1 ≤ 2147483647) ∧ LX6_needed_22 d kN Q 63 f (kor bits (kishl 1 road)) (road + 1) a (b + 1) s := fun hR => ⟨by omega, by omega, ihb (by omega) _ (road + 1) (by omega) (by omega) (by rw [rd_s, hrd]) (by rw [hbs, cif_pos (by rw [hrd]; exact (onN_at hp).mpr hR), hbits])⟩
        refine ⟨fun q3 => ⟨(net_64 hL).1, by omega, hr.2.1, by omega, ?_⟩, fun q3 => ⟨(net_64 hL).1, by omega, hr.2.1, by omega, by omega, ?_⟩⟩
        · have hia : ia = 0 := by omega
          rw [hia, Int.add_zero] at nx1 nx0
          refine X6_reached (by omega) hL hN ⟨by omega, by omega, by omega⟩ (fun x hx => ?_)
          rw [hx.t (k := b) (by omega)]
          refine ⟨fun c => nx1 (Classical.byContradiction (fun z => c (cif_neg z))), fun c => nx0 (fun z => c (by rw [cif_pos z]; omega))⟩
        · have hia : ia = 1 := by omega
          rw [hia] at nx1 nx0
          refine X6_reached (by omega) hL hN ⟨by omega, by omega, by omega⟩ (fun x hx => ?_)
          rw [hx.t (k := b) (by omega)]
          refine ⟨fun c => nx1 (Classical.byContradiction (fun z => c (cif_neg z))), fun c => nx0 (fun z => c (by rw [cif_pos z]; omega))⟩
      exact key22 (a + 1) bits road (by omega) (by omega) hrd hbits
  exact EX6_needed fun _ _ => SX6_needed_0 (key7 0 0 0 (by omega) (by omega) rfl rfl)
/-! what roads cost, as answers -/
noncomputable def cstN (T tc : Int → Int) (a b : Int) : Int := sumP T (tc b) (tc a) / 1000
noncomputable def wN (T tc : Int → Int) (u v : Int) : Int := if u < v then cstN T tc u v else cstN T tc v u
theorem wN_sy {T tc : Int → Int} : ∀ u v, wN T tc u v = wN T tc v u := fun u v => by
  unfold wN
  by_cases c1 : u < v
  · rw [if_pos c1, if_neg (by omega)]
  · by_cases c2 : v < u
    · rw [if_neg c1, if_pos c2]
    · rw [show u = v by omega]
noncomputable def netV (m : Int) (W : Int → Int → Int) (what : Int) : Int := if what = 0 then pot m W potM (fun k => k = 0) else if what = 1 then netB m W 1 else netB m W 0
noncomputable def netA (σ : kS) (g load wet what : Int) : Int := cif (isMan σ g load ∧ 2 ≤ σ 19 1 ∧ 0 ≤ what ∧ what ≤ 2) (netV (σ 19 1) (wN (tolN σ g load wet) (σ 20)) what) (-1)
theorem netA_fr {σ s : kS} (h : Fr σ s) {g load wet what : Int} : netA s g load wet what = netA σ g load wet what := by
  unfold netA
  rw [isMan_fr h, tolN_fr h, h.1 19 (by unfold scr; omega), h.1 20 (by unfold scr; omega)]
theorem keepN {σ s : kS} (hI : Inv σ) (ho : off [26, 29, 31, 63, 65, 66, 67, 68, 69, 70, 71, 72] σ s) (h26 : ∀ j, j ≠ 5 → s 26 j = σ 26 j) (hL : Lay s) : Keep σ s := by
  obtain ⟨b1, ⟨b2, b3, b4, b5, b6, b7⟩, b8⟩ := hI.2.1
  have ne : ∀ k, ¬ (k = 26 ∨ k = 29 ∨ k = 31 ∨ 63 ≤ k ∧ k ≤ 72) → s k = σ k := fun k h1 => ho k (by simp only [List.mem_cons, List.not_mem_nil, or_false]; omega)
  exact ⟨Fr.offX ho (by decide), hL, ⟨by unfold Bes; rw [ne 27 (by decide)]; exact b1, ⟨b2.cong (ne 36 (by decide)), b3.cong (ne 38 (by decide)), b4.cong (ne 43 (by decide)), b5.cong (ne 45 (by decide)), b6.cong (ne 57 (by decide)), b7.cong (ne 59 (by decide))⟩, b8.cong (ne 0 (by decide)) (ne 35 (by decide)) (ne 170 (by decide)) (ne 171 (by decide)) (fun j j0 j1 => h26 j (by omega))⟩⟩
theorem X6_put {d : Nat} (hd : 1 ≤ d) {s : kS} {m a b c : Int} {Q : kS → Prop} (hL : Lay s) (h1 : s 63 1 = m) (hm : m ≤ 8) (hab : 0 ≤ a ∧ a < b ∧ b < m) (h : ∀ u, off [65, 66, 67, 68, 69, 70, 71, 72] s u → Lay u → (∀ x y, 0 ≤ x → x < 8 → u (65 + x) y = if (x = a ∧ y = b) ∨ (x = b ∧ y = a) then c else s (65 + x) y) → Q u) : Cv d MX6_put [(2, 63), (0, a), (0, b), (0, c)] kN s Q := by
  obtain ⟨d, rfl⟩ : ∃ e, d = e + 1 := ⟨d - 1, by omega⟩
  have k64 := (net_64 hL).2
  have hra := net_row hL (a := a) (by omega)
  refine EX6_put fun _ _ _ _ => SX6_put_0 ⟨fun q => by omega, fun q => ⟨isO_k (by decide +kernel), ?_⟩⟩
  rw [h1, ly_63_0 hL, hra.1]
  refine ⟨fun q => by omega, fun q => ⟨fun q => by omega, fun q => ⟨fun q => by omega, fun q => ⟨(net_64 hL).1, by omega, hra.2.1, by omega, fun s1 e1 => ?_⟩⟩⟩⟩
  have L1 : Lay s1 := by rw [e1]; exact hL.kstA hra.2.1
  have hrb := net_row L1 (a := b) (by omega)
  rw [ly_63_0 L1, hrb.1]
  refine ⟨(net_64 hL).1, by omega, hrb.2.1, by omega, fun s2 e2 => h s2 ?_ (by rw [e2]; exact L1.kstA hrb.2.1) (fun x y x0 x1 => ?_)⟩
  · rw [e2, e1]
    exact (off.rfl'.kst (by simp only [List.mem_cons, List.not_mem_nil, or_false]; omega)).kst (by simp only [List.mem_cons, List.not_mem_nil, or_false]; omega)
  · rw [e2, kst_ap]
    by_cases c2 : 65 + x = 65 + b ∧ y = a
    · rw [if_pos c2, if_pos (Or.inr ⟨by omega, c2.2⟩)]
    · rw [if_neg c2, e1, kst_ap]
      by_cases c1 : 65 + x = 65 + a ∧ y = b
      · rw [if_pos c1, if_pos (Or.inl ⟨by omega, c1.2⟩)]
      · rw [if_neg c1, if_neg (fun z => z.elim (fun z => c1 ⟨by omega, z.2⟩) (fun z => c2 ⟨by omega, z.2⟩))]
theorem X_net {d : Nat} (hd : 12 ≤ d) {σ : kS} {g load wet what : Int} {Q : Int → kS → Prop} (hI : Inv σ) (hw : wet = 0 ∨ wet = 1) (h : ∀ s, Keep σ s → Q (netA σ g load wet what) s) : Ci d MX11_net [(2, 0), (0, g), (0, load), (0, wet), (0, what)] kN σ Q := by
  obtain ⟨d, rfl⟩ : ∃ e, d = e + 1 := ⟨d - 1, by omega⟩
  have hg6 := hI.2.2.2.2.2.2.1.1
  have k17 := kl_17
  have ht8 := towns_8 hI
  have hno : ¬ (isMan σ g load ∧ 2 ≤ σ 19 1 ∧ 0 ≤ what ∧ what ≤ 2) → Q (-1) σ := fun z => by
    have hs := h σ hI.self
    unfold netA at hs
    rw [cif_neg z] at hs
    exact hs
  refine EX11_net fun _ _ _ _ _ => SX11_net_0 ⟨o_0, X_isManner (by omega) (fun c1 => ⟨fun e => by omega, fun _ => ?_⟩) (fun c1 => ⟨fun _ => hno (fun z => c1 z.1), fun e => absurd rfl e⟩)⟩
  have hgo := goer_at hI.1 (i := g) (by omega)
  rw [ly_0_9 hI.1, ly_0_5 hI.1, ly_0_14 hI.1, hgo.1, ly_0_0 hI.1]
  refine ⟨o_19, fun c2 => hno (fun z => by omega), fun c2 => ⟨fun c3 => hno (fun z => by omega), fun c3 => ⟨fun c4 => ⟨a_17, by omega, o_26, X_fitK (by omega) hI c1 hw (fun s1 hk1 hT _ => ?_)⟩, fun c4 => hno (fun z => by omega)⟩⟩⟩
  have hI1 := hI.keep hk1
  have hOK : isMan σ g load ∧ 2 ≤ σ 19 1 ∧ 0 ≤ what ∧ what ≤ 2 := ⟨c1, by omega, by omega, c4⟩
  have e19 : s1 19 = σ 19 := hk1.1.1 19 (by unfold scr; omega)
  have e20 : s1 20 = σ 20 := hk1.1.1 20 (by unfold scr; omega)
  have ht := tolH_ok (σ := σ) (H := landM σ) (g := g) (load := load) (wet := wet)
  have hfin : ∀ u, Keep s1 u → Q (netV (σ 19 1) (wN (tolN σ g load wet) (σ 20)) what) u := fun u hu => by
    have hs := h u (hk1.trans hu)
    unfold netA at hs
    rw [cif_pos hOK] at hs
    exact hs
  have hcell := hI.2.2.2.2.1.1.2
  have hTT : TEq (s1 28) (tolN σ g load wet) := hT
  generalize hTg : tolN σ g load wet = T at *
  have ht : TolOK T := by rw [← hTg]; exact ht
  rw [ly_0_9 hI1.1, ly_0_19 hI1.1, e19]
  refine ⟨o_19, isO_k (by decide +kernel), ?_⟩
  obtain ⟨d, rfl⟩ : ∃ e, d = e + 1 := ⟨d - 1, by omega⟩
  refine EX6_begin fun _ _ => SX6_begin_0 (J_min (by omega) (J_max (by omega) ⟨isO_k (by decide +kernel), fun s2 e2 => ?_⟩))
  have o63 : isO 6 kN 63 := isO_k (by decide +kernel)
  have L2 : Lay s2 := by rw [e2]; exact hI1.1.kstO 1 o63 (by decide)
  have b2 : s2 63 1 = σ 19 1 := by rw [e2, kst_eq]; omega
  have o2 : off [26, 29, 31, 63, 65, 66, 67, 68, 69, 70, 71, 72] s1 s2 := by rw [e2]; exact off.rfl'.kst (by decide)
  have f2 : ∀ j, j ≠ 5 → s2 26 j = s1 26 j := fun j _ => by rw [e2, kst_k (by decide)]
  have cB : ∀ a b, 0 ≤ a → a < b → b < σ 19 1 → ∀ u : kS, (∀ z, 0 ≤ z → z < 120 → u 29 z / 128 = sumP T (σ 20 b) z / 1000 ∧ 0 ≤ u 29 z ∧ u 29 z ≤ 153600120) → wN T (σ 20) a b = u 29 (σ 20 a) / 128 ∧ 0 ≤ wN T (σ 20) a b ∧ wN T (σ 20) a b ≤ 1300000 := fun a b a0 ab bm u hu => by
    have hc := hcell a a0 (by omega)
    have hz := hu (σ 20 a) hc.1 hc.2
    have e : wN T (σ 20) a b = sumP T (σ 20 b) (σ 20 a) / 1000 := if_pos ab
    omega
  have key69 : ∀ b : Int, ∀ u : kS, 1 ≤ b → b ≤ σ 19 1 → off [26, 29, 31, 63, 65, 66, 67, 68, 69, 70, 71, 72] s1 u → (∀ j, j ≠ 5 → u 26 j = s1 26 j) → Lay u → u 63 1 = σ 19 1 → (∀ x y, 0 ≤ x → x < b → 0 ≤ y → y < b → x ≠ y → u (65 + x) y = wN T (σ 20) x y ∧ 0 ≤ wN T (σ 20) x y ∧ wN T (σ 20) x y ≤ 1300000) → LX11_net_69 (d + 1) kN Q 0 what b u := by
    refine up_to (e := σ 19 1) ?_
    intro b ihb u b1 bm ho hj hLu h63 hW
    have u0 : u 0 = s1 0 := ho 0 (by decide)
    have u19 : u 19 = σ 19 := by rw [ho 19 (by decide), e19]
    have u20 : u 20 = σ 20 := by rw [ho 20 (by decide), e20]
    refine SX11_net_69 ⟨o_0, ?_⟩
    rw [ly_0_9 hLu, ly_0_19 hLu, ly_0_14 hLu, u19]
    refine ⟨o_19, fun q => ?_, fun q => Row_atI (by omega) hLu (hI.2.2.2.2.1.1.1.cong u19) (by rw [u19]; omega) ⟨o_26, ?_⟩⟩
    · have hNW : NW u (σ 19 1) (wN T (σ 20)) := ⟨h63, by omega, fun x y x0 x1 y0 y1 hxy => hW x y x0 (by omega) y0 (by omega) hxy⟩
      have hq := hfin u (keepN hI1 ho hj hLu)
      unfold netV at hq
      refine ⟨fun q1 => ⟨fun q2 => ⟨o63, X6_needed (ia := 0) (by omega) hLu hNW (Or.inl ⟨rfl, rfl⟩) ?_⟩, fun q2 => ⟨o63, X6_needed (ia := 1) (by omega) hLu hNW (Or.inr ⟨rfl, rfl⟩) ?_⟩⟩, fun q1 => ⟨o63, X6_cost (by omega) hLu hNW wN_sy ?_⟩⟩
      · rw [if_neg q1, if_neg q2] at hq
        exact hq
      · rw [if_neg q1, if_pos (Classical.not_not.mp q2)] at hq
        exact hq
      · rw [if_pos (Classical.not_not.mp q1)] at hq
        exact hq
    · show Cv (d + 1) MX10_spreadTo [(2, 26), (0, u 20 b)] kN u _
      rw [u20]
      have hcb := hcell b (by omega) (by omega)
      have hT2 : TEq (u 28) T := by rw [ho 28 (by decide)]; exact hTT
      have ht28 : TolOK (u 28) := TolOK.tcong (fun x k x0 x1 k0 k1 hn => (hT2 x k x0 x1 k0 k1 hn).symm) ht
      refine Ways_spreadTo (by omega) hLu (fun c k p0 p1 p2 p3 => by rw [ho 27 (by decide)]; exact hI1.2.1.1 c k p0 p1 p2 p3) ht28 hcb (fun v hv hLv hG hbd => ?_)
      have hID := hG.conv ht28 hcb
      have h29 : ∀ z, 0 ≤ z → z < 120 → v 29 z / 128 = sumP T (σ 20 b) z / 1000 ∧ 0 ≤ v 29 z ∧ v 29 z ≤ 153600120 := fun z z0 z1 => by
        have h1 := ID.half ht28 hcb hG hID z z0 z1
        have h2 := sumP_eq ht (hID.tcong hT2) z z0 z1
        exact ⟨by rw [← h1, h2]; rfl, hG.2.1 z z0 z1, hbd z z0 z1⟩
      have key100 : ∀ a : Int, ∀ w : kS, 0 ≤ a → a ≤ b → off [26, 29, 31, 63, 65, 66, 67, 68, 69, 70, 71, 72] s1 w → (∀ j, j ≠ 5 → w 26 j = s1 26 j) → Lay w → w 63 1 = σ 19 1 → w 29 = v 29 → (∀ x y, 0 ≤ x → x ≤ b → 0 ≤ y → y ≤ b → x ≠ y → (x < b ∧ y < b) ∨ (x < a ∧ y = b) ∨ (y < a ∧ x = b) → w (65 + x) y = wN T (σ 20) x y ∧ 0 ≤ wN T (σ 20) x y ∧ wN T (σ 20) x y ≤ 1300000) → LX11_net_100 (d + 1) kN Q 0 what b a w := by
        refine up_to (e := b) ?_
        intro a iha w a0 ab how hjw hLw h63w h29w hWw
        refine SX11_net_100 ⟨fun q2 => ⟨by omega, ihb (by omega) w (by omega) (by omega) how hjw hLw h63w (fun x y x0 x1 y0 y1 hxy => hWw x y x0 (by omega) y0 (by omega) hxy (by omega))⟩, fun q2 => ⟨o_0, ?_⟩⟩
        have w19 : w 19 = σ 19 := by rw [how 19 (by decide), e19]
        have w20 : w 20 = σ 20 := by rw [how 20 (by decide), e20]
        rw [ly_0_9 hLw, ly_0_14 hLw, ly_0_19 hLw]
        refine ⟨o_19, Row_atI (by omega) hLw (hI.2.2.2.2.1.1.1.cong w19) (by rw [w19]; omega) ⟨o_26, ?_⟩⟩
        show Ci (d + 1) MX10_least [(2, 26), (0, w 20 a)] kN w _
        rw [w20]
        have hca := hcell a a0 (by omega)
        have hz := h29 (σ 20 a) hca.1 hca.2
        have hcs := cB a b a0 (by omega) (by omega) v h29
        refine Ways_least (by omega) hLw hca (by rw [h29w]; exact hz.2.1) ⟨o63, X6_put (by omega) hLw h63w (by omega) ⟨a0, by omega, by omega⟩ (fun t hot hLt htv => ⟨by omega, iha (by omega) t (by omega) (by omega) (how.trans (hot.mono (by simp))) (fun j j1 => by rw [hot 26 (by decide)]; exact hjw j j1) hLt (by rw [hot 63 (by decide)]; exact h63w) (by rw [hot 29 (by decide)]; exact h29w) (fun x y x0 x1 y0 y1 hxy hc => ?_)⟩)⟩
        rw [htv x y x0 (by omega)]
        by_cases c1 : (x = a ∧ y = b) ∨ (x = b ∧ y = a)
        · rw [if_pos c1, h29w]
          rcases c1 with ⟨e1, e2'⟩ | ⟨e1, e2'⟩
          · rw [e1, e2']
            exact ⟨hcs.1.symm, hcs.2⟩
          · rw [e1, e2', wN_sy]
            exact ⟨hcs.1.symm, hcs.2⟩
        · rw [if_neg c1]
          exact hWw x y x0 x1 y0 y1 hxy (by omega)
      have ov : off [26, 29, 31, 63, 65, 66, 67, 68, 69, 70, 71, 72] s1 v := ho.trans (hv.1.mono (by simp))
      refine key100 0 v (by omega) (by omega) ov (fun j j1 => (hv.2 j j1).trans (hj j j1)) hLv (by rw [hv.1 63 (by decide)]; exact h63) rfl (fun x y x0 x1 y0 y1 hxy hc => ?_)
      rw [hv.1 (65 + x) (by simp only [List.mem_cons, List.not_mem_nil, or_false]; omega)]
      exact hW x y x0 (by omega) y0 (by omega) hxy
  exact key69 1 s2 (by omega) (by omega) o2 f2 L2 b2 (fun x y x0 x1 y0 y1 hxy => by omega)
