/-! operation: net -/
theorem M_layRoads {d : Nat} (hd : 39 ≤ d) {s : kS} {g load wet m : Int} {Q : kS → Prop} (hI : Inv s) (hm : s 19 1 = m ∧ 2 ≤ m ∧ m ≤ 8) (hman : isMan s g load) (hw : wet = 0 ∨ wet = 1) (h : ∀ u, Keep s u → NM u m (wN (tolN s g load wet) (s 20)) → Q u) : Cv d MX12_layRoads [(2, 166), (0, g), (0, load), (0, wet)] kN s Q := by
  obtain ⟨d, rfl⟩ : ∃ e, d = e + 1 := ⟨d - 1, by omega⟩
  have k168 := kl_168
  have k178 := kl_178
  have k200 := kl_200
  have k201 := kl_201
  have k202 := kl_202
  have hT := hI.2.2.2.2.1
  have h28 := rdN_28 hm.2
  have hcell : ∀ i, 0 ≤ i → i < m → s 168 i = s 20 i ∧ 0 ≤ s 20 i ∧ s 20 i < 120 := fun i i0 i1 => ⟨(hT.2.2.1 i i0 (by omega)).symm, hT.1.2 i i0 (by omega)⟩
  refine EX12_layRoads fun _ _ _ _ => SX12_layRoads_0 ⟨o_166, MI_layPains (by omega) hI hman hw (fun s1 hk1 hT1 ho1 s2 e2 => ?_)⟩
  have ht : TolOK (tolN s g load wet) := tolH_ok
  generalize tolN s g load wet = T at *
  have L2 : Lay s2 := by rw [e2]; exact hk1.2.1.kstO 58 o_166 (by decide)
  have o2 : off [166, 172, 177] s s2 := by rw [e2]; exact ho1.kst (by decide)
  have f2 : ∀ j, esf j → s2 166 j = s 166 j := fun j hj => by
    have hj' := hj
    unfold esf at hj'
    rw [e2, kst_kj (by omega)]
    exact hk1.1.2 j hj
  have q58 : s2 166 58 = rd m 0 1 := by rw [e2, kst_eq]; rfl
  have T2 : TEq (s2 177) T := by rw [e2, kst_k (by decide)]; exact hT1
  have key15 : ∀ a : Int, ∀ u : kS, 0 ≤ a → a ≤ m → off [166, 172, 177, 178, 200, 201, 202] s u → (∀ j, esf j → u 166 j = s 166 j) → Lay u → u 177 = s2 177 → u 166 58 = rd m a (a + 1) → (∀ x y, 0 ≤ x → x < y → y < m → rd m x y < rd m a (a + 1) → u 201 (rd m x y) = x ∧ u 202 (rd m x y) = y ∧ u 200 (rd m x y) = wN T (s 20) x y ∧ 0 ≤ wN T (s 20) x y ∧ wN T (s 20) x y ≤ 1300000) → LX12_layRoads_15 d kN Q 166 a u := by
    refine up_to (e := m) ?_
    intro a iha u a0 am ho hj hLu h177 h58 hW
    have u3 : u 166 3 = m := by rw [hj 3 (by unfold esf; omega), hT.2.1, hm.1]
    refine SX12_layRoads_15 ⟨o_166, ?_⟩
    rw [u3]
    refine ⟨fun q => h u (M_keep hI ho hLu (by decide) hj) ⟨u3, hm.2, by rw [h58, show a = m by omega]; rfl, fun x y x0 xy ym => hW x y x0 xy ym (by rw [show a = m by omega]; exact (rd_lt ⟨x0, xy, ym⟩).2)⟩, fun q => ⟨by omega, ?_⟩⟩
    have key30 : ∀ b : Int, ∀ w : kS, a + 1 ≤ b → b ≤ m → off [166, 172, 177, 178, 200, 201, 202] s w → (∀ j, esf j → w 166 j = s 166 j) → Lay w → w 177 = s2 177 → w 166 58 = rd m a b → (∀ x y, 0 ≤ x → x < y → y < m → rd m x y < rd m a b → w 201 (rd m x y) = x ∧ w 202 (rd m x y) = y ∧ w 200 (rd m x y) = wN T (s 20) x y ∧ 0 ≤ wN T (s 20) x y ∧ wN T (s 20) x y ≤ 1300000) → LX12_layRoads_30 d kN Q 166 a b w := by
      refine up_to (e := m) ?_
      intro b ihb w b0 bm how hjw hLw h177w h58w hWw
      have w3 : w 166 3 = m := by rw [hjw 3 (by unfold esf; omega), hT.2.1, hm.1]
      refine SX12_layRoads_30 ⟨o_166, ?_⟩
      rw [w3, ly_166_2 hLw]
      refine ⟨fun q2 => ⟨by omega, iha (by omega) w (by omega) (by omega) how hjw hLw h177w (by rw [h58w, show b = m by omega, rd_nx a0]) (fun x y x0 xy ym hr => hWw x y x0 xy ym (by rw [rd_nx a0] at hr; rw [show b = m by omega]; exact hr))⟩, fun q2 => ⟨a_168, by omega, ?_⟩⟩
      have e168 : w 168 = s 168 := how 168 (by decide)
      have cb := hcell b (by omega) (by omega)
      have ca := hcell a a0 (by omega)
      rw [e168, cb.1]
      have ht177 : TolOK (w 177) := by rw [h177w]; exact TolOK.tcong (fun x k x0 x1 k0 k1 hn => (T2 x k x0 x1 k0 k1 hn).symm) ht
      have hp : 0 ≤ a ∧ a < b ∧ b < m := ⟨a0, by omega, by omega⟩
      have hlt := rd_lt hp
      refine M_layLeft (by omega) hLw ht177 cb.2 (fun v hov hLv hID hbd => ?_)
      have v58 : v 166 58 = rd m a b := by rw [hov 166 (by decide), h58w]
      have hz : v 178 (s 20 a) = sumP T (s 20 b) (s 20 a) := sumP_eq ht ((by rw [h177w] at hID; exact hID : ID 1000 (s2 177) (s 20 b) (v 178)).tcong T2) _ ca.2.1 ca.2.2
      have hz0 : 0 ≤ v 178 (s 20 a) := hID.2.1 _ ca.2.1 ca.2.2
      have hz1 := hbd _ ca.2.1 ca.2.2
      have hwN : wN T (s 20) a b = sumP T (s 20 b) (s 20 a) / 1000 := if_pos (by omega)
      rw [ly_166_2 hLv, ly_166_27 hLv, ly_166_55 hLv, hov 168 (by decide), e168, ca.1, v58]
      refine ⟨a_168, by omega, a_178, by omega, hz0, a_200, by omega, fun t1 et1 => ?_⟩
      have L1 : Lay t1 := by rw [et1]; exact hLv.kstA a_200
      have t58 : t1 166 58 = rd m a b := by rw [et1, kst_k (by decide), v58]
      rw [ly_166_56 L1, t58]
      refine ⟨a_201, by omega, fun t2 et2 => ?_⟩
      have Lt2 : Lay t2 := by rw [et2]; exact L1.kstA a_201
      have t58' : t2 166 58 = rd m a b := by rw [et2, kst_k (by decide), t58]
      rw [ly_166_57 Lt2, t58']
      refine ⟨a_202, by omega, fun t3 et3 => ?_⟩
      have t58'' : t3 166 58 = rd m a b := by rw [et3, kst_k (by decide), t58']
      rw [t58'']
      refine ⟨by omega, fun t4 et4 => ⟨by omega, ihb (by omega) t4 (by omega) (by omega) ?_ (fun j hj' => ?_) ?_ ?_ ?_ (fun x y x0 xy ym hr => ?_)⟩⟩
      · rw [et4, et3, et2, et1]
        exact ((((how.trans (hov.mono (by simp))).kst (by simp)).kst (by simp)).kst (by simp)).kst (by simp)
      · have hj2 := hj'
        unfold esf at hj2
        rw [et4, kst_kj (by omega), et3, kst_k (by decide), et2, kst_k (by decide), et1, kst_k (by decide), hov 166 (by decide)]
        exact hjw j hj'
      · rw [et4, et3]
        exact (Lt2.kstA a_202).kstO 58 o_166 (by decide)
      · rw [et4, kst_k (by decide), et3, kst_k (by decide), et2, kst_k (by decide), et1, kst_k (by decide), hov 177 (by decide), h177w]
      · rw [et4, kst_eq, rd_s]
      · rw [rd_s] at hr
        have g201 : t4 201 (rd m x y) = if rd m x y = rd m a b then a else w 201 (rd m x y) := by
          rw [et4, kst_k (by decide), et3, kst_k (by decide), et2, kst_ap]
          by_cases e : rd m x y = rd m a b
          · rw [if_pos ⟨rfl, e⟩, if_pos e]
          · rw [if_neg (fun z => e z.2), if_neg e, et1, kst_k (by decide), hov 201 (by decide)]
        have g202 : t4 202 (rd m x y) = if rd m x y = rd m a b then b else w 202 (rd m x y) := by
          rw [et4, kst_k (by decide), et3, kst_ap]
          by_cases e : rd m x y = rd m a b
          · rw [if_pos ⟨rfl, e⟩, if_pos e]
          · rw [if_neg (fun z => e z.2), if_neg e, et2, kst_k (by decide), et1, kst_k (by decide), hov 202 (by decide)]
        have g200 : t4 200 (rd m x y) = if rd m x y = rd m a b then v 178 (s 20 a) / 1000 else w 200 (rd m x y) := by
          rw [et4, kst_k (by decide), et3, kst_k (by decide), et2, kst_k (by decide), et1, kst_ap]
          by_cases e : rd m x y = rd m a b
          · rw [if_pos ⟨rfl, e⟩, if_pos e]
          · rw [if_neg (fun z => e z.2), if_neg e, hov 200 (by decide)]
        rw [g201, g202, g200]
        by_cases e : rd m x y = rd m a b
        · obtain ⟨e1, e2'⟩ := rd_inj ⟨x0, xy, ym⟩ hp e
          rw [if_pos e, if_pos e, if_pos e, e1, e2', hz, hwN]
          rw [hz] at hz0 hz1
          exact ⟨rfl, rfl, rfl, by omega, by omega⟩
        · rw [if_neg e, if_neg e, if_neg e]
          exact hWw x y x0 xy ym (by omega)
    exact key30 (a + 1) u (by omega) (by omega) ho hj hLu h177 h58 hW
  exact key15 0 s2 (by omega) (by omega) (o2.mono (by simp)) f2 L2 rfl q58 (fun x y x0 xy ym hr => by
    have := rd_lt (m := m) (a := x) (b := y) ⟨x0, xy, ym⟩
    have e : rd m 0 (0 + 1) = 0 := rfl
    omega)
theorem M_net {d : Nat} (hd : 45 ≤ d) {σ : kS} {g load wet what : Int} {Q : Int → kS → Prop} (hI0 : Inv σ) (hw : wet = 0 ∨ wet = 1) (h0 : ∀ s, Keep σ s → Q (netA σ g load wet what) s) : Ci d MX12_net [(2, 166), (0, g), (0, load), (0, wet), (0, what)] kN σ Q := by
  obtain ⟨d, rfl⟩ : ∃ e, d = e + 1 := ⟨d - 1, by omega⟩
  have k200 := kl_200
  have k201 := kl_201
  have k202 := kl_202
  refine EX12_net fun _ _ _ _ _ => SX12_net_0 ⟨o_166, fun s1 e1 => ?_⟩
  have hk1 : Keep σ s1 := by rw [e1]; exact hI0.thrown
  have hI := hI0.keep hk1
  have h : ∀ u, Keep s1 u → Q (netA s1 g load wet what) u := fun u hu => by
    rw [netA_fr hk1.1]
    exact h0 u (hk1.trans hu)
  have ht8 := towns_8 hI
  have h3 := hI.2.2.2.2.1.2.1
  have hno : ¬ (isMan s1 g load ∧ 2 ≤ s1 19 1 ∧ 0 ≤ what ∧ what ≤ 2) → Q (-1) s1 := fun z => by
    have hs := h s1 hI.self
    unfold netA at hs
    rw [cif_neg z] at hs
    exact hs
  rw [h3]
  refine ⟨fun c => hno (fun z => by omega), fun c => MI_isMan (by omega) hI (fun c1 => ⟨fun e => by omega, fun _ => M_isIn (by omega) (fun c2 => ⟨fun _ => M_layRoads (m := s1 19 1) (by omega) hI ⟨rfl, by omega, ht8.2⟩ c1 hw (fun u hu hN => ?_), fun e => by omega⟩) (fun c2 => ⟨fun e => absurd rfl e, fun _ => hno (fun z => c2 ⟨z.2.2.1, z.2.2.2⟩)⟩)⟩) (fun c1 => ⟨fun _ => hno (fun z => c1 z.1), fun e => absurd rfl e⟩)⟩
  have hq := h u hu
  unfold netA at hq
  rw [cif_pos (show isMan s1 g load ∧ 2 ≤ s1 19 1 ∧ 0 ≤ what ∧ what ≤ 2 from ⟨c1, by omega, c2.1, c2.2⟩)] at hq
  unfold netV at hq
  have hLu := hu.2.1
  obtain ⟨n1, n2, n3, n4⟩ := id hN
  have h28 := rdN_28 n2
  have loop : ∀ ia : Int, (what = 1 ∧ ia = 1) ∨ (what ≠ 1 ∧ ia = 0) → Q (netB (s1 19 1) (wN (tolN s1 g load wet) (s1 20)) ia) u → LX12_net_57 d kN Q 166 what 0 0 u := by
    intro ia hia hq
    have key : ∀ r bits : Int, 0 ≤ r → r ≤ rdN (s1 19 1) → bits = bitsF (onN (s1 19 1) (wN (tolN s1 g load wet) (s1 20)) ia) r.toNat → LX12_net_57 d kN Q 166 what bits r u := by
      refine up_to (e := rdN (s1 19 1)) ?_
      intro r ih bits r0 rm hb
      refine SX12_net_57 ⟨o_166, ?_⟩
      rw [n3, ly_166_56 hLu, ly_166_55 hLu]
      refine ⟨fun q => ?_, fun q => ⟨a_201, by omega, ?_⟩⟩
      · rw [hb, show r = rdN (s1 19 1) by omega]
        exact hq
      · obtain ⟨x, y, hxy, er, x1, x2, x3, x4, x5⟩ := hN.at' (r := r) ⟨r0, by omega⟩
        have hbs := bitsF_s (on := onN (s1 19 1) (wN (tolN s1 g load wet) (s1 20)) ia) (p := r) r0
        have hbr := bitsF_r (on := onN (s1 19 1) (wN (tolN s1 g load wet) (s1 20)) ia) r.toNat
        rw [← hb] at hbr
        have hon := onN_at (m := s1 19 1) (W := wN (tolN s1 g load wet) (s1 20)) (ia := ia) hxy
        have nx1 : Rch (adN (s1 19 1) (wN (tolN s1 g load wet) (s1 20)) x y (wN (tolN s1 g load wet) (s1 20) x y + ia)) x y → (-2147483648 ≤ r + 1 ∧ r + 1 ≤ 2147483647) ∧ LX12_net_57 d kN Q 166 what (kor bits 0) (r + 1) u := fun hR => ⟨by omega, by
          rw [kor_z hbr]
          exact ih (by omega) bits (by omega) (by omega) (by rw [hbs, cif_neg (fun z => by rw [er] at z; exact hon.mp z hR), hb])⟩
        have nx0 : ¬ Rch (adN (s1 19 1) (wN (tolN s1 g load wet) (s1 20)) x y (wN (tolN s1 g load wet) (s1 20) x y + ia)) x y → (-2147483648 ≤ r + 1 ∧ r + 1 ≤ 2147483647) ∧ LX12_net_57 d kN Q 166 what (kor bits (kishl 1 r)) (r + 1) u := fun hR => ⟨by omega, ih (by omega) _ (by omega) (by omega) (by rw [hbs, cif_pos (by rw [er]; exact hon.mpr hR), hb])⟩
        rw [x1, x3]
        refine ⟨fun q1 => ⟨a_200, by omega, by omega, ?_⟩, fun q1 => ⟨a_200, by omega, ?_⟩⟩
        · have hi0 : ia = 0 := by omega
          rw [hi0, Int.add_zero] at nx1 nx0
          rw [er]
          refine M_reached (t := wN (tolN s1 g load wet) (s1 20) x y) (by omega) hLu hN wN_sy hxy (by omega) (fun z hz => ?_)
          rw [← er, ly_166_57 hLu, x2]
          have hzt := hz.t (k := y) (by omega)
          refine ⟨a_202, by omega, M_has (by omega) (fun c3 => ⟨fun _ => nx1 (Classical.byContradiction (fun w => by rw [hzt, cif_neg w] at c3; omega)), fun e => by omega⟩) (fun c3 => ⟨fun e => absurd rfl e, fun _ => nx0 (fun w => c3 (by rw [hzt, cif_pos w]))⟩)⟩
        · have hi1 : ia = 1 := by omega
          rw [hi1] at nx1 nx0
          rw [er]
          refine M_reached (t := wN (tolN s1 g load wet) (s1 20) x y + 1) (by omega) hLu hN wN_sy hxy rfl (fun z hz => ?_)
          rw [← er, ly_166_57 hLu, x2]
          have hzt := hz.t (k := y) (by omega)
          refine ⟨a_202, by omega, M_has (by omega) (fun c3 => ⟨fun _ => nx1 (Classical.byContradiction (fun w => by rw [hzt, cif_neg w] at c3; omega)), fun e => by omega⟩) (fun c3 => ⟨fun e => absurd rfl e, fun _ => nx0 (fun w => c3 (by rw [hzt, cif_pos w]))⟩)⟩
    exact key 0 0 (by omega) (by omega) rfl
  refine ⟨fun q => ?_, fun q => M_costOfNet (by omega) hLu hN wN_sy ?_⟩
  · rw [if_neg q] at hq
    by_cases c1' : what = 1
    · rw [if_pos c1'] at hq
      exact loop 1 (Or.inl ⟨c1', rfl⟩) hq
    · rw [if_neg c1'] at hq
      exact loop 0 (Or.inr ⟨c1', rfl⟩) hq
  · rw [if_pos (Classical.not_not.mp q)] at hq
    exact hq
theorem O_net {g load wet what : Int} (hw : wet = 0 ∨ wet = 1) : Op MX11_net MX12_net [(0, g), (0, load), (0, wet), (0, what)] :=
  Op.of (fun σ => netA σ g load wet what) (fun σ s _ hk => netA_fr hk.1) (fun d σ Q hd hI h => X_net (by omega) hI hw h) (fun d σ Q hd hI h => M_net (by omega) hI hw h)
