/-! the class's goes, the model's layWay, over the coupling -/
theorem Fr.of {σ s : kS} {L : List Int} (h : off L σ s) (hm : ∀ k, k ∈ L → scr k ∧ k ≠ 166) : Fr σ s :=
  ⟨fun k hk => h k (fun hkl => hk (hm k hkl).1), fun j _ => by rw [h 166 (fun hkl => (hm 166 hkl).2 rfl)]⟩
theorem cKind.cong {σ s : kS} (h : cKind σ) (h0 : s 0 = σ 0) (h35 : s 35 = σ 35) (h170 : s 170 = σ 170) (h171 : s 171 = σ 171) (h26 : ∀ j, 10 ≤ j → j ≤ 12 → s 26 j = σ 26 j) : cKind s := by
  have ht : ∀ g, tb s g = tb σ g ∧ tn s g = tn σ g := fun g => by
    refine ⟨?_, ?_⟩
    · unfold tb mby
      rw [h170]
    · unfold tn
      rw [h171]
  unfold cKind
  rw [h0, h35, h26 10 (by omega) (by omega), h26 11 (by omega) (by omega), h26 12 (by omega) (by omega)]
  refine ⟨h.1, h.2.imp (fun h => h) (fun ⟨g, q1, q2, q3, q4⟩ => ⟨g, q1, q2, q3, fun k k0 k1 => ?_⟩)⟩
  rw [(ht g).1, (ht g).2]
  exact q4 k k0 k1
/-- the weights of a manner -/
def tolH (σ : kS) (H : Int → Int → Int) (g load wet : Int) : Int → Int := tolT (tb σ g) (tn σ g) H load wet
def tolN (σ : kS) (g load wet : Int) : Int → Int := tolH σ (landM σ) g load wet
theorem tolH_ok {σ : kS} {H : Int → Int → Int} {g load wet : Int} : TolOK (tolH σ H g load wet) := tolT_ok
theorem landM_fr {σ s : kS} (h : Fr σ s) : landM s = landM σ := by
  funext c w
  unfold landM
  rw [h.1 167 (by unfold scr; omega)]
theorem tolN_fr {σ s : kS} (h : Fr σ s) {g load wet : Int} : tolN s g load wet = tolN σ g load wet := by
  unfold tolN tolH
  rw [landM_fr h, (tb_fr h).1, (tb_fr h).2]
theorem tolT_land {b : Int → Int} {n : Int} {H H' : Int → Int → Int} {load wet : Int} (h : ∀ c w, 0 ≤ c → c < 120 → 0 ≤ w → w < 4 → H c w = H' c w) : TEq (tolT b n H load wet) (tolT b n H' load wet) := by
  intro c k c0 c1 k0 k1 hn
  have hs := (stp_cell hn).2.2.1
  rw [tolT_at ⟨k0, k1⟩, tolT_at ⟨k0, k1⟩]
  unfold pnP
  congr 1
  apply gWorth_cong
  intro j j0 j7
  unfold pL
  rw [h _ 0 hs.1 hs.2 (by decide) (by decide), h c 0 c0 c1 (by decide) (by decide), h _ 1 hs.1 hs.2 (by decide) (by decide), h _ 2 hs.1 hs.2 (by decide) (by decide), h _ 3 hs.1 hs.2 (by decide) (by decide)]
theorem TEq.trans' {a b c : Int → Int} (h : TEq a b) (h' : TEq b c) : TEq a c := fun x k x0 x1 k0 k1 hn => (h x k x0 x1 k0 k1 hn).trans (h' x k x0 x1 k0 k1 hn)
theorem LandB.cong {H H' : Int → Int → Int} (h : ∀ c w, 0 ≤ c → c < 120 → 0 ≤ w → w < 4 → H c w = H' c w) (hb : LandB H') : LandB H := fun c w c0 c1 w0 w1 => by
  rw [h c w c0 c1 w0 w1]
  exact hb c w c0 c1 w0 w1
theorem cLand.eq {σ : kS} (h : cLand σ) : (∀ c w, 0 ≤ c → c < 120 → 0 ≤ w → w < 4 → told σ 1 c w = landM σ c w) ∧ LandB (landM σ) := by
  have e : ∀ c w, told σ 1 c w = σ (3 + w) c := fun c w => by
    unfold told
    rw [show (1 : Int) + 2 + w = 3 + w by omega]
  refine ⟨fun c w c0 c1 w0 w1 => ?_, fun c w c0 c1 w0 w1 => ?_⟩
  · rw [e]
    exact (h c w c0 c1 w0 w1).1
  · have := h c w c0 c1 w0 w1
    rw [this.1] at this
    exact this.2
def isMan (σ : kS) (g load : Int) : Prop := (0 ≤ g ∧ g < σ 0 6) ∧ 0 ≤ load ∧ load ≤ 99
def isCel (c : Int) : Prop := 0 ≤ c ∧ c < 120
def isWy (σ : kS) (g load a b : Int) : Prop := isMan σ g load ∧ isCel a ∧ isCel b
/-- what stands when the class has gone -/
def Went (σ s : kS) (T : Int → Int) (a b : Int) : Prop := Keep σ s ∧ (RowC s 36 ∧ 1 ≤ s 36 1) ∧ IsWL T a b (rowL s 36) ∧ rowL s 36 = wayP T a b ∧ (∀ z, 0 ≤ z → z < 120 → s 29 z / 128 = sumP T b z / 1000 ∧ 0 ≤ s 29 z ∧ s 29 z ≤ 153600120) ∧ TEq (s 28) T ∧ GD (nbW 1) (wgW 1 (s 28)) b (s 29)
/-- behind fit -/
theorem Fitted.keep {σ s : kS} {g load wet : Int} {H : Int → Int → Int} (hI : Inv σ) (hg : 0 ≤ g ∧ g < σ 0 6) (h : Fitted σ s g load wet H) : Keep σ s := by
  have h6 := hI.2.2.2.2.2.2.1.1
  have hm : ∀ k, k ∈ [26, 28, 32, 33, 34, 35, 97 + 4 * g + 2] → scr k ∧ k ≠ 166 := fun k hk => by
    simp only [List.mem_cons, List.not_mem_nil, or_false] at hk
    unfold scr
    omega
  obtain ⟨h1, h2, h3, h4, h5⟩ := h
  obtain ⟨b1, ⟨b2, b3, b4, b5, b6, b7⟩, b8⟩ := hI.2.1
  have ne : ∀ k, (k = 27 ∨ k = 36 ∨ k = 38 ∨ k = 43 ∨ k = 45 ∨ k = 57 ∨ k = 59) → s k = σ k := fun k hk => h1 k (by simp only [List.mem_cons, List.not_mem_nil, or_false]; omega)
  exact ⟨Fr.of h1 hm, h3, ⟨by unfold Bes; rw [ne 27 (by omega)]; exact b1, ⟨b2.cong (ne 36 (by omega)), b3.cong (ne 38 (by omega)), b4.cong (ne 43 (by omega)), b5.cong (ne 45 (by omega)), b6.cong (ne 57 (by omega)), b7.cong (ne 59 (by omega))⟩, h4⟩⟩
theorem Laid.keep {σ s : kS} {a b : Int} (hI : Inv σ) (h : Laid σ s a b) : Keep σ s := by
  obtain ⟨h1, h2, h3, h4, h5, h6, h7, h8, h9⟩ := h
  obtain ⟨b1, ⟨b2, b3, b4, b5, b6, b7⟩, b8⟩ := hI.2.1
  have ne : ∀ k, (k = 0 ∨ k = 27 ∨ k = 35 ∨ k = 170 ∨ k = 171 ∨ k = 38 ∨ k = 43 ∨ k = 45 ∨ k = 57 ∨ k = 59) → s k = σ k := fun k hk => h1 k (by simp only [List.mem_cons, List.not_mem_nil, or_false]; omega)
  exact ⟨Fr.offX h1 (by decide), h3, ⟨by unfold Bes; rw [ne 27 (by omega)]; exact b1, ⟨h6.1, b3.cong (ne 38 (by omega)), b4.cong (ne 43 (by omega)), b5.cong (ne 45 (by omega)), b6.cong (ne 57 (by omega)), b7.cong (ne 59 (by omega))⟩, b8.cong (ne 0 (by omega)) (ne 35 (by omega)) (ne 170 (by omega)) (ne 171 (by omega)) (fun j j0 j1 => h2 j (by omega))⟩⟩
/-- lay, over fitted tolls -/
theorem X_layT {d : Nat} (hd : 4 ≤ d) {σ : kS} {T : Int → Int} {a b : Int} {Q : kS → Prop} (hI : Inv σ) (ha : isCel a) (hb : isCel b) (ht : TolOK T) (hT : TEq (σ 28) T) (h : ∀ s, Went σ s T a b → off [26, 29, 31, 36, 37] σ s → Q s) : Cv d MX10_lay [(2, 26), (0, a), (0, b)] kN σ Q := by
  have hT' : TEq T (σ 28) := fun c k c0 c1 k0 k1 hn => (hT c k c0 c1 k0 k1 hn).symm
  refine Ways_lay hd hI.1 hI.2.1.1 (TolOK.tcong hT' ht) hb ha hI.2.1.2.1.1.2.1 (fun s hs => ?_)
  have hw := hs.wl ht hT hb
  have e28 : s 28 = σ 28 := hs.1 28 (by decide)
  refine h s ⟨hs.keep hI, ⟨hs.2.2.2.2.2.1, hs.2.2.2.2.2.2.1⟩, hw.1, (wayP_eq ht hw.1).symm, fun z z0 z1 => ⟨hw.2 z z0 z1, hs.2.2.2.1.2.1 z z0 z1, hs.2.2.2.2.1 z z0 z1⟩, by rw [e28]; exact hT, by rw [e28]; exact hs.2.2.2.1⟩ hs.1
theorem X_fitT {d : Nat} (hd : 5 ≤ d) {σ : kS} {H : Int → Int → Int} {r g load wet : Int} {Q : kS → Prop} (hI : Inv σ) (hg : 0 ≤ g ∧ g < σ 0 6) (hl : 0 ≤ load ∧ load ≤ 99) (hw : wet = 0 ∨ wet = 1) (hr : isO 5 kN r) (hH : ∀ c w, 0 ≤ c → c < 120 → 0 ≤ w → w < 4 → told σ r c w = H c w) (hHB : LandB H) (h : ∀ s, Keep σ s → TEq (s 28) (tolH σ H g load wet) → Q s) : Cv d MX10_fit [(2, 26), (2, 97 + 4 * g), (0, load), (0, wet), (2, r)] kN σ Q := by
  refine Ways_fit (by omega) hI.1 hI.2.1.1 hI.2.1.2.2 hg hI.2.2.2.2.2.2.1.1.2 (hI.2.2.2.2.2.2.1.gf hg) hw hl hr (hHB.cong hH) (fun s hs => h s (hs.keep hI hg) ?_)
  exact TEq.trans' hs.2.2.2.2 (tolT_land hH)
theorem X_goes {d : Nat} (hd : 7 ≤ d) {σ : kS} {H : Int → Int → Int} {r g load wet a b : Int} {Q : Int → kS → Prop} (hI : Inv σ) (hw : wet = 0 ∨ wet = 1) (hr : isO 5 kN r) (hH : ∀ c w, 0 ≤ c → c < 120 → 0 ≤ w → w < 4 → told σ r c w = H c w) (hHB : LandB H) (h1 : isWy σ g load a b → ∀ s, Went σ s (tolH σ H g load wet) a b → Q 1 s) (h0 : ¬ isWy σ g load a b → Q 0 σ) : Ci d MX11_goes [(2, 0), (2, r), (0, g), (0, load), (0, wet), (0, a), (0, b)] kN σ Q := by
  obtain ⟨d, rfl⟩ : ∃ e, d = e + 1 := ⟨d - 1, by omega⟩
  have hg6 := hI.2.2.2.2.2.2.1.1
  unfold isWy isMan isCel at h1 h0
  refine EX11_goes fun _ _ _ _ _ _ => SX11_goes_0 ⟨o_0, X_isManner (by omega) (fun c1 => ⟨fun e => by omega, fun _ => X_isCell (by omega) (fun c2 => ⟨fun e => by omega, fun _ => X_isCell (by omega) (fun c3 => ⟨fun _ => ?_, fun e => by omega⟩) (fun c3 => ⟨fun e => absurd rfl e, fun _ => h0 (fun z => c3 z.2.2)⟩)⟩) (fun c2 => ⟨fun _ => h0 (fun z => c2 z.2.1), fun e => absurd rfl e⟩)⟩) (fun c1 => ⟨fun _ => h0 (fun z => c1 z.1), fun e => absurd rfl e⟩)⟩
  have k17 := kl_17
  have hgo := goer_at hI.1 (i := g) (by omega)
  rw [ly_0_5 hI.1, ly_0_14 hI.1, hgo.1]
  refine ⟨a_17, by omega, o_26, X_fitT (by omega) hI c1.1 c1.2 hw hr hH hHB (fun s hs hT => ?_)⟩
  have hIs := hI.keep hs
  rw [ly_0_14 hIs.1]
  refine ⟨o_26, X_layT (by omega) hIs c2 c3 tolH_ok hT (fun s1 hs1 _ => h1 ⟨c1, c2, c3⟩ s1 ?_)⟩
  exact ⟨hs.trans hs1.1, hs1.2⟩
/-- the model has gone -/
def MWent (σ s : kS) (T : Int → Int) (a b : Int) : Prop := off [166, 172, 177, 178, 180] σ s ∧ (∀ j, j ≠ 12 → ¬ (16 ≤ j ∧ j ≤ 22) → j ≠ 25 → j ≠ 30 → s 166 j = σ 166 j) ∧ Lay s ∧ (1 ≤ s 166 30 ∧ s 166 30 ≤ 120) ∧ (∀ j, 0 ≤ j → j < s 166 30 → 0 ≤ s 180 j ∧ s 180 j < 120) ∧ IsWL T a b (seg (s 180) 0 (s 166 30)) ∧ seg (s 180) 0 (s 166 30) = wayP T a b ∧ (∀ z, 0 ≤ z → z < 120 → s 178 z = sumP T b z ∧ 0 ≤ s 178 z ∧ s 178 z ≤ 1190000119) ∧ TEq (s 177) T
theorem M_goT {d : Nat} (hd : 5 ≤ d) {σ : kS} {T : Int → Int} {a b : Int} {Q : kS → Prop} (hL : Lay σ) (ha : isCel a) (hb : isCel b) (ht : TolOK T) (hT : TEq (σ 177) T) (h : ∀ s, MWent σ s T a b → (∀ j, j ≠ 30 → s 166 j = σ 166 j) → off [166, 178, 180] σ s → Q s) : Cv d MX12_goWay [(2, 166), (0, a), (0, b)] kN σ Q := by
  have hT' : TEq T (σ 177) := fun c k c0 c1 k0 k1 hn => (hT c k c0 c1 k0 k1 hn).symm
  refine M_goWay hd hL (TolOK.tcong hT' ht) ha hb (fun s hs => ?_)
  have hw := hs.wl ht hT
  have e177 : s 177 = σ 177 := hs.1 177 (by decide)
  refine h s ⟨hs.1.mono (by simp), fun j _ _ _ j4 => hs.2.1 j j4, hs.2.2.1, hs.2.2.2.2.2.1, hs.2.2.2.2.2.2.1, hw.1, (wayP_eq ht hw.1).symm, fun z z0 z1 => ⟨hw.2 z z0 z1, hs.2.2.2.1.2.1 z z0 z1, hs.2.2.2.2.1 z z0 z1⟩, by rw [e177]; exact hT⟩ hs.2.1 hs.1
theorem M_layWay {d : Nat} (hd : 38 ≤ d) {σ : kS} {g load wet a b : Int} {Q : kS → Prop} (hL : Lay σ) (hg : 0 ≤ g ∧ g < 6) (hG : GM σ g) (hw : wet = 0 ∨ wet = 1) (hH : LandB (landM σ)) (ha : isCel a) (hb : isCel b) (h : ∀ s, MWent σ s (tolN σ g load wet) a b → Q s) : Cv d MX12_layWay [(2, 166), (0, g), (0, load), (0, wet), (0, a), (0, b)] kN σ Q := by
  obtain ⟨d, rfl⟩ : ∃ e, d = e + 1 := ⟨d - 1, by omega⟩
  refine EX12_layWay fun _ _ _ _ _ _ => SX12_layWay_0 ⟨o_166, M_layPains (by omega) hL hg hG hw hH (fun s1 hs1 => M_goT (by omega) hs1.2.2.1 ha hb tolH_ok hs1.2.2.2 (fun s2 hs2 h30 ho2 => h s2 ?_))⟩
  obtain ⟨q1, q2, q3, q4, q5, q6, q7, q8, q9⟩ := hs2
  exact ⟨(hs1.1.mono (by simp)).trans q1, fun j j1 j2 j3 j4 => (h30 j j4).trans (hs1.2.1 j j1 j2 j3), q3, q4, q5, q6, q7, q8, q9⟩
/-- the model's scratch keeps -/
theorem M_keep {σ s : kS} {L : List Int} (hI : Inv σ) (h : off L σ s) (hL : Lay s) (hm : L.all (fun k => decide (k = 166 ∨ k = 172 ∨ (177 ≤ k ∧ k ≤ 181) ∨ k = 188 ∨ (190 ≤ k ∧ k ≤ 193) ∨ k = 195 ∨ (200 ≤ k ∧ k ≤ 202) ∨ k = 204 ∨ (206 ≤ k ∧ k ≤ 208))) = true) (hj : ∀ j, esf j → s 166 j = σ 166 j) : Keep σ s := by
  have hk : ∀ k, k ∈ L → (k = 166 ∨ k = 172 ∨ (177 ≤ k ∧ k ≤ 181) ∨ k = 188 ∨ (190 ≤ k ∧ k ≤ 193) ∨ k = 195 ∨ (200 ≤ k ∧ k ≤ 202) ∨ k = 204 ∨ (206 ≤ k ∧ k ≤ 208)) := fun k hkl => of_decide_eq_true (List.all_eq_true.mp hm k hkl)
  have ne : ∀ k, (k < 166 ∨ k = 170 ∨ k = 171) → s k = σ k := fun k hlt => h k (fun hkl => by have := hk k hkl; omega)
  refine ⟨⟨fun k hs => h k (fun hkl => hs ?_), hj⟩, hL, hI.2.1.cong (ne 0 (by omega)) (fun k hkk => ne k (by omega)) (fun j _ _ => by rw [ne 26 (by omega)])⟩
  have := hk k hkl
  unfold scr
  omega
theorem MWent.keep {σ s : kS} {T : Int → Int} {a b : Int} (hI : Inv σ) (h : MWent σ s T a b) : Keep σ s :=
  M_keep hI h.1 h.2.2.1 (by decide) (fun j hj => by
    unfold esf at hj
    exact h.2.1 j (by omega) (by omega) (by omega) (by omega))
/-- thrown = 0 first -/
theorem Inv.thrown {σ : kS} {v : Int} (hI : Inv σ) : Keep σ (kst σ 166 0 v) :=
  M_keep (L := [166]) hI (off.rfl'.kst (by decide)) (hI.1.kstO 0 o_166 (by decide)) (by decide) (fun j hj => kst_kj (by unfold esf at hj; omega))
/-- an operation: both sides answer alike, and hold together -/
def Op (MX MM : kM) (as : List kV) : Prop := ∀ (d : Nat) (σ : kS), 60 ≤ d → Inv σ → Ci d MX ((2, 0) :: as) kN σ (fun a s => Ci d MM ((2, 166) :: as) kN s (fun b s' => a = b ∧ Inv s'))
theorem Op.of {MX MM : kM} {as : List kV} (ans : kS → Int) (hc : ∀ σ s, Inv σ → Keep σ s → ans s = ans σ) (hX : ∀ (d : Nat) (σ : kS) (Q : Int → kS → Prop), 60 ≤ d → Inv σ → (∀ s, Keep σ s → Q (ans σ) s) → Ci d MX ((2, 0) :: as) kN σ Q) (hM : ∀ (d : Nat) (σ : kS) (Q : Int → kS → Prop), 60 ≤ d → Inv σ → (∀ s, Keep σ s → Q (ans σ) s) → Ci d MM ((2, 166) :: as) kN σ Q) : Op MX MM as :=
  fun d σ hd hI => hX d σ _ hd hI (fun s hs => hM d s _ hd (hI.keep hs) (fun s' hs' => ⟨(hc σ s hI hs).symm, (hI.keep hs).keep hs'⟩))
