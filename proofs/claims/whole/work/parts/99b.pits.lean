/-! PITS: the class's side -/
def PW (s : kS) (B E : Int → Int) (n : Int) : Prop := (RowOK s 57 ∧ s 57 1 = n ∧ ∀ g : Int, 0 ≤ g → g < n → s 58 g = B g) ∧ RowOK s 59 ∧ s 59 1 = n ∧ ∀ g : Int, 0 ≤ g → g < n → s 60 g = E g
theorem Pits_showAlike {d : Nat} (hd : 2 ≤ d) {s : kS} {B E : Int → Int} {n v w set : Int} {Q : Int → kS → Prop} (hL : Lay s) (hP : PW s B E n) (hv : 0 ≤ v ∧ v < n) (hw : 0 ≤ w ∧ w < n) (h1 : kand (B v) set = kand (B w) set → Q 1 s) (h0 : ¬ kand (B v) set = kand (B w) set → Q 0 s) : Ci d MX7_showAlike [(2, 54), (0, v), (0, w), (0, set)] kN s Q := by
  obtain ⟨d, rfl⟩ : ∃ e, d = e + 1 := ⟨d - 1, by omega⟩
  obtain ⟨⟨p1, p2, p3⟩, p4⟩ := hP
  rw [← p3 v hv.1 hv.2, ← p3 w hw.1 hw.2] at h1 h0
  refine EX7_showAlike fun _ _ _ _ => SX7_showAlike_0 ⟨o_54, ?_⟩
  rw [ly_54_1 hL]
  refine ⟨o_57, Row_atI (by omega) hL p1 (by omega) ?_⟩
  rw [ly_54_1 hL]
  exact ⟨o_57, Row_atI (by omega) hL p1 (by omega) ⟨fun q => h0 q, fun q => h1 (Classical.not_not.mp q)⟩⟩
theorem Pits_isFirst {d : Nat} (hd : 3 ≤ d) {s : kS} {B E : Int → Int} {n w set : Int} {Q : Int → kS → Prop} (hL : Lay s) (hP : PW s B E n) (hn : n ≤ 6) (hw : 0 ≤ w ∧ w < n) (h1 : fstW (fun g => kand (B g) set) w → Q 1 s) (h0 : ¬ fstW (fun g => kand (B g) set) w → Q 0 s) : Ci d MX7_isFirstToShow [(2, 54), (0, w), (0, set)] kN s Q := by
  obtain ⟨d, rfl⟩ : ∃ e, d = e + 1 := ⟨d - 1, by omega⟩
  have key : ∀ v : Int, 0 ≤ v → v ≤ w → (∀ u, 0 ≤ u → u < v → kand (B u) set ≠ kand (B w) set) → LX7_isFirstToShow_2 d kN Q 54 w set v s := by
    refine up_to (e := w) ?_
    intro v ih v0 v1 hf
    refine SX7_isFirstToShow_2 ⟨fun q => h1 (fun u u0 u1 => hf u u0 (by omega)), fun q => ⟨o_54, Pits_showAlike (by omega) hL hP (by omega) hw (fun c => ⟨fun e => by omega, fun _ => h0 (fun z => z v v0 (by omega) c)⟩) (fun c => ⟨fun _ => ⟨by omega, ih (by omega) (by omega) (by omega) (fun u u0 u1 => ?_)⟩, fun e => absurd rfl e⟩)⟩⟩
    by_cases e : u = v
    · rw [e]; exact c
    · exact hf u u0 (by omega)
  exact EX7_isFirstToShow fun _ _ _ => SX7_isFirstToShow_0 (key 0 (by omega) (by omega) (fun u u0 u1 => by omega))
theorem Pits_alike {d : Nat} (hd : 3 ≤ d) {s : kS} {B E : Int → Int} {n w set : Int} {Q : Int → kS → Prop} (hL : Lay s) (hP : PW s B E n) (hn : n ≤ 6) (hw : 0 ≤ w ∧ w < n) (hE : ∀ g : Int, 0 ≤ g → g < n → 0 ≤ E g ∧ E g ≤ 2439) (h : Q (grp (fun g => kand (B g) set) E n.toNat (kand (B w) set)) s) : Ci d MX7_evidenceAlike [(2, 54), (0, w), (0, set)] kN s Q := by
  obtain ⟨d, rfl⟩ : ∃ e, d = e + 1 := ⟨d - 1, by omega⟩
  have key : ∀ v sum : Int, 0 ≤ v → v ≤ n → sum = grp (fun g => kand (B g) set) E v.toNat (kand (B w) set) → LX7_evidenceAlike_5 d kN Q 54 w set sum v s := by
    refine up_to (e := n) ?_
    intro v ih sum v0 v1 hs
    have hss := sm_s (f := fun g => if kand (B g) set = kand (B w) set then E g else 0) v0
    have hb := grp_b (key := fun g => kand (B g) set) (E := E) (n := v.toNat) (k := kand (B w) set) (B := 2439) (fun g g0 g1 => hE g g0 (by omega))
    rw [← hs] at hb
    refine SX7_evidenceAlike_5 ⟨o_54, ?_⟩
    rw [ly_54_1 hL, hP.1.2.1]
    refine ⟨o_57, fun q => ?_, fun q => Pits_showAlike (by omega) hL hP (by omega) hw (fun c => ⟨fun e => by omega, fun _ => ?_⟩) (fun c => ⟨fun _ => ⟨by omega, ih (by omega) _ (by omega) (by omega) ?_⟩, fun e => absurd rfl e⟩)⟩
    · rw [hs, show v = n by omega]
      exact h
    · rw [ly_54_2 hL]
      have hEv := hE v v0 (by omega)
      have e60 : s (59 + 1) v = E v := hP.2.2.2 v v0 (by omega)
      refine ⟨o_59, Row_atI (by omega) hL hP.2.1 (by rw [hP.2.2.1]; omega) ?_⟩
      rw [e60]
      refine ⟨by omega, by omega, ih (by omega) _ (by omega) (by omega) ?_⟩
      rw [hs]
      unfold grp
      rw [hss, if_pos c]
    · rw [hs]
      unfold grp
      rw [hss, if_neg c, Int.add_zero]
  exact EX7_evidenceAlike fun _ _ _ => SX7_evidenceAlike_0 (key 0 0 (by omega) (by have := hP.1.1.2; have := hP.1.2.1; omega) rfl)
theorem Pits_parted {d : Nat} (hd : 4 ≤ d) {s : kS} {B E : Int → Int} {n set : Int} {Q : Int → kS → Prop} (hL : Lay s) (hP : PW s B E n) (hn : 0 ≤ n ∧ n ≤ 6) (hB : ∀ g : Int, 0 ≤ g → g < n → 0 ≤ B g ∧ B g < 64) (hs : 0 ≤ set ∧ set < 64) (hE : ∀ g : Int, 0 ≤ g → g < n → 0 ≤ E g ∧ E g ≤ 2439) (h : Q (prtM (fun g => kand (B g) set) E n.toNat) s) : Ci d MX7_parted [(2, 54), (0, set)] kN s Q := by
  obtain ⟨d, rfl⟩ : ∃ e, d = e + 1 := ⟨d - 1, by omega⟩
  have hk : ∀ g : Int, 0 ≤ g → g < (n.toNat : Int) → 0 ≤ kand (B g) set ∧ kand (B g) set < 64 := fun g g0 g1 => kand_b (hB g g0 (by omega)) hs
  rw [← prt_eq hk] at h
  have hE' : ∀ g : Int, 0 ≤ g → g < (n.toNat : Int) → 0 ≤ E g ∧ E g ≤ 2439 := fun g g0 g1 => hE g g0 (by omega)
  have hmul : ∀ m : Int, 0 ≤ m → m ≤ 6 → 2439 * (n.toNat : Int) * (2439 * (n.toNat : Int)) * m ≤ 1284925896 ∧ 2439 * (n.toNat : Int) * (2439 * (n.toNat : Int)) ≤ 214154316 := fun m m0 m1 => by
    have e : ((n.toNat : Nat) : Int) = n := by omega
    rw [e]
    rcases (show n = 0 ∨ n = 1 ∨ n = 2 ∨ n = 3 ∨ n = 4 ∨ n = 5 ∨ n = 6 by omega) with rfl | rfl | rfl | rfl | rfl | rfl | rfl <;> omega
  have key : ∀ w sum : Int, 0 ≤ w → w ≤ n → sum = prtC (fun g => kand (B g) set) E n.toNat w.toNat → LX7_parted_4 d kN Q 54 set sum w s := by
    refine up_to (e := n) ?_
    intro w ih sum w0 w1 hsum
    have hss := sm_s (f := fun w => cif (fstW (fun g => kand (B g) set) w) (grp (fun g => kand (B g) set) E n.toNat (kand (B w) set) * grp (fun g => kand (B g) set) E n.toNat (kand (B w) set)) 0) w0
    have hb := prtC_b (key := fun g => kand (B g) set) (m := w.toNat) hE'
    rw [← hsum] at hb
    have hm := hmul w.toNat (by omega) (by omega)
    have hg := sq_b (grp_b (key := fun g => kand (B g) set) (k := kand (B w) set) hE')
    refine SX7_parted_4 ⟨o_54, ?_⟩
    rw [ly_54_1 hL, hP.1.2.1]
    refine ⟨o_57, fun q => ?_, fun q => Pits_isFirst (by omega) hL hP hn.2 (by omega) (fun c => ⟨fun e => by omega, fun _ => Pits_alike (by omega) hL hP hn.2 (by omega) hE ?_⟩) (fun c => ⟨fun _ => ⟨by omega, ih (by omega) _ (by omega) (by omega) ?_⟩, fun e => absurd rfl e⟩)⟩
    · rw [hsum, show w = n by omega]
      exact h
    · refine ⟨by omega, by omega, by omega, ih (by omega) _ (by omega) (by omega) ?_⟩
      rw [hsum]
      unfold prtC
      rw [hss, cif_pos c]
    · rw [hsum]
      unfold prtC
      rw [hss, cif_neg c, Int.add_zero]
  exact EX7_parted fun _ _ => SX7_parted_0 (key 0 0 (by omega) (by omega) rfl)
abbrev aheadF (a b : Int) : Prop := bcG a < bcG b ∨ (bcG a = bcG b ∧ ¬ kand (kand a (kxor a b)) (-(kxor a b)) = 0)
theorem Pits_goesAhead {d : Nat} (hd : 2 ≤ d) {s : kS} {a b : Int} {Q : Int → kS → Prop} (ha : 0 ≤ a ∧ a < 64) (hb : 0 ≤ b ∧ b < 64) (h1 : aheadF a b → Q 1 s) (h0 : ¬ aheadF a b → Q 0 s) : Ci d MX7_goesAhead [(0, a), (0, b)] kN s Q := by
  obtain ⟨d, rfl⟩ : ∃ e, d = e + 1 := ⟨d - 1, by omega⟩
  have b1 := (bc_all ha).2
  have b2 := (bc_all hb).2
  have hx := kxor_b ha hb
  unfold aheadF at h1 h0
  exact EX7_goesAhead fun _ _ _ => SX7_goesAhead_0 (J_bitCount (by omega) ha (J_bitCount (by omega) hb ⟨by omega, fun q => h1 (Or.inl (by omega)), fun q => ⟨fun q2 => h0 (fun z => by omega), fun q2 => ⟨hx, fun q3 => h0 (fun z => z.elim (fun y => by omega) (fun y => y.2 q3)), fun q3 => h1 (Or.inr ⟨by omega, q3⟩)⟩⟩⟩))
/-- the best of the sets 0 .. n -/
def dgB (pt : Int → Int) (many : Int) : Nat → Int × Int
  | 0 => (0, pt 0)
  | n + 1 => if bcG (n + 1 : Nat) ≤ many ∧ (pt (n + 1 : Nat) < (dgB pt many n).2 ∨ (pt (n + 1 : Nat) = (dgB pt many n).2 ∧ aheadF (n + 1 : Nat) (dgB pt many n).1)) then (((n + 1 : Nat) : Int), pt (n + 1 : Nat)) else dgB pt many n
theorem dgB_s {pt : Int → Int} {many a : Int} (h : 1 ≤ a) : dgB pt many a.toNat = if bcG a ≤ many ∧ (pt a < (dgB pt many (a - 1).toNat).2 ∨ (pt a = (dgB pt many (a - 1).toNat).2 ∧ aheadF a (dgB pt many (a - 1).toNat).1)) then (a, pt a) else dgB pt many (a - 1).toNat := by
  obtain ⟨n, rfl⟩ : ∃ n : Nat, a = ((n + 1 : Nat) : Int) := ⟨(a - 1).toNat, by omega⟩
  rw [show (((n + 1 : Nat) : Int)).toNat = n + 1 by omega, show (((n + 1 : Nat) : Int) - 1).toNat = n by omega]
  rfl
theorem dgB_b {pt : Int → Int} {many : Int} : ∀ n : Nat, 0 ≤ (dgB pt many n).1 ∧ (dgB pt many n).1 ≤ n := by
  intro n
  induction n with
  | zero => exact ⟨Int.le_refl _, Int.le_refl _⟩
  | succ n ih =>
    unfold dgB
    split
    · exact ⟨by show (0 : Int) ≤ ((n + 1 : Nat) : Int); omega, Int.le_refl _⟩
    · omega
theorem Pits_bestSet {d : Nat} (hd : 5 ≤ d) {s : kS} {B E : Int → Int} {n many : Int} {Q : Int → kS → Prop} (hL : Lay s) (hP : PW s B E n) (hn : 0 ≤ n ∧ n ≤ 6) (hB : ∀ g : Int, 0 ≤ g → g < n → 0 ≤ B g ∧ B g < 64) (hE : ∀ g : Int, 0 ≤ g → g < n → 0 ≤ E g ∧ E g ≤ 2439) (hp : 0 ≤ s 55 1 ∧ s 55 1 ≤ 6) (h : Q (dgB (fun set => prtM (fun g => kand (B g) set) E n.toNat) many (kishl 1 (s 55 1) - 1).toNat).1 s) : Ci d MX7_bestSet [(2, 54), (0, many)] kN s Q := by
  obtain ⟨d, rfl⟩ : ∃ e, d = e + 1 := ⟨d - 1, by omega⟩
  have hpw := pow_b hp
  have key : ∀ a best least : Int, 1 ≤ a → a ≤ kishl 1 (s 55 1) → (best, least) = dgB (fun set => prtM (fun g => kand (B g) set) E n.toNat) many (a - 1).toNat → LX7_bestSet_11 d kN Q 54 many best least a s := by
    refine up_to (e := kishl 1 (s 55 1)) ?_
    intro a ih best least a1 a2 hbl
    have hb1 : best = (dgB (fun set => prtM (fun g => kand (B g) set) E n.toNat) many (a - 1).toNat).1 := congrArg Prod.fst hbl
    have hb2 : least = (dgB (fun set => prtM (fun g => kand (B g) set) E n.toNat) many (a - 1).toNat).2 := congrArg Prod.snd hbl
    have hbb := dgB_b (pt := fun set => prtM (fun g => kand (B g) set) E n.toNat) (many := many) (a - 1).toNat
    rw [← hb1] at hbb
    have hst := dgB_s (pt := fun set => prtM (fun g => kand (B g) set) E n.toNat) (many := many) a1
    rw [← hb1, ← hb2, ← hbl] at hst
    refine SX7_bestSet_11 ⟨o_54, ?_⟩
    rw [ly_54_0 hL]
    refine ⟨o_55, fun q => ?_, fun q => J_bitCount (by omega) (by omega) ⟨fun q2 => Pits_parted (by omega) hL hP hn hB (by omega) hE ⟨fun q3 => ⟨by omega, ih (by omega) _ _ (by omega) (by omega) ?_⟩, fun q3 => ⟨fun q4 => ⟨by omega, ih (by omega) _ _ (by omega) (by omega) ?_⟩, fun q4 => Pits_goesAhead (by omega) (by omega) (by omega) (fun c => ⟨fun e => by omega, fun _ => ⟨by omega, ih (by omega) _ _ (by omega) (by omega) ?_⟩⟩) (fun c => ⟨fun _ => ⟨by omega, ih (by omega) _ _ (by omega) (by omega) ?_⟩, fun e => absurd rfl e⟩)⟩⟩, fun q2 => ⟨by omega, ih (by omega) _ _ (by omega) (by omega) ?_⟩⟩⟩
    · rw [hb1, show a - 1 = kishl 1 (s 55 1) - 1 by omega]
      exact h
    · rw [Int.add_sub_cancel, hst, if_pos ⟨q2, Or.inl q3⟩]
    · rw [Int.add_sub_cancel, hst, if_neg (fun z => z.2.elim q3 (fun y => q4 y.1))]
    · rw [Int.add_sub_cancel, hst, if_pos ⟨q2, Or.inr ⟨Classical.not_not.mp q4, c⟩⟩]
    · rw [Int.add_sub_cancel, hst, if_neg (fun z => z.2.elim q3 (fun y => c y.2))]
    · rw [Int.add_sub_cancel, hst, if_neg (fun z => q2 z.1)]
  exact EX7_bestSet fun _ _ => SX7_bestSet_0 ⟨o_54, Pits_parted (by omega) hL hP hn hB (by omega) hE (key 1 _ _ (by omega) hpw.1 rfl)⟩
theorem Pits_forget {d : Nat} (hd : 2 ≤ d) {s : kS} {B E : Int → Int} {Q : kS → Prop} (hL : Lay s) (h7 : RowOK s 57) (h9 : RowOK s 59) (h : ∀ u, off [57, 59] s u → Lay u → PW u B E 0 → Q u) : Cv d MX7_forgetWorlds [(2, 54)] kN s Q := by
  obtain ⟨d, rfl⟩ : ∃ e, d = e + 1 := ⟨d - 1, by omega⟩
  have k58 : klen (57 + 1) = 6 := kl_58
  have k60 : klen (59 + 1) = 6 := kl_60
  refine EX7_forgetWorlds fun _ => SX7_forgetWorlds_0 ⟨o_54, ?_⟩
  rw [ly_54_1 hL]
  refine ⟨o_57, Row_cut (by omega) o_57 (fun _ _ => ?_) (fun z => by have := h7.2; omega)⟩
  have L1 : Lay (kst s 57 1 0) := hL.kstO 1 o_57 (by decide)
  have e9 : kst s 57 1 0 59 1 = s 59 1 := by rw [kst_k (by decide)]
  rw [ly_54_2 L1]
  refine ⟨o_59, Row_cut (by omega) o_59 (fun _ _ => h _ ((off.rfl'.kst (by decide)).kst (by decide)) (L1.kstO 1 o_59 (by decide)) ⟨⟨⟨o_57, ?_⟩, ?_, fun g g0 g1 => by omega⟩, ⟨o_59, ?_⟩, ?_, fun g g0 g1 => by omega⟩) (fun z => by have := h9.2; omega)⟩
  · rw [kst_k (by decide), kst_eq, k58]; omega
  · rw [kst_k (by decide), kst_eq]
  · rw [kst_eq, k60]; omega
  · rw [kst_eq]
theorem Pits_addWorld {d : Nat} (hd : 3 ≤ d) {s : kS} {B E : Int → Int} {n ev : Int} {Q : kS → Prop} (hL : Lay s) (hP : PW s B E n) (hn : n < 6) (hc : RowC s 55) (hw : RowC s 36) (hB : B n = bitsF (fun p => s 56 p ∈ rowL s 36) (s 55 1).toNat) (hE : E n = ev) (h : ∀ u, off [57, 58, 59, 60] s u → Lay u → PW u B E (n + 1) → Q u) : Cv d MX7_addWorld [(2, 54), (0, ev), (2, 36)] kN s Q := by
  obtain ⟨d, rfl⟩ : ∃ e, d = e + 1 := ⟨d - 1, by omega⟩
  have k56 : klen (55 + 1) = 6 := kl_56
  have k58 : klen (57 + 1) = 6 := kl_58
  have k60 : klen (59 + 1) = 6 := kl_60
  obtain ⟨⟨p1, p2, p3⟩, p4, p5, p6⟩ := hP
  have hc1 := hc.1.2
  have p1b := p1.2
  have p4b := p4.2
  have key : ∀ p bits : Int, 0 ≤ p → p ≤ s 55 1 → bits = bitsF (fun p => s 56 p ∈ rowL s 36) p.toNat → LX7_addWorld_5 d kN Q 54 ev 36 bits p s := by
    refine up_to (e := s 55 1) ?_
    intro p ih bits p0 p1' hb
    have hbs := bitsF_s (on := fun p => s 56 p ∈ rowL s 36) p0
    refine SX7_addWorld_5 ⟨o_54, ?_⟩
    rw [ly_54_0 hL, ly_54_1 hL]
    refine ⟨o_55, fun q => ⟨o_57, Row_add (by omega) hL p1 (fun _ => ?_) (fun z => by omega)⟩, fun q => Row_atI (by omega) hL hc.1 (by omega) ⟨o_36, Row_has (by omega) hL hw.1 ?_⟩⟩
    · have L1 : Lay (rowPush s 57 bits) := (hL.kstA a_58).kstO 1 o_57 (by decide)
      have e59 : rowPush s 57 bits 59 = s 59 := rowPush_k (by decide) (by decide)
      have e60 : rowPush s 57 bits 60 = s 60 := rowPush_k (by decide) (by decide)
      rw [ly_54_2 L1]
      refine ⟨o_59, Row_add (by omega) L1 (p4.cong e59) (fun _ => h _ (rowPush_off (rowPush_off off.rfl' (by decide) (by decide)) (by decide) (by decide)) ((L1.kstA a_60).kstO 1 o_59 (by decide)) ⟨⟨⟨o_57, ?_⟩, ?_, fun g g0 g1 => ?_⟩, ⟨o_59, ?_⟩, ?_, fun g g0 g1 => ?_⟩) (fun z => by rw [e59] at z; omega)⟩
      · rw [rowPush_k (by decide) (by decide), rowPush_0, k58]; omega
      · rw [rowPush_k (by decide) (by decide), rowPush_0]; omega
      · rw [rowPush_k (by decide) (by decide)]
        refine (rowPush_at (r := 57)).trans ?_
        by_cases e : g = n
        · rw [if_pos (by omega), e, hB, hb, show p = s 55 1 by omega]
        · rw [if_neg (by omega)]
          exact p3 g g0 (by omega)
      · rw [rowPush_0, e59, k60]
        omega
      · rw [rowPush_0, e59]; omega
      · refine (rowPush_at (r := 59)).trans ?_
        rw [e59]
        by_cases e : g = n
        · rw [if_pos (by omega), e, hE]
        · rw [if_neg (by omega)]
          show rowPush s 57 bits 60 g = E g
          rw [e60]
          exact p6 g g0 (by omega)
    · by_cases hm : s 56 p ∈ rowL s 36
      · have hm' : s (55 + 1) p ∈ rowL s 36 := hm
        rw [if_pos hm']
        exact ⟨fun e => by omega, fun _ => ⟨by omega, ih (by omega) _ (by omega) (by omega) (by rw [hbs, cif_pos hm, hb])⟩⟩
      · have hm' : ¬ s (55 + 1) p ∈ rowL s 36 := hm
        rw [if_neg hm']
        exact ⟨fun _ => ⟨by omega, ih (by omega) _ (by omega) (by omega) (by rw [hbs, cif_neg hm, hb])⟩, fun e => absurd rfl e⟩
  exact EX7_addWorld fun _ _ => SX7_addWorld_0 (key 0 0 (by omega) (by omega) rfl)
