/-! BOOKS: the grammar; the class's reading -/
abbrev bR : Type := Int ⊕ (List Int × List Int)
abbrev bkT (b : Int → Int) (n tw p : Int) : Prop := 97 ≤ gat b n p ∧ gat b n p < 97 + tw
def bkM (b : Int → Int) (n p : Int) : Int × Int := if gDig (gat b n (p + 1)) then ((gat b n p - 48) * 10 + gat b n (p + 1) - 48, p + 2) else (gat b n p - 48, p + 1)
def bkL (b : Int → Int) (n tw : Int) : Nat → Int → List Int → List Int → bR
  | 0, p, _, _ => .inl p
  | f + 1, p, st, to => if n ≤ p ∧ 0 < to.length then .inr (st, to) else if gDig (gat b n p) then (if bkT b n tw (sk b n (bkM b n p).2) then bkL b n tw f (sk b n (sk b n (bkM b n p).2 + 1)) (st ++ [gat b n (sk b n (bkM b n p).2) - 97]) (to ++ [(bkM b n p).1]) else .inl (sk b n (bkM b n p).2)) else .inl p
def bk (b : Int → Int) (n tw : Int) : bR := if bkT b n tw (sk b n 0) then bkL b n tw 121 (sk b n (sk b n 0 + 1)) [gat b n (sk b n 0) - 97] [] else .inl (sk b n 0)
theorem bkM_b {b : Int → Int} {n p : Int} (h : gDig (gat b n p)) : (0 ≤ (bkM b n p).1 ∧ (bkM b n p).1 ≤ 99) ∧ (p + 1 ≤ (bkM b n p).2 ∧ (bkM b n p).2 ≤ n) ∧ 0 ≤ p := by
  have h1 := gat_in (c := gat b n p) rfl (by omega)
  unfold bkM
  by_cases c : gDig (gat b n (p + 1))
  · have h2 := gat_in (c := gat b n (p + 1)) rfl (by omega)
    rw [if_pos c]
    dsimp only
    omega
  · rw [if_neg c]
    dsimp only
    omega
/-- so a book stands while it reads -/
def BS (σ s : kS) (i p : Int) (st to : List Int) : Prop := off [121 + 5 * i, 122 + 5 * i, 123 + 5 * i, 124 + 5 * i, 125 + 5 * i] σ s ∧ Lay s ∧ s (121 + 5 * i) 2 = p ∧ (RowOK s (122 + 5 * i) ∧ rowL s (122 + 5 * i) = st) ∧ RowOK s (124 + 5 * i) ∧ rowL s (124 + 5 * i) = to
theorem BS.tape {σ s : kS} {i p : Int} {st to : List Int} (hi : 0 ≤ i ∧ i < 5) (h : BS σ s i p st to) : s 8 = σ 8 ∧ s 9 = σ 9 :=
  ⟨h.1 8 (by simp only [List.mem_cons, List.not_mem_nil, or_false]; omega), h.1 9 (by simp only [List.mem_cons, List.not_mem_nil, or_false]; omega)⟩
theorem BS.ok {σ s : kS} {i p : Int} {st to : List Int} (hi : 0 ≤ i ∧ i < 5) (hr : RowOK σ 8) (h : BS σ s i p st to) : RowOK s 8 := hr.cong (h.tape hi).1
theorem BS.rat {σ s : kS} {i p q : Int} {st to : List Int} (hi : 0 ≤ i ∧ i < 5) (h : BS σ s i p st to) : rowAt s 8 q = gat (σ 9) (σ 8 1) q := by
  have e := h.tape hi
  unfold rowAt gat
  rw [e.1, show (8 : Int) + 1 = 9 from rfl, e.2]
theorem BS.at' {σ s : kS} {i p q : Int} {st to : List Int} (hi : 0 ≤ i ∧ i < 5) (h : BS σ s i p st to) : BS σ (kst s (121 + 5 * i) 2 q) i q st to := by
  obtain ⟨h1, h2, h3, ⟨h4, h5⟩, h6, h7⟩ := h
  have hb := book_at h2 hi
  refine ⟨h1.kst (by simp), h2.kstO 2 hb.2.1 (by decide), kst_eq, ⟨h4.cong (kst_k (by omega)), ?_⟩, h6.cong (kst_k (by omega)), ?_⟩
  · rw [← h5]
    exact rowL_cong (kst_k (by omega)) (kst_k (by omega))
  · rw [← h7]
    exact rowL_cong (kst_k (by omega)) (kst_k (by omega))
theorem X0_skip {d : Nat} (hd : 2 ≤ d) {σ : kS} {i : Int} {st to : List Int} {Q : kS → Prop} (hi : 0 ≤ i ∧ i < 5) (hr : RowOK σ 8) (hn : σ 8 1 ≤ 120) {p : Int} (p0 : 0 ≤ p) (pn : p ≤ σ 8 1) {s : kS} (hs : BS σ s i p st to) (h : ∀ s', BS σ s' i (sk (σ 9) (σ 8 1) p) st to → Q s') : Cv d MX0_skipBlanks [(2, 121 + 5 * i), (2, 8)] kN s Q := by
  obtain ⟨d, rfl⟩ : ∃ e, d = e + 1 := ⟨d - 1, by omega⟩
  have key : ∀ p : Int, 0 ≤ p → p ≤ σ 8 1 → ∀ s : kS, BS σ s i p st to → (∀ s', BS σ s' i (sk (σ 9) (σ 8 1) p) st to → Q s') → LX0_skipBlanks_0 d kN Q (121 + 5 * i) 8 s := by
    refine up_to (e := σ 8 1) ?_
    intro p ih p0 pn s hs h
    have hb := book_at hs.2.1 hi
    have ht := hs.tape hi
    refine SX0_skipBlanks_0 ⟨hb.2.1, o_8, ?_⟩
    rw [hs.2.2.1, ht.1]
    refine ⟨fun c => ?_, fun c => Row_at (by omega) hs.2.1 (hs.ok hi hr) ?_⟩
    · rw [sk_stop (by omega)] at h
      exact h s hs
    · rw [hs.rat hi, show gat (σ 9) (σ 8 1) p = σ 9 p from if_pos ⟨p0, by omega⟩]
      refine ⟨fun c2 => ?_, fun c2 => ?_⟩
      · rw [sk_stop (fun z => c2 z.2)] at h
        exact h s hs
      · rw [sk_blank (by omega) (Classical.not_not.mp c2)] at h
        rw [hs.2.2.1]
        refine ⟨by omega, fun s1 e1 => ?_⟩
        rw [e1]
        exact ih (by omega) (by omega) (by omega) _ (hs.at' hi) h
  exact EX0_skipBlanks fun _ => key p p0 pn s hs h
theorem X0_isDigit {d : Nat} (hd : 2 ≤ d) {σ : kS} {i p : Int} {st to : List Int} {Q : Int → kS → Prop} (hi : 0 ≤ i ∧ i < 5) (hr : RowOK σ 8) {s : kS} (hs : BS σ s i p st to) (h1 : gDig (gat (σ 9) (σ 8 1) p) → Q 1 s) (h0 : ¬ gDig (gat (σ 9) (σ 8 1) p) → Q 0 s) : Ci d MX0_isDigit [(2, 121 + 5 * i), (2, 8)] kN s Q := by
  obtain ⟨d, rfl⟩ : ∃ e, d = e + 1 := ⟨d - 1, by omega⟩
  have hb := book_at hs.2.1 hi
  refine EX0_isDigit fun _ => SX0_isDigit_0 ⟨hb.2.1, o_8, Row_at (by omega) hs.2.1 (hs.ok hi hr) ?_⟩
  rw [hs.2.2.1, hs.rat hi]
  exact ⟨fun c => h0 (by omega), fun c => Row_at (by omega) hs.2.1 (hs.ok hi hr) (by rw [hs.rat hi]; exact ⟨fun c2 => h0 (by omega), fun c2 => h1 (by omega)⟩)⟩
theorem BS.addT {σ s : kS} {i p x : Int} {st to : List Int} (hi : 0 ≤ i ∧ i < 5) (h : BS σ s i p st to) (hl : s (122 + 5 * i) 1 < klen (123 + 5 * i)) : BS σ (rowPush s (122 + 5 * i) x) i p (st ++ [x]) to := by
  obtain ⟨h1, h2, h3, ⟨h4, h5⟩, h6, h7⟩ := h
  have hb := book_at h2 hi
  have b3 : isO 8 kN (122 + 5 * i) := by rw [show 122 + 5 * i = 121 + 5 * i + 1 by omega]; exact hb.2.2.1
  have e1 : (122 + 5 * i : Int) + 1 = 123 + 5 * i := by omega
  refine ⟨rowPush_off h1 (by simp) (by simp only [List.mem_cons, List.not_mem_nil, or_false]; omega), lay_row (L := h2) b3, by rw [rowPush_k (by omega) (by omega)]; exact h3, ⟨⟨b3, ?_⟩, ?_⟩, h6.cong (rowPush_k (by omega) (by omega)), ?_⟩
  · have := h4.2
    rw [rowPush_0, e1]
    omega
  · rw [rowPush_L h4.2.1, h5]
  · rw [← h7]
    exact rowL_cong (rowPush_k (by omega) (by omega)) (rowPush_k (by omega) (by omega))
theorem BS.addM {σ s : kS} {i p x : Int} {st to : List Int} (hi : 0 ≤ i ∧ i < 5) (h : BS σ s i p st to) (hl : s (124 + 5 * i) 1 < klen (125 + 5 * i)) : BS σ (rowPush s (124 + 5 * i) x) i p st (to ++ [x]) := by
  obtain ⟨h1, h2, h3, ⟨h4, h5⟩, h6, h7⟩ := h
  have hb := book_at h2 hi
  have b3 : isO 8 kN (124 + 5 * i) := by rw [show 124 + 5 * i = 121 + 5 * i + 3 by omega]; exact hb.2.2.2
  have e1 : (124 + 5 * i : Int) + 1 = 125 + 5 * i := by omega
  refine ⟨rowPush_off h1 (by simp) (by simp only [List.mem_cons, List.not_mem_nil, or_false]; omega), lay_row (L := h2) b3, by rw [rowPush_k (by omega) (by omega)]; exact h3, ⟨h4.cong (rowPush_k (by omega) (by omega)), ?_⟩, ⟨b3, ?_⟩, ?_⟩
  · rw [← h5]
    exact rowL_cong (rowPush_k (by omega) (by omega)) (rowPush_k (by omega) (by omega))
  · have := h6.2
    rw [rowPush_0, e1]
    omega
  · rw [rowPush_L h6.2.1, h7]
theorem book_klen {i : Int} (hi : 0 ≤ i ∧ i < 5) : klen (123 + 5 * i) = 120 ∧ klen (125 + 5 * i) = 120 := by
  rcases (show i = 0 ∨ i = 1 ∨ i = 2 ∨ i = 3 ∨ i = 4 by omega) with rfl | rfl | rfl | rfl | rfl <;> decide +kernel
theorem BS.len {σ s : kS} {i p : Int} {st to : List Int} (h : BS σ s i p st to) : s (122 + 5 * i) 1 = st.length ∧ s (124 + 5 * i) 1 = to.length := by
  have a1 := congrArg List.length h.2.2.2.1.2
  have a2 := congrArg List.length h.2.2.2.2.2
  rw [rowL_len] at a1 a2
  have b1 := h.2.2.2.1.1.2.1
  have b2 := h.2.2.2.2.1.2.1
  omega
theorem X0_readsTown {d : Nat} (hd : 3 ≤ d) {σ : kS} {i p tw : Int} {st to : List Int} {Q : Int → kS → Prop} (hi : 0 ≤ i ∧ i < 5) (hr : RowOK σ 8) (hn : σ 8 1 ≤ 120) (hby : ∀ j, 0 ≤ j → j < σ 8 1 → 1 ≤ σ 9 j ∧ σ 9 j ≤ 255) (htw : 0 ≤ tw ∧ tw ≤ 8) (hst : st.length < 120) {s : kS} (hs : BS σ s i p st to) (h1 : bkT (σ 9) (σ 8 1) tw p → ∀ s', BS σ s' i (sk (σ 9) (σ 8 1) (p + 1)) (st ++ [gat (σ 9) (σ 8 1) p - 97]) to → Q 1 s') (h0 : ¬ bkT (σ 9) (σ 8 1) tw p → Q 0 s) : Ci d MX0_readsTown [(2, 121 + 5 * i), (2, 8), (0, tw)] kN s Q := by
  obtain ⟨d, rfl⟩ : ∃ e, d = e + 1 := ⟨d - 1, by omega⟩
  have hb := book_at hs.2.1 hi
  have hbr := book_rows hs.2.1 hi
  have hkl := book_klen hi
  have hln := hs.len
  have hga : -1 ≤ gat (σ 9) (σ 8 1) p ∧ gat (σ 9) (σ 8 1) p ≤ 255 := by
    unfold gat
    split
    · rename_i c
      have := hby p c.1 c.2
      omega
    · omega
  refine EX0_readsTown fun _ _ => SX0_readsTown_0 ⟨hb.2.1, o_8, Row_at (by omega) hs.2.1 (hs.ok hi hr) ?_⟩
  rw [hs.2.2.1, hs.rat hi, hbr.1]
  have b3 : isO 8 kN (122 + 5 * i) := by rw [show 122 + 5 * i = 121 + 5 * i + 1 by omega]; exact hb.2.2.1
  refine ⟨by omega, fun c => h0 (by omega), fun c => ⟨fun c2 => ⟨b3, ?_⟩, fun c2 => h0 (by omega)⟩⟩
  have hT : bkT (σ 9) (σ 8 1) tw p := by omega
  have hp := gat_in (c := gat (σ 9) (σ 8 1) p) rfl (by omega)
  have e1 : (122 + 5 * i : Int) + 1 = 123 + 5 * i := by omega
  refine Row_add (by omega) hs.2.1 hs.2.2.2.1.1 (fun _ => ?_) (fun z => by rw [e1] at z; omega)
  have hs2 := hs.addT (x := gat (σ 9) (σ 8 1) p - 97) hi (by omega)
  rw [hs2.2.2.1]
  refine ⟨by omega, fun s3 e3 => X0_skip (p := p + 1) (by omega) hi hr hn (by omega) (by omega) (by rw [e3]; exact hs2.at' hi) (fun s4 hs4 => h1 hT s4 hs4)⟩
theorem X0_readsMiles {d : Nat} (hd : 3 ≤ d) {σ : kS} {i p : Int} {st to : List Int} {Q : Int → kS → Prop} (hi : 0 ≤ i ∧ i < 5) (hr : RowOK σ 8) (hn : σ 8 1 ≤ 120) (hst : to.length < 120) {s : kS} (hs : BS σ s i p st to) (h1 : gDig (gat (σ 9) (σ 8 1) p) → ∀ s', BS σ s' i (sk (σ 9) (σ 8 1) (bkM (σ 9) (σ 8 1) p).2) st (to ++ [(bkM (σ 9) (σ 8 1) p).1]) → Q 1 s') (h0 : ¬ gDig (gat (σ 9) (σ 8 1) p) → Q 0 s) : Ci d MX0_readsMiles [(2, 121 + 5 * i), (2, 8)] kN s Q := by
  obtain ⟨d, rfl⟩ : ∃ e, d = e + 1 := ⟨d - 1, by omega⟩
  have hb := book_at hs.2.1 hi
  have hkl := book_klen hi
  have hln := hs.len
  have b3 : isO 8 kN (124 + 5 * i) := by rw [show 124 + 5 * i = 121 + 5 * i + 3 by omega]; exact hb.2.2.2
  have e1 : (124 + 5 * i : Int) + 1 = 125 + 5 * i := by omega
  refine EX0_readsMiles fun _ => SX0_readsMiles_0 ⟨hb.2.1, X0_isDigit (by omega) hi hr hs (fun c => ⟨fun _ => ⟨o_8, Row_at (by omega) hs.2.1 (hs.ok hi hr) ?_⟩, fun e => by omega⟩) (fun c => ⟨fun e => absurd rfl e, fun _ => h0 c⟩)⟩
  have hp := gat_in (c := gat (σ 9) (σ 8 1) p) rfl (by omega)
  have hm := bkM_b c
  rw [hs.2.2.1, hs.rat hi]
  refine ⟨by omega, by omega, fun s3 e3 => ?_⟩
  have hs3 : BS σ s3 i (p + 1) st to := by rw [e3]; exact hs.at' hi
  have hbr3 := book_rows hs3.2.1 hi
  have hln3 := hs3.len
  refine X0_isDigit (by omega) hi hr hs3 (fun c2 => ⟨fun e => by omega, fun _ => ⟨by omega, Row_at (by omega) hs3.2.1 (hs3.ok hi hr) ?_⟩⟩) (fun c2 => ⟨fun _ => ?_, fun e => absurd rfl e⟩)
  · rw [hs3.2.2.1, hs3.rat hi]
    refine ⟨by omega, by omega, by omega, fun s6 e6 => ?_⟩
    have hs6 : BS σ s6 i (p + 1 + 1) st to := by rw [e6]; exact hs3.at' hi
    have hbr6 := book_rows hs6.2.1 hi
    have hln6 := hs6.len
    have eM : bkM (σ 9) (σ 8 1) p = ((gat (σ 9) (σ 8 1) p - 48) * 10 + gat (σ 9) (σ 8 1) (p + 1) - 48, p + 2) := if_pos c2
    rw [eM] at h1 hm
    rw [hbr6.2]
    refine ⟨b3, Row_add (by omega) hs6.2.1 hs6.2.2.2.2.1 (fun _ => X0_skip (p := p + 1 + 1) (by omega) hi hr hn (by omega) (by omega) (hs6.addM hi (by omega)) (fun s8 hs8 => h1 c s8 ?_)) (fun z => by rw [e1] at z; omega)⟩
    rw [show p + 1 + 1 = p + 2 by omega] at hs8
    exact hs8
  · have eM : bkM (σ 9) (σ 8 1) p = (gat (σ 9) (σ 8 1) p - 48, p + 1) := if_neg c2
    rw [eM] at h1 hm
    rw [hbr3.2]
    exact ⟨b3, Row_add (by omega) hs3.2.1 hs3.2.2.2.2.1 (fun _ => X0_skip (p := p + 1) (by omega) hi hr hn (by omega) (by omega) (hs3.addM hi (by omega)) (fun s8 hs8 => h1 c s8 hs8)) (fun z => by rw [e1] at z; omega)⟩
theorem X0_reads {d : Nat} (hd : 5 ≤ d) {σ : kS} {i tw : Int} {Q : Int → kS → Prop} (hi : 0 ≤ i ∧ i < 5) (hL : Lay σ) (hr : RowOK σ 8) (hby : ∀ j, 0 ≤ j → j < σ 8 1 → 1 ≤ σ 9 j ∧ σ 9 j ≤ 255) (htw : 0 ≤ tw ∧ tw ≤ 8) (hR : RowOK σ (122 + 5 * i) ∧ RowOK σ (124 + 5 * i)) (h1 : ∀ st to, bk (σ 9) (σ 8 1) tw = .inr (st, to) → ∀ s p, BS σ s i p st to → Q 1 s) (h0 : ∀ pf, bk (σ 9) (σ 8 1) tw = .inl pf → ∀ s st to, BS σ s i pf st to → Q 0 s) : Ci d MX0_reads [(2, 121 + 5 * i), (2, 8), (0, tw)] kN σ Q := by
  obtain ⟨d, rfl⟩ : ∃ e, d = e + 1 := ⟨d - 1, by omega⟩
  have k9 : klen (8 + 1) = 120 := kl_9
  have hn : σ 8 1 ≤ 120 := by have := hr.2; omega
  have hb := book_at hL hi
  have b3 : isO 8 kN (122 + 5 * i) := by rw [show 122 + 5 * i = 121 + 5 * i + 1 by omega]; exact hb.2.2.1
  have b5 : isO 8 kN (124 + 5 * i) := by rw [show 124 + 5 * i = 121 + 5 * i + 3 by omega]; exact hb.2.2.2
  have hkl := book_klen hi
  refine EX0_reads fun _ _ => SX0_reads_0 ⟨hb.2.1, fun s1 e1 => ?_⟩
  have L1 : Lay s1 := by rw [e1]; exact hL.kstO 2 hb.2.1 (by decide)
  have r1 := book_rows L1 hi
  have q1 : s1 (122 + 5 * i) = σ (122 + 5 * i) := by rw [e1, kst_k (by omega)]
  have q2 : s1 (124 + 5 * i) = σ (124 + 5 * i) := by rw [e1, kst_k (by omega)]
  rw [r1.1]
  refine ⟨b3, Row_cut (by omega) b3 (fun _ _ => ?_) (fun z => by rw [q1] at z; have := hR.1.2.1; omega)⟩
  have L2 : Lay (kst s1 (122 + 5 * i) 1 0) := L1.kstO 1 b3 (by decide)
  have r2 := book_rows L2 hi
  rw [r2.2]
  refine ⟨b5, Row_cut (by omega) b5 (fun _ _ => ?_) (fun z => by rw [kst_k (by omega), q2] at z; have := hR.2.2.1; omega)⟩
  have L3 : Lay (kst (kst s1 (122 + 5 * i) 1 0) (124 + 5 * i) 1 0) := L2.kstO 1 b5 (by decide)
  have e1' : (122 + 5 * i : Int) + 1 = 123 + 5 * i := by omega
  have e3' : (124 + 5 * i : Int) + 1 = 125 + 5 * i := by omega
  have hs3 : BS σ (kst (kst s1 (122 + 5 * i) 1 0) (124 + 5 * i) 1 0) i 0 [] [] := by
    refine ⟨?_, L3, ?_, ⟨⟨b3, ?_⟩, ?_⟩, ⟨b5, ?_⟩, ?_⟩
    · rw [e1]
      exact ((off.rfl'.kst (by simp)).kst (by simp)).kst (by simp)
    · rw [kst_k (by omega), kst_k (by omega), e1, kst_eq]
    · rw [kst_k (by omega), kst_eq, e1']
      omega
    · rw [rowL_seg]
      refine seg_nil ?_
      rw [kst_k (by omega), kst_eq]
      omega
    · rw [kst_eq, e3']
      omega
    · rw [rowL_seg, kst_eq]
      exact seg_nil (Int.le_refl 0)
  refine X0_skip (p := 0) (by omega) hi hr hn (by omega) hr.2.1 hs3 (fun s4 hs4 => ?_)
  have hsk := sk_facts (b := σ 9) (n := σ 8 1) 0 hr.2.1
  have key : ∀ f : Nat, ∀ k p : Int, ∀ st to, ∀ s : kS, (f : Int) + k = 121 → 0 ≤ k → 2 * k + 1 ≤ p → p ≤ σ 8 1 → sk (σ 9) (σ 8 1) p = p → (to.length : Int) = k → (st.length : Int) = k + 1 → BS σ s i p st to → bkL (σ 9) (σ 8 1) tw f p st to = bk (σ 9) (σ 8 1) tw → LX0_reads_41 d kN Q (121 + 5 * i) 8 tw k s := by
    intro f
    induction f with
    | zero => intro k p st to s hf k0 hp pn _ _ _ _ _; omega
    | succ f ih =>
      intro k p st to s hf k0 hp pn hsp hto hst hs hg
      have hln := hs.len
      have hbr := book_rows hs.2.1 hi
      have ht := hs.tape hi
      have hb := book_at hs.2.1 hi
      refine SX0_reads_41 ⟨fun q => by omega, fun q => ⟨hb.2.1, o_8, ?_⟩⟩
      rw [ht.1, hs.2.2.1, hbr.2]
      unfold bkL at hg
      refine ⟨fun c => ⟨b5, fun c2 => ?_, fun c2 => ?_⟩, fun c => ?_⟩
      · rw [if_neg (by omega), if_neg (by rw [gat_out c]; omega)] at hg
        exact h0 p hg.symm s st to hs
      · rw [if_pos ⟨c, by omega⟩] at hg
        exact h1 st to hg.symm s p hs
      · rw [if_neg (fun z => by omega)] at hg
        refine X0_readsMiles (by omega) hi hr hn (by omega) hs (fun c2 s' hs' => ⟨fun e => by omega, fun _ => ?_⟩) (fun c2 => ⟨fun _ => ?_, fun e => absurd rfl e⟩)
        · rw [if_pos c2] at hg
          have hm := bkM_b c2
          have hsk := sk_facts (b := σ 9) (n := σ 8 1) (bkM (σ 9) (σ 8 1) p).2 hm.2.1.2
          generalize hx : bkM (σ 9) (σ 8 1) p = x at *
          refine X0_readsTown (by omega) hi hr hn hby htw (by omega) hs' (fun c3 s2 hs2 => ⟨fun _ => ?_, fun e => by omega⟩) (fun c3 => ⟨fun e => absurd rfl e, fun _ => ?_⟩)
          · rw [if_pos c3] at hg
            have hg3 := gat_in (c := gat (σ 9) (σ 8 1) (sk (σ 9) (σ 8 1) x.2)) rfl (by omega)
            have hnx := sk_next (b := σ 9) (n := σ 8 1) (p := sk (σ 9) (σ 8 1) x.2) (by omega) hg3.2
            exact ⟨by omega, ih (k + 1) _ _ _ s2 (by omega) (by omega) (by omega) (by omega) hnx.2.2 (by simp only [List.length_append, List.length_cons, List.length_nil]; omega) (by simp only [List.length_append, List.length_cons, List.length_nil]; omega) hs2 hg⟩
          · rw [if_neg c3] at hg
            exact h0 _ hg.symm s' _ _ hs'
        · rw [if_neg c2] at hg
          exact h0 p hg.symm s st to hs
  have hbk : bk (σ 9) (σ 8 1) tw = bk (σ 9) (σ 8 1) tw := rfl
  conv at hbk => rhs; unfold bk
  refine X0_readsTown (by omega) hi hr hn hby htw (by decide) hs4 (fun c s5 hs5 => ⟨fun _ => ?_, fun e => by omega⟩) (fun c => ⟨fun e => absurd rfl e, fun _ => ?_⟩)
  · rw [if_pos c] at hbk
    have hg3 := gat_in (c := gat (σ 9) (σ 8 1) (sk (σ 9) (σ 8 1) 0)) rfl (by omega)
    have hnx := sk_next (b := σ 9) (n := σ 8 1) (p := sk (σ 9) (σ 8 1) 0) (by omega) hg3.2
    exact key 121 0 _ _ _ s5 (by omega) (by omega) (by omega) (by omega) hnx.2.2 rfl rfl hs5 hbk.symm
  · rw [if_neg c] at hbk
    exact h0 _ hbk s4 _ _ hs4
