/-! Goer: worth -/
theorem G_joined {d n : Nat} (hd : 1 ≤ d) {σ : kS} {s a b : Int} {Q : Int → kS → Prop} (h : Q (gJoin s a b) σ) : Cl d MX3_joined [(0, s), (1, a), (1, b)] n σ Q := by
  obtain ⟨d, rfl⟩ : ∃ e, d = e + 1 := ⟨d - 1, by omega⟩
  refine EX3_joined fun _ _ _ _ => SX3_joined_0 ?_
  refine ⟨fun e => ?_, ?_⟩
  · have : gJoin s a b = klor a b := by
      unfold gJoin
      rw [if_neg (by omega), if_neg (by omega), if_neg (by omega), if_neg (by omega), if_neg (by omega), if_neg (by omega), if_neg (by omega), if_neg (by omega)]
    rwa [this] at h
  · refine ⟨fun e => ?_, fun e => ?_, fun e => ?_, fun e => ?_, fun e => ?_, fun e => ?_, fun e => ?_, fun e => ?_, fun e => ?_, fun e => ?_, fun e => ?_, fun e => ?_, fun e => ?_, fun e => ?_, fun e => ?_, fun e => ?_, fun e => ?_, fun e => ?_, fun e => ?_, fun e => ?_, fun e => ?_, fun e => ?_, fun e => ?_, fun e => ?_, fun e => ?_⟩
    all_goals subst e
    case refine_10 =>
      have h : Q (if b = 0 then 0 else kldiv a b) σ := h
      refine ⟨fun c => ?_, fun c => ?_⟩
      · rw [klcmp_eq] at c
        rw [if_neg c] at h
        exact ⟨c, h⟩
      · have c := Classical.not_not.mp c
        rw [klcmp_eq] at c
        rwa [if_pos c] at h
    case refine_23 =>
      have h : Q (if a < b then 1 else 0) σ := h
      have e := klcmp_lt (a := a) (b := b)
      refine ⟨fun c => ?_, fun c => ?_⟩
      · rwa [if_neg (by omega)] at h
      · rwa [if_pos (by omega)] at h
    case refine_24 =>
      have h : Q (if a = b then 1 else 0) σ := h
      refine ⟨fun c => ?_, fun c => ?_⟩
      · rw [klcmp_eq] at c
        rwa [if_neg c] at h
      · have c := Classical.not_not.mp c
        rw [klcmp_eq] at c
        rwa [if_pos c] at h
    case refine_25 =>
      have h : Q (if b < a then 1 else 0) σ := h
      have e := klcmp_gt (a := a) (b := b)
      refine ⟨fun c => ?_, fun c => ?_⟩
      · rwa [if_neg (by omega)] at h
      · rwa [if_pos (by omega)] at h
    all_goals exact h
theorem goer_f {σ : kS} (hL : Lay σ) {i : Int} (h : 0 ≤ i ∧ i < 6) : isO 3 kN (97 + 4 * i) ∧ (σ (97 + 4 * i) 0 = 97 + 4 * i + 1 ∧ σ (97 + 4 * i) 1 = 97 + 4 * i + 2 ∧ σ (97 + 4 * i) 4 = 97 + 4 * i + 3) ∧ (isA 20 kN (97 + 4 * i + 1) ∧ klen (97 + 4 * i + 1) = 120) ∧ (isA 20 kN (97 + 4 * i + 2) ∧ klen (97 + 4 * i + 2) = 120) ∧ isA 20 kN (97 + 4 * i + 3) ∧ klen (97 + 4 * i + 3) = 6 := by
  rcases (show i = 0 ∨ i = 1 ∨ i = 2 ∨ i = 3 ∨ i = 4 ∨ i = 5 by omega) with rfl | rfl | rfl | rfl | rfl | rfl
  · exact ⟨o_97, ⟨ly_97_0 hL, ly_97_1 hL, ly_97_4 hL⟩, ⟨a_98, kl_98⟩, ⟨a_99, kl_99⟩, a_100, kl_100⟩
  · exact ⟨o_101, ⟨ly_101_0 hL, ly_101_1 hL, ly_101_4 hL⟩, ⟨a_102, kl_102⟩, ⟨a_103, kl_103⟩, a_104, kl_104⟩
  · exact ⟨o_105, ⟨ly_105_0 hL, ly_105_1 hL, ly_105_4 hL⟩, ⟨a_106, kl_106⟩, ⟨a_107, kl_107⟩, a_108, kl_108⟩
  · exact ⟨o_109, ⟨ly_109_0 hL, ly_109_1 hL, ly_109_4 hL⟩, ⟨a_110, kl_110⟩, ⟨a_111, kl_111⟩, a_112, kl_112⟩
  · exact ⟨o_113, ⟨ly_113_0 hL, ly_113_1 hL, ly_113_4 hL⟩, ⟨a_114, kl_114⟩, ⟨a_115, kl_115⟩, a_116, kl_116⟩
  · exact ⟨o_117, ⟨ly_117_0 hL, ly_117_1 hL, ly_117_4 hL⟩, ⟨a_118, kl_118⟩, ⟨a_119, kl_119⟩, a_120, kl_120⟩
/-- the stack, and where it lies -/
def WS (σ s : kS) (r : Int) (st : List Int) : Prop := off [r + 2] σ s ∧ Lay s ∧ seg (s (r + 2)) 0 st.length = st.reverse
def gBdd (i : Int) (st : List Int) : Prop := ∀ a ∈ st, -1000000 - i ≤ a ∧ a ≤ 1000000 + i
theorem stk_push {f g : Int → Int} {st : List Int} {v : Int} (h : seg f 0 st.length = st.reverse) (hg : ∀ j : Int, 0 ≤ j → j < st.length → g j = f j) (hv : g st.length = v) : seg g 0 (v :: st).length = (v :: st).reverse := by
  rw [List.length_cons, show ((st.length + 1 : Nat) : Int) = (st.length : Int) + 1 by omega, seg_snoc (by omega), List.reverse_cons, ← h]
  congr 1
  · apply seg_cong
    intro i i0 i1
    rw [hg _ (by omega) (by omega)]
  · rw [Int.zero_add, hv]
theorem stk_pop {f : Int → Int} {a : Int} {st : List Int} (h : seg f 0 (a :: st).length = (a :: st).reverse) : seg f 0 st.length = st.reverse ∧ f st.length = a := by
  rw [List.length_cons, show ((st.length + 1 : Nat) : Int) = (st.length : Int) + 1 by omega, seg_snoc (by omega), List.reverse_cons, Int.zero_add] at h
  have h8 := List.append_inj h (by rw [seg_len, List.length_reverse]; omega)
  exact ⟨h8.1, (List.cons.inj h8.2).1⟩
theorem WS.set {σ s : kS} {r j v : Int} {st : List Int} (hA : isA 20 kN (r + 2)) (h : WS σ s r st) : off [r + 2] σ (kst s (r + 2) j v) ∧ Lay (kst s (r + 2) j v) := ⟨h.1.kst (by simp), h.2.1.kstA hA⟩
theorem worth_step {d : Nat} (hd : 1 ≤ d) {σ s : kS} {g i : Int} {st : List Int} {Q : Int → kS → Prop} (hg : 0 ≤ g ∧ g < 6) (hs : WS σ s (97 + 4 * g) st) (hi : 0 ≤ i ∧ i < σ (97 + 4 * g) 2) (hsz : σ (97 + 4 * g) 2 ≤ 120) (ho : okO (σ (97 + 4 * g + 1) i)) (hl : (st.length : Int) ≤ i) (hb : gBdd i st) (h34 : ∀ k, 0 ≤ k → k < 8 → -1000000 ≤ σ 34 k ∧ σ 34 k ≤ 1000000) (h : ∀ s', WS σ s' (97 + 4 * g) (gStep (σ 34) (σ (97 + 4 * g + 1) i) st) → ((gStep (σ 34) (σ (97 + 4 * g + 1) i) st).length : Int) ≤ i + 1 → gBdd (i + 1) (gStep (σ 34) (σ (97 + 4 * g + 1) i) st) → LX3_worth_4 d kN Q (97 + 4 * g) 34 ((gStep (σ 34) (σ (97 + 4 * g + 1) i) st).length : Int) (i + 1) s') : LX3_worth_4 d kN Q (97 + 4 * g) 34 (st.length : Int) i s := by
  obtain ⟨g1, ⟨g2, g3, g4⟩, ⟨g5, g6⟩, ⟨g7, g8⟩, g9⟩ := goer_f hs.2.1 hg
  have k34 := kl_34
  have hmono : gBdd (i + 1) st := fun a ha => by have := hb a ha; omega
  have es1 : s (97 + 4 * g) = σ (97 + 4 * g) := hs.1 _ (by simp only [List.mem_singleton]; omega)
  have es2 : s (97 + 4 * g + 1) = σ (97 + 4 * g + 1) := hs.1 _ (by simp only [List.mem_singleton]; omega)
  have es3 : s 34 = σ 34 := hs.1 _ (by simp only [List.mem_singleton]; omega)
  refine SX3_worth_4 ?_
  rw [g2, g3, es1, es2, es3, k34]
  generalize hx : σ (97 + 4 * g + 1) i = x at h ho
  unfold gStep at h
  have push : ∀ v, -1000000 ≤ v ∧ v ≤ 1000000 → WS σ (kst s (97 + 4 * g + 2) st.length v) (97 + 4 * g) (v :: st) ∧ gBdd (i + 1) (v :: st) := fun v hv => by
    have hset := hs.set (j := st.length) (v := v) g7
    refine ⟨⟨hset.1, hset.2, stk_push hs.2.2 (fun j j0 j1 => kst_kj (by omega)) kst_eq⟩, fun a ha => ?_⟩
    rcases List.mem_cons.mp ha with rfl | ha
    · omega
    · exact hmono a ha
  refine ⟨g1, fun e => by omega, fun _ => ⟨g7, fun e => by omega, fun _ => ⟨g5, by omega, fun c1 => ⟨a_34, by omega, fun c2 => ⟨fun c3 => ⟨fun c4 => ⟨fun c5 => ?_, fun c5 => ?_⟩, fun c4 => by omega⟩, fun c3 => by omega⟩, fun c2 => ?_⟩, fun c1 => ?_⟩⟩⟩
  · rw [if_neg (by omega), if_neg (by omega), if_neg c5] at h
    match st, hs, hl, hb, hmono, h with
    | [], hs, hl, hb, hmono, h => exact ⟨fun _ => ⟨by omega, h s hs (by show ((([] : List Int).length : Nat) : Int) ≤ i + 1; simp only [List.length_nil]; omega) hmono⟩, fun e => absurd (show ((([] : List Int).length : Nat) : Int) ≤ 1 by decide) e⟩
    | [a], hs, hl, hb, hmono, h => exact ⟨fun _ => ⟨by omega, h s hs (by show ((([a] : List Int).length : Nat) : Int) ≤ i + 1; simp only [List.length_cons, List.length_nil]; omega) hmono⟩, fun e => absurd (show ((([a] : List Int).length : Nat) : Int) ≤ 1 by simp) e⟩
    | c :: a :: t, hs, hl, hb, hmono, h =>
      have hl2 : ((c :: a :: t).length : Int) = t.length + 2 := by simp only [List.length_cons]; omega
      have p1 := stk_pop hs.2.2
      have p2 := stk_pop p1.1
      have hla : ((a :: t).length : Int) = t.length + 1 := by simp only [List.length_cons]; omega
      rw [hl2]
      refine ⟨fun e => by omega, fun _ => ⟨by omega, by omega, by omega, by omega, by omega, ?_⟩⟩
      have i1 : ((t.length : Int) + 2 + -1 - 1) = t.length := by omega
      have i2 : ((t.length : Int) + 2 + -1) = (a :: t).length := by omega
      rw [i1, i2, p1.2, p2.2]
      have hB := gBd_b (v := gJoin (x - 20000) a c)
      refine G_joined (by omega) (J_minL (by omega) (J_maxL (by omega) ⟨by unfold gBd at hB; omega, ?_⟩))
      rw [g3]
      refine ⟨g7, by omega, fun s4 e4 => ⟨by omega, ?_⟩⟩
      have hset := hs.set (j := (t.length : Int)) (v := gBd (gJoin (x - 20000) a c)) g7
      have fin := h s4 ⟨by rw [e4]; exact hset.1, by rw [e4]; exact hset.2, by
        show seg (s4 (97 + 4 * g + 2)) 0 (gBd (gJoin (x - 20000) a c) :: t).length = _
        exact stk_push p2.1 (fun j j0 j1 => by rw [e4, kst_kj (by omega)]) (by rw [e4, kst_eq]; rfl)⟩ (by show ((gBd (gJoin (x - 20000) a c) :: t).length : Int) ≤ i + 1; simp only [List.length_cons] at hl ⊢; omega) (fun y hy => by
          rcases List.mem_cons.mp hy with rfl | hy
          · omega
          · exact hmono y (List.mem_cons_of_mem _ (List.mem_cons_of_mem _ hy)))
      exact fin
  · have c5 := Classical.not_not.mp c5
    rw [if_neg (by omega), if_neg (by omega), if_pos c5] at h
    match st, hs, hl, hb, hmono, h with
    | [], hs, hl, hb, hmono, h => exact ⟨fun _ => ⟨fun _ => ⟨by omega, h s hs (by show ((([] : List Int).length : Nat) : Int) ≤ i + 1; simp only [List.length_nil]; omega) hmono⟩, fun e => absurd (show ((([] : List Int).length : Nat) : Int) ≤ 1 by decide) e⟩, fun e => absurd (show ((([] : List Int).length : Nat) : Int) ≤ 0 by decide) e⟩
    | a :: t, hs, hl, hb, hmono, h =>
      have hl2 : ((a :: t).length : Int) = t.length + 1 := by simp only [List.length_cons]; omega
      have p1 := stk_pop hs.2.2
      have hba := hb a List.mem_cons_self
      rw [hl2]
      refine ⟨fun e => by omega, fun _ => ⟨by omega, by omega, ?_⟩⟩
      rw [show ((t.length : Int) + 1 - 1) = t.length by omega, p1.2]
      refine ⟨by omega, fun s1 e1 => ⟨by omega, ?_⟩⟩
      have hset := hs.set (j := (t.length : Int)) (v := 1 - a) g7
      have fin := h s1 ⟨by rw [e1]; exact hset.1, by rw [e1]; exact hset.2, by
        show seg (s1 (97 + 4 * g + 2)) 0 ((1 - a) :: t).length = _
        exact stk_push p1.1 (fun j j0 j1 => by rw [e1, kst_kj (by omega)]) (by rw [e1, kst_eq])⟩ (by show (((1 - a) :: t).length : Int) ≤ i + 1; simp only [List.length_cons] at hl ⊢; omega) (fun y hy => by
          rcases List.mem_cons.mp hy with rfl | hy
          · omega
          · exact hmono y (List.mem_cons_of_mem _ hy))
      rw [← hl2]
      exact fin
  · rw [if_neg (by omega), if_pos (by omega)] at h
    refine ⟨by omega, by omega, by omega, fun s1 e1 => ⟨by omega, by omega, ?_⟩⟩
    have hp := push _ (h34 (x - 10000) (by omega) (by omega))
    have fin := h s1 (by rw [e1]; exact hp.1) (by simp only [List.length_cons]; omega) hp.2
    rw [show ((st.length : Int) + 1) = ((σ 34 (x - 10000) :: st).length : Int) by simp only [List.length_cons]; omega]
    exact fin
  · rw [if_pos (by omega)] at h
    refine ⟨by omega, fun s1 e1 => ⟨by omega, by omega, ?_⟩⟩
    have hp := push x (by omega)
    have fin := h s1 (by rw [e1]; exact hp.1) (by simp only [List.length_cons]; omega) hp.2
    rw [show ((st.length : Int) + 1) = ((x :: st).length : Int) by simp only [List.length_cons]; omega]
    exact fin
theorem worth_seg {d : Nat} (hd : 1 ≤ d) {σ : kS} {g : Int} {Q : Int → kS → Prop} (hg : 0 ≤ g ∧ g < 6) (hsz : σ (97 + 4 * g) 2 ≤ 120) (h34 : ∀ k, 0 ≤ k → k < 8 → -1000000 ≤ σ 34 k ∧ σ 34 k ≤ 1000000) : ∀ (os : List Int) (i : Int) (s : kS) (st : List Int), (∀ o ∈ os, okO o) → seg (σ (97 + 4 * g + 1)) i os.length = os → 0 ≤ i → i + os.length ≤ σ (97 + 4 * g) 2 → WS σ s (97 + 4 * g) st → (st.length : Int) ≤ i → gBdd i st → (∀ s', WS σ s' (97 + 4 * g) (gEv (σ 34) os st) → ((gEv (σ 34) os st).length : Int) ≤ i + os.length → gBdd (i + os.length) (gEv (σ 34) os st) → LX3_worth_4 d kN Q (97 + 4 * g) 34 ((gEv (σ 34) os st).length : Int) (i + os.length) s') → LX3_worth_4 d kN Q (97 + 4 * g) 34 (st.length : Int) i s := by
  intro os
  induction os with
  | nil =>
    intro i s st ho hseg hi hin hs hl hb h
    have e0 : i + (([] : List Int).length : Int) = i := by simp
    rw [e0] at h
    exact h s hs hl hb
  | cons o os ih =>
    intro i s st ho hseg hi hin hs hl hb h
    have hlen : (((o :: os).length : Nat) : Int) = os.length + 1 := by simp only [List.length_cons]; omega
    rw [hlen] at hin h hseg
    rw [seg_cons (by omega), show (os.length : Int) + 1 - 1 = os.length by omega] at hseg
    have hc := List.cons.inj hseg
    refine worth_step hd hg hs ⟨hi, by omega⟩ hsz (by rw [hc.1]; exact ho o List.mem_cons_self) hl hb h34 (fun s' hs' hl' hb' => ?_)
    rw [hc.1] at hs' hl' hb' ⊢
    refine ih (i + 1) s' _ (fun x hx => ho x (List.mem_cons_of_mem _ hx)) hc.2 (by omega) (by omega) hs' hl' hb' (fun s2 hs2 hl2 hb2 => ?_)
    have e : i + 1 + (os.length : Int) = i + (os.length + 1) := by omega
    rw [e] at hl2 hb2 ⊢
    exact h s2 hs2 hl2 hb2
