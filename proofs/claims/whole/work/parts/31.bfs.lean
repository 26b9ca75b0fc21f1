/-! hops: pure -/
theorem apart_stp {c d : Int} (h : stp c d ≠ -1) : apart c (stp c d) = 1 := by
  obtain ⟨hc, hd, hs, hx, hy⟩ := stp_cell h
  have := dx_b hd
  unfold apart kabs
  rw [hx, hy]
  omega
theorem hop_stp {H : Int → Int} {far c d : Int} (hf : 1 ≤ far) (h : stp c d ≠ -1) : hop H far c (stp c d) := by
  have e := apart_stp h
  exact ⟨by omega, fun i i0 i1 => by omega⟩
/-- the fewest hops to g -/
def HD (H : Int → Int) (far g : Int) (T : Int → Int) : Prop :=
  T g = 0 ∧ (∀ c, 0 ≤ c → c < 120 → 0 ≤ T c) ∧ (∀ c b, 0 ≤ c → c < 120 → 0 ≤ b → b < 120 → hop H far c b → T c ≤ T b + 1) ∧ (∀ c, 0 ≤ c → c < 120 → c ≠ g → ∃ b, (0 ≤ b ∧ b < 120) ∧ hop H far c b ∧ T c = T b + 1)
def lab (h : Int → Int) (c : Int) : Int := if h c = -1 then 0 else 1
/-- p of the queue are done, and of the next one all below k (p1 = p or p + 1) -/
def BQ (H : Int → Int) (far g : Int) (h q : Int → Int) (n p p1 k : Int) : Prop :=
  (1 ≤ n ∧ 0 ≤ p ∧ p ≤ p1 ∧ p1 ≤ n ∧ p1 ≤ p + 1) ∧ (∀ i, 0 ≤ i → i < n → (0 ≤ q i ∧ q i < 120) ∧ 0 ≤ h (q i)) ∧ (∀ c, 0 ≤ c → c < 120 → h c ≠ -1 → ∃ i, 0 ≤ i ∧ i < n ∧ q i = c) ∧ (∀ i j, 0 ≤ i → i ≤ j → j < n → h (q i) ≤ h (q j)) ∧ (∀ i j, 0 ≤ i → i < n → p ≤ j → j < n → h (q i) ≤ h (q j) + 1) ∧ (∀ c, 0 ≤ c → c < 120 → c ≠ g → h c ≠ -1 → ∃ i, 0 ≤ i ∧ i < p1 ∧ hop H far c (q i) ∧ h c = h (q i) + 1) ∧ (∀ i c, 0 ≤ i → i < p1 → 0 ≤ c → c < 120 → (i = p → c < k) → hop H far c (q i) → h c ≠ -1 ∧ h c ≤ h (q i) + 1) ∧ h g = 0 ∧ sm (lab h) 120 = n
theorem lab_b {h : Int → Int} : 0 ≤ sm (lab h) 120 ∧ sm (lab h) 120 ≤ 120 := by
  have := sm_1 (f := lab h) (n := 120) (fun i _ _ => by unfold lab; split <;> omega)
  omega
theorem lab_un {h : Int → Int} {c : Int} (hc : 0 ≤ c ∧ c < 120) (e : h c = -1) : sm (lab h) 120 < 120 := by
  have h1 := sm_up (f := lab h) (g := fun z => if z = c then 1 else lab h z) (c := c) (n := 120) hc.1 hc.2 (fun i _ _ hi => by simp only [hi, if_false])
  have h2 := sm_1 (f := fun z => if z = c then 1 else lab h z) (n := 120) (fun i _ _ => by unfold lab; split <;> (try split) <;> omega)
  have h3 : lab h c = 0 := by unfold lab; rw [if_pos e]
  simp only [if_true] at h1
  omega
theorem BQ.start {H : Int → Int} {far g : Int} {h q : Int → Int} (hg : 0 ≤ g ∧ g < 120) (h0 : h g = 0) (h1 : ∀ c, 0 ≤ c → c < 120 → c ≠ g → h c = -1) (hq : q 0 = g) : BQ H far g h q 1 0 0 0 := by
  have q0 : ∀ i, 0 ≤ i → i < 1 → q i = g := fun i i0 i1 => by rw [show i = 0 by omega]; exact hq
  refine ⟨by omega, fun i i0 i1 => ?_, fun c c0 c1 hc => ⟨0, by omega, by omega, ?_⟩, fun i j i0 ij j1 => ?_, fun i j i0 i1 j0 j1 => ?_, fun c c0 c1 hc hl => absurd (h1 c c0 c1 hc) hl, fun i c i0 i1 => by omega, h0, ?_⟩
  · rw [q0 i i0 i1, h0]; omega
  · rw [hq]
    exact (Classical.byContradiction fun e => hc (h1 c c0 c1 (fun e2 => e e2.symm)))
  · rw [q0 i i0 (by omega), q0 j (by omega) j1]; exact Int.le_refl _
  · rw [q0 i i0 i1, q0 j (by omega) j1]; omega
  · have h8 := sm_up (f := fun _ => 0) (g := lab h) (c := g) (n := 120) hg.1 hg.2 (fun i i0 i1 hi => by unfold lab; rw [h1 i i0 (by omega) hi, if_pos rfl])
    have h9 := sm_b (f := fun _ => (0 : Int)) (B := 0) (n := 120) (fun _ _ _ => by omega)
    have h10 : lab h g = 1 := by unfold lab; rw [h0]; rfl
    omega
theorem BQ.take {H : Int → Int} {far g : Int} {h q : Int → Int} {n p : Int} (hb : BQ H far g h q n p p 0) (hp : p < n) : BQ H far g h q n p (p + 1) 0 := by
  obtain ⟨a1, a2, a3, a4, a5, a6, a7, a8⟩ := hb
  refine ⟨by omega, a2, a3, a4, a5, fun c c0 c1 hc hl => ?_, fun i c i0 i1 c0 c1 hk hh => ?_, a8⟩
  · obtain ⟨i, b0, b1, b2⟩ := a6 c c0 c1 hc hl
    exact ⟨i, b0, by omega, b2⟩
  · by_cases e : i = p
    · have := hk e
      omega
    · exact a7 i c i0 (by omega) c0 c1 (fun e2 => absurd e2 e) hh
theorem BQ.close {H : Int → Int} {far g : Int} {h q : Int → Int} {n p k : Int} (hb : BQ H far g h q n p (p + 1) k) (hk : 120 ≤ k) : BQ H far g h q n (p + 1) (p + 1) 0 := by
  obtain ⟨a1, a2, a3, a4, a5, a6, a7, a8⟩ := hb
  refine ⟨by omega, a2, a3, a4, fun i j i0 i1 j0 j1 => ?_, a6, fun i c i0 i1 c0 c1 hk2 hh => a7 i c i0 i1 c0 c1 (fun _ => by omega) hh, a8⟩
  have := a5 i p i0 i1 (by omega) (by omega)
  have := a4 p j (by omega) (by omega) j1
  omega
theorem BQ.skip {H : Int → Int} {far g : Int} {h q : Int → Int} {n p k : Int} (hb : BQ H far g h q n p (p + 1) k) (hs : h k ≠ -1 ∨ ¬ hop H far k (q p)) : BQ H far g h q n p (p + 1) (k + 1) := by
  obtain ⟨a1, a2, a3, a4, a5, a6, a7, a8⟩ := hb
  refine ⟨a1, a2, a3, a4, a5, a6, fun i c i0 i1 c0 c1 hk2 hh => ?_, a8⟩
  by_cases e : i = p ∧ c = k
  · obtain ⟨e1, e2⟩ := e
    subst e1 e2
    rcases hs with hs | hs
    · obtain ⟨j, j0, j1, hj⟩ := a3 c c0 c1 hs
      have := a5 j i j0 j1 (by omega) (by omega)
      rw [hj] at this
      exact ⟨hs, this⟩
    · exact absurd hh hs
  · exact a7 i c i0 i1 c0 c1 (fun e2 => by have := hk2 e2; omega) hh
theorem BQ.push {H : Int → Int} {far g : Int} {h q h' q' : Int → Int} {n p k : Int} (hb : BQ H far g h q n p (p + 1) k) (hk : 0 ≤ k ∧ k < 120) (hu : h k = -1) (hh : hop H far k (q p)) (e1 : ∀ c, h' c = if c = k then h (q p) + 1 else h c) (e2 : ∀ i, q' i = if i = n then k else q i) : BQ H far g h' q' (n + 1) p (p + 1) (k + 1) := by
  obtain ⟨a1, a2, a3, a4, a5, a6, a7, a8, a9⟩ := hb
  have qk : ∀ i, 0 ≤ i → i < n → q i ≠ k := fun i i0 i1 e => by
    have := (a2 i i0 i1).2
    rw [e, hu] at this
    omega
  have hq : ∀ i, 0 ≤ i → i < n → q' i = q i ∧ h' (q' i) = h (q i) := fun i i0 i1 => by
    have e : q' i = q i := by rw [e2, if_neg (by omega)]
    exact ⟨e, by rw [e, e1, if_neg (qk i i0 i1)]⟩
  have hn : q' n = k ∧ h' (q' n) = h (q p) + 1 := by
    have e : q' n = k := by rw [e2, if_pos rfl]
    exact ⟨e, by rw [e, e1, if_pos rfl]⟩
  have hp := (a2 p (by omega) (by omega)).2
  refine ⟨by omega, fun i i0 i1 => ?_, fun c c0 c1 hc => ?_, fun i j i0 ij j1 => ?_, fun i j i0 i1 j0 j1 => ?_, fun c c0 c1 hc hl => ?_, fun i c i0 i1 c0 c1 hk2 hh2 => ?_, ?_, ?_⟩
  · by_cases e : i = n
    · rw [e, hn.2, hn.1]
      exact ⟨hk, by omega⟩
    · have := hq i i0 (by omega)
      rw [this.2, this.1]
      exact a2 i i0 (by omega)
  · by_cases e : c = k
    · exact ⟨n, by omega, by omega, by rw [hn.1, e]⟩
    · rw [e1, if_neg e] at hc
      obtain ⟨i, b0, b1, b2⟩ := a3 c c0 c1 hc
      exact ⟨i, b0, by omega, by rw [(hq i b0 b1).1]; exact b2⟩
  · by_cases ej : j = n
    · rw [ej, hn.2]
      by_cases ei : i = n
      · rw [ei, hn.2]; exact Int.le_refl _
      · rw [(hq i i0 (by omega)).2]
        exact a5 i p i0 (by omega) (by omega) (by omega)
    · rw [(hq j (by omega) (by omega)).2, (hq i i0 (by omega)).2]
      exact a4 i j i0 ij (by omega)
  · by_cases ej : j = n
    · rw [ej, hn.2]
      by_cases ei : i = n
      · rw [ei, hn.2]; omega
      · rw [(hq i i0 (by omega)).2]
        have := a5 i p i0 (by omega) (by omega) (by omega)
        omega
    · rw [(hq j (by omega) (by omega)).2]
      by_cases ei : i = n
      · rw [ei, hn.2]
        have := a4 p j (by omega) j0 (by omega)
        omega
      · rw [(hq i i0 (by omega)).2]
        exact a5 i j i0 (by omega) j0 (by omega)
  · by_cases e : c = k
    · refine ⟨p, by omega, by omega, ?_, ?_⟩
      · rw [e, (hq p (by omega) (by omega)).1]; exact hh
      · rw [(hq p (by omega) (by omega)).2, e, e1, if_pos rfl]
    · rw [e1, if_neg e] at hl
      obtain ⟨i, b0, b1, b2, b3⟩ := a6 c c0 c1 hc hl
      have := hq i b0 (by omega)
      exact ⟨i, b0, b1, by rw [this.1]; exact b2, by rw [this.2, e1, if_neg e]; exact b3⟩
  · have hqi := hq i i0 (by omega)
    rw [hqi.2]
    rw [hqi.1] at hh2
    by_cases e : c = k
    · rw [e, e1, if_pos rfl]
      refine ⟨by omega, ?_⟩
      by_cases ei : i = p
      · rw [ei]; exact Int.le_refl _
      · have := a7 i k i0 i1 hk.1 hk.2 (fun e2 => absurd e2 ei) (by rw [← e]; exact hh2)
        exact absurd hu this.1
    · rw [e1, if_neg e]
      exact a7 i c i0 i1 c0 c1 (fun e3 => by have := hk2 e3; omega) hh2
  · rw [e1, if_neg (fun e => by rw [e] at a8; omega)]
    exact a8
  · have h8 := sm_up (f := lab h) (g := lab h') (c := k) (n := 120) hk.1 hk.2 (fun i i0 i1 hi => by unfold lab; rw [e1, if_neg hi])
    have h10 : lab h' k = 1 := by unfold lab; rw [e1, if_pos rfl, if_neg (by omega)]
    have h11 : lab h k = 0 := by unfold lab; rw [hu]; rfl
    omega
/-- where the queue is done every cell is reached -/
theorem BQ.all {H : Int → Int} {far g : Int} {h q : Int → Int} {n : Int} (hf : 1 ≤ far) (hg : 0 ≤ g ∧ g < 120) (hb : BQ H far g h q n n n 0) : ∀ c, 0 ≤ c → c < 120 → h c ≠ -1 := by
  obtain ⟨a1, a2, a3, a4, a5, a6, a7, a8, a9⟩ := hb
  have key : ∀ m : Nat, ∀ c, 0 ≤ c → c < 120 → (apart c g).toNat = m → h c ≠ -1 := by
    intro m
    induction m using Nat.strongRecOn with
    | ind m ih =>
      intro c c0 c1 hm
      by_cases e : c = g
      · rw [e, a8]; omega
      · obtain ⟨d, hd, hlt⟩ := toward ⟨c0, c1⟩ hg e
        have hs := (stp_cell hd).2.2.1
        have := apart_nn (a := stp c d) (b := g)
        have h1 := ih (apart (stp c d) g).toNat (by omega) _ hs.1 hs.2 rfl
        obtain ⟨i, i0, i1, hi⟩ := a3 _ hs.1 hs.2 h1
        exact (a7 i c i0 i1 c0 c1 (fun e2 => by omega) (by rw [hi]; exact hop_stp hf hd)).1
  exact fun c c0 c1 => key _ c c0 c1 rfl
/-- what the class's hops are -/
theorem BQ.out {H : Int → Int} {far g f : Int} {h q T : Int → Int} {n p : Int} (hb : BQ H far g h q n p p 0) (hT : HD H far g T) (hf : 0 ≤ f ∧ f < 120) (hl : h f ≠ -1) : h f = T f ∧ (∀ c, 0 ≤ c → c < 120 → h c ≠ -1 → T c ≤ h c) ∧ (∀ c, 0 ≤ c → c < 120 → T c < h f → h c = T c) := by
  obtain ⟨a1, a2, a3, a4, a5, a6, a7, a8, a9⟩ := hb
  have hA : ∀ m : Nat, ∀ c, 0 ≤ c → c < 120 → h c ≠ -1 → (h c).toNat = m → T c ≤ h c := by
    intro m
    induction m using Nat.strongRecOn with
    | ind m ih =>
      intro c c0 c1 hc hm
      by_cases e : c = g
      · rw [e, a8, hT.1]; exact Int.le_refl _
      · obtain ⟨i, i0, i1, b1, b2⟩ := a6 c c0 c1 e hc
        have b3 := a2 i i0 (by omega)
        have b4 := ih (h (q i)).toNat (by omega) _ b3.1.1 b3.1.2 (by omega) rfl
        have b5 := hT.2.2.1 c (q i) c0 c1 b3.1.1 b3.1.2 b1
        omega
  have hA' := fun c c0 c1 hc => hA _ c c0 c1 hc rfl
  have hB : ∀ m : Nat, ∀ c, 0 ≤ c → c < 120 → T c < h f → (T c).toNat = m → h c ≠ -1 ∧ h c ≤ T c := by
    intro m
    induction m using Nat.strongRecOn with
    | ind m ih =>
      intro c c0 c1 hc hm
      by_cases e : c = g
      · rw [e, a8, hT.1]; omega
      · obtain ⟨b, hb1, hb2, hb3⟩ := hT.2.2.2 c c0 c1 e
        have b0 := hT.2.1 b hb1.1 hb1.2
        obtain ⟨d1, d2⟩ := ih (T b).toNat (by omega) b hb1.1 hb1.2 (by omega) rfl
        obtain ⟨j, j0, j1, hj⟩ := a3 b hb1.1 hb1.2 d1
        by_cases ej : j < p
        · have := a7 j c j0 ej c0 c1 (fun e2 => by omega) (by rw [hj]; exact hb2)
          rw [hj] at this
          exact ⟨this.1, by omega⟩
        · exfalso
          by_cases ef : f = g
          · rw [ef, a8] at hc
            have := hT.2.1 c c0 c1
            omega
          · obtain ⟨i, i0, i1, q1, q2⟩ := a6 f hf.1 hf.2 ef hl
            have := a4 i j i0 (by omega) j1
            rw [hj] at this
            omega
  have hB' := fun c c0 c1 hc => hB _ c c0 c1 hc rfl
  have h1 := hA' f hf.1 hf.2 hl
  refine ⟨?_, hA', fun c c0 c1 hc => ?_⟩
  · rcases (show T f < h f ∨ T f = h f by omega) with q1 | q1
    · have := (hB' f hf.1 hf.2 q1).2
      omega
    · exact q1.symm
  · have h2 := hB' c c0 c1 hc
    have h3 := hA' c c0 c1 h2.1
    omega
