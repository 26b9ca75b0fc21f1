/-! rows of the law -/
/-- the script's step i, its eight numbers a -/
def SA (s : kS) (i : Int) (a : Int → Int) : Prop := 0 ≤ i ∧ i + 8 ≤ s (-4) (-1) ∧ ∀ j, 0 ≤ j → j ≤ 7 → s (-4) (i + j) = a j
theorem SA.mono {σ s : kS} {i : Int} {a : Int → Int} (h : SA σ i a) (e : scrEq σ s) : SA s i a :=
  ⟨h.1, by rw [e.1]; exact h.2.1, fun j j0 j1 => by rw [e.2 (i + j) (by have := h.1; omega) (by have := h.2.1; omega)]; exact h.2.2 j j0 j1⟩
theorem scrEq.trans {σ s u : kS} (h : scrEq σ s) (h' : scrEq s u) : scrEq σ u :=
  ⟨h'.1.trans h.1, fun j j0 j1 => (h'.2 j j0 (by rw [h.1]; exact j1)).trans (h.2 j j0 j1)⟩
theorem scrEq.rf {σ : kS} : scrEq σ σ := ⟨rfl, fun _ _ _ => rfl⟩
def wtt (x : Int) : Int := if x = 0 then 0 else 1
theorem wtt_01 {x : Int} : wtt x = 0 ∨ wtt x = 1 := by
  unfold wtt
  split
  · exact Or.inl rfl
  · exact Or.inr rfl
theorem klcmp_self {x : Int} : klcmp x x = 0 := by
  unfold klcmp
  simp
section ZL
variable {d : Nat} {M : kM} {F : kFin} {b : Nat × Nat} {pc : Nat} {ls : List (Nat × kV)} {st : List kV} {n : Nat} {σ : kS}
theorem Z_lda {i j : Int} {a : Int → Int} (hd : decode M.2.1 pc = .ok (.iaload, 1)) (h0 : 0 ≤ i) (hj : 0 ≤ j ∧ j ≤ 7) (hS : SA σ i a) (k : Z d M F b (pc + 1) ls ((0, a j) :: st) n σ) : Z d M F b pc ls ((0, i + j) :: (2, -4) :: st) n σ := by
  rw [← hS.2.2 j hj.1 hj.2] at k
  exact Z_sld hd (by omega) (by have := hS.2.1; omega) k
theorem Z_wet {x : Int} (h1 : decode M.2.1 pc = .ok (.ifCond .eq 7, 3)) (h2 : decode M.2.1 (pc + 3) = .ok (.iconst 1, 1)) (h3 : decode M.2.1 (pc + 4) = .ok (.goto 4, 3)) (h4 : decode M.2.1 (pc + 7) = .ok (.iconst 0, 1)) (k : Z d M F b (pc + 8) ls ((0, wtt x) :: st) n σ) : Z d M F b pc ls ((0, x) :: st) n σ := by
  refine Z_if_eq (tgt := pc + 7) h1 (by omega) (fun c => ?_) (fun c => ?_)
  · refine Z_iconst h4 (by decide) ?_
    have e : wtt x = 0 := by unfold wtt; rw [if_pos c]
    rw [e] at k
    exact k
  · refine Z_iconst h2 (by decide) ?_
    refine Z_goto (tgt := pc + 8) h3 (by omega) ?_
    have e : wtt x = 1 := by unfold wtt; rw [if_neg c]
    rw [e] at k
    exact k
theorem Z_lsd {ls' : List (Nat × kV)} (hm : ∀ q ∈ ls', q ∈ ls) (k : Z d M F b pc ls' st n σ) : Z d M F b pc ls st n σ := by
  intro p l e s m args below meth cd X H locs cells slots mc ms Qc arr ⟨hF, hP, hlv, h1, h2⟩
  exact k p l e s m args below meth cd X H locs cells slots mc ms Qc arr ⟨hF, hP, ⟨hlv.1, hlv.2.1, fun q hq => by
    obtain ⟨q', hq', rfl⟩ := List.mem_map.mp hq
    exact hlv.2.2 _ (List.mem_map_of_mem (hm q' hq'))⟩, fun q hq => h1 q (hm q hq), h2⟩
end ZL
theorem lsd2 {α : Type} {A : List α} {x y q : α} (h : q ∈ A) : q ∈ A ++ [x, y] := List.mem_append_left _ h
theorem M_thrown {d : Nat} (hd : 1 ≤ d) {σ : kS} {Q : Int → kS → Prop} (h : Q (σ 166 0) σ) : Ci d MX12_thrown [(2, 166)] kN σ Q := by
  obtain ⟨d, rfl⟩ : ∃ e, d = e + 1 := ⟨d - 1, by omega⟩
  exact EX12_thrown fun _ => SX12_thrown_0 ⟨o_166, h⟩
theorem painV_fr {σ s : kS} (h : Fr σ s) {g load wet c k : Int} : painV s g load wet c k = painV σ g load wet c k := by
  unfold painV
  rw [tolN_fr h]
theorem stageV_fr {σ s : kS} (h : Fr σ s) {b t w : Int} : stageV s b t w = stageV σ b t w := by
  unfold stageV
  rw [h.1 174 (by unfold scr; omega), h.1 175 (by unfold scr; omega), h.1 176 (by unfold scr; omega)]
theorem M_pain8 {d : Nat} (hd : 60 ≤ d) {σ : kS} {g load wet c k : Int} {Q : Int → kS → Prop} (hI : Inv σ) (hw : wet = 0 ∨ wet = 1) (h1 : painOK σ g load c k → ∀ s, Keep σ s → s 208 = σ 208 → s 166 0 = 0 → Q (painV σ g load wet c k) s) (h0 : ¬ painOK σ g load c k → ∀ s, Keep σ s → s 208 = σ 208 → s 166 0 = 1 → Q 0 s) : Ci d MX12_pain [(2, 166), (0, g), (0, load), (0, wet), (0, c), (0, k)] kN σ Q := by
  obtain ⟨d, rfl⟩ : ∃ e, d = e + 1 := ⟨d - 1, by omega⟩
  have hg6 := hI.2.2.2.2.2.2.1.1
  have hno : ¬ painOK σ g load c k → ∀ s2, s2 = kst σ 166 0 1 → ((s2 166 0) ≤ 0 → Ci d MX12_painOf [(2, 166), (0, g), (0, load), (0, wet), (0, c), (0, k)] kN s2 (fun x3 s3 => Q x3 s3)) ∧ (¬ (s2 166 0) ≤ 0 → Q 0 s2) := fun z s2 e2 => by
    have e : s2 166 0 = 1 := by rw [e2, kst_eq]
    exact ⟨fun q => by omega, fun _ => h0 z s2 (by rw [e2]; exact hI.thrown) (by rw [e2, kst_k (by decide)]) e⟩
  refine EX12_pain fun _ _ _ _ _ _ => SX12_pain_0 ⟨o_166, ?_⟩
  refine MI_isMan (by omega) hI (fun cm => ⟨fun e => by omega, fun _ => ?_⟩) (fun cm => ⟨fun _ => hno (fun z => cm z.1), fun e => absurd rfl e⟩)
  refine M_isCell (by omega) (fun cc => ⟨fun e => by omega, fun _ => ?_⟩) (fun cc => ⟨fun _ => hno (fun z => cc (stp_cell z.2).1), fun e => absurd rfl e⟩)
  refine M_isIn (by omega) (fun ck => ⟨fun e => by omega, fun _ => ?_⟩) (fun ck => ⟨fun _ => hno (fun z => ck (by have := (stp_cell z.2).2.1; omega)), fun e => absurd rfl e⟩)
  refine M_step (by omega) cc (by omega) ⟨fun e => hno (fun z => z.2 e), fun cs s5 e5 => ?_⟩
  have e : s5 166 0 = 0 := by rw [e5, kst_eq]
  have hk5 : Keep σ s5 := by rw [e5]; exact hI.thrown
  have hI5 := hI.keep hk5
  have cm5 : isMan s5 g load := by rw [isMan_fr hk5.1]; exact cm
  refine ⟨fun _ => M_painOf (by omega) hI5.1 ⟨cm.1.1, by have := cm.1.2; omega⟩ (hI5.2.2.2.2.2.2.1.gm cm5.1) hw hI5.2.2.1.eq.2 cs (fun s ho hj hL => ?_), fun q => by omega⟩
  have hks : Keep s5 s := M_keep (L := [166, 172]) hI5 ho hL (by decide) (fun j hj9 => hj j (by unfold esf at hj9; omega) (by unfold esf at hj9; omega) (by unfold esf at hj9; omega))
  have hv : pnP (tb s5 g) (tn s5 g) (landM s5) load wet c k = painV σ g load wet c k := by
    unfold painV
    rw [← tolN_fr hk5.1]
    exact (tolT_at (stp_cell cs).2.1).symm
  rw [hv]
  exact h1 ⟨cm, cs⟩ s (hk5.trans hks) (by rw [ho 208 (by decide), e5, kst_k (by decide)]) (by rw [hj 0 (by decide) (by decide) (by decide)]; exact e)
theorem M_stage8 {d : Nat} (hd : 60 ≤ d) {σ : kS} {b s w : Int} {Q : Int → kS → Prop} (hI : Inv σ) (h1 : stageOK σ b s w → ∀ u, Keep σ u → u 208 = σ 208 → u 166 0 = 0 → Q (stageV σ b s w) u) (h0 : ¬ stageOK σ b s w → ∀ u, Keep σ u → u 208 = σ 208 → u 166 0 = 1 → Q 0 u) : Ci d MX12_stage [(2, 166), (0, b), (0, s), (0, w)] kN σ Q := by
  obtain ⟨d, rfl⟩ : ∃ e, d = e + 1 := ⟨d - 1, by omega⟩
  have hB := hI.2.2.2.2.2.2.2.1
  have hno : ∀ {R : kS → Prop}, ¬ stageOK σ b s w → ∀ s2, s2 = kst σ 166 0 1 → ((s2 166 0) ≤ 0 → R s2) ∧ (¬ (s2 166 0) ≤ 0 → Q 0 s2) := fun z s2 e2 => by
    have e : s2 166 0 = 1 := by rw [e2, kst_eq]
    exact ⟨fun q => by omega, fun _ => h0 z s2 (by rw [e2]; exact hI.thrown) (by rw [e2, kst_k (by decide)]) e⟩
  refine EX12_stage fun _ _ _ _ => SX12_stage_0 ⟨o_166, ?_⟩
  refine M_isStage (by omega) hI.1 hB (fun cm => ⟨fun e => by omega, fun _ => ?_⟩) (fun cm => ⟨fun _ => hno (fun z => cm z.1), fun e => absurd rfl e⟩)
  refine M_isIn (by omega) (fun ck => ⟨fun e => by omega, fun _ s5 e5 => ?_⟩) (fun ck => ⟨fun _ => hno (fun z => ck z.2), fun e => absurd rfl e⟩)
  have hF := stg_facts hI cm
  have f1 := hF.1
  have f2 := hF.2.1
  have k174 := kl_174
  have k175 := kl_175
  have k176 := kl_176
  have e : s5 166 0 = 0 := by rw [e5, kst_eq]
  have hk5 : Keep σ s5 := by rw [e5]; exact hI.thrown
  have hL5 := hk5.2.1
  have n5 : ∀ x, x ≠ 166 → s5 x = σ x := fun x hx => by rw [e5, kst_k hx]
  have hv := h1 ⟨cm, ck⟩ s5 hk5 (by rw [e5, kst_k (by decide)]) e
  unfold stageV at hv
  refine ⟨fun _ => ⟨by omega, by omega, fun c0 => ⟨fun c1 => ?_, fun c1 => ?_⟩, fun c0 => ?_⟩, fun q => by omega⟩
  · rw [ly_166_11 hL5, n5 176 (by decide)]
    rw [if_neg c0, if_neg c1] at hv
    exact ⟨a_176, by omega, hv⟩
  · rw [ly_166_10 hL5, n5 175 (by decide)]
    rw [if_neg c0, if_pos (Classical.not_not.mp c1)] at hv
    exact ⟨a_175, by omega, hv⟩
  · rw [ly_166_9 hL5, n5 174 (by decide)]
    rw [if_pos (Classical.not_not.mp c0)] at hv
    exact ⟨a_174, by omega, hv⟩
