/-! the coupling: what the class (cells 0 .. 165) and the model (166 .. 207) hold together -/
/-- the cells that calls may use up -/
def scr (k : Int) : Prop := (10 ≤ k ∧ k ≤ 14) ∨ k = 26 ∨ (28 ≤ k ∧ k ≤ 39) ∨ (41 ≤ k ∧ k ≤ 46) ∨ (57 ≤ k ∧ k ≤ 60) ∨ k = 63 ∨ (65 ≤ k ∧ k ≤ 72) ∨ (97 ≤ k ∧ k ≤ 120 ∧ 2 ≤ (k - 97) % 4) ∨ k = 166 ∨ k = 172 ∨ (177 ≤ k ∧ k ≤ 181) ∨ k = 188 ∨ (190 ≤ k ∧ k ≤ 193) ∨ k = 195 ∨ (200 ≤ k ∧ k ≤ 202) ∨ k = 204 ∨ (206 ≤ k ∧ k ≤ 208)
def esf (j : Int) : Prop := j = 3 ∨ (13 ≤ j ∧ j ≤ 15) ∨ j = 34 ∨ j = 38 ∨ j = 41 ∨ j = 49 ∨ j = 54 ∨ (61 ≤ j ∧ j ≤ 63) ∨ j = 68
/-- the essential cells are the same -/
def Fr (σ s : kS) : Prop := (∀ k, ¬ scr k → s k = σ k) ∧ ∀ j, esf j → s 166 j = σ 166 j
theorem Fr.rfl' {σ : kS} : Fr σ σ := ⟨fun _ _ => rfl, fun _ _ => rfl⟩
theorem Fr.trans {σ s u : kS} (h : Fr σ s) (h' : Fr s u) : Fr σ u := ⟨fun k hk => (h'.1 k hk).trans (h.1 k hk), fun j hj => (h'.2 j hj).trans (h.2 j hj)⟩
theorem Fr.symm {σ s : kS} (h : Fr σ s) : Fr s σ := ⟨fun k hk => (h.1 k hk).symm, fun j hj => (h.2 j hj).symm⟩
/-- the class's side: the model's object stays -/
theorem Fr.offX {σ s : kS} {L : List Int} (h : off L σ s) (hL : L.all (fun k => decide (k ≠ 166 ∧ ((10 ≤ k ∧ k ≤ 14) ∨ k = 26 ∨ (28 ≤ k ∧ k ≤ 39) ∨ (41 ≤ k ∧ k ≤ 46) ∨ (57 ≤ k ∧ k ≤ 60) ∨ k = 63 ∨ (65 ≤ k ∧ k ≤ 72) ∨ (97 ≤ k ∧ k ≤ 120 ∧ 2 ≤ (k - 97) % 4) ∨ k = 172 ∨ (177 ≤ k ∧ k ≤ 181) ∨ k = 188 ∨ (190 ≤ k ∧ k ≤ 193) ∨ k = 195 ∨ (200 ≤ k ∧ k ≤ 202) ∨ k = 204 ∨ (206 ≤ k ∧ k ≤ 208)))) = true) : Fr σ s := by
  have hm : ∀ k, k ∈ L → scr k ∧ k ≠ 166 := fun k hk => by
    have h1 := of_decide_eq_true (List.all_eq_true.mp hL k hk)
    unfold scr
    omega
  refine ⟨fun k hk => h k (fun hkl => hk (hm k hkl).1), fun j _ => ?_⟩
  rw [h 166 (fun hkl => (hm 166 hkl).2 rfl)]
/-- the model's side: fields that count stay -/
theorem Fr.offM {σ s : kS} {L : List Int} (h : off L σ s) (hL : L.all (fun k => decide ((10 ≤ k ∧ k ≤ 14) ∨ k = 26 ∨ (28 ≤ k ∧ k ≤ 39) ∨ (41 ≤ k ∧ k ≤ 46) ∨ (57 ≤ k ∧ k ≤ 60) ∨ k = 63 ∨ (65 ≤ k ∧ k ≤ 72) ∨ (97 ≤ k ∧ k ≤ 120 ∧ 2 ≤ (k - 97) % 4) ∨ k = 166 ∨ k = 172 ∨ (177 ≤ k ∧ k ≤ 181) ∨ k = 188 ∨ (190 ≤ k ∧ k ≤ 193) ∨ k = 195 ∨ (200 ≤ k ∧ k ≤ 202) ∨ k = 204 ∨ (206 ≤ k ∧ k ≤ 208))) = true) (hj : ∀ j, esf j → s 166 j = σ 166 j) : Fr σ s := by
  refine ⟨fun k hk => h k (fun hkl => hk ?_), hj⟩
  have h1 := of_decide_eq_true (List.all_eq_true.mp hL k hkl)
  unfold scr
  omega
def tb (σ : kS) (g : Int) : Int → Int := mby σ 170 (120 * g)
def tn (σ : kS) (g : Int) : Int := σ 171 g
def cLand (σ : kS) : Prop := ∀ c w, 0 ≤ c → c < 120 → 0 ≤ w → w < 4 → σ (3 + w) c = σ 167 (120 * w + c) ∧ 0 ≤ σ (3 + w) c ∧ σ (3 + w) c ≤ (if w = 0 then 99 else 1)
def cEra (σ : kS) : Prop := (0 ≤ σ 0 2 ∧ σ 0 2 ≤ 4) ∧ σ 166 68 = σ 0 2 ∧ ∀ e c w, 0 ≤ e → e < σ 0 2 → 0 ≤ c → c < 120 → 0 ≤ w → w < 4 → σ (75 + 6 * e + w) c = σ 205 (480 * e + 120 * w + c) ∧ 0 ≤ σ (75 + 6 * e + w) c ∧ σ (75 + 6 * e + w) c ≤ (if w = 0 then 99 else 1)
def cTown (σ : kS) : Prop := RowC σ 19 ∧ σ 166 3 = σ 19 1 ∧ (∀ i, 0 ≤ i → i < σ 19 1 → σ 20 i = σ 168 i) ∧ ∀ i j, 0 ≤ i → i < j → j < σ 19 1 → σ 20 i ≠ σ 20 j
def cTape (σ : kS) : Prop := RowOK σ 8 ∧ σ 166 13 = σ 8 1 ∧ ∀ i, 0 ≤ i → i < σ 8 1 → (1 ≤ σ 9 i ∧ σ 9 i ≤ 255) ∧ gby (σ 169 i) = σ 9 i ∧ -128 ≤ σ 169 i ∧ σ 169 i ≤ 127
def cGoer (σ : kS) : Prop := (0 ≤ σ 0 6 ∧ σ 0 6 ≤ 6) ∧ σ 166 14 = σ 0 6 ∧ (∀ g, 0 ≤ g → g < σ 0 6 → (0 ≤ σ (97 + 4 * g) 2 ∧ σ (97 + 4 * g) 2 ≤ 120) ∧ (0 ≤ σ 171 g ∧ σ 171 g ≤ 120) ∧ (∀ i, 0 ≤ i → i < σ 171 g → (-128 ≤ σ 170 (120 * g + i) ∧ σ 170 (120 * g + i) ≤ 127) ∧ σ 170 (120 * g + i) ≠ 0) ∧ (∃ pE, gText (tb σ g) (tn σ g) = .inr (pE, seg (σ (97 + 4 * g + 1)) 0 (σ (97 + 4 * g) 2))) ∧ (0 ≤ σ (97 + 4 * g) 3 ∧ σ (97 + 4 * g) 3 ≤ 9) ∧ σ 189 g = σ (97 + 4 * g) 3) ∧ ∀ g, σ 0 6 ≤ g → g < 6 → σ (97 + 4 * g) 3 = 1
def cBook (σ : kS) : Prop := (0 ≤ σ 0 8 ∧ σ 0 8 ≤ 4) ∧ σ 166 15 = σ 0 8 ∧ (∀ i, 0 ≤ i → i < 5 → RowOK σ (122 + 5 * i) ∧ RowOK σ (124 + 5 * i)) ∧ ∀ i, 0 ≤ i → i < σ 0 8 → (1 ≤ σ (124 + 5 * i) 1 ∧ σ (124 + 5 * i) 1 ≤ 59) ∧ σ (122 + 5 * i) 1 = σ (124 + 5 * i) 1 + 1 ∧ σ 173 i = σ (124 + 5 * i) 1 ∧ (∀ k, 0 ≤ k → k < σ (124 + 5 * i) 1 → σ (123 + 5 * i) k = σ 174 (60 * i + k) ∧ σ (123 + 5 * i) (k + 1) = σ 175 (60 * i + k) ∧ σ (125 + 5 * i) k = σ 176 (60 * i + k) ∧ 0 ≤ σ (125 + 5 * i) k ∧ σ (125 + 5 * i) k ≤ 99) ∧ ∀ k, 0 ≤ k → k ≤ σ (124 + 5 * i) 1 → 0 ≤ σ (123 + 5 * i) k ∧ σ (123 + 5 * i) k < σ 19 1
def cLine (σ : kS) : Prop := (0 ≤ σ 0 11 ∧ σ 0 11 ≤ 10) ∧ σ 166 34 = σ 0 11 ∧ ∀ l, 0 ≤ l → l < σ 0 11 → RowC σ (146 + 2 * l) ∧ 1 ≤ σ (146 + 2 * l) 1 ∧ σ 182 l = σ (146 + 2 * l) 1 ∧ (∀ i, 0 ≤ i → i < σ (146 + 2 * l) 1 → σ (147 + 2 * l) i = σ 183 (140 * l + i)) ∧ ∀ i, 1 ≤ i → i < σ (146 + 2 * l) 1 → ∃ d, (0 ≤ d ∧ d < 8) ∧ stp (σ (147 + 2 * l) (i - 1)) d = σ (147 + 2 * l) i
def cFind (σ : kS) : Prop := FindsOK σ ∧ σ 166 38 = σ 48 1 ∧ ∀ i, 0 ≤ i → i < σ 48 1 → σ 49 i = σ 184 i ∧ σ 51 i = σ 185 i ∧ σ 53 i = σ 186 i
def cKnown (σ : kS) : Prop := RowOK σ 22 ∧ σ 166 41 = σ 22 1 ∧ ∀ i, 0 ≤ i → i < σ 22 1 → σ 23 i = σ 187 i ∧ 0 ≤ σ 23 i ∧ σ 23 i < σ 0 11
def cPit (σ : kS) : Prop := RowC σ 55 ∧ σ 166 49 = σ 55 1 ∧ ∀ i, 0 ≤ i → i < σ 55 1 → σ 56 i = σ 194 i
def cField (σ : kS) : Prop := RowOK σ 24 ∧ σ 24 1 = 4 * σ 166 54 ∧ (0 ≤ σ 166 54 ∧ σ 166 54 ≤ 8) ∧ ∀ f, 0 ≤ f → f < σ 166 54 → (σ 25 (4 * f) = σ 196 f ∧ σ 25 (4 * f + 1) = σ 197 f ∧ σ 25 (4 * f + 2) = σ 198 f ∧ σ 25 (4 * f + 3) = σ 199 f) ∧ isBox (σ 196 f) (σ 197 f) (σ 198 f) (σ 199 f)
def cFeet (σ : kS) : Prop := (∀ c, 0 ≤ c → c < 120 → σ 62 c = σ 203 c ∧ 0 ≤ σ 62 c ∧ σ 62 c ≤ 99) ∧ (σ 61 2 = σ 166 61 ∧ σ 61 3 = σ 166 62 ∧ σ 61 4 = σ 166 63)
def Ess (σ : kS) : Prop := cLand σ ∧ cEra σ ∧ cTown σ ∧ cTape σ ∧ cGoer σ ∧ cBook σ ∧ cLine σ ∧ cFind σ ∧ cKnown σ ∧ cPit σ ∧ cField σ ∧ cFeet σ
/-- the pains kept by kind are those of the manner that is kept beside them -/
def cKind (σ : kS) : Prop := (0 ≤ σ 26 12 ∧ σ 26 12 ≤ 1) ∧ (σ 26 10 = -1 ∨ ∃ g, (0 ≤ g ∧ g < σ 0 6) ∧ σ 26 10 = 97 + 4 * g ∧ (0 ≤ σ 26 11 ∧ σ 26 11 ≤ 99) ∧ ∀ k, 0 ≤ k → k < 3184 → σ 35 k = 0 ∨ σ 35 k = kindP (tb σ g) (tn σ g) (σ 26 11) (σ 26 12) k)
def Scr (σ : kS) : Prop := Bes σ ∧ (RowOK σ 36 ∧ RowOK σ 38 ∧ RowOK σ 43 ∧ RowOK σ 45 ∧ RowOK σ 57 ∧ RowOK σ 59) ∧ cKind σ
def Inv (σ : kS) : Prop := Lay σ ∧ Scr σ ∧ Ess σ
def Keep (σ s : kS) : Prop := Fr σ s ∧ Lay s ∧ Scr s
theorem RowOK.cong {σ s : kS} {r : Int} (h : s r = σ r) (hr : RowOK σ r) : RowOK s r := ⟨hr.1, by rw [h]; exact hr.2.1, by rw [h]; exact hr.2.2⟩
theorem RowC.cong {σ s : kS} {r : Int} (h : s r = σ r) (h1 : s (r + 1) = σ (r + 1)) (hr : RowC σ r) : RowC s r := ⟨hr.1.cong h, by rw [h, h1]; exact hr.2⟩
theorem tb_fr {σ s : kS} (h : Fr σ s) {g : Int} : tb s g = tb σ g ∧ tn s g = tn σ g := by
  have e1 : s 170 = σ 170 := h.1 170 (by unfold scr; omega)
  have e2 : s 171 = σ 171 := h.1 171 (by unfold scr; omega)
  refine ⟨?_, by unfold tn; rw [e2]⟩
  unfold tb mby
  rw [e1]
theorem Ess.cong {σ s : kS} (h : Fr σ s) (hE : Ess σ) : Ess s := by
  obtain ⟨a1, a2, a3, a4, a5, a6, a7, a8, a9, a10, a11, a12⟩ := hE
  have c0 : s 0 = σ 0 := h.1 0 (by unfold scr; omega)
  refine ⟨?_, ?_, ?_, ?_, ?_, ?_, ?_, ?_, ?_, ?_, ?_, ?_⟩
  · intro c w h0 h1 h2 h3
    rw [h.1 (3 + w) (by unfold scr; omega), h.1 167 (by unfold scr; omega)]
    exact a1 c w h0 h1 h2 h3
  · unfold cEra
    rw [c0, h.2 68 (by unfold esf; omega)]
    refine ⟨a2.1, a2.2.1, fun e c w e0 e1 => ?_⟩
    have := a2.1
    intro h0 h1 h2 h3
    rw [h.1 (75 + 6 * e + w) (by unfold scr; omega), h.1 205 (by unfold scr; omega)]
    exact a2.2.2 e c w e0 e1 h0 h1 h2 h3
  · unfold cTown
    have e19 : s 19 = σ 19 := h.1 19 (by unfold scr; omega)
    have e20 : s 20 = σ 20 := h.1 20 (by unfold scr; omega)
    rw [e19, e20, h.1 168 (by unfold scr; omega), h.2 3 (by unfold esf; omega)]
    exact ⟨a3.1.cong e19 e20, a3.2⟩
  · unfold cTape
    have e8 : s 8 = σ 8 := h.1 8 (by unfold scr; omega)
    rw [e8, h.1 9 (by unfold scr; omega), h.1 169 (by unfold scr; omega), h.2 13 (by unfold esf; omega)]
    exact ⟨a4.1.cong e8, a4.2⟩
  · unfold cGoer
    have ht : ∀ g, tb s g = tb σ g ∧ tn s g = tn σ g := fun g => tb_fr h
    rw [c0, h.2 14 (by unfold esf; omega), h.1 171 (by unfold scr; omega), h.1 170 (by unfold scr; omega), h.1 189 (by unfold scr; omega)]
    refine ⟨a5.1, a5.2.1, fun g g0 g1 => ?_, fun g g0 g1 => ?_⟩
    · have := a5.1
      rw [h.1 (97 + 4 * g) (by unfold scr; omega), h.1 (97 + 4 * g + 1) (by unfold scr; omega), (ht g).1, (ht g).2]
      exact a5.2.2.1 g g0 g1
    · have := a5.1
      rw [h.1 (97 + 4 * g) (by unfold scr; omega)]
      exact a5.2.2.2 g g0 g1
  · unfold cBook
    rw [c0, h.2 15 (by unfold esf; omega), h.1 173 (by unfold scr; omega), h.1 174 (by unfold scr; omega), h.1 175 (by unfold scr; omega), h.1 176 (by unfold scr; omega), h.1 19 (by unfold scr; omega)]
    refine ⟨a6.1, a6.2.1, fun i i0 i1 => ?_, fun i i0 i1 => ?_⟩
    · have := a6.2.2.1 i i0 i1
      exact ⟨this.1.cong (h.1 _ (by unfold scr; omega)), this.2.cong (h.1 _ (by unfold scr; omega))⟩
    · have := a6.1
      rw [h.1 (122 + 5 * i) (by unfold scr; omega), h.1 (123 + 5 * i) (by unfold scr; omega), h.1 (124 + 5 * i) (by unfold scr; omega), h.1 (125 + 5 * i) (by unfold scr; omega)]
      exact a6.2.2.2 i i0 i1
  · unfold cLine
    rw [c0, h.2 34 (by unfold esf; omega), h.1 182 (by unfold scr; omega), h.1 183 (by unfold scr; omega)]
    refine ⟨a7.1, a7.2.1, fun l l0 l1 => ?_⟩
    have := a7.1
    have e1 : s (146 + 2 * l) = σ (146 + 2 * l) := h.1 _ (by unfold scr; omega)
    have e2 : s (147 + 2 * l) = σ (147 + 2 * l) := h.1 _ (by unfold scr; omega)
    have e3 : s (146 + 2 * l + 1) = σ (146 + 2 * l + 1) := h.1 _ (by unfold scr; omega)
    rw [e1, e2]
    have h9 := a7.2.2 l l0 l1
    exact ⟨h9.1.cong e1 e3, h9.2⟩
  · unfold cFind FindsOK
    have e48 : s 48 = σ 48 := h.1 48 (by unfold scr; omega)
    have e49 : s 49 = σ 49 := h.1 49 (by unfold scr; omega)
    have e50 : s 50 = σ 50 := h.1 50 (by unfold scr; omega)
    have e52 : s 52 = σ 52 := h.1 52 (by unfold scr; omega)
    rw [e48, e49, e50, e52, h.1 51 (by unfold scr; omega), h.1 53 (by unfold scr; omega), h.1 184 (by unfold scr; omega), h.1 185 (by unfold scr; omega), h.1 186 (by unfold scr; omega), h.2 38 (by unfold esf; omega)]
    obtain ⟨⟨q1, q2, q3, q4⟩, q5⟩ := a8
    exact ⟨⟨q1.cong e48 e49, q2.cong e50, q3.cong e52, q4⟩, q5⟩
  · unfold cKnown
    have e22 : s 22 = σ 22 := h.1 22 (by unfold scr; omega)
    rw [e22, c0, h.1 23 (by unfold scr; omega), h.1 187 (by unfold scr; omega), h.2 41 (by unfold esf; omega)]
    exact ⟨a9.1.cong e22, a9.2⟩
  · unfold cPit
    have e55 : s 55 = σ 55 := h.1 55 (by unfold scr; omega)
    have e56 : s 56 = σ 56 := h.1 56 (by unfold scr; omega)
    rw [e55, e56, h.1 194 (by unfold scr; omega), h.2 49 (by unfold esf; omega)]
    exact ⟨a10.1.cong e55 e56, a10.2⟩
  · unfold cField
    have e24 : s 24 = σ 24 := h.1 24 (by unfold scr; omega)
    rw [e24, h.1 25 (by unfold scr; omega), h.1 196 (by unfold scr; omega), h.1 197 (by unfold scr; omega), h.1 198 (by unfold scr; omega), h.1 199 (by unfold scr; omega), h.2 54 (by unfold esf; omega)]
    exact ⟨a11.1.cong e24, a11.2⟩
  · unfold cFeet
    rw [h.1 61 (by unfold scr; omega), h.1 62 (by unfold scr; omega), h.1 203 (by unfold scr; omega), h.2 61 (by unfold esf; omega), h.2 62 (by unfold esf; omega), h.2 63 (by unfold esf; omega)]
    exact a12
theorem Inv.keep {σ s : kS} (h : Inv σ) (hk : Keep σ s) : Inv s := ⟨hk.2.1, hk.2.2, h.2.2.cong hk.1⟩
theorem Keep.trans {σ s u : kS} (h : Keep σ s) (h' : Keep s u) : Keep σ u := ⟨h.1.trans h'.1, h'.2⟩
theorem Inv.self {σ : kS} (h : Inv σ) : Keep σ σ := ⟨Fr.rfl', h.1, h.2.1⟩
/-- the scratch pieces that a step did not touch -/
theorem Scr.cong {σ s : kS} (h : Scr σ) (h0 : s 0 = σ 0) (hr : ∀ k, k = 27 ∨ k = 36 ∨ k = 38 ∨ k = 43 ∨ k = 45 ∨ k = 57 ∨ k = 59 ∨ k = 35 ∨ k = 170 ∨ k = 171 → s k = σ k) (h26 : ∀ j, 10 ≤ j → j ≤ 12 → s 26 j = σ 26 j) : Scr s := by
  obtain ⟨b1, ⟨b2, b3, b4, b5, b6, b7⟩, b8, b9⟩ := h
  have ht : ∀ g, tb s g = tb σ g ∧ tn s g = tn σ g := fun g => by
    refine ⟨?_, ?_⟩
    · unfold tb mby
      rw [hr 170 (by omega)]
    · unfold tn
      rw [hr 171 (by omega)]
  refine ⟨by unfold Bes; rw [hr 27 (by omega)]; exact b1, ⟨b2.cong (hr 36 (by omega)), b3.cong (hr 38 (by omega)), b4.cong (hr 43 (by omega)), b5.cong (hr 45 (by omega)), b6.cong (hr 57 (by omega)), b7.cong (hr 59 (by omega))⟩, ?_⟩
  unfold cKind
  rw [h0, hr 35 (by omega), h26 10 (by omega) (by omega), h26 11 (by omega) (by omega), h26 12 (by omega) (by omega)]
  refine ⟨b8, b9.imp (fun h => h) (fun ⟨g, q1, q2, q3, q4⟩ => ⟨g, q1, q2, q3, fun k k0 k1 => ?_⟩)⟩
  rw [(ht g).1, (ht g).2]
  exact q4 k k0 k1
