/-! the weights count on true steps alone -/
def TEq (t t' : Int → Int) : Prop := ∀ c k, 0 ≤ c → c < 120 → 0 ≤ k → k < 8 → stp c k ≠ -1 → t (c * 8 + k) = t' (c * 8 + k)
theorem TolOK.tcong {t t' : Int → Int} (h : TEq t t') (ht : TolOK t) : TolOK t' := fun c k c0 c1 k0 k1 hn => by
  rw [← h c k c0 c1 k0 k1 hn]
  exact ht c k c0 c1 k0 k1 hn
theorem good_tcong {U : Int} {t t' S : Int → Int} {c k : Int} (h : TEq t t') (c0 : 0 ≤ c) (c1 : c < 120) (hk : 0 ≤ k ∧ k < 8) : good U t S c k ↔ good U t' S c k := by
  unfold good
  constructor
  · rintro ⟨q1, q2⟩
    exact ⟨q1, by rw [← h c k c0 c1 hk.1 hk.2 q1]; exact q2⟩
  · rintro ⟨q1, q2⟩
    exact ⟨q1, by rw [h c k c0 c1 hk.1 hk.2 q1]; exact q2⟩
theorem ID.tcong {U : Int} {t t' S : Int → Int} {g : Int} (h : TEq t t') (hI : ID U t g S) : ID U t' g S := by
  refine ⟨hI.1, hI.2.1, fun c k c0 c1 k0 k1 hn => ?_, fun c c0 c1 hc => ?_⟩
  · rw [← h c k c0 c1 k0 k1 hn]
    exact hI.2.2.1 c k c0 c1 k0 k1 hn
  · obtain ⟨k, hk, hg⟩ := hI.2.2.2 c c0 c1 hc
    exact ⟨k, hk, (good_tcong h c0 c1 hk).mp hg⟩
theorem IsWay.tcong {U : Int} {t t' S f : Int → Int} {g n : Int} (h : TEq t t') (hf : ∀ j, 0 ≤ j → j ≤ n → 0 ≤ f j ∧ f j < 120) (hW : IsWay (good U t S) g f n) : IsWay (good U t' S) g f n :=
  ⟨hW.1, hW.2.1, fun j j0 j1 => ⟨(hW.2.2 j j0 j1).1, (hW.2.2 j j0 j1).2.cong (fun _ k0 k1 => good_tcong h (hf j j0 (by omega)).1 (hf j j0 (by omega)).2 ⟨k0, k1⟩)⟩⟩
/-- WAY: what the class lays and what the model lays, for weights alike on true steps -/
theorem ways_same {t t' S T f f' : Int → Int} {g n n' : Int} (h : TEq t t') (ht : TolOK t) (hg : 0 ≤ g ∧ g < 120) (hD : GD (nbW 1) (wgW 1 t) g S) (hT : ID 1000 t' g T) (hf : ∀ j, 0 ≤ j → j ≤ n → 0 ≤ f j ∧ f j < 120) (hf' : ∀ j, 0 ≤ j → j ≤ n' → 0 ≤ f' j ∧ f' j < 120) (hW : IsWay (good 128 t S) g f n) (hW' : IsWay (good 1000 t' T) g f' n') (h0 : f 0 = f' 0) : (n = n' ∧ ∀ j, 0 ≤ j → j ≤ n → f j = f' j) ∧ ∀ c, 0 ≤ c → c < 120 → T c / 1000 = S c / 128 := by
  have h' : TEq t' t := fun c k c0 c1 k0 k1 hn => (h c k c0 c1 k0 k1 hn).symm
  have hT' := hT.tcong h'
  exact ⟨way_same ht hg hD hT' hf hW (hW'.tcong h' hf') h0, ID.half ht hg hD hT'⟩
theorem Finds_add {d : Nat} (hd : 2 ≤ d) {σ : kS} {c so w : Int} {Q : Int → kS → Prop} (hL : Lay σ) (hF : FindsOK σ) (h1 : σ 48 1 < 30 → Q (σ 48 1) (rowPush (rowPush (rowPush σ 48 c) 50 so) 52 w)) (h0 : σ 48 1 = 30 → Q (-1) σ) : Ci d MX2_add [(2, 47), (0, c), (0, so), (0, w)] kN σ Q := by
  obtain ⟨d, rfl⟩ : ∃ e, d = e + 1 := ⟨d - 1, by omega⟩
  obtain ⟨f48, f50, f52, g50, g52, fin⟩ := hF
  have hn0 := f48.1.2.1
  have hn1 := f48.1.2.2
  have k49 : klen (48 + 1) = 30 := kl_49
  have k51 : klen (50 + 1) = 30 := kl_51
  have k53 : klen (52 + 1) = 30 := kl_53
  refine EX2_add fun _ _ _ _ => SX2_add_0 ?_
  rw [ly_47_0 hL]
  refine ⟨o_47, o_48, Row_add (by omega) hL f48.1 (fun q => ⟨fun _ => ?_, fun e => by omega⟩) (fun q => ⟨fun e => by omega, fun _ => h0 (by omega)⟩)⟩
  have hL1 := lay_row (L := hL) (x := c) o_48
  have r50 : ∀ j, rowPush σ 48 c 50 j = σ 50 j := fun j => by rw [rowPush_k (by omega) (by omega)]
  have r52 : ∀ j, rowPush σ 48 c 52 j = σ 52 j := fun j => by rw [rowPush_k (by omega) (by omega)]
  rw [ly_47_1 hL1]
  refine ⟨o_50, Row_add (by omega) hL1 ⟨o_50, by rw [r50]; exact f50.2.1, by rw [r50]; exact f50.2.2⟩ (fun q2 => ?_) (fun e => by rw [r50] at e; omega)⟩
  have hL2 := lay_row (L := hL1) (x := so) o_50
  rw [ly_47_2 hL2]
  have s52 : ∀ j, rowPush (rowPush σ 48 c) 50 so 52 j = σ 52 j := fun j => by rw [rowPush_k (by omega) (by omega)]; exact r52 j
  refine ⟨o_52, Row_add (by omega) hL2 ⟨o_52, by rw [s52]; exact f52.2.1, by rw [s52]; exact f52.2.2⟩ (fun q3 => ?_) (fun e => by rw [s52] at e; omega)⟩
  have hL3 := lay_row (L := hL2) (x := w) o_52
  rw [ly_47_0 hL3]
  have e48 : rowPush (rowPush (rowPush σ 48 c) 50 so) 52 w 48 1 = σ 48 1 + 1 := by
    rw [rowPush_k (by omega) (by omega), rowPush_k (by omega) (by omega), rowPush_0]
  rw [e48, show σ 48 1 + 1 - 1 = σ 48 1 by omega]
  exact ⟨o_48, by omega, h1 (by omega)⟩
