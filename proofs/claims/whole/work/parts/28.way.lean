/-! Ways: follow, lay -/
theorem rowPush_0 {σ : kS} {r x : Int} : rowPush σ r x r 1 = σ r 1 + 1 := by unfold rowPush; rw [kst_eq]
theorem rowPush_at {σ : kS} {r x k : Int} : rowPush σ r x (r + 1) k = if k = σ r 1 then x else σ (r + 1) k := by
  unfold rowPush
  rw [kst_k (by omega), kst_ap]
  by_cases e : k = σ r 1
  · rw [if_pos ⟨rfl, e⟩, if_pos e]
  · rw [if_neg (fun q => e q.2), if_neg e]
theorem rowPush_off {L : List Int} {σ s : kS} {r x : Int} (h : off L σ s) (h1 : r ∈ L) (h2 : r + 1 ∈ L) : off L σ (rowPush s r x) := (h.kst h2).kst h1
theorem rowPush_k {σ : kS} {r x k : Int} (h : k ≠ r) (h2 : k ≠ r + 1) : rowPush σ r x k = σ k := by
  unfold rowPush
  rw [kst_k h, kst_k h2]
theorem lay_row {σ : kS} {L : Lay σ} {r x : Int} (hr : isO 8 kN r) : Lay (rowPush σ r x) := (L.kstA (row_arr hr)).kstO 1 hr (by decide)
theorem rowPush_L {σ : kS} {r x : Int} (h : 0 ≤ σ r 1) : rowL (rowPush σ r x) r = rowL σ r ++ [x] := by
  rw [rowL_seg, rowL_seg, rowPush_0, seg_snoc h]
  congr 1
  · apply seg_cong
    intro i i0 i1
    rw [rowPush_at, if_neg (by omega)]
  · rw [rowPush_at, if_pos (by omega)]
theorem Ways_follow {d : Nat} (hd : 3 ≤ d) {σ : kS} {c g : Int} {Q : kS → Prop} (hL : Lay σ) (hB : Bes σ) (ht : TolOK (σ 28)) (hg : 0 ≤ g ∧ g < 120) (hc : 0 ≤ c ∧ c < 120) (hD : GD (nbW 1) (wgW 1 (σ 28)) g (σ 29)) (hS : ∀ c, 0 ≤ c → c < 120 → σ 29 c ≤ 153600120) (h36 : 0 ≤ σ 36 1) (h : ∀ s, off [36, 37] σ s → Lay s → RowC s 36 → 1 ≤ s 36 1 → s 37 0 = c → IsWay (good 128 (σ 28) (σ 29)) g (s 37) (s 36 1 - 1) → Q s) : Cv d MX10_follow [(2, 26), (0, c), (0, g)] kN σ Q := by
  obtain ⟨d, rfl⟩ : ∃ e, d = e + 1 := ⟨d - 1, by omega⟩
  have k37 : klen (36 + 1) = 120 := kl_37
  have key : ∀ i : Int, ∀ x : Int, ∀ s : kS, 0 ≤ i → off [36, 37] σ s → Lay s → s 36 1 = i + 1 → s 37 i = x → s 37 0 = c → (0 ≤ x ∧ x < 120) → i + rank (σ 29) x ≤ 119 → (∀ j, 0 ≤ j → j ≤ i → 0 ≤ s 37 j ∧ s 37 j < 120) → (∀ j, 0 ≤ j → j < i → s 37 j ≠ g ∧ IsNext (good 128 (σ 28) (σ 29)) (s 37 j) (s 37 (j + 1))) → LX10_follow_23 d kN Q 26 g x i s := by
    refine up_to (e := 120) ?_
    intro i ih x s hi ho hLs hsz hx h0 hxc hr hcs hw
    have hrk := rank_b (S := σ 29) hxc
    have hrow : RowC s 36 := ⟨⟨o_36, by omega, by omega⟩, fun j j0 j1 => hcs j j0 (by omega)⟩
    have fin : x = g → Q s := fun e => h s ho hLs hrow (by omega) h0 ⟨by omega, by rw [hsz, show i + 1 - 1 = i by omega, hx]; exact e, fun j j0 j1 => hw j j0 (by omega)⟩
    refine SX10_follow_23 ⟨fun e => by omega, fun _ => ⟨fin, fun hne => X_isCell (by omega) (fun _ => ⟨fun e => by omega, fun _ => ⟨o_26, ?_⟩⟩) (fun e => absurd hxc e)⟩⟩
    have e27 : s 27 = σ 27 := ho 27 (by decide)
    have e28 : s 28 = σ 28 := ho 28 (by decide)
    have e29 : s 29 = σ 29 := ho 29 (by decide)
    have hBs : Bes s := by unfold Bes; rw [e27]; exact hB
    refine Ways_nextOn (by omega) hLs hBs (by rw [e28]; exact ht) hxc (fun z z0 z1 => by rw [e29]; exact ⟨hD.2.1 z z0 z1, hS z z0 z1⟩) (by rw [e28, e29]; exact good_ex hD hxc.1 hxc.2 hne) (fun y hy => ?_)
    rw [e28, e29] at hy
    rw [ly_26_13 hLs]
    have hy2 : 0 ≤ y ∧ y < 120 := by
      obtain ⟨k, h1, h2, h3, h4⟩ := hy
      rw [h4]
      exact (stp_cell h2.1).2.2.1
    have hlt : σ 29 y < σ 29 x := by
      obtain ⟨k, h1, h2, h3, h4⟩ := hy
      rw [h4]
      exact good_lt ht hxc.1 hxc.2 h1 h2
    have hrl := rank_lt hy2 hlt
    have hr0 := rank_b (S := σ 29) hy2
    have hp : ∀ k, rowPush s 36 y 37 k = if k = s 36 1 then y else s 37 k := fun k => rowPush_at
    refine ⟨o_36, Row_add (by omega) hLs hrow.1 (fun _ => ⟨by omega, ?_⟩) (fun e => by omega)⟩
    refine ih (by omega) y _ (by omega) (rowPush_off ho (by decide) (by decide)) (lay_row (L := hLs) o_36) (by rw [rowPush_0]; omega) (by rw [hp, if_pos (by omega)]) (by rw [hp, if_neg (by omega)]; exact h0) hy2 (by omega) (fun j j0 j1 => ?_) (fun j j0 j1 => ?_)
    · rw [hp]
      by_cases e : j = s 36 1
      · rw [if_pos e]; exact hy2
      · rw [if_neg e]; exact hcs j j0 (by omega)
    · rw [hp, if_neg (by omega), hp]
      by_cases e : j = i
      · rw [if_pos (by omega), e, hx]
        exact ⟨hne, hy⟩
      · rw [if_neg (by omega)]
        exact hw j j0 (by omega)
  refine EX10_follow fun _ _ _ => SX10_follow_0 ?_
  rw [ly_26_13 hL]
  refine ⟨o_26, o_36, Row_cut (by omega) o_36 (fun _ _ => ?_) (fun e => by omega)⟩
  have hL1 : Lay (kst σ 36 1 0) := hL.kstO 1 o_36 (by decide)
  rw [ly_26_13 hL1]
  have e0 : kst σ 36 1 0 36 1 = 0 := kst_eq
  refine ⟨o_36, Row_add (by omega) hL1 ⟨o_36, by omega, by omega⟩ (fun _ => ?_) (fun e => by omega)⟩
  have hp : ∀ k, rowPush (kst σ 36 1 0) 36 c 37 k = if k = 0 then c else kst σ 36 1 0 37 k := fun k => by
    have := rowPush_at (σ := kst σ 36 1 0) (r := 36) (x := c) (k := k)
    rwa [e0] at this
  have hrk := rank_b (S := σ 29) hc
  exact key 0 c _ (by omega) (rowPush_off (off.rfl'.kst (by decide)) (by decide) (by decide)) (lay_row (L := hL1) o_36) (by rw [rowPush_0, e0]) (by rw [hp, if_pos rfl]) (by rw [hp, if_pos rfl]) hc (by omega) (fun j j0 j1 => by rw [hp, if_pos (by omega)]; exact hc) (fun j j0 j1 => by omega)
/-- what lay leaves -/
def Laid (σ s : kS) (c g : Int) : Prop := off [26, 29, 31, 36, 37] σ s ∧ (∀ j, j ≠ 5 → s 26 j = σ 26 j) ∧ Lay s ∧ GD (nbW 1) (wgW 1 (σ 28)) g (s 29) ∧ (∀ c, 0 ≤ c → c < 120 → s 29 c ≤ 153600120) ∧ RowC s 36 ∧ 1 ≤ s 36 1 ∧ s 37 0 = c ∧ IsWay (good 128 (σ 28) (s 29)) g (s 37) (s 36 1 - 1)
theorem Ways_lay {d : Nat} (hd : 4 ≤ d) {σ : kS} {c g : Int} {Q : kS → Prop} (hL : Lay σ) (hB : Bes σ) (ht : TolOK (σ 28)) (hg : 0 ≤ g ∧ g < 120) (hc : 0 ≤ c ∧ c < 120) (h36 : 0 ≤ σ 36 1) (h : ∀ s, Laid σ s c g → Q s) : Cv d MX10_lay [(2, 26), (0, c), (0, g)] kN σ Q := by
  obtain ⟨d, rfl⟩ : ∃ e, d = e + 1 := ⟨d - 1, by omega⟩
  refine EX10_lay fun _ _ _ => SX10_lay_0 ⟨o_26, Ways_spreadTo (by omega) hL hB ht hg (fun s1 ho1 hL1 hD hS => ?_)⟩
  have e27 : s1 27 = σ 27 := ho1.1 27 (by decide)
  have e28 : s1 28 = σ 28 := ho1.1 28 (by decide)
  have e36 : s1 36 = σ 36 := ho1.1 36 (by decide)
  refine Ways_follow (by omega) hL1 (by unfold Bes; rw [e27]; exact hB) (by rw [e28]; exact ht) hg hc (by rw [e28]; exact hD) hS (by rw [e36]; exact h36) (fun s ho hLs hR h1 h0 hW => ?_)
  have f29 : s 29 = s1 29 := ho 29 (by decide)
  have f26 : s 26 = s1 26 := ho 26 (by decide)
  rw [e28] at hW
  refine h s ⟨(ho1.1.mono (fun k hk => ?_)).trans (ho.mono (fun k hk => ?_)), fun j hj => by rw [f26]; exact ho1.2 j hj, hLs, by rw [f29]; exact hD, by rw [f29]; exact hS, hR, h1, h0, by rw [f29]; exact hW⟩
  · simp only [List.mem_cons, List.not_mem_nil, or_false] at hk ⊢
    omega
  · simp only [List.mem_cons, List.not_mem_nil, or_false] at hk ⊢
    omega
/-! the two units -/
theorem GD.steps {t S : Int → Int} {g : Int} (ht : TolOK t) (hg : 0 ≤ g ∧ g < 120) (h : GD (nbW 1) (wgW 1 t) g S) : ∀ c, 0 ≤ c → c < 120 → S c % 128 ≤ rank S c := by
  have key : ∀ n : Nat, ∀ c, 0 ≤ c → c < 120 → (S c).toNat = n → S c % 128 ≤ rank S c := by
    intro n
    induction n using Nat.strongRecOn with
    | ind n ih =>
      intro c c0 c1 hn
      have hr := rank_b (S := S) ⟨c0, c1⟩
      by_cases e : c = g
      · rw [e, h.1, ← e]
        exact hr.1
      · obtain ⟨k, hk, hgd⟩ := good_ex h c0 c1 e
        have hs := (stp_cell hgd.1).2.2.1
        have hlt := good_lt ht c0 c1 hk hgd
        have h0 := h.2.1 _ hs.1 hs.2
        have h1 := ih _ (by omega) _ hs.1 hs.2 rfl
        have h2 := rank_lt hs hlt
        have h3 := hgd.2
        have h4 := rank_b (S := S) hs
        omega
  exact fun c c0 c1 => key _ c c0 c1 rfl
/-- the class's sums as the model's -/
def conv (S : Int → Int) (c : Int) : Int := S c / 128 * 1000 + S c % 128
theorem conv_good {t S : Int → Int} {g : Int} (ht : TolOK t) (hg : 0 ≤ g ∧ g < 120) (h : GD (nbW 1) (wgW 1 t) g S) {c k : Int} (c0 : 0 ≤ c) (c1 : c < 120) : good 128 t S c k ↔ good 1000 t (conv S) c k := by
  unfold good conv
  by_cases hn : stp c k = -1
  · exact ⟨fun q => absurd hn q.1, fun q => absurd hn q.1⟩
  · have hs := stp_cell hn
    have a1 := h.steps ht hg c c0 c1
    have a2 := h.steps ht hg _ hs.2.2.1.1 hs.2.2.1.2
    have r1 := rank_b (S := S) ⟨c0, c1⟩
    have r2 := rank_b (S := S) hs.2.2.1
    have b1 := h.2.1 c c0 c1
    have b2 := h.2.1 _ hs.2.2.1.1 hs.2.2.1.2
    have w := ht c k c0 c1 hs.2.1.1 hs.2.1.2 hn
    constructor
    · rintro ⟨q, e⟩
      exact ⟨q, by omega⟩
    · rintro ⟨q, e⟩
      exact ⟨q, by omega⟩
/-- pull form -/
def ID (U : Int) (t : Int → Int) (g : Int) (S : Int → Int) : Prop :=
  S g = 0 ∧ (∀ c, 0 ≤ c → c < 120 → 0 ≤ S c) ∧ (∀ c k, 0 ≤ c → c < 120 → 0 ≤ k → k < 8 → stp c k ≠ -1 → S c ≤ S (stp c k) + (t (c * 8 + k) * U + 1)) ∧ (∀ c, 0 ≤ c → c < 120 → c ≠ g → ∃ k, (0 ≤ k ∧ k < 8) ∧ good U t S c k)
theorem ID.le {U : Int} {t : Int → Int} {g : Int} {S T : Int → Int} (hU : 0 ≤ U) (ht : TolOK t) (h1 : ID U t g S) (h2 : ID U t g T) : ∀ c, 0 ≤ c → c < 120 → S c ≤ T c := by
  have key : ∀ n : Nat, ∀ c, 0 ≤ c → c < 120 → (T c).toNat = n → S c ≤ T c := by
    intro n
    induction n using Nat.strongRecOn with
    | ind n ih =>
      intro c c0 c1 hn
      by_cases e : c = g
      · rw [e, h1.1, h2.1]
        exact Int.le_refl _
      · obtain ⟨k, hk, hg⟩ := h2.2.2.2 c c0 c1 e
        have hs := (stp_cell hg.1).2.2.1
        have hw := ht c k c0 c1 hk.1 hk.2 hg.1
        have hm : 0 ≤ t (c * 8 + k) * U := Int.mul_nonneg (by omega) hU
        have hx0 := h2.2.1 _ hs.1 hs.2
        have h4 := hg.2
        have h3 := ih (T (stp c k)).toNat (by omega) _ hs.1 hs.2 rfl
        have h5 := h1.2.2.1 c k c0 c1 hk.1 hk.2 hg.1
        omega
  exact fun c c0 c1 => key _ c c0 c1 rfl
theorem GD.pull {t S : Int → Int} {g : Int} (h : GD (nbW 1) (wgW 1 t) g S) : ID 128 t g S := by
  refine ⟨h.1, h.2.1, fun c k c0 c1 k0 k1 hn => ?_, fun c c0 c1 hc => good_ex h c0 c1 hc⟩
  have hs := stp_cell hn
  have hb := stp_back hn
  have h1 := h.2.2.1 (stp c k) k hs.2.2.1.1 hs.2.2.1.2 k0 k1
  unfold wgW nbW at h1
  rw [if_neg (by decide), if_neg (by decide), hb] at h1
  exact h1 (by omega)
theorem GD.conv {t S : Int → Int} {g : Int} (ht : TolOK t) (hg : 0 ≤ g ∧ g < 120) (h : GD (nbW 1) (wgW 1 t) g S) : ID 1000 t g (conv S) := by
  have hp := h.pull
  refine ⟨by show S g / 128 * 1000 + S g % 128 = 0; rw [h.1]; decide, fun c c0 c1 => by have := h.2.1 c c0 c1; show 0 ≤ S c / 128 * 1000 + S c % 128; omega, fun c k c0 c1 k0 k1 hn => ?_, fun c c0 c1 hc => ?_⟩
  · have hs := stp_cell hn
    have a1 := h.steps ht hg c c0 c1
    have a2 := h.steps ht hg _ hs.2.2.1.1 hs.2.2.1.2
    have r1 := rank_b (S := S) ⟨c0, c1⟩
    have r2 := rank_b (S := S) hs.2.2.1
    have b1 := h.2.1 c c0 c1
    have b2 := h.2.1 _ hs.2.2.1.1 hs.2.2.1.2
    have w := ht c k c0 c1 k0 k1 hn
    have := hp.2.2.1 c k c0 c1 k0 k1 hn
    show S c / 128 * 1000 + S c % 128 ≤ (S (stp c k) / 128 * 1000 + S (stp c k) % 128) + (t (c * 8 + k) * 1000 + 1)
    omega
  · obtain ⟨k, hk, hgd⟩ := hp.2.2.2 c c0 c1 hc
    exact ⟨k, hk, (conv_good ht hg h c0 c1).mp hgd⟩
/-- the model's sums are the class's -/
theorem ID.same {t S T : Int → Int} {g : Int} (ht : TolOK t) (hg : 0 ≤ g ∧ g < 120) (h : GD (nbW 1) (wgW 1 t) g S) (hT : ID 1000 t g T) : ∀ c, 0 ≤ c → c < 120 → T c = conv S c := fun c c0 c1 =>
  Int.le_antisymm (ID.le (by decide) ht hT (h.conv ht hg) c c0 c1) (ID.le (by decide) ht (h.conv ht hg) hT c c0 c1)
theorem ID.half {t S T : Int → Int} {g : Int} (ht : TolOK t) (hg : 0 ≤ g ∧ g < 120) (h : GD (nbW 1) (wgW 1 t) g S) (hT : ID 1000 t g T) : ∀ c, 0 ≤ c → c < 120 → T c / 1000 = S c / 128 := fun c c0 c1 => by
  rw [ID.same ht hg h hT c c0 c1]
  have a1 := h.steps ht hg c c0 c1
  have r1 := rank_b (S := S) ⟨c0, c1⟩
  have b1 := h.2.1 c c0 c1
  show (S c / 128 * 1000 + S c % 128) / 1000 = S c / 128
  omega
theorem ID_good {t S T : Int → Int} {g : Int} (ht : TolOK t) (hg : 0 ≤ g ∧ g < 120) (h : GD (nbW 1) (wgW 1 t) g S) (hT : ID 1000 t g T) {c k : Int} (c0 : 0 ≤ c) (c1 : c < 120) : good 128 t S c k ↔ good 1000 t T c k := by
  rw [conv_good ht hg h c0 c1]
  unfold good
  by_cases hn : stp c k = -1
  · exact ⟨fun q => absurd hn q.1, fun q => absurd hn q.1⟩
  · have hs := (stp_cell hn).2.2.1
    rw [ID.same ht hg h hT c c0 c1, ID.same ht hg h hT _ hs.1 hs.2]
