/-! the model: goWay -/
theorem ID_lt {t S : Int → Int} {c k : Int} (ht : TolOK t) (c0 : 0 ≤ c) (c1 : c < 120) (hk : 0 ≤ k ∧ k < 8) (h : good 1000 t S c k) : S (stp c k) < S c := by
  have := ht c k c0 c1 hk.1 hk.2 h.1
  have := h.2
  omega
/-- what goWay leaves -/
def Gone (σ s : kS) (c g : Int) : Prop := off [166, 178, 180] σ s ∧ (∀ j, j ≠ 30 → s 166 j = σ 166 j) ∧ Lay s ∧ ID 1000 (σ 177) g (s 178) ∧ (∀ c, 0 ≤ c → c < 120 → s 178 c ≤ 1190000119) ∧ (1 ≤ s 166 30 ∧ s 166 30 ≤ 120) ∧ (∀ j, 0 ≤ j → j < s 166 30 → 0 ≤ s 180 j ∧ s 180 j < 120) ∧ s 180 0 = c ∧ IsWay (good 1000 (σ 177) (s 178)) g (s 180) (s 166 30 - 1)
theorem M_goWay {d : Nat} (hd : 5 ≤ d) {σ : kS} {c g : Int} {Q : kS → Prop} (hL : Lay σ) (ht : TolOK (σ 177)) (hc : 0 ≤ c ∧ c < 120) (hg : 0 ≤ g ∧ g < 120) (h : ∀ s, Gone σ s c g → Q s) : Cv d MX12_goWay [(2, 166), (0, c), (0, g)] kN σ Q := by
  obtain ⟨d, rfl⟩ : ∃ e, d = e + 1 := ⟨d - 1, by omega⟩
  have k177 := kl_177
  have k178 := kl_178
  have k180 := kl_180
  refine EX12_goWay fun _ _ _ => SX12_goWay_0 ⟨o_166, M_layLeft (by omega) hL ht hg (fun s1 ho1 hL1 hD hS s2 e2 => ?_)⟩
  have hL2 : Lay s2 := by rw [e2]; exact hL1.kstO 30 o_166 (by decide)
  rw [ly_166_29 hL2]
  refine ⟨a_180, by omega, fun s3 e3 => ?_⟩
  have key : ∀ i : Int, ∀ x : Int, ∀ s : kS, 0 ≤ i → off [166, 178, 180] σ s → (∀ j, j ≠ 30 → s 166 j = σ 166 j) → s 178 = s1 178 → Lay s → s 166 30 = i + 1 → s 180 i = x → s 180 0 = c → (0 ≤ x ∧ x < 120) → i + rank (s1 178) x ≤ 119 → (∀ j, 0 ≤ j → j ≤ i → 0 ≤ s 180 j ∧ s 180 j < 120) → (∀ j, 0 ≤ j → j < i → s 180 j ≠ g ∧ IsNext (good 1000 (σ 177) (s1 178)) (s 180 j) (s 180 (j + 1))) → LX12_goWay_19 d kN Q 166 g x s := by
    refine up_to (e := 120) ?_
    intro i ih x s hi ho h26 h178 hLs hsz hx h0 hxc hr hcs hw
    have hrk := rank_b (S := s1 178) hxc
    refine SX12_goWay_19 ⟨fun e => h s ⟨ho, h26, hLs, by rw [h178]; exact hD, by rw [h178]; exact hS, by omega, fun j j0 j1 => hcs j j0 (by omega), h0, by omega, by rw [hsz, show i + 1 - 1 = i by omega, hx]; exact e, fun j j0 j1 => by rw [h178]; exact hw j j0 (by omega)⟩, fun hne => ?_⟩
    have e177 : s 177 = σ 177 := ho 177 (by decide)
    have inner : ∀ k : Int, 0 ≤ k → (∀ k', 0 ≤ k' → k' < k → ¬ good 1000 (σ 177) (s1 178) x k') → LX12_goWay_27 d kN Q 166 g x k s := by
      refine up_to (e := 8) ?_
      intro k ihk k0 hno
      have k8 : k < 8 := by
        obtain ⟨l, hl, hgl⟩ := hD.2.2.2 x hxc.1 hxc.2 hne
        exact Classical.byContradiction fun q => hno l hl.1 (by omega) hgl
      have nx : ¬ good 1000 (σ 177) (s1 178) x k → (-2147483648 ≤ k + 1 ∧ k + 1 ≤ 2147483647) ∧ LX12_goWay_27 d kN Q 166 g x (k + 1) s := fun hn => ⟨by omega, ihk k8 (by omega) (fun k' a b => by
        by_cases ek : k' = k
        · rw [ek]; exact hn
        · exact hno k' a (by omega))⟩
      refine SX12_goWay_27 (M_step (by omega) hxc ⟨k0, k8⟩ ⟨fun e1 => nx (fun q => q.1 e1), fun e1 => ⟨o_166, M_step (by omega) hxc ⟨k0, k8⟩ ?_⟩⟩)
      have hs := (stp_cell e1).2.2.1
      have w := ht x k hxc.1 hxc.2 k0 k8 e1
      have b1 := hD.2.1 _ hs.1 hs.2
      have b2 := hS _ hs.1 hs.2
      rw [ly_166_27 hLs, ly_166_26 hLs, show 8 * x + k = x * 8 + k by omega, e177, h178]
      refine ⟨a_178, by omega, by omega, by omega, a_177, by omega, by omega, by omega, by omega, a_178, by omega, fun e3 => ?_, fun e3 => nx (fun q => e3 (by have := q.2; omega))⟩
      have hgd : good 1000 (σ 177) (s1 178) x k := ⟨e1, by omega⟩
      have hlt := ID_lt ht hxc.1 hxc.2 ⟨k0, k8⟩ hgd
      have hrl := rank_lt hs hlt
      have hr0 := rank_b (S := s1 178) hs
      refine M_step (by omega) hxc ⟨k0, k8⟩ ?_
      rw [ly_166_29 hLs, hsz]
      refine ⟨a_180, by omega, fun s4 e4 => ?_⟩
      have f1 : s4 166 = s 166 := by rw [e4, kst_k (by omega)]
      rw [f1, hsz]
      refine ⟨by omega, fun s5 e5 => ?_⟩
      have g180 : ∀ j, s5 180 j = if j = i + 1 then stp x k else s 180 j := fun j => by
        rw [e5, kst_k (by omega), e4, kst_ap]
        by_cases ej : j = i + 1
        · rw [if_pos ⟨rfl, ej⟩, if_pos ej]
        · rw [if_neg (fun q => ej q.2), if_neg ej]
      refine ih (by omega) (stp x k) s5 (by omega) (by rw [e5, e4]; exact (ho.kst (by decide)).kst (by decide)) (fun j hj => by rw [e5, kst_kj hj, f1]; exact h26 j hj) (by rw [e5, kst_k (by omega), e4, kst_k (by omega)]; exact h178) (by rw [e5, e4]; exact (hLs.kstA a_180).kstO 30 o_166 (by decide)) (by rw [e5, kst_eq]) (by rw [g180, if_pos rfl]) (by rw [g180, if_neg (by omega)]; exact h0) hs (by omega) (fun j j0 j1 => ?_) (fun j j0 j1 => ?_)
      · rw [g180]
        by_cases ej : j = i + 1
        · rw [if_pos ej]; exact hs
        · rw [if_neg ej]; exact hcs j j0 (by omega)
      · rw [g180, if_neg (by omega), g180]
        by_cases ej : j = i
        · rw [if_pos (by omega), ej, hx]
          exact ⟨hne, k, ⟨k0, k8⟩, hgd, hno, rfl⟩
        · rw [if_neg (by omega)]
          exact hw j j0 (by omega)
    exact inner 0 (by omega) (fun k' a b => by omega)
  have hrk := rank_b (S := s1 178) hc
  have g0 : s3 180 0 = c := by rw [e3, kst_eq]
  exact key 0 c s3 (by omega) (by rw [e3, e2]; exact ((ho1.mono (by simp)).kst (by decide)).kst (by decide)) (fun j hj => by rw [e3, kst_k (by omega), e2, kst_kj hj, ho1 166 (by decide)]) (by rw [e3, kst_k (by omega), e2, kst_k (by omega)]) (by rw [e3]; exact hL2.kstA a_180) (by rw [e3, kst_k (by omega), e2, kst_eq]; rfl) g0 g0 hc (by omega) (fun j j0 j1 => by rw [show j = 0 by omega, g0]; exact hc) (fun j j0 j1 => by omega)
/-- the two rows are one -/
theorem way_same {t S T f f' : Int → Int} {g n n' : Int} (ht : TolOK t) (hg : 0 ≤ g ∧ g < 120) (hD : GD (nbW 1) (wgW 1 t) g S) (hT : ID 1000 t g T) (hf : ∀ j, 0 ≤ j → j ≤ n → 0 ≤ f j ∧ f j < 120) (h : IsWay (good 128 t S) g f n) (h' : IsWay (good 1000 t T) g f' n') (h0 : f 0 = f' 0) : n = n' ∧ ∀ j, 0 ≤ j → j ≤ n → f j = f' j := by
  have h1 : IsWay (good 1000 t T) g f n := ⟨h.1, h.2.1, fun j j0 j1 => ⟨(h.2.2 j j0 j1).1, (h.2.2 j j0 j1).2.cong (fun k _ _ => ID_good ht hg hD hT (hf j j0 (by omega)).1 (hf j j0 (by omega)).2)⟩⟩
  exact h1.uniq h' h0
