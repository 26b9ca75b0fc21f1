/-! feet: treading a way, on both sides -/
def upF (f : Int → Int) (c : Int) : Int → Int := fun z => if z = c then min 99 (f c + 1) else f z
def tdF (f : Int → Int) : List Int → (Int → Int)
  | [] => f
  | c :: t => tdF (upF f c) t
def tdN (f : Int → Int) (n : Int) : List Int → Int
  | [] => n
  | c :: t => tdN (upF f c) (if n = 0 ∧ f c ≠ 0 then 0 else 1) t
theorem tdF_cong : ∀ (W : List Int) (f g : Int → Int), (∀ c ∈ W, 0 ≤ c ∧ c < 120) → (∀ c, 0 ≤ c → c < 120 → f c = g c) → ∀ c, 0 ≤ c → c < 120 → tdF f W c = tdF g W c := by
  intro W
  induction W with
  | nil => intro f g _ h; exact h
  | cons x t ih =>
    intro f g hW h
    have hx := hW x (List.mem_cons_self ..)
    refine ih (upF f x) (upF g x) (fun c hc => hW c (List.mem_cons_of_mem _ hc)) (fun c c0 c1 => ?_)
    unfold upF
    rw [h x hx.1 hx.2, h c c0 c1]
theorem tdN_cong : ∀ (W : List Int) (f g : Int → Int) (n : Int), (∀ c ∈ W, 0 ≤ c ∧ c < 120) → (∀ c, 0 ≤ c → c < 120 → f c = g c) → tdN f n W = tdN g n W := by
  intro W
  induction W with
  | nil => intro f g n _ _; rfl
  | cons x t ih =>
    intro f g n hW h
    have hx := hW x (List.mem_cons_self ..)
    rw [tdN, tdN, h x hx.1 hx.2]
    refine ih (upF f x) (upF g x) _ (fun c hc => hW c (List.mem_cons_of_mem _ hc)) (fun c c0 c1 => ?_)
    unfold upF
    rw [h x hx.1 hx.2, h c c0 c1]
theorem X_tread {d : Nat} (hd : 5 ≤ d) {u : kS} {T : Int → Int} {e : Int} {Q : Int → kS → Prop} (hL : Lay u) (hr : RowC u 36) (ht : TolOK T) (he : 0 ≤ e ∧ e ≤ 9) (hT : TEq (u 28) (easeT T e (u 62))) (hf : ∀ c, 0 ≤ c → c < 120 → 0 ≤ u 62 c ∧ u 62 c ≤ 99) (h : ∀ s, off [28, 62] u s → Lay s → s 62 = tdF (u 62) (rowL u 36) → TEq (s 28) (easeT T e (s 62)) → (∀ c, 0 ≤ c → c < 120 → 0 ≤ s 62 c ∧ s 62 c ≤ 99) → (tdN (u 62) 0 (rowL u 36) = 0 ∨ tdN (u 62) 0 (rowL u 36) = 1) → Q (tdN (u 62) 0 (rowL u 36)) s) : Ci d MX1_tread [(2, 61), (2, 26), (0, e)] kN u Q := by
  obtain ⟨d, rfl⟩ : ∃ e, d = e + 1 := ⟨d - 1, by omega⟩
  have k62 := kl_62
  have k37 : klen (36 + 1) = 120 := kl_37
  have hsz := hr.1.2
  have hrl : rowL u 36 = seg (u 37) 0 (u 36 1) := rowL_seg
  rw [hrl] at h
  have key : ∀ i n : Int, ∀ v : kS, 0 ≤ i → i ≤ u 36 1 → (n = 0 ∨ n = 1) → off [28, 62] u v → Lay v → TEq (v 28) (easeT T e (v 62)) → (∀ c, 0 ≤ c → c < 120 → 0 ≤ v 62 c ∧ v 62 c ≤ 99) → tdF (v 62) (seg (u 37) i (u 36 1 - i)) = tdF (u 62) (seg (u 37) 0 (u 36 1)) → tdN (v 62) n (seg (u 37) i (u 36 1 - i)) = tdN (u 62) 0 (seg (u 37) 0 (u 36 1)) → LX1_tread_5 d kN Q 61 26 e n i v := by
    refine up_to (e := u 36 1) ?_
    intro i ih n v i0 i1 hn ho hLv hTv hfv h1 h2
    have e36 : v 36 = u 36 := ho 36 (by decide)
    have e37 : v 37 = u 37 := ho 37 (by decide)
    have hrv : RowC v 36 := hr.cong e36 e37
    refine SX1_tread_5 ⟨o_26, ?_⟩
    rw [ly_26_13 hLv, e36]
    refine ⟨o_36, fun q => ⟨hn, ?_⟩, fun q => Row_atI (by omega) hLv hrv.1 (by rw [e36]; omega) ?_⟩
    · rw [seg_nil (by omega), tdF] at h1
      rw [seg_nil (by omega), tdN] at h2
      have hq := h v ho hLv h1 hTv hfv
      rw [← h2] at hq
      exact hq hn
    · rw [show (36 : Int) + 1 = 37 from rfl, e37]
      have hc : 0 ≤ u 37 i ∧ u 37 i < 120 := hr.2 i i0 (by omega)
      rw [seg_cons (by omega), show u 36 1 - i - 1 = u 36 1 - (i + 1) by omega, tdF] at h1
      rw [seg_cons (by omega), show u 36 1 - i - 1 = u 36 1 - (i + 1) by omega, tdN] at h2
      refine X_isCell (by omega) (fun _ => ⟨fun z => by omega, fun _ => ⟨o_61, ?_⟩⟩) (fun z => absurd hc z)
      rw [ly_61_0 hLv]
      generalize u 37 i = c at *
      have hfc := hfv c hc.1 hc.2
      have htv : TolOK (easeT T e (v 62)) := easeT_ok ht he.1 (fun z z0 z1 => (hfv z z0 z1).1)
      have ht28 : TolOK (v 28) := TolOK.tcong (fun x k x0 x1 k0 k1 hn => (hTv x k x0 x1 k0 k1 hn).symm) htv
      refine ⟨a_62, by omega, fun q2 => ?_, fun q2 => ⟨by omega, ih (by omega) n v (by omega) (by omega) hn ho hLv hTv hfv ?_ ?_⟩⟩
      · have go : ∀ n' : Int, (n' = 0 ∨ n' = 1) → (if n = 0 ∧ v 62 c ≠ 0 then (0 : Int) else 1) = n' → (-2147483648 ≤ v 62 c + 1 ∧ v 62 c + 1 ≤ 2147483647) ∧ (∀ s3, s3 = kst v 62 c (v 62 c + 1) → Cv d MX10_ease [(2, 26), (0, c), (0, e)] kN s3 (fun s4 => (-2147483648 ≤ i + 1 ∧ i + 1 ≤ 2147483647) ∧ LX1_tread_5 d kN Q 61 26 e n' (i + 1) s4)) := fun n' hn' en => ⟨by omega, fun s3 e3 => by
          have e62 : s3 62 = upF (v 62) c := by
            funext z
            rw [e3, kst_ap]
            unfold upF
            by_cases ez : z = c
            · rw [if_pos ⟨rfl, ez⟩, if_pos ez]
              omega
            · rw [if_neg (fun p => ez p.2), if_neg ez]
          have e28 : s3 28 = v 28 := by rw [e3, kst_k (by decide)]
          have hup : ∀ z, upF (v 62) c z = if z = c then v 62 z + 1 else v 62 z := fun z => by
            unfold upF
            by_cases ez : z = c
            · rw [if_pos ez, if_pos ez, ez]
              omega
            · rw [if_neg ez, if_neg ez]
          refine Ways_ease (by omega) (by rw [e3]; exact hLv.kstA a_62) (by rw [e28]; exact ht28) hc he (fun s4 ho4 hL4 h4 => ⟨by omega, ih (by omega) n' s4 (by omega) (by omega) hn' ?_ hL4 ?_ ?_ ?_ ?_⟩)
          · intro k hk
            simp only [List.mem_cons, List.not_mem_nil, or_false] at hk
            rw [ho4 k (by simp only [List.mem_cons, List.not_mem_nil, or_false]; omega), e3, kst_k (by omega), ho k (by simp only [List.mem_cons, List.not_mem_nil, or_false]; omega)]
          · intro x k x0 x1 k0 k1 hnn
            rw [h4 x k x0 x1 k0 k1 hnn, ho4 62 (by decide), e62, e28, easeT_step ht he.1 ⟨x0, x1⟩ ⟨k0, k1⟩ hnn hup, hTv x k x0 x1 k0 k1 hnn]
          · intro z z0 z1
            have := hfv z z0 z1
            rw [ho4 62 (by decide), e62, hup]
            by_cases ez : z = c
            · rw [if_pos ez, ez]
              omega
            · rw [if_neg ez]
              exact this
          · rw [ho4 62 (by decide), e62]
            exact h1
          · rw [ho4 62 (by decide), e62, ← en]
            exact h2⟩
        exact ⟨fun q3 => go 1 (Or.inr rfl) (if_neg (fun z => q3 z.1)), fun q3 => ⟨fun q4 => go 0 (Or.inl rfl) (if_pos ⟨Classical.not_not.mp q3, q4⟩), fun q4 => go 1 (Or.inr rfl) (if_neg (fun z => z.2 (Classical.not_not.mp q4)))⟩⟩
      · have e62 : upF (v 62) c = v 62 := by
          funext z
          unfold upF
          by_cases ez : z = c
          · rw [if_pos ez, ez]
            omega
          · rw [if_neg ez]
        rw [e62] at h1
        exact h1
      · have e62 : upF (v 62) c = v 62 := by
          funext z
          unfold upF
          by_cases ez : z = c
          · rw [if_pos ez, ez]
            omega
          · rw [if_neg ez]
        rw [e62] at h2
        have en : (if n = 0 ∧ v 62 c ≠ 0 then (0 : Int) else 1) = n := by
          rcases hn with rfl | rfl
          · rw [if_pos ⟨rfl, by omega⟩]
          · rw [if_neg (fun z => by omega)]
        rw [en] at h2
        exact h2
  exact EX1_tread fun _ _ => SX1_tread_0 (key 0 0 u (by omega) hsz.1 (Or.inl rfl) off.rfl' hL hT hf (by rw [Int.sub_zero]) (by rw [Int.sub_zero]))
theorem M_treads {d : Nat} (hd : 2 ≤ d) {u : kS} {Q : Int → kS → Prop} (hL : Lay u) (hm : 1 ≤ u 166 30 ∧ u 166 30 ≤ 120) (hr : ∀ j, 0 ≤ j → j < u 166 30 → 0 ≤ u 180 j ∧ u 180 j < 120) (hf : ∀ c, 0 ≤ c → c < 120 → 0 ≤ u 203 c ∧ u 203 c ≤ 99) (h : ∀ s, off [203] u s → Lay s → s 203 = tdF (u 203) (seg (u 180) 0 (u 166 30)) → (∀ c, 0 ≤ c → c < 120 → 0 ≤ s 203 c ∧ s 203 c ≤ 99) → (tdN (u 203) 0 (seg (u 180) 0 (u 166 30)) = 0 ∨ tdN (u 203) 0 (seg (u 180) 0 (u 166 30)) = 1) → Q (tdN (u 203) 0 (seg (u 180) 0 (u 166 30))) s) : LX12_goTrip_60 d kN Q 166 0 0 u := by
  have k180 := kl_180
  have k203 := kl_203
  have key : ∀ i n : Int, ∀ v : kS, 0 ≤ i → i ≤ u 166 30 → (n = 0 ∨ n = 1) → off [203] u v → Lay v → (∀ c, 0 ≤ c → c < 120 → 0 ≤ v 203 c ∧ v 203 c ≤ 99) → tdF (v 203) (seg (u 180) i (u 166 30 - i)) = tdF (u 203) (seg (u 180) 0 (u 166 30)) → tdN (v 203) n (seg (u 180) i (u 166 30 - i)) = tdN (u 203) 0 (seg (u 180) 0 (u 166 30)) → LX12_goTrip_60 d kN Q 166 n i v := by
    refine up_to (e := u 166 30) ?_
    intro i ih n v i0 i1 hn ho hLv hfv h1 h2
    have e166 : v 166 = u 166 := ho 166 (by decide)
    have e180 : v 180 = u 180 := ho 180 (by decide)
    refine SX12_goTrip_60 ⟨o_166, ?_⟩
    rw [ly_166_29 hLv, ly_166_59 hLv, e166, e180]
    refine ⟨fun q => ⟨hn, ?_⟩, fun q => ?_⟩
    · rw [seg_nil (by omega), tdF] at h1
      rw [seg_nil (by omega), tdN] at h2
      have hq := h v ho hLv h1 hfv
      rw [← h2] at hq
      exact hq hn
    · have hc := hr i i0 (by omega)
      rw [seg_cons (by omega), show u 166 30 - i - 1 = u 166 30 - (i + 1) by omega, tdF] at h1
      rw [seg_cons (by omega), show u 166 30 - i - 1 = u 166 30 - (i + 1) by omega, tdN] at h2
      generalize u 180 i = c at *
      have hfc := hfv c hc.1 hc.2
      have go : ∀ n' : Int, (n' = 0 ∨ n' = 1) → (if n = 0 ∧ v 203 c ≠ 0 then (0 : Int) else 1) = n' → (-2147483648 ≤ v 203 c + 1 ∧ v 203 c + 1 ≤ 2147483647) ∧ (Ci d MJm_min [(0, 99), (0, (v 203 c + 1))] kN v (fun x7 s1 => ∀ s2, s2 = kst s1 203 c x7 → (-2147483648 ≤ i + 1 ∧ i + 1 ≤ 2147483647) ∧ LX12_goTrip_60 d kN Q 166 n' (i + 1) s2)) := fun n' hn' en => ⟨by omega, J_min (by omega) (fun s2 e2 => by
        have e203 : s2 203 = upF (v 203) c := by
          funext z
          rw [e2, kst_ap]
          unfold upF
          by_cases ez : z = c
          · rw [if_pos ⟨rfl, ez⟩, if_pos ez]
          · rw [if_neg (fun p => ez p.2), if_neg ez]
        refine ⟨by omega, ih (by omega) n' s2 (by omega) (by omega) hn' (by rw [e2]; exact ho.kst (by decide)) (by rw [e2]; exact hLv.kstA a_203) (fun z z0 z1 => ?_) (by rw [e203]; exact h1) (by rw [e203, ← en]; exact h2)⟩
        have := hfv z z0 z1
        rw [e203]
        unfold upF
        by_cases ez : z = c
        · rw [if_pos ez]
          omega
        · rw [if_neg ez]
          exact this)⟩
      exact ⟨fun q3 => ⟨a_180, by omega, a_203, by omega, go 1 (Or.inr rfl) (if_neg (fun z => q3 z.1))⟩, fun q3 => ⟨a_180, by omega, a_203, by omega, fun q4 => go 0 (Or.inl rfl) (if_pos ⟨Classical.not_not.mp q3, q4⟩), fun q4 => go 1 (Or.inr rfl) (if_neg (fun z => z.2 (Classical.not_not.mp q4)))⟩⟩
  exact key 0 0 u (by omega) (by omega) (Or.inl rfl) off.rfl' hL hf (by rw [Int.sub_zero]) (by rw [Int.sub_zero])
