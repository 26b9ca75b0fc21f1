/-! segments of arrays; Row, the rest -/
def seg (f : Int → Int) (b n : Int) : List Int := (List.range n.toNat).map fun i : Nat => f (b + i)
theorem seg_nil {f : Int → Int} {b n : Int} (h : n ≤ 0) : seg f b n = [] := by
  unfold seg
  rw [show n.toNat = 0 by omega]
  rfl
theorem seg_cons {f : Int → Int} {b n : Int} (h : 0 < n) : seg f b n = f b :: seg f (b + 1) (n - 1) := by
  obtain ⟨m, rfl⟩ : ∃ m : Nat, n = m + 1 := ⟨(n - 1).toNat, by omega⟩
  unfold seg
  rw [show ((m : Int) + 1).toNat = m + 1 by omega, show ((m : Int) + 1 - 1).toNat = m by omega, List.range_succ_eq_map, List.map_cons, List.map_map]
  congr 1
  · congr 1
    exact Int.add_zero b
  · apply List.map_congr_left
    intro i _
    show f (b + ((i + 1 : Nat) : Int)) = f (b + 1 + i)
    congr 1
    omega
theorem seg_snoc {f : Int → Int} {b n : Int} (h : 0 ≤ n) : seg f b (n + 1) = seg f b n ++ [f (b + n)] := by
  obtain ⟨m, rfl⟩ : ∃ m : Nat, n = m := ⟨n.toNat, by omega⟩
  unfold seg
  rw [show ((m : Int) + 1).toNat = m + 1 by omega, show ((m : Int)).toNat = m by omega, List.range_succ, List.map_append]
  rfl
theorem seg_cong {f g : Int → Int} {b c n : Int} (h : ∀ i, 0 ≤ i → i < n → f (b + i) = g (c + i)) : seg f b n = seg g c n := by
  unfold seg
  apply List.map_congr_left
  intro i hi
  have := List.mem_range.mp hi
  exact h i (by omega) (by omega)
theorem seg_len {f : Int → Int} {b n : Int} : (seg f b n).length = n.toNat := by simp [seg]
theorem mem_seg {f : Int → Int} {b n x : Int} : x ∈ seg f b n ↔ ∃ i : Int, 0 ≤ i ∧ i < n ∧ f (b + i) = x := by
  unfold seg
  rw [List.mem_map]
  constructor
  · rintro ⟨i, hi, rfl⟩
    have := List.mem_range.mp hi
    exact ⟨i, by omega, by omega, rfl⟩
  · rintro ⟨i, h0, h1, rfl⟩
    exact ⟨i.toNat, List.mem_range.mpr (by omega), by rw [k_toNat h0]⟩
theorem seg_app {f : Int → Int} {b n m : Int} (h : 0 ≤ n) (h2 : 0 ≤ m) : seg f b (n + m) = seg f b n ++ seg f (b + n) m := by
  obtain ⟨k, rfl⟩ : ∃ k : Nat, m = k := ⟨m.toNat, by omega⟩
  clear h2
  induction k with
  | zero =>
    rw [show n + ((0 : Nat) : Int) = n by omega, seg_nil (n := ((0 : Nat) : Int)) (by omega), List.append_nil]
  | succ k ih =>
    rw [show n + ((k + 1 : Nat) : Int) = (n + (k : Int)) + 1 by omega, seg_snoc (by omega), ih, show ((k + 1 : Nat) : Int) = (k : Int) + 1 by omega, seg_snoc (by omega), List.append_assoc, show b + n + (k : Int) = b + (n + k) by omega]
theorem rowL_seg {σ : kS} {r : Int} : rowL σ r = seg (σ (r + 1)) 0 (σ r 1) := by
  unfold rowL seg
  apply List.map_congr_left
  intro i _
  rw [Int.zero_add]
/-- the worlds differ in these cells alone -/
def off (L : List Int) (σ σ' : kS) : Prop := ∀ k, k ∉ L → σ' k = σ k
theorem off.rfl' {L : List Int} {σ : kS} : off L σ σ := fun _ _ => rfl
theorem off.trans {L : List Int} {σ σ' σ'' : kS} (h1 : off L σ σ') (h2 : off L σ' σ'') : off L σ σ'' := fun k hk => (h2 k hk).trans (h1 k hk)
theorem off.kst {L : List Int} {σ σ' : kS} {a j v : Int} (h : off L σ σ') (ha : a ∈ L) : off L σ (kst σ' a j v) := fun k hk => (kst_k (fun e => hk (by rw [e]; exact ha))).trans (h k hk)
theorem off.mono {L L' : List Int} {σ σ' : kS} (h : off L σ σ') (hl : ∀ k ∈ L, k ∈ L') : off L' σ σ' := fun k hk => h k (fun hm => hk (hl k hm))
theorem off.cpy {L : List Int} {σ σ' : kS} {a i b j m : Int} (h : off L σ σ') (ha : b ∈ L) : off L σ (kcpy σ' a i b j m) := fun k hk => by
  have : k ≠ b := fun e => hk (by rw [e]; exact ha)
  unfold kcpy
  rw [if_neg this]
  exact h k hk
theorem off.fil {L : List Int} {σ σ' : kS} {a v : Int} (h : off L σ σ') (ha : a ∈ L) : off L σ (kfill σ' a v) := fun k hk => by
  have : k ≠ a := fun e => hk (by rw [e]; exact ha)
  unfold kfill
  rw [if_neg this]
  exact h k hk
theorem kcpy_b {σ : kS} {a i b j m x : Int} : kcpy σ a i b j m b x = if j ≤ x ∧ x < j + m then σ a (i + (x - j)) else σ b x := by
  unfold kcpy
  rw [if_pos rfl]
theorem kcpy_k {σ : kS} {a i b j m k : Int} (h : k ≠ b) : kcpy σ a i b j m k = σ k := by
  unfold kcpy
  rw [if_neg h]
theorem kfill_a {σ : kS} {a v x : Int} (h : 0 ≤ x ∧ x < klen a) : kfill σ a v a x = v := by
  unfold kfill
  rw [if_pos rfl, if_pos h]
theorem kfill_k {σ : kS} {a v k : Int} (h : k ≠ a) : kfill σ a v k = σ k := by
  unfold kfill
  rw [if_neg h]
/-- all items are cells -/
def RowC (σ : kS) (r : Int) : Prop := RowOK σ r ∧ ∀ i, 0 ≤ i → i < σ r 1 → 0 ≤ σ (r + 1) i ∧ σ (r + 1) i < 120
def rowTake (σ : kS) (r q : Int) : kS := kst (kcpy σ (q + 1) 0 (r + 1) 0 (min (σ q 1) (klen (r + 1)))) r 1 (min (σ q 1) (klen (r + 1)))
theorem Row_take {d : Nat} (hd : 2 ≤ d) {σ : kS} {r q : Int} {Q : kS → Prop} (hL : Lay σ) (hr : isO 8 kN r) (hq : RowOK σ q) (hrq : r ≠ q) (h : Q (rowTake σ r q)) : Cv d MX8_take [(2, r), (2, q)] kN σ Q := by
  obtain ⟨d, rfl⟩ : ∃ e, d = e + 1 := ⟨d - 1, by omega⟩
  have hk := klen_nn (r + 1)
  have e0 := row_0 hL hq
  have e1 := hL.row hr
  obtain ⟨q1, q2, q3⟩ := hq
  refine EX8_take fun _ => SX8_take_0 ?_
  rw [e1]
  refine ⟨q1, hr, row_arr hr, J_min (by omega) ?_⟩
  rw [e0, e1]
  refine ⟨row_arr q1, row_arr hr, ⟨Nat.le_refl _, by omega, by omega, by omega, by omega⟩, fun s2 e2 s3 e3 => ?_⟩
  subst e2
  subst e3
  exact h
theorem rowTake_L {σ : kS} {r q : Int} (hq : RowOK σ q) (hrq : r ≠ q) (hrq1 : r + 1 ≠ q) (h : σ q 1 ≤ klen (r + 1)) : rowL (rowTake σ r q) r = rowL σ q ∧ (rowTake σ r q) r 1 = σ q 1 := by
  obtain ⟨q1, q2, q3⟩ := hq
  have e : min (σ q 1) (klen (r + 1)) = σ q 1 := by omega
  unfold rowTake
  rw [e]
  refine ⟨?_, kst_eq⟩
  rw [rowL_seg, rowL_seg, kst_eq]
  apply seg_cong
  intro i h0 h1
  rw [kst_k (by omega), kcpy_b, if_pos (by omega)]
  congr 1
  omega
theorem rowTake_off {σ : kS} {r q : Int} : off [r, r + 1] σ (rowTake σ r q) := (off.rfl'.cpy (by simp)).kst (by simp)
theorem Row_keepThoseIn {d : Nat} (hd : 2 ≤ d) {σ : kS} {r q : Int} {Q : kS → Prop} (hL : Lay σ) (hr : RowOK σ r) (hq : RowOK σ q) (hrq : r ≠ q ∧ r + 1 ≠ q ∧ r ≠ q + 1) (h : ∀ s, off [r, r + 1] σ s → RowOK s r → rowL s r = (rowL σ r).filter (fun x => decide (x ∈ rowL σ q)) → Q s) : Cv d MX8_keepThoseIn [(2, r), (2, q)] kN σ Q := by
  obtain ⟨d, rfl⟩ : ∃ e, d = e + 1 := ⟨d - 1, by omega⟩
  have hk := klen_nn (r + 1)
  obtain ⟨r1, r2, r3⟩ := id hr
  have key : ∀ i : Int, ∀ j : Int, ∀ s : kS, 0 ≤ j → j ≤ i → i ≤ σ r 1 → off [r, r + 1] σ s → s r = σ r → (∀ k, i ≤ k → s (r + 1) k = σ (r + 1) k) → seg (s (r + 1)) 0 j ++ (seg (σ (r + 1)) i (σ r 1 - i)).filter (fun x => decide (x ∈ rowL σ q)) = (rowL σ r).filter (fun x => decide (x ∈ rowL σ q)) → LX8_keepThoseIn_4 d kN Q r q j i s := by
    refine up_to (e := σ r 1) ?_
    intro i ih j s j0 ji isz ho hs0 hs hf
    have hLs : Lay s := hL.off (fun p hp => by
      by_cases e1 : p.1 = r
      · rw [e1, hs0]
      · by_cases e2 : p.1 = r + 1
        · exfalso
          have h1 := List.all_eq_true.mp layL_ok p hp
          simp only [Bool.and_eq_true, decide_eq_true_eq] at h1
          have h2 := h1.2.2
          rw [e2, (row_arr r1).2.2] at h2
          revert h2
          simp [kkd]
        · rw [ho p.1 (by simp [e1, e2])])
    have eq1 : s q = σ q := ho q (by simp only [List.mem_cons, List.not_mem_nil, or_false]; omega)
    have eq2 : s (q + 1) = σ (q + 1) := ho (q + 1) (by simp only [List.mem_cons, List.not_mem_nil, or_false]; omega)
    have hqs : RowOK s q := ⟨hq.1, by rw [eq1]; exact hq.2.1, by rw [eq1]; exact hq.2.2⟩
    have e0 : s r 0 = r + 1 := hLs.row r1
    refine SX8_keepThoseIn_4 ?_
    rw [e0, hs0]
    refine ⟨r1, fun c s1 e1 => ?_, fun c => ⟨row_arr r1, by omega, hq.1, ?_⟩⟩
    · subst e1
      refine h _ (ho.kst (by simp)) ⟨r1, by rw [kst_eq]; exact j0, by rw [kst_eq]; omega⟩ ?_
      rw [rowL_seg, kst_eq, kst_k (by omega), ← hf, seg_nil (b := i) (by omega)]
      simp
    · refine Row_has (by omega) hLs hqs ?_
      rw [rowL_cong (r := q) eq1 eq2, hs i (Int.le_refl i)]
      rw [seg_cons (b := i) (by omega)] at hf
      refine ⟨fun c2 => ⟨by omega, ih (by omega) j s j0 (by omega) (by omega) ho hs0 (fun k hk => hs k (by omega)) ?_⟩, fun c2 => ?_⟩
      · rw [← hf, List.filter_cons]
        have : ¬ (σ (r + 1) i ∈ rowL σ q) := fun hm => by rw [if_pos hm] at c2; omega
        rw [if_neg (by simpa using this), show σ r 1 - (i + 1) = σ r 1 - i - 1 by omega]
      · rw [e0]
        refine ⟨row_arr r1, by omega, by omega, fun s2 e2 => ?_⟩
        refine ⟨by omega, by omega, ih (by omega) (j + 1) s2 (by omega) (by omega) (by omega) ?_ ?_ ?_ ?_⟩
        · rw [e2]; exact ho.kst (by simp)
        · rw [e2, kst_k (by omega)]; exact hs0
        · intro k hk
          rw [e2, kst_kj (by omega)]
          exact hs k (by omega)
        · have : σ (r + 1) i ∈ rowL σ q := Classical.byContradiction fun hm => c2 (if_neg hm)
          rw [← hf, List.filter_cons, if_pos (by simpa using this), seg_snoc j0, List.append_assoc, e2, Int.zero_add, kst_eq, hs i (Int.le_refl i), show σ r 1 - (i + 1) = σ r 1 - i - 1 by omega]
          congr 1
          apply seg_cong
          intro k k0 k1
          rw [kst_kj (by omega)]
  exact EX8_keepThoseIn fun _ => SX8_keepThoseIn_0 (key 0 0 σ (Int.le_refl 0) (Int.le_refl 0) r2 off.rfl' rfl (fun _ _ => rfl) (by rw [seg_nil (f := σ (r + 1)) (n := 0) (Int.le_refl 0), Int.sub_zero, ← rowL_seg]; rfl))
/-- a cell is that far at most from x, y -/
def nearXY (x y far c : Int) : Prop := (c % 12 - x ≤ far ∧ x - c % 12 ≤ far) ∧ c / 12 - y ≤ far ∧ y - c / 12 ≤ far
theorem Row_isNear {d : Nat} (hd : 2 ≤ d) {σ : kS} {r x y far : Int} {Q : Int → kS → Prop} (hL : Lay σ) (hr : RowC σ r) (hx : -1000 ≤ x ∧ x ≤ 1000) (hy : -1000 ≤ y ∧ y ≤ 1000) (h1 : (∃ c ∈ rowL σ r, nearXY x y far c) → Q 1 σ) (h0 : ¬ (∃ c ∈ rowL σ r, nearXY x y far c) → Q 0 σ) : Ci d MX8_isNear [(2, r), (0, x), (0, y), (0, far)] kN σ Q := by
  obtain ⟨d, rfl⟩ : ∃ e, d = e + 1 := ⟨d - 1, by omega⟩
  have hk := klen_nn (r + 1)
  have e0 := row_0 hL hr.1
  obtain ⟨⟨q1, q2, q3⟩, q4⟩ := hr
  have key : ∀ i : Int, 0 ≤ i → i ≤ σ r 1 → (∀ k, 0 ≤ k → k < i → ¬ nearXY x y far (σ (r + 1) k)) → LX8_isNear_3 d kN Q r x y far i σ := by
    refine up_to (e := σ r 1) ?_
    intro i ih hi hi2 hno
    have go : ¬ nearXY x y far (σ (r + 1) i) → i < σ r 1 → LX8_isNear_3 d kN Q r x y far (i + 1) σ := fun hn hlt => ih hlt (by omega) (by omega) (fun k k0 k1 => by
      by_cases e : k = i
      · rw [e]; exact hn
      · exact hno k k0 (by omega))
    refine SX8_isNear_3 ?_
    rw [e0]
    refine ⟨q1, fun c => h0 ?_, fun c => ?_⟩
    · rintro ⟨c', hm, hn⟩
      obtain ⟨k, k0, k1, rfl⟩ := mem_rowL.mp hm
      exact hno k k0 (by omega) hn
    · have hc := q4 i hi (by omega)
      refine ⟨row_arr q1, by omega, hc.1, by omega, J_abs (by omega) (by omega) ⟨fun c2 => ⟨by omega, go (by unfold nearXY; omega) (by omega)⟩, fun c2 => ⟨by omega, J_abs (by omega) (by omega) ⟨fun c3 => ⟨by omega, go (by unfold nearXY; omega) (by omega)⟩, fun c3 => h1 ⟨_, mem_rowL.mpr ⟨i, hi, by omega, rfl⟩, ?_⟩⟩⟩⟩⟩
      unfold nearXY
      omega
  exact EX8_isNear fun _ _ _ _ => SX8_isNear_0 (key 0 (Int.le_refl 0) q2 (fun k k0 k1 => by omega))
def inLand (x y c : Int) : Prop := (0 ≤ c % 12 + x ∧ c % 12 + x < 12) ∧ 0 ≤ c / 12 + y ∧ c / 12 + y < 10
theorem Row_fitsMoved {d : Nat} (hd : 1 ≤ d) {σ : kS} {r x y : Int} {Q : Int → kS → Prop} (hL : Lay σ) (hr : RowC σ r) (hx : -1000 ≤ x ∧ x ≤ 1000) (hy : -1000 ≤ y ∧ y ≤ 1000) (h1 : (∀ c ∈ rowL σ r, inLand x y c) → Q 1 σ) (h0 : ¬ (∀ c ∈ rowL σ r, inLand x y c) → Q 0 σ) : Ci d MX8_fitsMoved [(2, r), (0, x), (0, y)] kN σ Q := by
  obtain ⟨d, rfl⟩ : ∃ e, d = e + 1 := ⟨d - 1, by omega⟩
  have hk := klen_nn (r + 1)
  have e0 := row_0 hL hr.1
  obtain ⟨⟨q1, q2, q3⟩, q4⟩ := hr
  have key : ∀ i : Int, 0 ≤ i → i ≤ σ r 1 → (∀ k, 0 ≤ k → k < i → inLand x y (σ (r + 1) k)) → LX8_fitsMoved_2 d kN Q r x y i σ := by
    refine up_to (e := σ r 1) ?_
    intro i ih hi hi2 hno
    refine SX8_fitsMoved_2 ?_
    rw [e0]
    refine ⟨q1, fun c => h1 ?_, fun c => ?_⟩
    · intro c' hm
      obtain ⟨k, k0, k1, rfl⟩ := mem_rowL.mp hm
      exact hno k k0 (by omega)
    · have hc := q4 i hi (by omega)
      have no : ¬ inLand x y (σ (r + 1) i) → Q 0 σ := fun hn => h0 (fun ha => hn (ha _ (mem_rowL.mpr ⟨i, hi, by omega, rfl⟩)))
      refine ⟨row_arr q1, by omega, hc.1, by omega, by omega, fun c1 => no ?_, fun c1 => ⟨fun c2 => no ?_, fun c2 => ⟨fun c3 => no ?_, fun c3 => ⟨fun c4 => ⟨by omega, ih (by omega) (by omega) (by omega) (fun k k0 k1 => ?_)⟩, fun c4 => no ?_⟩⟩⟩⟩
      · unfold inLand; omega
      · unfold inLand; omega
      · unfold inLand; omega
      · by_cases e : k = i
        · rw [e]; unfold inLand; omega
        · exact hno k k0 (by omega)
      · unfold inLand; omega
  exact EX8_fitsMoved fun _ _ _ => SX8_fitsMoved_0 (key 0 (Int.le_refl 0) q2 (fun k k0 k1 => by omega))
/-! miles and turns -/
def tenths : List Int → Int
  | a :: b :: t => (if b % 12 = a % 12 ∨ b / 12 = a / 12 then 10 else 14) + tenths (b :: t)
  | _ => 0
def milesL (l : List Int) : Int := tenths l / 10
theorem Row_miles {d : Nat} (hd : 1 ≤ d) {σ : kS} {r : Int} {Q : Int → kS → Prop} (hL : Lay σ) (hr : RowC σ r) (h : Q (milesL (rowL σ r)) σ) : Ci d MX8_miles [(2, r)] kN σ Q := by
  obtain ⟨d, rfl⟩ : ∃ e, d = e + 1 := ⟨d - 1, by omega⟩
  have hk := klen_nn (r + 1)
  have e0 := row_0 hL hr.1
  obtain ⟨⟨q1, q2, q3⟩, q4⟩ := hr
  have key : ∀ i : Int, ∀ a : Int, 1 ≤ i → 0 ≤ a → a ≤ 14 * i → a + tenths (seg (σ (r + 1)) (i - 1) (σ r 1 - (i - 1))) = tenths (rowL σ r) → LX8_miles_4 d kN Q r a i σ := by
    refine up_to (e := σ r 1) ?_
    intro i ih a hi ha ha2 hq
    refine SX8_miles_4 ?_
    rw [e0]
    refine ⟨q1, fun c => ⟨ha, ?_⟩, fun c => ?_⟩
    · unfold milesL at h
      rw [← hq] at h
      have : tenths (seg (σ (r + 1)) (i - 1) (σ r 1 - (i - 1))) = 0 := by
        by_cases e : σ r 1 - (i - 1) ≤ 0
        · rw [seg_nil e]; rfl
        · rw [seg_cons (by omega), seg_nil (by omega)]; rfl
      rwa [this, Int.add_zero] at h
    · have hc := q4 i (by omega) (by omega)
      have hc1 := q4 (i - 1) (by omega) (by omega)
      have e2 : seg (σ (r + 1)) (i - 1) (σ r 1 - (i - 1)) = σ (r + 1) (i - 1) :: σ (r + 1) i :: seg (σ (r + 1)) (i + 1) (σ r 1 - i - 1) := by
        rw [seg_cons (by omega), show i - 1 + 1 = i by omega, seg_cons (by omega), show σ r 1 - (i - 1) - 1 - 1 = σ r 1 - i - 1 by omega]
      have e3 : seg (σ (r + 1)) (i + 1 - 1) (σ r 1 - (i + 1 - 1)) = σ (r + 1) i :: seg (σ (r + 1)) (i + 1) (σ r 1 - i - 1) := by
        rw [show i + 1 - 1 = i by omega, seg_cons (by omega)]
      rw [e2, tenths, ← e3] at hq
      refine ⟨row_arr q1, by omega, hc.1, by omega, by omega, hc1.1, fun c1 => ?_, fun c1 => ⟨fun c2 => ?_, fun c2 => ?_⟩⟩
      · rw [if_pos (Or.inl c1)] at hq
        exact ⟨by omega, by omega, ih (by omega) _ (by omega) (by omega) (by omega) (by omega)⟩
      · rw [if_pos (Or.inr c2)] at hq
        exact ⟨by omega, by omega, ih (by omega) _ (by omega) (by omega) (by omega) (by omega)⟩
      · rw [if_neg (by omega)] at hq
        exact ⟨by omega, by omega, ih (by omega) _ (by omega) (by omega) (by omega) (by omega)⟩
  exact EX8_miles fun _ => SX8_miles_0 (key 1 0 (by omega) (by omega) (by omega) (by rw [rowL_seg, Int.zero_add, show (1 : Int) - 1 = 0 from rfl, Int.sub_zero]))
abbrev veers (a b c : Int) : Prop := c % 12 - b % 12 ≠ b % 12 - a % 12 ∨ c / 12 - b / 12 ≠ b / 12 - a / 12
theorem Row_turnsAt {d : Nat} (hd : 1 ≤ d) {σ : kS} {r i : Int} {Q : Int → kS → Prop} (hL : Lay σ) (hr : RowC σ r) (h1 : 2 ≤ i → i < σ r 1 → veers (σ (r + 1) (i - 2)) (σ (r + 1) (i - 1)) (σ (r + 1) i) → Q 1 σ) (h0 : ¬ (2 ≤ i ∧ i < σ r 1 ∧ veers (σ (r + 1) (i - 2)) (σ (r + 1) (i - 1)) (σ (r + 1) i)) → Q 0 σ) : Ci d MX8_turnsAt [(2, r), (0, i)] kN σ Q := by
  obtain ⟨d, rfl⟩ : ∃ e, d = e + 1 := ⟨d - 1, by omega⟩
  have hk := klen_nn (r + 1)
  have e0 := row_0 hL hr.1
  obtain ⟨⟨q1, q2, q3⟩, q4⟩ := hr
  refine EX8_turnsAt fun _ _ => SX8_turnsAt_0 ?_
  rw [e0]
  refine ⟨fun c => h0 (by omega), fun c => ⟨q1, fun c2 => ?_, fun c2 => h0 (by omega)⟩⟩
  have b0 := q4 i (by omega) (by omega)
  have b1 := q4 (i - 1) (by omega) (by omega)
  have b2 := q4 (i - 2) (by omega) (by omega)
  refine ⟨row_arr q1, by omega, b0.1, by omega, by omega, b1.1, by omega, by omega, by omega, by omega, b2.1, by omega, by omega, fun c3 => h1 (by omega) c2 (Or.inl c3), fun c3 => ⟨fun c4 => h0 ?_, fun c4 => h1 (by omega) c2 (Or.inr c4)⟩⟩
  unfold veers
  omega
def turnsL : List Int → Int
  | a :: b :: c :: t => (if veers a b c then 1 else 0) + turnsL (b :: c :: t)
  | _ => 0
def runL (most run : Int) : List Int → Int
  | a :: b :: c :: t => if veers a b c then runL (max most 1) 1 (b :: c :: t) else runL (max most (run + 1)) (run + 1) (b :: c :: t)
  | _ => most
def longestL : List Int → Int
  | a :: b :: t => runL 1 1 (a :: b :: t)
  | _ => 0
theorem seg3 {f : Int → Int} {i n : Int} (h : i < n) : seg f (i - 2) (n - (i - 2)) = f (i - 2) :: f (i - 1) :: f i :: seg f (i + 1) (n - i - 1) := by
  rw [seg_cons (by omega), show i - 2 + 1 = i - 1 by omega, seg_cons (by omega), show i - 1 + 1 = i by omega, seg_cons (by omega), show n - (i - 2) - 1 - 1 - 1 = n - i - 1 by omega]
theorem seg2 {f : Int → Int} {i n : Int} (h : i < n) : seg f (i + 1 - 2) (n - (i + 1 - 2)) = f (i - 1) :: f i :: seg f (i + 1) (n - i - 1) := by
  rw [show i + 1 - 2 = i - 1 by omega, seg_cons (by omega), show i - 1 + 1 = i by omega, seg_cons (by omega), show n - (i - 1) - 1 - 1 = n - i - 1 by omega]
theorem seg_short {f : Int → Int} {b n : Int} (h : n ≤ 2) : seg f b n = [] ∨ (∃ x, seg f b n = [x]) ∨ ∃ x y, seg f b n = [x, y] := by
  by_cases h0 : n ≤ 0
  · exact Or.inl (seg_nil h0)
  · by_cases h1 : n ≤ 1
    · exact Or.inr (Or.inl ⟨_, by rw [seg_cons (by omega), seg_nil (by omega)]⟩)
    · exact Or.inr (Or.inr ⟨_, _, by rw [seg_cons (by omega), seg_cons (by omega), seg_nil (by omega)]⟩)
theorem Row_turns {d : Nat} (hd : 2 ≤ d) {σ : kS} {r : Int} {Q : Int → kS → Prop} (hL : Lay σ) (hr : RowC σ r) (h : Q (turnsL (rowL σ r)) σ) : Ci d MX8_turns [(2, r)] kN σ Q := by
  obtain ⟨d, rfl⟩ : ∃ e, d = e + 1 := ⟨d - 1, by omega⟩
  have hk := klen_nn (r + 1)
  obtain ⟨⟨q1, q2, q3⟩, q4⟩ := id hr
  have key : ∀ i : Int, ∀ a : Int, 2 ≤ i → 0 ≤ a → a ≤ i → a + turnsL (seg (σ (r + 1)) (i - 2) (σ r 1 - (i - 2))) = turnsL (rowL σ r) → LX8_turns_4 d kN Q r a i σ := by
    refine up_to (e := σ r 1) ?_
    intro i ih a hi ha ha2 hq
    refine SX8_turns_4 ⟨q1, fun c => ?_, fun c => ?_⟩
    · have : turnsL (seg (σ (r + 1)) (i - 2) (σ r 1 - (i - 2))) = 0 := by
        rcases seg_short (f := σ (r + 1)) (b := i - 2) (n := σ r 1 - (i - 2)) (by omega) with e | ⟨x, e⟩ | ⟨x, y, e⟩ <;> rw [e] <;> rfl
      rw [this, Int.add_zero] at hq
      rwa [hq]
    · rw [seg3 (by omega), turnsL, ← seg2 (by omega)] at hq
      refine Row_turnsAt (by omega) hL hr (fun _ _ v => ?_) (fun v => ?_)
      · rw [if_pos v] at hq
        exact ⟨fun e => by omega, fun _ => ⟨by omega, by omega, ih (by omega) _ (by omega) (by omega) (by omega) (by omega)⟩⟩
      · rw [if_neg (fun v' => v ⟨hi, by omega, v'⟩)] at hq
        exact ⟨fun _ => ⟨by omega, ih (by omega) _ (by omega) (by omega) (by omega) (by omega)⟩, fun e => by omega⟩
  refine EX8_turns fun _ => SX8_turns_0 (key 2 0 (by omega) (by omega) (by omega) ?_)
  rw [rowL_seg, Int.zero_add, show (2 : Int) - 2 = 0 from rfl, Int.sub_zero]
theorem Row_longestRun {d : Nat} (hd : 2 ≤ d) {σ : kS} {r : Int} {Q : Int → kS → Prop} (hL : Lay σ) (hr : RowC σ r) (h : Q (longestL (rowL σ r)) σ) : Ci d MX8_longestRun [(2, r)] kN σ Q := by
  obtain ⟨d, rfl⟩ : ∃ e, d = e + 1 := ⟨d - 1, by omega⟩
  have hk := klen_nn (r + 1)
  obtain ⟨⟨q1, q2, q3⟩, q4⟩ := id hr
  have key : ∀ i : Int, ∀ m run : Int, 2 ≤ i → 0 ≤ run → run ≤ i → runL m run (seg (σ (r + 1)) (i - 2) (σ r 1 - (i - 2))) = longestL (rowL σ r) → LX8_longestRun_6 d kN Q r m run i σ := by
    refine up_to (e := σ r 1) ?_
    intro i ih m run hi ha ha2 hq
    refine SX8_longestRun_6 ⟨q1, fun c => ?_, fun c => ?_⟩
    · have : runL m run (seg (σ (r + 1)) (i - 2) (σ r 1 - (i - 2))) = m := by
        rcases seg_short (f := σ (r + 1)) (b := i - 2) (n := σ r 1 - (i - 2)) (by omega) with e | ⟨x, e⟩ | ⟨x, y, e⟩ <;> rw [e] <;> rfl
      rw [this] at hq
      rwa [hq]
    · rw [seg3 (by omega), runL, ← seg2 (by omega)] at hq
      refine Row_turnsAt (by omega) hL hr (fun _ _ v => ?_) (fun v => ?_)
      · rw [if_pos v] at hq
        exact ⟨fun e => by omega, fun _ => J_max (by omega) ⟨by omega, ih (by omega) _ _ (by omega) (by omega) (by omega) hq⟩⟩
      · rw [if_neg (fun v' => v ⟨hi, by omega, v'⟩)] at hq
        exact ⟨fun _ => ⟨by omega, J_max (by omega) ⟨by omega, ih (by omega) _ _ (by omega) (by omega) (by omega) hq⟩⟩, fun e => by omega⟩
  refine EX8_longestRun fun _ => SX8_longestRun_0 (SX8_longestRun_6 ⟨q1, fun c => ?_, fun c => ?_⟩)
  · have : longestL (rowL σ r) = 0 := by
      rw [rowL_seg]
      by_cases e : σ r 1 ≤ 0
      · rw [seg_nil e]; rfl
      · rw [seg_cons (by omega), seg_nil (by omega)]; rfl
    rwa [this] at h
  · refine Row_turnsAt (by omega) hL hr (fun c2 => by omega) (fun _ => ⟨fun _ => ⟨by omega, J_max (by omega) ⟨by omega, key _ _ _ (by omega) (by omega) (by omega) ?_⟩⟩, fun e => by omega⟩)
    rw [rowL_seg]
    show runL (max 0 (0 + 1)) (0 + 1) (seg (σ (r + 1)) 0 (σ r 1 - 0)) = _
    rw [Int.sub_zero, seg_cons (by omega), seg_cons (by omega)]
    rfl
