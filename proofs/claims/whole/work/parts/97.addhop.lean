/-! sights: the model's addHop; pieces of the traced row -/
theorem M_addHop {d : Nat} (hd : 4 ≤ d) {p t : kS} {f : Int → Int} {m a b : Int} {Q : kS → Prop} (h : ML p t f m) (hn : 0 ≤ p 166 34 ∧ p 166 34 < 10) (ha : 0 ≤ a ∧ a < 120) (hb : 0 ≤ b ∧ b < 120) (hm : 0 ≤ m ∧ m + apart a b ≤ 139) (hf : ∀ k, 1 ≤ k → k ≤ apart a b → f (m + k - 1) = btw a b k (apart a b)) (hQ : ∀ s, ML p s f (m + apart a b) → Q s) : Cv d MX12_addHop [(2, 166), (0, a), (0, b)] kN t Q := by
  obtain ⟨d, rfl⟩ : ∃ e, d = e + 1 := ⟨d - 1, by omega⟩
  have hap := apart_cells ha hb
  have hap0 := apart_nn (a := a) (b := b)
  have key : ∀ k : Int, ∀ s : kS, 1 ≤ k → k ≤ apart a b + 1 → ML p s f (m + (k - 1)) → LX12_addHop_2 d kN Q 166 a b k s := by
    refine up_to (e := apart a b + 1) ?_
    intro k ih s k1 kn hs
    refine SX12_addHop_2 (M_apart (by omega) ha.1 hb.1 ⟨fun q => ?_, fun q => M_onLine (by omega) ha hb (by omega) (by omega) ⟨o_166, M_addCell (by omega) hs hn (by omega) ?_ (fun s2 h2 => ⟨by omega, ih (by omega) s2 (by omega) (by omega) ?_⟩)⟩⟩)
    · rw [show k - 1 = apart a b by omega] at hs
      exact hQ s hs
    · rw [show m + (k - 1) = m + k - 1 by omega]
      exact hf k k1 (by omega)
    · rw [show m + (k + 1 - 1) = m + (k - 1) + 1 by omega]
      exact h2
  exact EX12_addHop fun _ _ _ => SX12_addHop_0 (key 1 t (by omega) (by omega) (by rw [show m + (1 - 1) = m by omega]; exact h))
theorem trL_pre {y : Nat → Int} {j : Nat} : ∀ m : Nat, j ≤ m → ∃ R, trL y m = trL y j ++ R := by
  intro m
  induction m with
  | zero =>
    intro h
    rw [show j = 0 by omega]
    exact ⟨[], (List.append_nil _).symm⟩
  | succ m ih =>
    intro h
    by_cases e : j = m + 1
    · rw [e]
      exact ⟨[], (List.append_nil _).symm⟩
    · obtain ⟨R, hR⟩ := ih (by omega)
      exact ⟨R ++ hopK (y m) (y (m + 1)) (apart (y m) (y (m + 1))).toNat, by rw [trL, hR, List.append_assoc]⟩
theorem hopK_at {a b : Int} {n k : Nat} (h : k < n) : (hopK a b n).getD k 0 = btw a b ((k : Int) + 1) (apart a b) := by
  unfold hopK
  rw [List.getD_eq_getElem?_getD, List.getElem?_map, List.getElem?_range h]
  rfl
