/-! hops: the fewest hops are there, and are one -/
def hopR (H : Int → Int) (far g : Int) : Nat → Int → Prop
  | 0, c => c = g
  | n + 1, c => ∃ b, (0 ≤ b ∧ b < 120) ∧ hop H far c b ∧ hopR H far g n b
theorem hopR_ex {H : Int → Int} {far g : Int} (hf : 1 ≤ far) (hg : 0 ≤ g ∧ g < 120) : ∀ m : Nat, ∀ c, 0 ≤ c → c < 120 → (apart c g).toNat = m → ∃ n, hopR H far g n c := by
  intro m
  induction m using Nat.strongRecOn with
  | ind m ih =>
    intro c c0 c1 hm
    by_cases e : c = g
    · exact ⟨0, e⟩
    · obtain ⟨x, k, hx, hk, hxk, hlt⟩ := conn_W (b := 0) hg c c0 c1 e
      have hxk : stp x k = c := hxk
      have h1 := apart_nn (a := x) (b := g)
      obtain ⟨n, hn⟩ := ih (apart x g).toNat (by omega) x hx.1 hx.2 rfl
      have hne : stp x k ≠ -1 := by omega
      have ha := apart_stp hne
      rw [hxk] at ha
      have ha2 : apart c x = 1 := by rw [apart_comm]; exact ha
      exact ⟨n + 1, x, hx, ⟨by omega, fun i i0 i1 => by omega⟩, hn⟩
noncomputable def hopT (H : Int → Int) (far g c : Int) : Int := Classical.epsilon (fun t : Int => ∃ n : Nat, t = n ∧ hopR H far g n c ∧ ∀ m : Nat, hopR H far g m c → n ≤ m)
theorem least_nat {p : Nat → Prop} (h : ∃ n, p n) : ∃ n, p n ∧ ∀ m, p m → n ≤ m := by
  obtain ⟨n, hn⟩ := h
  induction n using Nat.strongRecOn with
  | ind n ih =>
    by_cases e : ∃ m, m < n ∧ p m
    · obtain ⟨m, hm, hp⟩ := e
      exact ih m hm hp
    · exact ⟨n, hn, fun m hp => Classical.byContradiction fun q => e ⟨m, by omega, hp⟩⟩
theorem hopT_spec {H : Int → Int} {far g c : Int} (hf : 1 ≤ far) (hg : 0 ≤ g ∧ g < 120) (hc : 0 ≤ c ∧ c < 120) : ∃ n : Nat, hopT H far g c = n ∧ hopR H far g n c ∧ ∀ m : Nat, hopR H far g m c → n ≤ m := by
  obtain ⟨n, h1, h2⟩ := least_nat (hopR_ex (H := H) hf hg _ c hc.1 hc.2 rfl)
  exact Classical.epsilon_spec (p := fun t : Int => ∃ n : Nat, t = n ∧ hopR H far g n c ∧ ∀ m : Nat, hopR H far g m c → n ≤ m) ⟨(n : Int), n, rfl, h1, h2⟩
theorem HD_ex {H : Int → Int} {far g : Int} (hf : 1 ≤ far) (hg : 0 ≤ g ∧ g < 120) : HD H far g (hopT H far g) := by
  refine ⟨?_, fun c c0 c1 => ?_, fun c b c0 c1 b0 b1 hh => ?_, fun c c0 c1 hc => ?_⟩
  · obtain ⟨n, e, h1, h2⟩ := hopT_spec (H := H) hf hg hg
    have := h2 0 rfl
    omega
  · obtain ⟨n, e, h1, h2⟩ := hopT_spec (H := H) hf hg ⟨c0, c1⟩
    omega
  · obtain ⟨n, e, h1, h2⟩ := hopT_spec (H := H) hf hg ⟨c0, c1⟩
    obtain ⟨m, e2, h3, h4⟩ := hopT_spec (H := H) hf hg ⟨b0, b1⟩
    have := h2 (m + 1) ⟨b, ⟨b0, b1⟩, hh, h3⟩
    omega
  · obtain ⟨n, e, h1, h2⟩ := hopT_spec (H := H) hf hg ⟨c0, c1⟩
    cases n with
    | zero => exact absurd h1 hc
    | succ n =>
      obtain ⟨b, hb, hh, h3⟩ := h1
      obtain ⟨m, e2, h4, h5⟩ := hopT_spec (H := H) hf hg hb
      have q1 := h5 n h3
      have q2 := h2 (m + 1) ⟨b, hb, hh, h4⟩
      exact ⟨b, hb, hh, by omega⟩
theorem HD.uniq {H : Int → Int} {far g : Int} {T T' : Int → Int} (h : HD H far g T) (h' : HD H far g T') : ∀ c, 0 ≤ c → c < 120 → T c = T' c := by
  have le : ∀ {A B : Int → Int}, HD H far g A → HD H far g B → ∀ n : Nat, ∀ c, 0 ≤ c → c < 120 → (A c).toNat = n → B c ≤ A c := by
    intro A B hA hB n
    induction n using Nat.strongRecOn with
    | ind n ih =>
      intro c c0 c1 hn
      by_cases e : c = g
      · rw [e, hA.1, hB.1]
        exact Int.le_refl _
      · obtain ⟨b, hb, hh, e1⟩ := hA.2.2.2 c c0 c1 e
        have h0 := hA.2.1 b hb.1 hb.2
        have h1 := ih (A b).toNat (by omega) b hb.1 hb.2 rfl
        have h2 := hB.2.2.1 c b c0 c1 hb.1 hb.2 hh
        omega
  intro c c0 c1
  have h1 := le h h' _ c c0 c1 rfl
  have h2 := le h' h _ c c0 c1 rfl
  omega
