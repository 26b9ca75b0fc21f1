/-! PAIN, pure: of a text (b, n), a land H, a load, wet or not -/
theorem gStep_cong {L L' : Int → Int} (h : ∀ k, 0 ≤ k → k ≤ 7 → L k = L' k) {o : Int} {st : List Int} : gStep L o st = gStep L' o st := by
  unfold gStep
  by_cases c1 : o < 10000
  · rw [if_pos c1, if_pos c1]
  · by_cases c2 : o < 10008
    · rw [if_neg c1, if_neg c1, if_pos c2, if_pos c2, h _ (by omega) (by omega)]
    · rw [if_neg c1, if_neg c1, if_neg c2, if_neg c2]
theorem gEv_cong {L L' : Int → Int} (h : ∀ k, 0 ≤ k → k ≤ 7 → L k = L' k) : ∀ {os st : List Int}, gEv L os st = gEv L' os st
  | [], _ => rfl
  | o :: os, st => by
    show gEv L os (gStep L o st) = gEv L' os (gStep L' o st)
    rw [gStep_cong h, gEv_cong h]
theorem gVof_cong {L L' : Int → Int} (h : ∀ k, 0 ≤ k → k ≤ 7 → L k = L' k) {os : List Int} : gVof L os = gVof L' os := by
  unfold gVof
  rw [gEv_cong h]
theorem gTailV_cong {b : Int → Int} {n : Int} {L L' : Int → Int} (h : ∀ k, 0 ≤ k → k ≤ 7 → L k = L' k) {nx nx' : Int → Int} (hn : ∀ p, nx p = nx' p) {p : Int} {o : List Int} : gTailV b n L nx p o = gTailV b n L' nx' p o := by
  unfold gTailV
  congr 1
  funext p' o'
  rw [gVof_cong h, gVof_cong h, hn]
theorem gGoV_cong {b : Int → Int} {n : Int} {L L' : Int → Int} (h : ∀ k, 0 ≤ k → k ≤ 7 → L k = L' k) : ∀ (f : Nat) (p : Int), gGoV b n L f p = gGoV b n L' f p := by
  intro f
  induction f with
  | zero => intro p; rfl
  | succ f ih =>
    intro p
    have e : (fun p' => if n ≤ p' then 0 else gGoV b n L f (sk b n (p' + 1))) = (fun p' => if n ≤ p' then 0 else gGoV b n L' f (sk b n (p' + 1))) := by
      funext p'
      rw [ih]
    have e2 : gTailV b n L (fun p' => if n ≤ p' then 0 else gGoV b n L f (sk b n (p' + 1))) = gTailV b n L' (fun p' => if n ≤ p' then 0 else gGoV b n L' f (sk b n (p' + 1))) := by
      funext p o
      exact gTailV_cong h (fun p => congrFun e p)
    rw [gGoV, gGoV, e2]
    have e3 : (fun (p3 : Int) (o1 : List Int) => if gSign (gat b n p3) then gRun (gCondG b n 6 p3 o1) (gTailV b n L' (fun p' => if n ≤ p' then 0 else gGoV b n L' f (sk b n (p' + 1)))) else gVof L o1) = (fun (p3 : Int) (o1 : List Int) => if gSign (gat b n p3) then gRun (gCondG b n 6 p3 o1) (gTailV b n L' (fun p' => if n ≤ p' then 0 else gGoV b n L' f (sk b n (p' + 1)))) else gVof L' o1) := by
      funext p3 o1
      rw [gVof_cong h]
    rw [e3]
theorem gWorth_cong {b : Int → Int} {n : Int} {L L' : Int → Int} (h : ∀ k, 0 ≤ k → k ≤ 7 → L k = L' k) : gWorth b n L = gWorth b n L' := gGoV_cong h 120 _
/-- the letters of a kind of step, as the class has them -/
def kindL (load wet kind k : Int) : Int := if k = 0 then max (kind / 16 - 99) 0 else if k = 1 then max (-(kind / 16 - 99)) 0 else if k = 2 then kand (kishr kind 1) 1 else if k = 3 then kand (kishr kind 2) 1 else if k = 4 then kand (kishr kind 3) 1 else if k = 5 then wet else if k = 6 then load else kand kind 1
def clamp1 (v : Int) : Int := max 1 (min 10000 v)
theorem clamp1_b {v : Int} : 1 ≤ clamp1 v ∧ clamp1 v ≤ 10000 := by unfold clamp1; omega
def kindP (b : Int → Int) (n load wet kind : Int) : Int := clamp1 (gWorth b n (kindL load wet kind))
/-- PAIN of a step -/
def pL (H : Int → Int → Int) (load wet c d k : Int) : Int := if k = 0 then max 0 (H (stp c d) 0 - H c 0) else if k = 1 then max 0 (-(H (stp c d) 0 - H c 0)) else if k = 2 then H (stp c d) 1 else if k = 3 then H (stp c d) 2 else if k = 4 then H (stp c d) 3 else if k = 5 then wet else if k = 6 then load else d % 2
def pnP (b : Int → Int) (n : Int) (H : Int → Int → Int) (load wet c d : Int) : Int := clamp1 (gWorth b n (pL H load wet c d))
def tolT (b : Int → Int) (n : Int) (H : Int → Int → Int) (load wet i : Int) : Int := pnP b n H load wet (i / 8) (i % 8)
theorem tolT_at {b : Int → Int} {n : Int} {H : Int → Int → Int} {load wet c d : Int} (hd : 0 ≤ d ∧ d < 8) : tolT b n H load wet (c * 8 + d) = pnP b n H load wet c d := by
  unfold tolT
  rw [show (c * 8 + d) / 8 = c by omega, show (c * 8 + d) % 8 = d by omega]
theorem tolT_ok {b : Int → Int} {n : Int} {H : Int → Int → Int} {load wet : Int} : TolOK (tolT b n H load wet) := fun _ _ _ _ _ _ _ => clamp1_b
def LandB (H : Int → Int → Int) : Prop := ∀ c w, 0 ≤ c → c < 120 → 0 ≤ w → w < 4 → 0 ≤ H c w ∧ H c w ≤ (if w = 0 then 99 else 1)
theorem LandB.at {H : Int → Int → Int} (h : LandB H) {c : Int} (hc : 0 ≤ c ∧ c < 120) : (0 ≤ H c 0 ∧ H c 0 ≤ 99) ∧ (0 ≤ H c 1 ∧ H c 1 ≤ 1) ∧ (0 ≤ H c 2 ∧ H c 2 ≤ 1) ∧ 0 ≤ H c 3 ∧ H c 3 ≤ 1 :=
  ⟨h c 0 hc.1 hc.2 (by decide) (by decide), h c 1 hc.1 hc.2 (by decide) (by decide), h c 2 hc.1 hc.2 (by decide) (by decide), h c 3 hc.1 hc.2 (by decide) (by decide)⟩
theorem kind_bits : ∀ (a : Fin 50) (c : Fin 64), kand (kishr (64 * (a : Int) + c) 1) 1 = (64 * (a : Int) + c) / 2 % 2 ∧ kand (kishr (64 * (a : Int) + c) 2) 1 = (64 * (a : Int) + c) / 4 % 2 ∧ kand (kishr (64 * (a : Int) + c) 3) 1 = (64 * (a : Int) + c) / 8 % 2 ∧ kand (64 * (a : Int) + c) 1 = (64 * (a : Int) + c) % 2 := by decide +kernel
theorem kbits {k : Int} (h : 0 ≤ k ∧ k < 3184) : kand (kishr k 1) 1 = k / 2 % 2 ∧ kand (kishr k 2) 1 = k / 4 % 2 ∧ kand (kishr k 3) 1 = k / 8 % 2 ∧ kand k 1 = k % 2 := by
  have := kind_bits ⟨(k / 64).toNat, by omega⟩ ⟨(k % 64).toNat, by omega⟩
  have e : 64 * (((k / 64).toNat : Nat) : Int) + (((k % 64).toNat : Nat) : Int) = k := by omega
  simp only [e] at this
  exact this
/-- the kind of a step -/
def kindOf (H : Int → Int → Int) (c d : Int) : Int := ((H (stp c d) 0 - H c 0 + 99) * 8 + (H (stp c d) 1 + 2 * H (stp c d) 2 + 4 * H (stp c d) 3)) * 2 + d % 2
theorem kindOf_b {H : Int → Int → Int} (h : LandB H) {c d : Int} (hn : stp c d ≠ -1) : 0 ≤ kindOf H c d ∧ kindOf H c d < 3184 := by
  have hs := stp_cell hn
  have h1 := h.at hs.1
  have h2 := h.at hs.2.2.1
  unfold kindOf
  omega
theorem kindP_step {b : Int → Int} {n : Int} {H : Int → Int → Int} (h : LandB H) {load wet c d : Int} (hn : stp c d ≠ -1) : kindP b n load wet (kindOf H c d) = pnP b n H load wet c d := by
  have hs := stp_cell hn
  have h1 := h.at hs.1
  have h2 := h.at hs.2.2.1
  have hb := kbits (kindOf_b h hn)
  unfold kindP pnP
  congr 1
  apply gWorth_cong
  intro k k0 k7
  unfold kindL pL
  rw [hb.1, hb.2.1, hb.2.2.1, hb.2.2.2]
  unfold kindOf
  rcases (show k = 0 ∨ k = 1 ∨ k = 2 ∨ k = 3 ∨ k = 4 ∨ k = 5 ∨ k = 6 ∨ k = 7 by omega) with rfl | rfl | rfl | rfl | rfl | rfl | rfl | rfl
  · simp only [if_true]; omega
  · simp only [show ¬ (1 : Int) = 0 by decide, if_false, if_true]; omega
  · simp only [show ¬ (2 : Int) = 0 by decide, show ¬ (2 : Int) = 1 by decide, if_false, if_true]; omega
  · simp only [show ¬ (3 : Int) = 0 by decide, show ¬ (3 : Int) = 1 by decide, show ¬ (3 : Int) = 2 by decide, if_false, if_true]; omega
  · simp only [show ¬ (4 : Int) = 0 by decide, show ¬ (4 : Int) = 1 by decide, show ¬ (4 : Int) = 2 by decide, show ¬ (4 : Int) = 3 by decide, if_false, if_true]; omega
  · rfl
  · rfl
  · simp only [show ¬ (7 : Int) = 0 by decide, show ¬ (7 : Int) = 1 by decide, show ¬ (7 : Int) = 2 by decide, show ¬ (7 : Int) = 3 by decide, show ¬ (7 : Int) = 4 by decide, show ¬ (7 : Int) = 5 by decide, show ¬ (7 : Int) = 6 by decide, if_false]; omega
