/-! the two texts: what their methods answer -/
theorem tv_value : Cond.fieldLink "java/lang/String" 9 "java/lang/String" "value" "[B" ∈ TB := (tb9 86 rfl rfl)
theorem tv_coder : Cond.fieldLink "java/lang/String" 15 "java/lang/String" "coder" "B" ∈ TB := (tb9 87 rfl rfl)
theorem tv_compact : Cond.fieldLink "java/lang/String" 38 "java/lang/String" "COMPACT_STRINGS" "Z" ∈ TB := (tb7 27 rfl rfl)
theorem tv_fmt : Cond.fieldLink "java/lang/String" 1053 "jdk/internal/util/Preconditions" "SIOOBE_FORMATTER" "Ljava/util/function/BiFunction;" ∈ TB := (tb7 43 rfl rfl)
theorem lkt_335 : kLK "java/lang/String" 335 MJ0_coder_7d493 ∧ Cond.instanceMethod MJ0_coder_7d493.1 ∈ TB ∧ Cond.selects MJ0_coder_7d493.1.cls MJ0_coder_7d493.1 MJ0_coder_7d493.1 ∈ TB := ⟨Or.inl (tb7 23 rfl rfl), (tb7 24 rfl rfl), (tb7 25 rfl rfl)⟩
theorem lkt_492 : kLK "java/lang/String" 492 MJ0_isLatin1_aae02 ∧ Cond.instanceMethod MJ0_isLatin1_aae02.1 ∈ TB ∧ Cond.selects MJ0_isLatin1_aae02.1.cls MJ0_isLatin1_aae02.1 MJ0_isLatin1_aae02.1 ∈ TB := ⟨Or.inl (tb7 33 rfl rfl), (tb7 34 rfl rfl), (tb7 35 rfl rfl)⟩
theorem lkt_495 : kLK "java/lang/String" 495 MJ1_charAt_3b067 ∧ Cond.static MJ1_charAt_3b067.1 ∈ TB := ⟨Or.inl (tb7 37 rfl rfl), (tb7 38 rfl rfl)⟩
theorem lkt_9 : kLK "java/lang/StringLatin1" 9 MJ0_checkIndex_df160 ∧ Cond.static MJ0_checkIndex_df160.1 ∈ TB := ⟨Or.inl (tb7 40 rfl rfl), (tb7 41 rfl rfl)⟩
theorem lkt_1059 : kLK "java/lang/String" 1059 MJ3_checkIndex_8e157 ∧ Cond.static MJ3_checkIndex_8e157.1 ∈ TB := ⟨Or.inl (tb7 45 rfl rfl), (tb7 46 rfl rfl)⟩
def kTx (t : Int) : Prop := t = -5 ∨ t = -6
def txLen (t : Int) : Int := if t = -5 then 1 else 8
def txB (t i : Int) : Int := if t = -5 then 121 else ([117, 100, 119, 102, 109, 115, 103, 116] : List Int).getD i.toNat 0
theorem kcv_old {X : kX} {x : Int} (h : x < -1) : kcv X (2, x) = .ref (X.2.1 x) := by
  show va_rf (kref X x) = _
  unfold kref
  rw [if_neg (by omega), if_pos (by omega)]
  rfl
theorem kTx.lt {t : Int} (h : kTx t) : t < -1 := by
  rcases h with rfl | rfl <;> decide
theorem kTx.lt2 {t : Int} (h : kTx t) : t - 2 < -1 := by
  rcases h with rfl | rfl <;> decide
section KP
variable {d : Nat} {M : kM} {Post : Option kV → Nat → kS → Prop} {b : Nat × Nat} {pc : Nat} {ls : List (Nat × kV)} {st : List kV} {n : Nat} {σ : kS}
theorem K_tval {t : Int} (hd : decode M.2.1 pc = .ok (.getfield 9, 3)) (ho : M.1.cls = "java/lang/String") (ht : kTx t) (k : K d M Post b (pc + 3) ls ((2, t - 2) :: st) n σ) : K d M Post b pc ls ((2, t) :: st) n σ := by
  intro p l e s m args below meth cd X H locs cells slots mc ms Qc arr ⟨hF, hP, hlv, h1, h2, h3⟩
  obtain ⟨f1, f2, f3, f4, f5, f6, f7, f8, f9, f10⟩ := id hF
  rw [ho] at f6
  have kk := k p l e s m args below meth cd X H locs cells slots mc ms Qc arr ⟨hF, hP, hlv, h1, khc (v := (2, t - 2)) trivial (kht h2), h3⟩
  show W p l e (kRm d mc ms) s m args below meth cd H locs cells slots _ (F0 m pc arr (kcv X (2, t) :: st.map (kcv X)))
  rw [kcv_old ht.lt]
  rw [List.map_cons, kcv_old ht.lt2] at kk
  rcases ht with rfl | rfl
  · exact vk_getf f1 f2 (f10.2.2.2.2.1.1 0 (by decide)).2.2.1 hP.2.1 f6 (f8 _ tv_value) (fun x h => h) hd kk
  · exact vk_getf f1 f2 (f10.2.2.2.2.1.1 1 (by decide)).2.2.1 hP.2.1 f6 (f8 _ tv_value) (fun x h => h) hd kk
theorem K_tcod {t : Int} (hd : decode M.2.1 pc = .ok (.getfield 15, 3)) (ho : M.1.cls = "java/lang/String") (ht : kTx t) (k : K d M Post b (pc + 3) ls ((0, 0) :: st) n σ) : K d M Post b pc ls ((2, t) :: st) n σ := by
  intro p l e s m args below meth cd X H locs cells slots mc ms Qc arr ⟨hF, hP, hlv, h1, h2, h3⟩
  obtain ⟨f1, f2, f3, f4, f5, f6, f7, f8, f9, f10⟩ := id hF
  rw [ho] at f6
  have kk := k p l e s m args below meth cd X H locs cells slots mc ms Qc arr ⟨hF, hP, hlv, h1, khc (v := (0, 0)) k0ok (kht h2), h3⟩
  show W p l e (kRm d mc ms) s m args below meth cd H locs cells slots _ (F0 m pc arr (kcv X (2, t) :: st.map (kcv X)))
  rw [kcv_old ht.lt]
  rcases ht with rfl | rfl
  · exact vk_getf f1 f2 (f10.2.2.2.2.1.1 0 (by decide)).2.1 hP.2.1 f6 (f8 _ tv_coder) (fun x h => h) hd kk
  · exact vk_getf f1 f2 (f10.2.2.2.2.1.1 1 (by decide)).2.1 hP.2.1 f6 (f8 _ tv_coder) (fun x h => h) hd kk
theorem K_tlen {t : Int} (hd : decode M.2.1 pc = .ok (.arraylength, 1)) (ht : kTx t) (k : K d M Post b (pc + 1) ls ((0, txLen t) :: st) n σ) : K d M Post b pc ls ((2, t - 2) :: st) n σ := by
  intro p l e s m args below meth cd X H locs cells slots mc ms Qc arr ⟨hF, hP, hlv, h1, h2, h3⟩
  obtain ⟨f1, f2, f3, f4, f5, f6, f7, f8, f9, f10⟩ := id hF
  have hv : kok (0, txLen t) := by rcases ht with rfl | rfl <;> exact ⟨by decide, by decide⟩
  have kk := k p l e s m args below meth cd X H locs cells slots mc ms Qc arr ⟨hF, hP, hlv, h1, khc (v := (0, txLen t)) hv (kht h2), h3⟩
  show W p l e (kRm d mc ms) s m args below meth cd H locs cells slots _ (F0 m pc arr (kcv X (2, t - 2) :: st.map (kcv X)))
  rw [kcv_old ht.lt2]
  rcases ht with rfl | rfl
  · exact va_tlen f1 f2 (f10.2.2.2.2.1.1 0 (by decide)).2.2.2 hP.2.1 (v := Int32.ofInt 1) rfl hd kk
  · exact va_tlen f1 f2 (f10.2.2.2.2.1.1 1 (by decide)).2.2.2 hP.2.1 (v := Int32.ofInt 8) rfl hd kk
theorem K_tbal {t i : Int} (hd : decode M.2.1 pc = .ok (.baload, 1)) (ht : kTx t) (h0 : 0 ≤ i) (hlt : i < txLen t) (k : K d M Post b (pc + 1) ls ((0, txB t i) :: st) n σ) : K d M Post b pc ls ((0, i) :: (2, t - 2) :: st) n σ := by
  intro p l e s m args below meth cd X H locs cells slots mc ms Qc arr ⟨hF, hP, hlv, h1, h2, h3⟩
  obtain ⟨f1, f2, f3, f4, f5, f6, f7, f8, f9, f10⟩ := id hF
  show W p l e (kRm d mc ms) s m args below meth cd H locs cells slots _ (F0 m pc arr (kcv X (0, i) :: kcv X (2, t - 2) :: st.map (kcv X)))
  rw [kcv_old ht.lt2]
  rcases ht with rfl | rfl
  · have hi : i = 0 := by
      have : i < 1 := hlt
      omega
    subst hi
    have kk := k p l e s m args below meth cd X H locs cells slots mc ms Qc arr ⟨hF, hP, hlv, h1, khc (v := (0, txB (-5) 0)) ⟨by decide, by decide⟩ (kht (kht h2)), h3⟩
    exact va_tb f1 f2 (f10.2.2.2.2.1.1 0 (by decide)).2.2.2 hP.2.1 (k_vin (by decide) (by decide) (by decide)) (v := .int (Int32.ofInt 121)) (by rw [k_clamp (by decide) (by decide)]; rfl) hd kk
  · have h8 : i < 8 := hlt
    have hv : kok (0, txB (-6) i) := by
      rcases (show i = 0 ∨ i = 1 ∨ i = 2 ∨ i = 3 ∨ i = 4 ∨ i = 5 ∨ i = 6 ∨ i = 7 by omega) with rfl | rfl | rfl | rfl | rfl | rfl | rfl | rfl <;> exact ⟨by decide, by decide⟩
    have kk := k p l e s m args below meth cd X H locs cells slots mc ms Qc arr ⟨hF, hP, hlv, h1, khc (v := (0, txB (-6) i)) hv (kht (kht h2)), h3⟩
    refine va_tb f1 f2 (f10.2.2.2.2.1.1 1 (by decide)).2.2.2 hP.2.1 (k_vin (N := 8) h0 h8 (by omega)) (v := .int (Int32.ofInt (txB (-6) i))) ?_ hd kk
    rw [k_clamp h0 (by omega)]
    rcases (show i = 0 ∨ i = 1 ∨ i = 2 ∨ i = 3 ∨ i = 4 ∨ i = 5 ∨ i = 6 ∨ i = 7 by omega) with rfl | rfl | rfl | rfl | rfl | rfl | rfl | rfl <;> rfl
theorem K_gsC (hd : decode M.2.1 pc = .ok (.getstatic 38, 3)) (ho : M.1.cls = "java/lang/String") (k : K d M Post b (pc + 3) ls ((0, 1) :: st) n σ) : K d M Post b pc ls st n σ := by
  intro p l e s m args below meth cd X H locs cells slots mc ms Qc arr ⟨hF, hP, hlv, h1, h2, h3⟩
  obtain ⟨f1, f2, f3, f4, f5, f6, f7, f8, f9, f10⟩ := id hF
  rw [ho] at f6
  refine va_gets f1 f2 f10.2.2.2.2.2.1 hP.2.1 f6 (f8 _ tv_compact) (fun x h => h) hd ?_
  exact k p l e s m args below meth cd X H locs cells slots mc ms Qc arr ⟨hF, hP, hlv, h1, khc (v := (0, 1)) ⟨by decide, by decide⟩ h2, h3⟩
theorem K_i2c {x : Int} (hd : decode M.2.1 pc = .ok (.i2c, 1)) (hx : ((Int32.ofInt x).toUInt32 % 65536).toInt32 = Int32.ofInt x) (k : K d M Post b (pc + 1) ls ((0, x) :: st) n σ) : K d M Post b pc ls ((0, x) :: st) n σ := by
  intro p l e s m args below meth cd X H locs cells slots mc ms Qc arr ⟨hF, hP, hlv, h1, h2, h3⟩
  exact lv_i2c hF.1 hF.2.1 (v := Int32.ofInt x) hd hx (k p l e s m args below meth cd X H locs cells slots mc ms Qc arr ⟨hF, hP, hlv, h1, h2, h3⟩)
theorem K_nreturn {x : Int} {ty : FieldType} (hd : decode M.2.1 pc = .ok (.ireturn, 1)) (hr : M.2.2.2 = some ty) (hn : narrow ty (.int (Int32.ofInt x)) = .int (Int32.ofInt x)) (k : Post (some (0, x)) n σ) : K d M Post b pc ls [(0, x)] n σ := by
  intro p l e s m args below meth c X H locs cells slots mc ms Qc arr ⟨hF, hP, hlv, h1, h2, h3, h4, h5⟩
  refine W.widen (k := mc) (n := ms) (by omega) (by omega) ?_
  exact W.zret hF.1 hF.2.1 (hF.2.2.2.1.trans hr) hn (fun t ht hw => h5 (some (0, x)) n σ t hw.alike k (hP.forget ht) (fun w hw => by cases hw; exact kh1 h2)) hP.2.1.2.2 hd hF.2.2.2.2.1
theorem K_callT {d' : Nat} {M' : kM} {b' : Nat × Nat} {idx n0 : Nat} {t : Int} {as stk : List kV} {Post' : Option kV → Nat → kS → Prop} (hd : decode M.2.1 pc = .ok (.invokevirtual idx, 3)) (hdd : d' + 1 ≤ d) (hb : b'.1 ≤ b.1 ∧ b'.2 ≤ b.2)
    (hc : M'.1.cls = "java/lang/String") (hC : kCL M' n0) (hL : kLK M.1.cls idx M' ∧ Cond.instanceMethod M'.1 ∈ TB ∧ Cond.selects M'.1.cls M'.1 M'.1 ∈ TB) (hn : as.length = n0) (hs : stk = as.reverse ++ (2, t) :: st) (hcat : (st.map kcat).sum ≤ 8) (ht : kTx t)
    (hT : (∀ v ∈ (2, t) :: as, kok v) → kokw n σ → Tri d' M' b' ((2, t) :: as) n σ Post')
    (k : ∀ (v : Option kV) (n' : Nat) (σ' : kS), (∀ w, v = some w → kok w) → kokw n' σ' → Post' v n' σ' → K d M Post (b.1 - b'.1, b.2 - b'.2) (pc + 3) ls (v.toList ++ st) n' σ') : K d M Post b pc ls stk n σ := by
  subst hs
  intro p l e s m args below meth cd X H locs cells slots mc ms Qc arr hG
  obtain ⟨hF, hP, hlv, h1, h2, h3, h4, h5⟩ := id hG
  obtain ⟨f1, f2, f3, f4, f5, f6, f7, f8, f9, f10⟩ := id hF
  have hst : ∀ v ∈ st, kok v := fun v hv => h2 v (List.mem_append_right _ (List.mem_cons_of_mem _ hv))
  have hak : ∀ v ∈ (2, t) :: as, kok v := fun v hv => by
    rcases List.mem_cons.mp hv with rfl | hv
    · trivial
    · exact h2 v (List.mem_append_left _ (List.mem_reverse.mpr hv))
  have hM := hT hak hP.2.2.1 hak hP.2.2.1 l X
  have hpre := k_pre (as := (2, t) :: as) hF hP
  have hkm : ((2, t) :: as : List kV).map (kcv X) = .ref (X.2.1 t) :: as.map (kcv X) := by rw [List.map_cons, kcv_old ht.lt]
  have hstack : (as.reverse ++ (2, t) :: st).map (kcv X) = (as.map (kcv X)).reverse ++ .ref (X.2.1 t) :: st.map (kcv X) := by
    rw [List.map_append, List.map_reverse, List.map_cons, kcv_old ht.lt]
  obtain ⟨c1, c2, c3, c4, c5⟩ := hC
  have hn2 : ∀ sig, parseMethodDescriptor M'.1.desc = some sig → n0 = sig.parameters.length := fun sig h => by rw [h] at c4; exact (Option.some.inj c4).symm
  have hroom : (kRm d' b'.1 b'.2).frames + 1 ≤ (kRm d mc ms).frames ∧ 8 + (M'.2.2.1 + 11) + (kRm d' b'.1 b'.2).locals ≤ (kRm d mc ms).locals := ⟨hdd, by show 8 + (M'.2.2.1 + 11) + 64 * d' ≤ 64 * d; omega⟩
  have hcells : cells + b'.1 ≤ (kRm d mc ms).cells ∧ slots + b'.2 ≤ (kRm d mc ms).slots := ⟨by show cells + b'.1 ≤ mc; omega, by show slots + b'.2 ≤ ms; omega⟩
  have hrecv : ∃ cell : Cell, H[X.2.1 t]? = some cell ∧ cell.vm.isStatics = false ∧ s.vm.findClass M'.1.cls = some cell.cls := by
    rw [hc]
    rcases ht with rfl | rfl
    · exact vk_recv (i := 0) f10.2.2.2.2.1 (by decide) hP.2.1
    · exact vk_recv (i := 1) f10.2.2.2.2.1 (by decide) hP.2.1
  have hpv : PreV s H M'.1.cls (X.2.1 t) (kPc X ((2, t) :: as) n σ) (as.map (kcv X)) := ⟨k_blind, hrecv, fun U hU hW => by rw [← hkm]; exact hpre U hU hW⟩
  have hcw := k_warm f8 (M' := M') (n' := n0) ⟨c1, c2, c3, c4, c5⟩
  rcases hL.1 with hl | ⟨host, hl⟩
  · refine k_after (va_runV (Ts := TB) (As := as.map (kcv X)) (rest := st.map (kcv X)) ⟨f1, f2, f3, f6, f8⟩ hM ⟨⟨rfl, rfl, hroom.1, hroom.2, hcw, List.mem_cons_self, f8 _ c1, f8 _ c2, c3, hn2, f8 _ hl⟩, f8 _ hL.2.1, f8 _ hL.2.2⟩ hpv rfl (by rw [List.length_map]; exact hn) hlv.1 hstack (k_cat hcat) hd hcells) ⟨hF, hP, hlv, h1, hst, h3, h4, h5⟩ hb k
  · refine k_after (va_runVN (Ts := TB) (As := as.map (kcv X)) (rest := st.map (kcv X)) ⟨f1, f2, f3, f6, f8⟩ hM ⟨⟨⟨rfl, rfl, hroom.1, hroom.2, hcw, List.mem_cons_self⟩, f8 _ c1, f8 _ c2, c3, hn2, f8 _ hl⟩, f8 _ hL.2.1, f8 _ hL.2.2⟩ hpv rfl (by rw [List.length_map]; exact hn) hlv.1 hstack (k_cat hcat) hd hcells) ⟨hF, hP, hlv, h1, hst, h3, h4, h5⟩ hb k
theorem K_cT {M' : kM} {idx n0 : Nat} {t : Int} {as stk : List kV} (hd : decode M.2.1 pc = .ok (.invokevirtual idx, 3)) (hc : M'.1.cls = "java/lang/String") (hC : kCL M' n0) (hL : kLK M.1.cls idx M' ∧ Cond.instanceMethod M'.1 ∈ TB ∧ Cond.selects M'.1.cls M'.1 M'.1 ∈ TB) (hn : as.length = n0) (hs : stk = as.reverse ++ (2, t) :: st) (hcat : (st.map kcat).sum ≤ 8) (ht : kTx t)
    (h : Ci d M' ((2, t) :: as) n σ (fun x s => K (d + 1) M Post (0, 0) (pc + 3) ls ((0, x) :: st) n s)) : K (d + 1) M Post (0, 0) pc ls stk n σ :=
  K_callT (d' := d) (b' := (0, 0)) hd (Nat.le_refl _) ⟨Nat.le_refl _, Nat.le_refl _⟩ hc hC hL hn hs hcat ht (fun _ _ => h) (fun v n' σ' _ _ ⟨h1, x, h2, h3⟩ => by subst h1; subst h2; exact h3)
end KP
theorem tx_all {t i : Int} (ht : kTx t) (h0 : 0 ≤ i) (h1 : i < txLen t) : kand (txB t i) 255 = txB t i ∧ ((Int32.ofInt (txB t i)).toUInt32 % 65536).toInt32 = Int32.ofInt (txB t i) ∧ narrow .char (.int (Int32.ofInt (txB t i))) = .int (Int32.ofInt (txB t i)) := by
  rcases ht with rfl | rfl
  · have hi : i = 0 := by
      have : i < 1 := h1
      omega
    subst hi
    exact ⟨by decide, by decide, by decide⟩
  · have h8 : i < 8 := h1
    rcases (show i = 0 ∨ i = 1 ∨ i = 2 ∨ i = 3 ∨ i = 4 ∨ i = 5 ∨ i = 6 ∨ i = 7 by omega) with rfl | rfl | rfl | rfl | rfl | rfl | rfl | rfl <;> exact ⟨by decide, by decide, by decide⟩
/-! checkIndex of Preconditions: whatever its third argument is -/
def kPr (X : kX) (vs : List Value) (n : Nat) (σ : kS) : Array Value → State → Prop := fun v U =>
  v = vs.toArray ∧ va_P X.2.2.1 kcls (kwl X n σ) U.heap ∧ va_K X.2.2.1 kcls (ktys X) U ∧ kEx X U U.heap ∧ (n < kN → U.heap.size = X.1 + n) ∧ X.1 ≤ U.heap.size ∧ kSc X σ U U.heap
theorem k_blindR {X : kX} {vs : List Value} {n : Nat} {σ : kS} : FrameBlind (kPr X vs n σ) := fun a U g mk h => by
  obtain ⟨h1, h2, h3, h4, h5, h6, h7⟩ := h
  exact ⟨h1, h2, va_K.moved (u := U) (U := U.calling g mk a) (Vm.Alike.refl U.vm) h3, kEx.same (u := U) (U := U.calling g mk a) rfl h4, h5, h6, kSc.moved (u := U) (U := U.calling g mk a) (Vm.Alike.refl U.vm) h7⟩
theorem chk_met {d : Nat} {l : Launch} {X : kX} {w : Value} (hw : w.category = 1) {i len : Int} {n : Nat} {σ : kS} (hi : 0 ≤ i ∧ i < len) (hl : len ≤ 2147483647) (hok : kokw n σ) : Met l MJ3_checkIndex_8e157.1 (kWs MJ3_checkIndex_8e157) (kRm d 0 0) (kPr X [.int (Int32.ofInt i), .int (Int32.ofInt len), w] n σ) (kQc X (kPi n (fun x s => x = i ∧ s = σ))) 0 0 (kA X) := by
  have k0 : K d MJ3_checkIndex_8e157 (kPi n (fun x s => x = i ∧ s = σ)) (0, 0) 0 [(0, (0, i)), (1, (0, len))] [] n σ := by
    refine K_iload_n (j := 0) 0 (by decide +kernel) rfl rfl ?_
    refine K_if_lt (off := 8) (tgt := 9) (by decide +kernel) rfl (fun e => by omega) (fun _ => ?_)
    refine K_iload_n (j := 0) 0 (by decide +kernel) rfl rfl ?_
    refine K_iload_n (j := 1) 1 (by decide +kernel) rfl rfl ?_
    refine K_icmp_lt (off := 10) (tgt := 16) (by decide +kernel) rfl (fun _ => ?_) (fun e => by omega)
    refine K_iload_n (j := 0) 0 (by decide +kernel) rfl rfl ?_
    exact K_ireturn (by decide +kernel) rfl ⟨rfl, _, rfl, rfl, rfl⟩
  refine k_ofW (by decide +kernel) rfl ?_
  intro p e s m args below meth c s₁ B hml hv
  obtain ⟨rfl, hP, hK, hE, hsz, hbs, hsc⟩ := hv
  have hts := atoms_spec (ws := kWs MJ3_checkIndex_8e157) B.pre
  have hl0 := lv_entry [.int (Int32.ofInt i), .int (Int32.ofInt len), w] (n := MJ3_checkIndex_8e157.2.2.1) (by
    show ([Slot.val (.int (Int32.ofInt i))] ++ ([Slot.val (.int (Int32.ofInt len))] ++ (lg_sl [w]))).length ≤ 3
    have : (lg_sl [w]).length ≤ 1 := by
      simp only [lg_sl, List.flatMap_cons, List.flatMap_nil, List.append_nil]
      rw [hw]
      simp
    simp only [List.length_append, List.length_singleton]
    omega)
  rw [lg_entry_eq]
  generalize (lg_sl [Value.int (Int32.ofInt i), Value.int (Int32.ofInt len), w] ++ List.replicate (MJ3_checkIndex_8e157.2.2.1 - (lg_sl [Value.int (Int32.ofInt i), Value.int (Int32.ofInt len), w]).length) Slot.unset).toArray = arr at hl0 ⊢
  have hl1 : lv_has arr MJ3_checkIndex_8e157.2.2.1 (kcl X [(0, (0, i)), (1, (0, len))]) := lv_sub hl0 [0, 1] rfl
  refine k0 p l e s m _ below meth c X s.heap [] 0 0 0 0 (kQc X (kPi n (fun x s => x = i ∧ s = σ))) arr ⟨⟨B.exec, B.bytes, hml, B.returns, B.notSynchronized, findClass_of_methodNamed B.named, (name_of_methodNamed B.named B.method).1, fun w h => hts w (List.mem_cons_of_mem _ h), hK, hE⟩, ⟨hP, va_S.rf, hok, hsz, hbs, hsc⟩, hl1, fun q hq => ?_, (fun v hv => absurd hv List.not_mem_nil), by omega, by omega, ?_⟩
  · rcases List.mem_cons.mp hq with rfl | hq
    · exact ⟨by show -2147483648 ≤ i; omega, by show i ≤ 2147483647; omega⟩
    · rw [List.mem_singleton] at hq
      rw [hq]
      exact ⟨by show -2147483648 ≤ len; omega, hl⟩
  · intro v n' σ' t hvm hp hPic hvok
    obtain ⟨g1, g2, g3, g4, g5, g6⟩ := hPic
    exact ⟨v, n', σ', rfl, hp, hvok, g3, g1, g4, g2.F rfl, (kSc.kept g6 (fun a h1 h2 => g2.2.1 a h1 h2)).moved hvm⟩
theorem K_chk {d : Nat} {M : kM} {Post : Option kV → Nat → kS → Prop} {pc : Nat} {ls : List (Nat × kV)} {st : List kV} {n : Nat} {σ : kS} {i len : Int} (hd2 : decode M.2.1 pc = .ok (.getstatic 1053, 3)) (hd3 : decode M.2.1 (pc + 3) = .ok (.invokestatic 1059, 3)) (ho : M.1.cls = "java/lang/String") (hi : 0 ≤ i ∧ i < len) (hcat : (st.map kcat).sum ≤ 8) (k : K (d + 1) M Post (0, 0) (pc + 3 + 3) ls ((0, i) :: st) n σ) : K (d + 1) M Post (0, 0) pc ls ((0, len) :: (0, i) :: st) n σ := by
  intro p l e s m args below meth cd X H locs cells slots mc ms Qc arr hG
  obtain ⟨hF, hP, hlv, h1, h2, h3, h4, h5⟩ := id hG
  obtain ⟨f1, f2, f3, f4, f5, f6, f7, f8, f9, f10⟩ := id hF
  rw [ho] at f6
  have hlen := (kh1 h2).2
  have hst : ∀ v ∈ st, kok v := kht (kht h2)
  have main : ∀ w : Value, w.category = 1 → W p l e (kRm (d + 1) mc ms) s m args below meth cd H locs cells slots (MQ below Qc args s mc ms (kA X)) (F0 m (pc + 3) arr (w :: .int (Int32.ofInt len) :: .int (Int32.ofInt i) :: st.map (kcv X))) := by
    intro w hw
    have hM := chk_met (d := d) (l := l) (X := X) hw hi hlen hP.2.2.1
    obtain ⟨c1, c2, c3, c4, c5⟩ := cl_MJ3_checkIndex_8e157
    have hn2 : ∀ sig, parseMethodDescriptor MJ3_checkIndex_8e157.1.desc = some sig → 3 = sig.parameters.length := fun sig h => by rw [h] at c4; exact (Option.some.inj c4).symm
    have hroom : (kRm d 0 0).frames + 1 ≤ (kRm (d + 1) mc ms).frames ∧ 8 + (MJ3_checkIndex_8e157.2.2.1 + 11) + (kRm d 0 0).locals ≤ (kRm (d + 1) mc ms).locals := ⟨Nat.le_refl _, by show 8 + (3 + 11) + 64 * d ≤ 64 * (d + 1); omega⟩
    have hcells : cells + 0 ≤ (kRm (d + 1) mc ms).cells ∧ slots + 0 ≤ (kRm (d + 1) mc ms).slots := ⟨by show cells + 0 ≤ mc; omega, by show slots + 0 ≤ ms; omega⟩
    have hpre := k_pre (as := ([] : List kV)) hF hP
    have hpv : PreS s H (kPr X [.int (Int32.ofInt i), .int (Int32.ofInt len), w] n σ) [.int (Int32.ofInt i), .int (Int32.ofInt len), w] := ⟨k_blindR, fun U hU hW => ⟨rfl, (hpre U hU hW).2⟩⟩
    have hcw := k_warm f8 (M' := MJ3_checkIndex_8e157) (n' := 3) ⟨c1, c2, c3, c4, c5⟩
    rcases lkt_1059.1 with hl | ⟨host, hl⟩
    · exact k_after (b := (0, 0)) (b' := (0, 0)) (va_runS (Ts := TB) (As := [.int (Int32.ofInt i), .int (Int32.ofInt len), w]) (rest := st.map (kcv X)) ⟨f1, f2, f3, f6, f8⟩ hM ⟨⟨rfl, rfl, hroom.1, hroom.2, hcw, List.mem_cons_self, f8 _ c1, f8 _ c2, c3, hn2, f8 _ hl⟩, f8 _ lkt_1059.2⟩ hpv rfl rfl hlv.1 rfl (k_cat hcat) hd3 hcells) ⟨hF, hP, hlv, h1, hst, h3, h4, h5⟩ ⟨Nat.le_refl _, Nat.le_refl _⟩ (fun v n' σ' _ _ ⟨q1, x, q2, q3, q4⟩ => by subst q1; subst q2; subst q3; subst q4; exact k)
    · exact k_after (b := (0, 0)) (b' := (0, 0)) (va_runSN (Ts := TB) (As := [.int (Int32.ofInt i), .int (Int32.ofInt len), w]) (rest := st.map (kcv X)) ⟨f1, f2, f3, f6, f8⟩ hM ⟨⟨⟨rfl, rfl, hroom.1, hroom.2, hcw, List.mem_cons_self⟩, f8 _ c1, f8 _ c2, c3, hn2, f8 _ hl⟩, f8 _ lkt_1059.2, trivial⟩ hpv rfl rfl hlv.1 rfl (k_cat hcat) hd3 hcells) ⟨hF, hP, hlv, h1, hst, h3, h4, h5⟩ ⟨Nat.le_refl _, Nat.le_refl _⟩ (fun v n' σ' _ _ ⟨q1, x, q2, q3, q4⟩ => by subst q1; subst q2; subst q3; subst q4; exact k)
  rcases f10.2.2.2.2.2.2.1 with hz | ⟨t, hz⟩
  · exact va_gets f1 f2 hz hP.2.1 f6 (f8 _ tv_fmt) (fun x h => h) hd2 (main .null rfl)
  · exact va_gets f1 f2 hz hP.2.1 f6 (f8 _ tv_fmt) (fun x h => h) hd2 (main (.ref t) rfl)
theorem T_check {d n : Nat} (hd : 1 ≤ d) {σ : kS} {i len : Int} {Q : kS → Prop} (hi : 0 ≤ i ∧ i < len) (h : Q σ) : Cv (d + 1) MJ0_checkIndex_df160 [(0, i), (0, len)] n σ Q := by
  refine Tri_of (by decide +kernel) (Nat.le_of_ble_eq_true rfl) (fun _ _ => ?_)
  refine K_iload_n (j := 0) 0 (by decide +kernel) rfl rfl ?_
  refine K_iload_n (j := 1) 1 (by decide +kernel) rfl rfl ?_
  refine K_chk (by decide +kernel) (by decide +kernel) rfl hi (Nat.le_of_ble_eq_true rfl) ?_
  refine K_pop (by decide +kernel) rfl ?_
  exact K_return (by decide +kernel) rfl ⟨rfl, rfl, h⟩
theorem T_coder {d n : Nat} {σ : kS} {t : Int} {Q : Int → kS → Prop} (ht : kTx t) (h : Q 0 σ) : Ci d MJ0_coder_7d493 [(2, t)] n σ Q := by
  refine Tri_of (by decide +kernel) (Nat.le_of_ble_eq_true rfl) (fun _ _ => ?_)
  refine K_gsC (by decide +kernel) rfl ?_
  refine K_if_eq (off := 10) (tgt := 13) (by decide +kernel) rfl (fun e => absurd e (by decide)) (fun _ => ?_)
  refine K_aload_n (j := 0) 0 (by decide +kernel) rfl rfl ?_
  refine K_tcod (by decide +kernel) rfl ht ?_
  refine K_goto (off := 4) (tgt := 14) (by decide +kernel) rfl ?_
  exact K_nreturn (ty := .byte) (by decide +kernel) rfl (by decide) ⟨rfl, _, rfl, h⟩
theorem T_latin {d n : Nat} {σ : kS} {t : Int} {Q : Int → kS → Prop} (ht : kTx t) (h : Q 1 σ) : Ci d MJ0_isLatin1_aae02 [(2, t)] n σ Q := by
  refine Tri_of (by decide +kernel) (Nat.le_of_ble_eq_true rfl) (fun _ _ => ?_)
  refine K_gsC (by decide +kernel) rfl ?_
  refine K_if_eq (off := 14) (tgt := 17) (by decide +kernel) rfl (fun e => absurd e (by decide)) (fun _ => ?_)
  refine K_aload_n (j := 0) 0 (by decide +kernel) rfl rfl ?_
  refine K_tcod (by decide +kernel) rfl ht ?_
  refine K_if_ne (off := 7) (tgt := 17) (by decide +kernel) rfl (fun e => absurd rfl e) (fun _ => ?_)
  refine K_iconst (i := 1) (by decide +kernel) (by decide) ?_
  refine K_goto (off := 4) (tgt := 18) (by decide +kernel) rfl ?_
  exact K_zreturn (by decide +kernel) rfl (Or.inr rfl) ⟨rfl, _, rfl, h⟩
theorem T_length {d n : Nat} {σ : kS} {t : Int} {Q : Int → kS → Prop} (ht : kTx t) (h : Q (txLen t) σ) : Ci (d + 1) MJ0_length_8abf5 [(2, t)] n σ Q := by
  refine Tri_of (by decide +kernel) (Nat.le_of_ble_eq_true rfl) (fun _ _ => ?_)
  refine K_aload_n (j := 0) 0 (by decide +kernel) rfl rfl ?_
  refine K_tval (by decide +kernel) rfl ht ?_
  refine K_tlen (by decide +kernel) ht ?_
  refine K_aload_n (j := 0) 0 (by decide +kernel) rfl rfl ?_
  refine K_cT (as := []) (st := [(0, txLen t)]) (by decide +kernel) rfl cl_MJ0_coder_7d493 lkt_335 rfl rfl (Nat.le_of_ble_eq_true rfl) ht (T_coder ht ?_)
  refine K_ishr (by decide +kernel) ?_
  have e : kishr (txLen t) 0 = txLen t := by rcases ht with rfl | rfl <;> decide
  rw [e]
  exact K_ireturn (by decide +kernel) rfl ⟨rfl, _, rfl, h⟩
theorem T_charAt1 {d n : Nat} {σ : kS} {t i : Int} {Q : Int → kS → Prop} (ht : kTx t) (h0 : 0 ≤ i) (h1 : i < txLen t) (h : Q (txB t i) σ) : Ci (d + 3) MJ1_charAt_3b067 [(2, t - 2), (0, i)] n σ Q := by
  obtain ⟨e1, e2, e3⟩ := tx_all ht h0 h1
  refine Tri_of (by decide +kernel) (Nat.le_of_ble_eq_true rfl) (fun _ _ => ?_)
  refine K_iload_n (j := 1) 1 (by decide +kernel) rfl rfl ?_
  refine K_aload_n (j := 0) 0 (by decide +kernel) rfl rfl ?_
  refine K_tlen (by decide +kernel) ht ?_
  refine K_cSv (as := [(0, i), (0, txLen t)]) (st := []) (by decide +kernel) cl_MJ0_checkIndex_df160 lkt_9 rfl rfl (Nat.le_of_ble_eq_true rfl) (T_check (by omega) ⟨h0, h1⟩ ?_)
  refine K_aload_n (j := 0) 0 (by decide +kernel) rfl rfl ?_
  refine K_iload_n (j := 1) 1 (by decide +kernel) rfl rfl ?_
  refine K_tbal (by decide +kernel) ht h0 h1 ?_
  refine K_sipush (i := 255) (by decide +kernel) (by decide +kernel) ?_
  refine K_iand (by decide +kernel) ?_
  rw [e1]
  refine K_i2c (by decide +kernel) e2 ?_
  exact K_nreturn (ty := .char) (by decide +kernel) rfl e3 ⟨rfl, _, rfl, h⟩
theorem T_charAt {d n : Nat} {σ : kS} {t i : Int} {Q : Int → kS → Prop} (ht : kTx t) (h0 : 0 ≤ i) (h1 : i < txLen t) (h : Q (txB t i) σ) : Ci (d + 4) MJ0_charAt_5068e [(2, t), (0, i)] n σ Q := by
  obtain ⟨e1, e2, e3⟩ := tx_all ht h0 h1
  refine Tri_of (by decide +kernel) (Nat.le_of_ble_eq_true rfl) (fun _ _ => ?_)
  refine K_aload_n (j := 0) 0 (by decide +kernel) rfl rfl ?_
  refine K_cT (as := []) (st := []) (by decide +kernel) rfl cl_MJ0_isLatin1_aae02 lkt_492 rfl rfl (Nat.le_of_ble_eq_true rfl) ht (T_latin ht ?_)
  refine K_if_eq (off := 12) (tgt := 16) (by decide +kernel) rfl (fun e => absurd e (by decide)) (fun _ => ?_)
  refine K_aload_n (j := 0) 0 (by decide +kernel) rfl rfl ?_
  refine K_tval (by decide +kernel) rfl ht ?_
  refine K_iload_n (j := 1) 1 (by decide +kernel) rfl rfl ?_
  refine K_cSi (as := [(2, t - 2), (0, i)]) (st := []) (by decide +kernel) cl_MJ1_charAt_3b067 lkt_495 rfl rfl (Nat.le_of_ble_eq_true rfl) (T_charAt1 ht h0 h1 ?_)
  exact K_nreturn (ty := .char) (by decide +kernel) rfl e3 ⟨rfl, _, rfl, h⟩
/-- isAmong -/
def amongT (t x : Int) : Prop := if t = -5 then x = 121 else gLet x ≠ -1
theorem amongT_iff {t x : Int} (ht : kTx t) : amongT t x ↔ ∃ i, 0 ≤ i ∧ i < txLen t ∧ txB t i = x := by
  rcases ht with rfl | rfl
  · show x = 121 ↔ _
    constructor
    · rintro rfl
      exact ⟨0, by decide, by decide, rfl⟩
    · rintro ⟨i, _, _, e⟩
      exact e.symm
  · show gLet x ≠ -1 ↔ _
    constructor
    · intro h
      unfold gLet at h
      by_cases c1 : x = 117
      · exact ⟨0, by decide, by decide, c1.symm⟩
      by_cases c2 : x = 100
      · exact ⟨1, by decide, by decide, c2.symm⟩
      by_cases c3 : x = 119
      · exact ⟨2, by decide, by decide, c3.symm⟩
      by_cases c4 : x = 102
      · exact ⟨3, by decide, by decide, c4.symm⟩
      by_cases c5 : x = 109
      · exact ⟨4, by decide, by decide, c5.symm⟩
      by_cases c6 : x = 115
      · exact ⟨5, by decide, by decide, c6.symm⟩
      by_cases c7 : x = 103
      · exact ⟨6, by decide, by decide, c7.symm⟩
      by_cases c8 : x = 116
      · exact ⟨7, by decide, by decide, c8.symm⟩
      rw [if_neg c1, if_neg c2, if_neg c3, if_neg c4, if_neg c5, if_neg c6, if_neg c7, if_neg c8] at h
      exact absurd rfl h
    · rintro ⟨i, h0, h1, e⟩
      have h8 : i < 8 := h1
      rcases (show i = 0 ∨ i = 1 ∨ i = 2 ∨ i = 3 ∨ i = 4 ∨ i = 5 ∨ i = 6 ∨ i = 7 by omega) with rfl | rfl | rfl | rfl | rfl | rfl | rfl | rfl <;> (rw [← e]; decide)
theorem M_isAmong {d n : Nat} (hd : 6 ≤ d) {σ : kS} {t x : Int} {Q : Int → kS → Prop} (ht : kTx t) (h1 : amongT t x → Q 1 σ) (h0 : ¬ amongT t x → Q 0 σ) : Ci d MX12_isAmong [(2, t), (0, x)] n σ Q := by
  obtain ⟨d, rfl⟩ : ∃ e, d = e + 6 := ⟨d - 6, by omega⟩
  have key : ∀ i : Int, 0 ≤ i → i ≤ txLen t → (∀ k, 0 ≤ k → k < i → txB t k ≠ x) → K (d + 6) MX12_isAmong (kPi n Q) (0, 0) 2 [(0, (2, t)), (1, (0, x)), (2, (0, i))] [] n σ := by
    refine up_to (e := txLen t) ?_
    intro i ih i0 i1 hno
    have h8 : txLen t ≤ 8 := by rcases ht with rfl | rfl <;> decide
    refine K_iload_n (j := 2) 2 (by decide +kernel) rfl rfl ?_
    refine K_aload_n (j := 0) 0 (by decide +kernel) rfl rfl ?_
    refine K_cT (d := d + 5) (as := []) (st := [(0, i)]) (by decide +kernel) rfl cl_MJ0_length_8abf5 lk12_184 rfl rfl (Nat.le_of_ble_eq_true rfl) ht (T_length ht ?_)
    refine K_icmp_ge (off := 20) (tgt := 27) (by decide +kernel) rfl (fun c => ?_) (fun c => ?_)
    · refine K_iconst (i := 0) (by decide +kernel) (by decide) ?_
      refine K_zreturn (by decide +kernel) rfl (Or.inl rfl) ⟨rfl, _, rfl, h0 (fun q => ?_)⟩
      obtain ⟨k, k0, k1, e⟩ := (amongT_iff ht).mp q
      exact hno k k0 (by omega) e
    · refine K_aload_n (j := 0) 0 (by decide +kernel) rfl rfl ?_
      refine K_iload_n (j := 2) 2 (by decide +kernel) rfl rfl ?_
      refine K_cT (d := d + 5) (as := [(0, i)]) (st := []) (by decide +kernel) rfl cl_MJ0_charAt_5068e lk12_190 rfl rfl (Nat.le_of_ble_eq_true rfl) ht (T_charAt ht i0 (by omega) ?_)
      refine K_iload_n (j := 1) 1 (by decide +kernel) rfl rfl ?_
      refine K_icmp_ne (off := 5) (tgt := 21) (by decide +kernel) rfl (fun c2 => ?_) (fun c2 => ?_)
      · refine K_iinc (i := 2) (a := 1) (ls' := [(0, (2, t)), (1, (0, x)), (2, (0, i + 1))]) 2 (by decide +kernel) rfl ⟨by omega, by omega⟩ (by decide) rfl ?_
        refine K_goto (off := -22) (tgt := 2) (by decide +kernel) rfl ?_
        refine ih (by omega) (by omega) (by omega) (fun k k0 k1 => ?_)
        by_cases e : k = i
        · rw [e]; exact c2
        · exact hno k k0 (by omega)
      · refine K_iconst (i := 1) (by decide +kernel) (by decide) ?_
        exact K_zreturn (by decide +kernel) rfl (Or.inr rfl) ⟨rfl, _, rfl, h1 ((amongT_iff ht).mpr ⟨i, i0, by omega, Classical.not_not.mp c2⟩)⟩
  refine Tri_of (by decide +kernel) (Nat.le_of_ble_eq_true rfl) (fun _ _ => ?_)
  refine K_iconst (i := 0) (by decide +kernel) (by decide) ?_
  refine K_istore_n (ls' := [(0, (2, t)), (1, (0, x)), (2, (0, 0))]) (j := 2) (by decide +kernel) rfl (by decide) rfl ?_
  exact key 0 (Int.le_refl 0) (by rcases ht with rfl | rfl <;> decide) (fun k k0 k1 => by omega)
