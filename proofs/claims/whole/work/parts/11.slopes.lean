theorem gl_eq (x y : Int64) : lg_cmp x y = 0 ↔ x = y := by
  unfold lg_cmp; by_cases h : x > y
  · rw [if_pos h]; constructor
    · intro z; exact absurd z (by decide)
    · intro z; subst z; exact absurd h (by exact Int64.lt_irrefl)
  · rw [if_neg h]; by_cases h2 : x = y
    · rw [if_pos h2]; exact ⟨fun _ => h2, fun _ => rfl⟩
    · rw [if_neg h2]; exact ⟨fun z => absurd z (by decide), fun z => absurd z h2⟩
theorem gl_le (x y : Int64) : lg_cmp x y ≤ 0 ↔ x ≤ y := by
  unfold lg_cmp; by_cases h : x > y
  · rw [if_pos h]; exact ⟨fun z => absurd z (by decide), fun z => absurd z (Int64.not_le.mpr h)⟩
  · rw [if_neg h]; by_cases h2 : x = y
    · rw [if_pos h2]; exact ⟨fun _ => Int64.not_lt.mp h, fun _ => by decide⟩
    · rw [if_neg h2]; exact ⟨fun _ => Int64.not_lt.mp h, fun _ => by decide⟩
theorem gl_ge (x y : Int64) : 0 ≤ lg_cmp x y ↔ y ≤ x := by
  unfold lg_cmp; by_cases h : x > y
  · rw [if_pos h]; exact ⟨fun _ => Int64.le_of_lt h, fun _ => by decide⟩
  · rw [if_neg h]; by_cases h2 : x = y
    · rw [if_pos h2]; exact ⟨fun _ => by rw [h2]; exact Int64.le_refl _, fun _ => by decide⟩
    · rw [if_neg h2]; exact ⟨fun z => absurd z (by decide), fun z => absurd (Int64.le_antisymm (Int64.not_lt.mp h) z) h2⟩
def tr_mag (T : Tr) (a : Nat) : Tr × Nat := if T.2.2.2.1 a = 0 then (T, 0) else if T.2.2.2.1 a < 0 then (tr_dif T 0 a, tr_ix T) else (T, a)
def tr_part (T : Tr) (f : Nat → Int64) (i : Nat) : Int64 := if T.1 i = 1 then f (T.2.1 i) + f (T.2.2.1 i) else if T.1 i = 2 then f (T.2.1 i) - f (T.2.2.1 i) else if T.1 i = 3 then f (T.2.1 i) * T.2.2.2.1 (T.2.2.1 i) + T.2.2.2.1 (T.2.1 i) * f (T.2.2.1 i) else 0
def tr_ok (T : Tr) : Prop := T.2.2.2.2 ≤ 64 ∧ 3 ≤ T.2.2.2.2 ∧ ∀ i, i < T.2.2.2.2 → T.1 i ≤ 3 ∧ T.2.1 i < 64 ∧ T.2.2.1 i < 64
def tr_sl (T : Tr) (b : Nat) (f : Nat → Int64) : Nat → (Nat → Int64)
  | 0 => f
  | i + 1 => vp_updL (tr_sl T b f i) i (if i = 1 + b then 1 else tr_part T (tr_sl T b f i) i)
def tr_mx (T : Tr) (g1 g2 f : Nat → Int64) : Nat → (Nat → Int64)
  | 0 => f
  | i + 1 => vp_updL (tr_mx T g1 g2 f i) i (if T.1 i = 3 then tr_part T (tr_mx T g1 g2 f i) i + (g1 (T.2.1 i) * g2 (T.2.2.1 i) + g2 (T.2.1 i) * g1 (T.2.2.1 i)) else tr_part T (tr_mx T g1 g2 f i) i)
theorem gu_L (f : Nat → Int64) (i : Nat) (x y : Int64) : vp_updL (vp_updL f i x) i y = vp_updL f i y := by
  funext j; by_cases h : j = i
  · simp [vp_updL, h]
  · simp [vp_updL, h]
theorem gu_Ls (f : Nat → Int64) (i : Nat) (x : Int64) : vp_updL f i x i = x := by simp [vp_updL]
set_option maxHeartbeats 4000000 in
set_option maxRecDepth 100000 in
theorem c_T_magnitude (l : Launch) (D : va_G) (cI cJ cB cZ : ClassId) (t : Nat) (q : Nat → Nat) (T : Tr) (f1 f2 f3 f4 : Nat → Int64) (a : Nat) (hn : T.2.2.2.2 ≤ 64) (ha : a < 64) : ct_I l y_T_magnitude w_T_magnitude ({ frames := 2, cells := 0, slots := 0, locals := 48 }) D (gk_T cI cJ cB cZ) [.ref t, .int (nI a)] (wTr cI cJ t q T f1 f2 f3 f4) (0) (0) (fun r w => r = nI (tr_mag T a).2 ∧ w = wTr cI cJ t q ((tr_mag T a).1) f1 f2 f3 f4) := by
  intro sz
  refine Met.ofW (cc := b_T_magnitude) (maxL := 2) (ret := (some .int)) (by decide) rfl ?_
  intro p ev9 s m args below meth c s₁ B9 hml hv
  obtain ⟨rfl, hsz, hP, hK, hN, hD0⟩ := hv
  have hx := B9.exec
  have hb := B9.bytes
  have hr := B9.returns
  have hts := atoms_spec (ws := w_T_magnitude) B9.pre
  have ht : ∀ w ∈ gk_big, w.before _ s = true := fun w h => hts w (List.mem_cons_of_mem _ h)
  have hown : s.vm.findClass R_T = some m.cls := findClass_of_methodNamed B9.named
  have hlocks := B9.notSynchronized
  subst hsz
  have hD := hD0.self (sz := s.heap.size)
  generalize hAe : va_A (wTr cI cJ t q T f1 f2 f3 f4) s.heap.size = A at hD ⊢
  have hA : ∀ q : Nat, s.heap.size ≤ q → A q := fun q h => by rw [← hAe]; exact Or.inr h
  generalize hHe : s.heap = H at hP ⊢
  have hS : va_S A s.heap H [] := by rw [← hHe]; exact va_S.rf
  have hP : va_P D vwCl [(t, .inr (4, [.ref (q 0), .ref (q 1), .ref (q 2), .ref (q 3), .ref (q 4), .ref (q 5), .ref (q 6), .ref (q 7), .int (nI T.2.2.2.2)])), ((q 0), .inl (cI, 64, .inl (fun z9 => nI (T.1 z9)))), ((q 1), .inl (cI, 64, .inl (fun z9 => nI (T.2.1 z9)))), ((q 2), .inl (cI, 64, .inl (fun z9 => nI (T.2.2.1 z9)))), ((q 3), .inl (cJ, 64, .inr (.inl T.2.2.2.1))), ((q 4), .inl (cJ, 64, .inr (.inl f1))), ((q 5), .inl (cJ, 64, .inr (.inl f2))), ((q 6), .inl (cJ, 64, .inr (.inl f3))), ((q 7), .inl (cJ, 64, .inr (.inl f4)))] H := hP
  have hD : va_D A [(t, .inr (4, [.ref (q 0), .ref (q 1), .ref (q 2), .ref (q 3), .ref (q 4), .ref (q 5), .ref (q 6), .ref (q 7), .int (nI T.2.2.2.2)])), ((q 0), .inl (cI, 64, .inl (fun z9 => nI (T.1 z9)))), ((q 1), .inl (cI, 64, .inl (fun z9 => nI (T.2.1 z9)))), ((q 2), .inl (cI, 64, .inl (fun z9 => nI (T.2.2.1 z9)))), ((q 3), .inl (cJ, 64, .inr (.inl T.2.2.2.1))), ((q 4), .inl (cJ, 64, .inr (.inl f1))), ((q 5), .inl (cJ, 64, .inr (.inl f2))), ((q 6), .inl (cJ, 64, .inr (.inl f3))), ((q 7), .inl (cJ, 64, .inr (.inl f4)))] := hD
  have hl := lv_entry ([.ref t, .int (nI a)]) (n := 2) (Nat.le_of_ble_eq_true rfl)
  rw [lg_entry_eq]
  generalize (lg_sl ([.ref t, .int (nI a)]) ++ List.replicate (2 - (lg_sl ([.ref t, .int (nI a)])).length) Slot.unset).toArray = ls at hl ⊢
  have hl : lv_has ls 2 [(0, .ref t), (1, .int (nI a))] := hl
  refine lv_aload_n hx hb dT_magnitude_0 rfl (lv_at hl 0 rfl) ?_
  refine va_get (D := D) (ci := 4) (v := .ref (q 3)) (C := R_T) (T := F_T) (N := 9) hx hb ht i_T hown hK hP 0 rfl rfl 3 (by decide) (ht _ m_63) (fun _ h9 => h9) rfl dT_magnitude_1 ?_
  refine lv_iload_n hx hb dT_magnitude_4 rfl (lv_at hl 1 rfl) ?_
  have i5 : vp_in (nI a) 64 := gx_in (rfl : (nI a) = (nI a)) (by omega) (by decide)
  have k5 : ((nI a) : Int32).toNatClampNeg = a := gx_cl (rfl : (nI a) = (nI a)) (by omega)
  refine va_lald hx hb hK hP 4 1 rfl rfl i5 dT_magnitude_5 ?_
  rw [k5]
  refine lv_topl (fun v5 e5 => ?_)
  refine lv_lconst (v := 0) hx hb dT_magnitude_6 (by decide) ?_
  refine W.lcmp hx hb dT_magnitude_7 ?_
  refine lv_topi (fun v7 e7 => ?_)
  refine lv_if_ne (tgt := 13) hx hb dT_magnitude_8 (by decide) (fun c8 => ?_) (fun c8 => ?_)
  · have hz0 : ¬ T.2.2.2.1 a = 0 := fun z => c8 (by rw [e7, e5]; exact (gl_eq _ _).mpr z)
    refine lv_aload_n hx hb dT_magnitude_13 rfl (lv_at hl 0 rfl) ?_
    refine va_get (D := D) (ci := 4) (v := .ref (q 3)) (C := R_T) (T := F_T) (N := 9) hx hb ht i_T hown hK hP 0 rfl rfl 3 (by decide) (ht _ m_63) (fun _ h9 => h9) rfl dT_magnitude_14 ?_
    refine lv_iload_n hx hb dT_magnitude_17 rfl (lv_at hl 1 rfl) ?_
    have i18 : vp_in (nI a) 64 := gx_in (rfl : (nI a) = (nI a)) (by omega) (by decide)
    have k18 : ((nI a) : Int32).toNatClampNeg = a := gx_cl (rfl : (nI a) = (nI a)) (by omega)
    refine va_lald hx hb hK hP 4 1 rfl rfl i18 dT_magnitude_18 ?_
    rw [k18]
    refine lv_topl (fun v18 e18 => ?_)
    refine lv_lconst (v := 0) hx hb dT_magnitude_19 (by decide) ?_
    refine W.lcmp hx hb dT_magnitude_20 ?_
    refine lv_topi (fun v20 e20 => ?_)
    refine lv_if_ge (tgt := 33) hx hb dT_magnitude_21 (by decide) (fun c21 => ?_) (fun c21 => ?_)
    · refine lv_iload_n hx hb dT_magnitude_33 rfl (lv_at hl 1 rfl) ?_
      have hz : tr_mag T a = (T, a) := by unfold tr_mag; rw [if_neg hz0, if_neg (Int64.not_lt.mpr ((gl_ge _ _).mp (by rw [← e18, ← e20]; exact c21)))]
      exact W.iret (v := (nI a)) hx hb hr (fun t9 ht9 hW => ⟨⟨(nI a), _, rfl, ⟨by first | (rw [hz]; done) | (rw [hz]; rfl), by rw [hz]⟩, by rw [ht9]; exact hP, hD⟩, hS.F ht9⟩) hS.2.2 dT_magnitude_34
    · refine lv_aload_n hx hb dT_magnitude_24 rfl (lv_at hl 0 rfl) ?_
      refine lv_iconst (v := 0) hx hb dT_magnitude_25 (by decide) ?_
      refine lv_iload_n hx hb dT_magnitude_26 rfl (lv_at hl 1 rfl) ?_
      refine gc_i (va_runV (As := [.int 0, .int (nI a)]) (rest := []) ⟨hx, hb, hml, hown, ht⟩ (c_T_difference l D cI cJ cB cZ t q T f1 f2 f3 f4 0 a (by omega) (by omega) (by omega) H.size) (cwV 2 ht (gw_V m_378 m_370 m_371 m_4 m_372) rfl rfl rfl (by decide +kernel) ⟨Nat.le_of_ble_eq_true rfl, Nat.le_of_ble_eq_true rfl⟩) (gp_V (ci := 4) (q0 := 0) hK hN (hP.sub (ws' := (wTr cI cJ t q T f1 f2 f3 f4)) [0, 1, 2, 3, 4, 5, 6, 7, 8] rfl) (hD.sub (ws' := (wTr cI cJ t q T f1 f2 f3 f4)) [0, 1, 2, 3, 4, 5, 6, 7, 8] (by decide) rfl) rfl rfl) rfl rfl hl.1 rfl (lv_room (Nat.le_of_ble_eq_true rfl)) dT_magnitude_27 ⟨Nat.le_of_ble_eq_true rfl, Nat.le_of_ble_eq_true rfl⟩) hP hD hS hA [0, 1, 2, 3, 4, 5, 6, 7, 8] rfl (by decide) (fun r w h => by obtain ⟨_, rfl⟩ := h; rfl) (fun r27 w27 H locs p27 hP hD hS => ?_)
      obtain ⟨rfl, rfl⟩ := p27
      have hP : va_P D vwCl [(t, .inr (4, [.ref (q 0), .ref (q 1), .ref (q 2), .ref (q 3), .ref (q 4), .ref (q 5), .ref (q 6), .ref (q 7), .int (nI ((tr_dif T 0 a).2.2.2.2))])), ((q 0), .inl (cI, 64, .inl (fun z9 => nI (((tr_dif T 0 a).1) z9)))), ((q 1), .inl (cI, 64, .inl (fun z9 => nI (((tr_dif T 0 a).2.1) z9)))), ((q 2), .inl (cI, 64, .inl (fun z9 => nI (((tr_dif T 0 a).2.2.1) z9)))), ((q 3), .inl (cJ, 64, .inr (.inl ((tr_dif T 0 a).2.2.2.1)))), ((q 4), .inl (cJ, 64, .inr (.inl f1))), ((q 5), .inl (cJ, 64, .inr (.inl f2))), ((q 6), .inl (cJ, 64, .inr (.inl f3))), ((q 7), .inl (cJ, 64, .inr (.inl f4)))] H := hP
      have hD : va_D A [(t, .inr (4, [.ref (q 0), .ref (q 1), .ref (q 2), .ref (q 3), .ref (q 4), .ref (q 5), .ref (q 6), .ref (q 7), .int (nI ((tr_dif T 0 a).2.2.2.2))])), ((q 0), .inl (cI, 64, .inl (fun z9 => nI (((tr_dif T 0 a).1) z9)))), ((q 1), .inl (cI, 64, .inl (fun z9 => nI (((tr_dif T 0 a).2.1) z9)))), ((q 2), .inl (cI, 64, .inl (fun z9 => nI (((tr_dif T 0 a).2.2.1) z9)))), ((q 3), .inl (cJ, 64, .inr (.inl ((tr_dif T 0 a).2.2.2.1)))), ((q 4), .inl (cJ, 64, .inr (.inl f1))), ((q 5), .inl (cJ, 64, .inr (.inl f2))), ((q 6), .inl (cJ, 64, .inr (.inl f3))), ((q 7), .inl (cJ, 64, .inr (.inl f4)))] := hD
      refine lv_goto (tgt := 34) hx hb dT_magnitude_30 (by decide) ?_
      have hz : tr_mag T a = (tr_dif T 0 a, tr_ix T) := by unfold tr_mag; rw [if_neg hz0, if_pos (Int64.not_le.mp (fun z => c21 (by rw [e20, e18]; exact (gl_ge _ _).mpr z)))]
      exact W.iret (v := (nI (tr_ix T))) hx hb hr (fun t9 ht9 hW => ⟨⟨(nI (tr_ix T)), _, rfl, ⟨by first | (rw [hz]; done) | (rw [hz]; rfl), by rw [hz]⟩, by rw [ht9]; exact hP, hD⟩, hS.F ht9⟩) hS.2.2 dT_magnitude_34
  · refine lv_iconst (v := 0) hx hb dT_magnitude_11 (by decide) ?_
    have hz : tr_mag T a = (T, 0) := if_pos ((gl_eq _ _).mp (by rw [← e5, ← e7]; exact c8))
    exact W.iret (v := 0) hx hb hr (fun t9 ht9 hW => ⟨⟨0, _, rfl, ⟨by first | (rw [hz]; done) | (rw [hz]; rfl), by rw [hz]⟩, by rw [ht9]; exact hP, hD⟩, hS.F ht9⟩) hS.2.2 dT_magnitude_12

set_option maxHeartbeats 4000000 in
set_option maxRecDepth 100000 in
theorem c_T_slopeFromParts_4 (l : Launch) (D : va_G) (cI cJ cB cZ : ClassId) (t : Nat) (q : Nat → Nat) (T : Tr) (f1 f2 f3 f4 : Nat → Int64) (i : Nat) (hi : i < 64) (hK9 : T.1 i ≤ 3) (hL9 : T.2.1 i < 64) (hR9 : T.2.2.1 i < 64) : ct_L l y_T_slopeFromParts w_T_slopeFromParts ({ frames := 0, cells := 0, slots := 0, locals := 0 }) D (gk_T cI cJ cB cZ) [.ref t, .ref (q 4), .int (nI i)] (wTr cI cJ t q T f1 f2 f3 f4) (0) (0) (fun r w => r = tr_part T f1 i ∧ w = wTr cI cJ t q T f1 f2 f3 f4) := by
  intro sz
  refine Met.ofW (cc := b_T_slopeFromParts) (maxL := 5) (ret := (some .long)) (by decide) rfl ?_
  intro p ev9 s m args below meth c s₁ B9 hml hv
  obtain ⟨rfl, hsz, hP, hK, hN, hD0⟩ := hv
  have hx := B9.exec
  have hb := B9.bytes
  have hr := B9.returns
  have hts := atoms_spec (ws := w_T_slopeFromParts) B9.pre
  have ht : ∀ w ∈ gk_big, w.before _ s = true := fun w h => hts w (List.mem_cons_of_mem _ h)
  have hown : s.vm.findClass R_T = some m.cls := findClass_of_methodNamed B9.named
  have hlocks := B9.notSynchronized
  subst hsz
  have hD := hD0.self (sz := s.heap.size)
  generalize hAe : va_A (wTr cI cJ t q T f1 f2 f3 f4) s.heap.size = A at hD ⊢
  have hA : ∀ q : Nat, s.heap.size ≤ q → A q := fun q h => by rw [← hAe]; exact Or.inr h
  generalize hHe : s.heap = H at hP ⊢
  have hS : va_S A s.heap H [] := by rw [← hHe]; exact va_S.rf
  have hP : va_P D vwCl [(t, .inr (4, [.ref (q 0), .ref (q 1), .ref (q 2), .ref (q 3), .ref (q 4), .ref (q 5), .ref (q 6), .ref (q 7), .int (nI T.2.2.2.2)])), ((q 0), .inl (cI, 64, .inl (fun z9 => nI (T.1 z9)))), ((q 1), .inl (cI, 64, .inl (fun z9 => nI (T.2.1 z9)))), ((q 2), .inl (cI, 64, .inl (fun z9 => nI (T.2.2.1 z9)))), ((q 3), .inl (cJ, 64, .inr (.inl T.2.2.2.1))), ((q 4), .inl (cJ, 64, .inr (.inl f1))), ((q 5), .inl (cJ, 64, .inr (.inl f2))), ((q 6), .inl (cJ, 64, .inr (.inl f3))), ((q 7), .inl (cJ, 64, .inr (.inl f4)))] H := hP
  have hD : va_D A [(t, .inr (4, [.ref (q 0), .ref (q 1), .ref (q 2), .ref (q 3), .ref (q 4), .ref (q 5), .ref (q 6), .ref (q 7), .int (nI T.2.2.2.2)])), ((q 0), .inl (cI, 64, .inl (fun z9 => nI (T.1 z9)))), ((q 1), .inl (cI, 64, .inl (fun z9 => nI (T.2.1 z9)))), ((q 2), .inl (cI, 64, .inl (fun z9 => nI (T.2.2.1 z9)))), ((q 3), .inl (cJ, 64, .inr (.inl T.2.2.2.1))), ((q 4), .inl (cJ, 64, .inr (.inl f1))), ((q 5), .inl (cJ, 64, .inr (.inl f2))), ((q 6), .inl (cJ, 64, .inr (.inl f3))), ((q 7), .inl (cJ, 64, .inr (.inl f4)))] := hD
  have hl := lv_entry ([.ref t, .ref (q 4), .int (nI i)]) (n := 5) (Nat.le_of_ble_eq_true rfl)
  rw [lg_entry_eq]
  generalize (lg_sl ([.ref t, .ref (q 4), .int (nI i)]) ++ List.replicate (5 - (lg_sl ([.ref t, .ref (q 4), .int (nI i)])).length) Slot.unset).toArray = ls at hl ⊢
  have hl : lv_has ls 5 [(0, .ref t), (1, .ref (q 4)), (2, .int (nI i))] := hl
  refine lv_aload_n hx hb dT_slopeFromParts_0 rfl (lv_at hl 0 rfl) ?_
  refine va_get (D := D) (ci := 4) (v := .ref (q 1)) (C := R_T) (T := F_T) (N := 9) hx hb ht i_T hown hK hP 0 rfl rfl 1 (by decide) (ht _ m_61) (fun _ h9 => h9) rfl dT_slopeFromParts_1 ?_
  refine lv_iload_n hx hb dT_slopeFromParts_4 rfl (lv_at hl 2 rfl) ?_
  have i5 : vp_in (nI i) 64 := gx_in (rfl : (nI i) = (nI i)) (by omega) (by decide)
  have k5 : ((nI i) : Int32).toNatClampNeg = i := gx_cl (rfl : (nI i) = (nI i)) (by omega)
  refine va_iald hx hb hK hP 2 0 rfl rfl i5 dT_slopeFromParts_5 ?_
  rw [k5]
  refine lv_topi (fun v5 e5 => ?_)
  have n5 : v5 = nI (T.2.1 i) := e5
  subst n5
  refine lv_istore_n (lv' := [(3, .int (nI (T.2.1 i))), (0, .ref t), (1, .ref (q 4)), (2, .int (nI i))]) hx hb dT_slopeFromParts_6 rfl hl (by decide) rfl (fun ls hl => ?_)
  refine lv_aload_n hx hb dT_slopeFromParts_7 rfl (lv_at hl 1 rfl) ?_
  refine va_get (D := D) (ci := 4) (v := .ref (q 2)) (C := R_T) (T := F_T) (N := 9) hx hb ht i_T hown hK hP 0 rfl rfl 2 (by decide) (ht _ m_62) (fun _ h9 => h9) rfl dT_slopeFromParts_8 ?_
  refine lv_iload_n hx hb dT_slopeFromParts_11 rfl (lv_at hl 3 rfl) ?_
  have i12 : vp_in (nI i) 64 := gx_in (rfl : (nI i) = (nI i)) (by omega) (by decide)
  have k12 : ((nI i) : Int32).toNatClampNeg = i := gx_cl (rfl : (nI i) = (nI i)) (by omega)
  refine va_iald hx hb hK hP 3 0 rfl rfl i12 dT_slopeFromParts_12 ?_
  rw [k12]
  refine lv_topi (fun v12 e12 => ?_)
  have n12 : v12 = nI (T.2.2.1 i) := e12
  subst n12
  refine lv_istore (lv' := [(4, .int (nI (T.2.2.1 i))), (3, .int (nI (T.2.1 i))), (0, .ref t), (1, .ref (q 4)), (2, .int (nI i))]) hx hb dT_slopeFromParts_13 hl (by decide) rfl (fun ls hl => ?_)
  refine lv_aload_n hx hb dT_slopeFromParts_15 rfl (lv_at hl 2 rfl) ?_
  refine va_get (D := D) (ci := 4) (v := .ref (q 0)) (C := R_T) (T := F_T) (N := 9) hx hb ht i_T hown hK hP 0 rfl rfl 0 (by decide) (ht _ m_60) (fun _ h9 => h9) rfl dT_slopeFromParts_16 ?_
  refine lv_iload_n hx hb dT_slopeFromParts_19 rfl (lv_at hl 4 rfl) ?_
  have i20 : vp_in (nI i) 64 := gx_in (rfl : (nI i) = (nI i)) (by omega) (by decide)
  have k20 : ((nI i) : Int32).toNatClampNeg = i := gx_cl (rfl : (nI i) = (nI i)) (by omega)
  refine va_iald hx hb hK hP 1 0 rfl rfl i20 dT_slopeFromParts_20 ?_
  rw [k20]
  refine lv_topi (fun v20 e20 => ?_)
  have n20 : v20 = nI (T.1 i) := e20
  subst n20
  by_cases s21_0 : (nI (T.1 i)) = 1
  · have h1 : T.1 i = 1 := (gx_eq (rfl : (nI (T.1 i)) = (nI (T.1 i))) (rfl : (1 : Int32) = nI 1) (by omega) (by decide)).mp s21_0
    refine lv_tableIn (tgt := 48) hx hb dT_slopeFromParts_21 (by rw [s21_0]; decide) (by rw [s21_0]; decide) (by rw [s21_0] <;> rfl) (by decide) ?_
    refine lv_aload_n hx hb dT_slopeFromParts_48 rfl (lv_at hl 3 rfl) ?_
    refine lv_iload_n hx hb dT_slopeFromParts_49 rfl (lv_at hl 1 rfl) ?_
    have i50 : vp_in (nI (T.2.1 i)) 64 := gx_in (rfl : (nI (T.2.1 i)) = (nI (T.2.1 i))) (by omega) (by decide)
    have k50 : ((nI (T.2.1 i)) : Int32).toNatClampNeg = (T.2.1 i) := gx_cl (rfl : (nI (T.2.1 i)) = (nI (T.2.1 i))) (by omega)
    refine va_lald hx hb hK hP 5 1 rfl rfl i50 dT_slopeFromParts_50 ?_
    rw [k50]
    refine lv_topl (fun v50 e50 => ?_)
    refine lv_aload_n hx hb dT_slopeFromParts_51 rfl (lv_at hl 3 rfl) ?_
    refine lv_iload hx hb dT_slopeFromParts_52 (lv_at hl 0 rfl) ?_
    have i54 : vp_in (nI (T.2.2.1 i)) 64 := gx_in (rfl : (nI (T.2.2.1 i)) = (nI (T.2.2.1 i))) (by omega) (by decide)
    have k54 : ((nI (T.2.2.1 i)) : Int32).toNatClampNeg = (T.2.2.1 i) := gx_cl (rfl : (nI (T.2.2.1 i)) = (nI (T.2.2.1 i))) (by omega)
    refine va_lald hx hb hK hP 5 1 rfl rfl i54 dT_slopeFromParts_54 ?_
    rw [k54]
    refine lv_topl (fun v54 e54 => ?_)
    refine lv_ladd hx hb dT_slopeFromParts_55 ?_
    refine lv_topl (fun v55 e55 => ?_)
    exact W.lret (v := v55) hx hb hr (fun t9 ht9 hW => ⟨⟨v55, _, rfl, ⟨by rw [e55, e50, e54]; simp [tr_part, h1], rfl⟩, by rw [ht9]; exact hP, hD⟩, hS.F ht9⟩) hS.2.2 dT_slopeFromParts_56
  by_cases s21_1 : (nI (T.1 i)) = 2
  · have h1 : T.1 i = 2 := (gx_eq (rfl : (nI (T.1 i)) = (nI (T.1 i))) (rfl : (2 : Int32) = nI 2) (by omega) (by decide)).mp s21_1
    refine lv_tableIn (tgt := 57) hx hb dT_slopeFromParts_21 (by rw [s21_1]; decide) (by rw [s21_1]; decide) (by rw [s21_1] <;> rfl) (by decide) ?_
    refine lv_aload_n hx hb dT_slopeFromParts_57 rfl (lv_at hl 3 rfl) ?_
    refine lv_iload_n hx hb dT_slopeFromParts_58 rfl (lv_at hl 1 rfl) ?_
    have i59 : vp_in (nI (T.2.1 i)) 64 := gx_in (rfl : (nI (T.2.1 i)) = (nI (T.2.1 i))) (by omega) (by decide)
    have k59 : ((nI (T.2.1 i)) : Int32).toNatClampNeg = (T.2.1 i) := gx_cl (rfl : (nI (T.2.1 i)) = (nI (T.2.1 i))) (by omega)
    refine va_lald hx hb hK hP 5 1 rfl rfl i59 dT_slopeFromParts_59 ?_
    rw [k59]
    refine lv_topl (fun v59 e59 => ?_)
    refine lv_aload_n hx hb dT_slopeFromParts_60 rfl (lv_at hl 3 rfl) ?_
    refine lv_iload hx hb dT_slopeFromParts_61 (lv_at hl 0 rfl) ?_
    have i63 : vp_in (nI (T.2.2.1 i)) 64 := gx_in (rfl : (nI (T.2.2.1 i)) = (nI (T.2.2.1 i))) (by omega) (by decide)
    have k63 : ((nI (T.2.2.1 i)) : Int32).toNatClampNeg = (T.2.2.1 i) := gx_cl (rfl : (nI (T.2.2.1 i)) = (nI (T.2.2.1 i))) (by omega)
    refine va_lald hx hb hK hP 5 1 rfl rfl i63 dT_slopeFromParts_63 ?_
    rw [k63]
    refine lv_topl (fun v63 e63 => ?_)
    refine lv_lsub hx hb dT_slopeFromParts_64 ?_
    refine lv_topl (fun v64 e64 => ?_)
    exact W.lret (v := v64) hx hb hr (fun t9 ht9 hW => ⟨⟨v64, _, rfl, ⟨by rw [e64, e59, e63]; simp [tr_part, h1], rfl⟩, by rw [ht9]; exact hP, hD⟩, hS.F ht9⟩) hS.2.2 dT_slopeFromParts_65
  by_cases s21_2 : (nI (T.1 i)) = 3
  · have h1 : T.1 i = 3 := (gx_eq (rfl : (nI (T.1 i)) = (nI (T.1 i))) (rfl : (3 : Int32) = nI 3) (by omega) (by decide)).mp s21_2
    refine lv_tableIn (tgt := 66) hx hb dT_slopeFromParts_21 (by rw [s21_2]; decide) (by rw [s21_2]; decide) (by rw [s21_2] <;> rfl) (by decide) ?_
    refine lv_aload_n hx hb dT_slopeFromParts_66 rfl (lv_at hl 3 rfl) ?_
    refine lv_iload_n hx hb dT_slopeFromParts_67 rfl (lv_at hl 1 rfl) ?_
    have i68 : vp_in (nI (T.2.1 i)) 64 := gx_in (rfl : (nI (T.2.1 i)) = (nI (T.2.1 i))) (by omega) (by decide)
    have k68 : ((nI (T.2.1 i)) : Int32).toNatClampNeg = (T.2.1 i) := gx_cl (rfl : (nI (T.2.1 i)) = (nI (T.2.1 i))) (by omega)
    refine va_lald hx hb hK hP 5 1 rfl rfl i68 dT_slopeFromParts_68 ?_
    rw [k68]
    refine lv_topl (fun v68 e68 => ?_)
    refine lv_aload_n hx hb dT_slopeFromParts_69 rfl (lv_at hl 2 rfl) ?_
    refine va_get (D := D) (ci := 4) (v := .ref (q 3)) (C := R_T) (T := F_T) (N := 9) hx hb ht i_T hown hK hP 0 rfl rfl 3 (by decide) (ht _ m_63) (fun _ h9 => h9) rfl dT_slopeFromParts_70 ?_
    refine lv_iload hx hb dT_slopeFromParts_73 (lv_at hl 0 rfl) ?_
    have i75 : vp_in (nI (T.2.2.1 i)) 64 := gx_in (rfl : (nI (T.2.2.1 i)) = (nI (T.2.2.1 i))) (by omega) (by decide)
    have k75 : ((nI (T.2.2.1 i)) : Int32).toNatClampNeg = (T.2.2.1 i) := gx_cl (rfl : (nI (T.2.2.1 i)) = (nI (T.2.2.1 i))) (by omega)
    refine va_lald hx hb hK hP 4 1 rfl rfl i75 dT_slopeFromParts_75 ?_
    rw [k75]
    refine lv_topl (fun v75 e75 => ?_)
    refine lv_lmul hx hb dT_slopeFromParts_76 ?_
    refine lv_topl (fun v76 e76 => ?_)
    refine lv_aload_n hx hb dT_slopeFromParts_77 rfl (lv_at hl 2 rfl) ?_
    refine va_get (D := D) (ci := 4) (v := .ref (q 3)) (C := R_T) (T := F_T) (N := 9) hx hb ht i_T hown hK hP 0 rfl rfl 3 (by decide) (ht _ m_63) (fun _ h9 => h9) rfl dT_slopeFromParts_78 ?_
    refine lv_iload_n hx hb dT_slopeFromParts_81 rfl (lv_at hl 1 rfl) ?_
    have i82 : vp_in (nI (T.2.1 i)) 64 := gx_in (rfl : (nI (T.2.1 i)) = (nI (T.2.1 i))) (by omega) (by decide)
    have k82 : ((nI (T.2.1 i)) : Int32).toNatClampNeg = (T.2.1 i) := gx_cl (rfl : (nI (T.2.1 i)) = (nI (T.2.1 i))) (by omega)
    refine va_lald hx hb hK hP 4 1 rfl rfl i82 dT_slopeFromParts_82 ?_
    rw [k82]
    refine lv_topl (fun v82 e82 => ?_)
    refine lv_aload_n hx hb dT_slopeFromParts_83 rfl (lv_at hl 3 rfl) ?_
    refine lv_iload hx hb dT_slopeFromParts_84 (lv_at hl 0 rfl) ?_
    have i86 : vp_in (nI (T.2.2.1 i)) 64 := gx_in (rfl : (nI (T.2.2.1 i)) = (nI (T.2.2.1 i))) (by omega) (by decide)
    have k86 : ((nI (T.2.2.1 i)) : Int32).toNatClampNeg = (T.2.2.1 i) := gx_cl (rfl : (nI (T.2.2.1 i)) = (nI (T.2.2.1 i))) (by omega)
    refine va_lald hx hb hK hP 5 1 rfl rfl i86 dT_slopeFromParts_86 ?_
    rw [k86]
    refine lv_topl (fun v86 e86 => ?_)
    refine lv_lmul hx hb dT_slopeFromParts_87 ?_
    refine lv_topl (fun v87 e87 => ?_)
    refine lv_ladd hx hb dT_slopeFromParts_88 ?_
    refine lv_topl (fun v88 e88 => ?_)
    exact W.lret (v := v88) hx hb hr (fun t9 ht9 hW => ⟨⟨v88, _, rfl, ⟨by rw [e88, e76, e68, e75, e87, e82, e86]; simp [tr_part, h1], rfl⟩, by rw [ht9]; exact hP, hD⟩, hS.F ht9⟩) hS.2.2 dT_slopeFromParts_89
  have o21 : ((nI (T.1 i)) : Int32).toInt < 1 ∨ 3 < ((nI (T.1 i)) : Int32).toInt := gx_out (by intro k h1 h2 h3; have hk : k = 1 ∨ k = 2 ∨ k = 3 := (by omega); rcases hk with rfl | rfl | rfl; exact s21_0 (Int32.toInt_inj.mp (by rw [h3]; rfl)); exact s21_1 (Int32.toInt_inj.mp (by rw [h3]; rfl)); exact s21_2 (Int32.toInt_inj.mp (by rw [h3]; rfl)))
  refine lv_tableOut (tgt := 90) hx hb dT_slopeFromParts_21 o21 (by decide) ?_
  refine lv_lconst (v := 0) hx hb dT_slopeFromParts_90 (by decide) ?_
  have h1 : ¬ T.1 i = 1 := fun z => s21_0 ((gx_eq (rfl : (nI (T.1 i)) = (nI (T.1 i))) (rfl : (1 : Int32) = nI 1) (by omega) (by decide)).mpr z)
  have h2 : ¬ T.1 i = 2 := fun z => s21_1 ((gx_eq (rfl : (nI (T.1 i)) = (nI (T.1 i))) (rfl : (2 : Int32) = nI 2) (by omega) (by decide)).mpr z)
  have h3 : ¬ T.1 i = 3 := fun z => s21_2 ((gx_eq (rfl : (nI (T.1 i)) = (nI (T.1 i))) (rfl : (3 : Int32) = nI 3) (by omega) (by decide)).mpr z)
  exact W.lret (v := 0) hx hb hr (fun t9 ht9 hW => ⟨⟨0, _, rfl, ⟨by simp [tr_part, h1, h2, h3], rfl⟩, by rw [ht9]; exact hP, hD⟩, hS.F ht9⟩) hS.2.2 dT_slopeFromParts_91

set_option maxHeartbeats 4000000 in
set_option maxRecDepth 100000 in
theorem c_T_slopeFromParts_5 (l : Launch) (D : va_G) (cI cJ cB cZ : ClassId) (t : Nat) (q : Nat → Nat) (T : Tr) (f1 f2 f3 f4 : Nat → Int64) (i : Nat) (hi : i < 64) (hK9 : T.1 i ≤ 3) (hL9 : T.2.1 i < 64) (hR9 : T.2.2.1 i < 64) : ct_L l y_T_slopeFromParts w_T_slopeFromParts ({ frames := 0, cells := 0, slots := 0, locals := 0 }) D (gk_T cI cJ cB cZ) [.ref t, .ref (q 5), .int (nI i)] (wTr cI cJ t q T f1 f2 f3 f4) (0) (0) (fun r w => r = tr_part T f2 i ∧ w = wTr cI cJ t q T f1 f2 f3 f4) := by
  intro sz
  refine Met.ofW (cc := b_T_slopeFromParts) (maxL := 5) (ret := (some .long)) (by decide) rfl ?_
  intro p ev9 s m args below meth c s₁ B9 hml hv
  obtain ⟨rfl, hsz, hP, hK, hN, hD0⟩ := hv
  have hx := B9.exec
  have hb := B9.bytes
  have hr := B9.returns
  have hts := atoms_spec (ws := w_T_slopeFromParts) B9.pre
  have ht : ∀ w ∈ gk_big, w.before _ s = true := fun w h => hts w (List.mem_cons_of_mem _ h)
  have hown : s.vm.findClass R_T = some m.cls := findClass_of_methodNamed B9.named
  have hlocks := B9.notSynchronized
  subst hsz
  have hD := hD0.self (sz := s.heap.size)
  generalize hAe : va_A (wTr cI cJ t q T f1 f2 f3 f4) s.heap.size = A at hD ⊢
  have hA : ∀ q : Nat, s.heap.size ≤ q → A q := fun q h => by rw [← hAe]; exact Or.inr h
  generalize hHe : s.heap = H at hP ⊢
  have hS : va_S A s.heap H [] := by rw [← hHe]; exact va_S.rf
  have hP : va_P D vwCl [(t, .inr (4, [.ref (q 0), .ref (q 1), .ref (q 2), .ref (q 3), .ref (q 4), .ref (q 5), .ref (q 6), .ref (q 7), .int (nI T.2.2.2.2)])), ((q 0), .inl (cI, 64, .inl (fun z9 => nI (T.1 z9)))), ((q 1), .inl (cI, 64, .inl (fun z9 => nI (T.2.1 z9)))), ((q 2), .inl (cI, 64, .inl (fun z9 => nI (T.2.2.1 z9)))), ((q 3), .inl (cJ, 64, .inr (.inl T.2.2.2.1))), ((q 4), .inl (cJ, 64, .inr (.inl f1))), ((q 5), .inl (cJ, 64, .inr (.inl f2))), ((q 6), .inl (cJ, 64, .inr (.inl f3))), ((q 7), .inl (cJ, 64, .inr (.inl f4)))] H := hP
  have hD : va_D A [(t, .inr (4, [.ref (q 0), .ref (q 1), .ref (q 2), .ref (q 3), .ref (q 4), .ref (q 5), .ref (q 6), .ref (q 7), .int (nI T.2.2.2.2)])), ((q 0), .inl (cI, 64, .inl (fun z9 => nI (T.1 z9)))), ((q 1), .inl (cI, 64, .inl (fun z9 => nI (T.2.1 z9)))), ((q 2), .inl (cI, 64, .inl (fun z9 => nI (T.2.2.1 z9)))), ((q 3), .inl (cJ, 64, .inr (.inl T.2.2.2.1))), ((q 4), .inl (cJ, 64, .inr (.inl f1))), ((q 5), .inl (cJ, 64, .inr (.inl f2))), ((q 6), .inl (cJ, 64, .inr (.inl f3))), ((q 7), .inl (cJ, 64, .inr (.inl f4)))] := hD
  have hl := lv_entry ([.ref t, .ref (q 5), .int (nI i)]) (n := 5) (Nat.le_of_ble_eq_true rfl)
  rw [lg_entry_eq]
  generalize (lg_sl ([.ref t, .ref (q 5), .int (nI i)]) ++ List.replicate (5 - (lg_sl ([.ref t, .ref (q 5), .int (nI i)])).length) Slot.unset).toArray = ls at hl ⊢
  have hl : lv_has ls 5 [(0, .ref t), (1, .ref (q 5)), (2, .int (nI i))] := hl
  refine lv_aload_n hx hb dT_slopeFromParts_0 rfl (lv_at hl 0 rfl) ?_
  refine va_get (D := D) (ci := 4) (v := .ref (q 1)) (C := R_T) (T := F_T) (N := 9) hx hb ht i_T hown hK hP 0 rfl rfl 1 (by decide) (ht _ m_61) (fun _ h9 => h9) rfl dT_slopeFromParts_1 ?_
  refine lv_iload_n hx hb dT_slopeFromParts_4 rfl (lv_at hl 2 rfl) ?_
  have i5 : vp_in (nI i) 64 := gx_in (rfl : (nI i) = (nI i)) (by omega) (by decide)
  have k5 : ((nI i) : Int32).toNatClampNeg = i := gx_cl (rfl : (nI i) = (nI i)) (by omega)
  refine va_iald hx hb hK hP 2 0 rfl rfl i5 dT_slopeFromParts_5 ?_
  rw [k5]
  refine lv_topi (fun v5 e5 => ?_)
  have n5 : v5 = nI (T.2.1 i) := e5
  subst n5
  refine lv_istore_n (lv' := [(3, .int (nI (T.2.1 i))), (0, .ref t), (1, .ref (q 5)), (2, .int (nI i))]) hx hb dT_slopeFromParts_6 rfl hl (by decide) rfl (fun ls hl => ?_)
  refine lv_aload_n hx hb dT_slopeFromParts_7 rfl (lv_at hl 1 rfl) ?_
  refine va_get (D := D) (ci := 4) (v := .ref (q 2)) (C := R_T) (T := F_T) (N := 9) hx hb ht i_T hown hK hP 0 rfl rfl 2 (by decide) (ht _ m_62) (fun _ h9 => h9) rfl dT_slopeFromParts_8 ?_
  refine lv_iload_n hx hb dT_slopeFromParts_11 rfl (lv_at hl 3 rfl) ?_
  have i12 : vp_in (nI i) 64 := gx_in (rfl : (nI i) = (nI i)) (by omega) (by decide)
  have k12 : ((nI i) : Int32).toNatClampNeg = i := gx_cl (rfl : (nI i) = (nI i)) (by omega)
  refine va_iald hx hb hK hP 3 0 rfl rfl i12 dT_slopeFromParts_12 ?_
  rw [k12]
  refine lv_topi (fun v12 e12 => ?_)
  have n12 : v12 = nI (T.2.2.1 i) := e12
  subst n12
  refine lv_istore (lv' := [(4, .int (nI (T.2.2.1 i))), (3, .int (nI (T.2.1 i))), (0, .ref t), (1, .ref (q 5)), (2, .int (nI i))]) hx hb dT_slopeFromParts_13 hl (by decide) rfl (fun ls hl => ?_)
  refine lv_aload_n hx hb dT_slopeFromParts_15 rfl (lv_at hl 2 rfl) ?_
  refine va_get (D := D) (ci := 4) (v := .ref (q 0)) (C := R_T) (T := F_T) (N := 9) hx hb ht i_T hown hK hP 0 rfl rfl 0 (by decide) (ht _ m_60) (fun _ h9 => h9) rfl dT_slopeFromParts_16 ?_
  refine lv_iload_n hx hb dT_slopeFromParts_19 rfl (lv_at hl 4 rfl) ?_
  have i20 : vp_in (nI i) 64 := gx_in (rfl : (nI i) = (nI i)) (by omega) (by decide)
  have k20 : ((nI i) : Int32).toNatClampNeg = i := gx_cl (rfl : (nI i) = (nI i)) (by omega)
  refine va_iald hx hb hK hP 1 0 rfl rfl i20 dT_slopeFromParts_20 ?_
  rw [k20]
  refine lv_topi (fun v20 e20 => ?_)
  have n20 : v20 = nI (T.1 i) := e20
  subst n20
  by_cases s21_0 : (nI (T.1 i)) = 1
  · have h1 : T.1 i = 1 := (gx_eq (rfl : (nI (T.1 i)) = (nI (T.1 i))) (rfl : (1 : Int32) = nI 1) (by omega) (by decide)).mp s21_0
    refine lv_tableIn (tgt := 48) hx hb dT_slopeFromParts_21 (by rw [s21_0]; decide) (by rw [s21_0]; decide) (by rw [s21_0] <;> rfl) (by decide) ?_
    refine lv_aload_n hx hb dT_slopeFromParts_48 rfl (lv_at hl 3 rfl) ?_
    refine lv_iload_n hx hb dT_slopeFromParts_49 rfl (lv_at hl 1 rfl) ?_
    have i50 : vp_in (nI (T.2.1 i)) 64 := gx_in (rfl : (nI (T.2.1 i)) = (nI (T.2.1 i))) (by omega) (by decide)
    have k50 : ((nI (T.2.1 i)) : Int32).toNatClampNeg = (T.2.1 i) := gx_cl (rfl : (nI (T.2.1 i)) = (nI (T.2.1 i))) (by omega)
    refine va_lald hx hb hK hP 6 1 rfl rfl i50 dT_slopeFromParts_50 ?_
    rw [k50]
    refine lv_topl (fun v50 e50 => ?_)
    refine lv_aload_n hx hb dT_slopeFromParts_51 rfl (lv_at hl 3 rfl) ?_
    refine lv_iload hx hb dT_slopeFromParts_52 (lv_at hl 0 rfl) ?_
    have i54 : vp_in (nI (T.2.2.1 i)) 64 := gx_in (rfl : (nI (T.2.2.1 i)) = (nI (T.2.2.1 i))) (by omega) (by decide)
    have k54 : ((nI (T.2.2.1 i)) : Int32).toNatClampNeg = (T.2.2.1 i) := gx_cl (rfl : (nI (T.2.2.1 i)) = (nI (T.2.2.1 i))) (by omega)
    refine va_lald hx hb hK hP 6 1 rfl rfl i54 dT_slopeFromParts_54 ?_
    rw [k54]
    refine lv_topl (fun v54 e54 => ?_)
    refine lv_ladd hx hb dT_slopeFromParts_55 ?_
    refine lv_topl (fun v55 e55 => ?_)
    exact W.lret (v := v55) hx hb hr (fun t9 ht9 hW => ⟨⟨v55, _, rfl, ⟨by rw [e55, e50, e54]; simp [tr_part, h1], rfl⟩, by rw [ht9]; exact hP, hD⟩, hS.F ht9⟩) hS.2.2 dT_slopeFromParts_56
  by_cases s21_1 : (nI (T.1 i)) = 2
  · have h1 : T.1 i = 2 := (gx_eq (rfl : (nI (T.1 i)) = (nI (T.1 i))) (rfl : (2 : Int32) = nI 2) (by omega) (by decide)).mp s21_1
    refine lv_tableIn (tgt := 57) hx hb dT_slopeFromParts_21 (by rw [s21_1]; decide) (by rw [s21_1]; decide) (by rw [s21_1] <;> rfl) (by decide) ?_
    refine lv_aload_n hx hb dT_slopeFromParts_57 rfl (lv_at hl 3 rfl) ?_
    refine lv_iload_n hx hb dT_slopeFromParts_58 rfl (lv_at hl 1 rfl) ?_
    have i59 : vp_in (nI (T.2.1 i)) 64 := gx_in (rfl : (nI (T.2.1 i)) = (nI (T.2.1 i))) (by omega) (by decide)
    have k59 : ((nI (T.2.1 i)) : Int32).toNatClampNeg = (T.2.1 i) := gx_cl (rfl : (nI (T.2.1 i)) = (nI (T.2.1 i))) (by omega)
    refine va_lald hx hb hK hP 6 1 rfl rfl i59 dT_slopeFromParts_59 ?_
    rw [k59]
    refine lv_topl (fun v59 e59 => ?_)
    refine lv_aload_n hx hb dT_slopeFromParts_60 rfl (lv_at hl 3 rfl) ?_
    refine lv_iload hx hb dT_slopeFromParts_61 (lv_at hl 0 rfl) ?_
    have i63 : vp_in (nI (T.2.2.1 i)) 64 := gx_in (rfl : (nI (T.2.2.1 i)) = (nI (T.2.2.1 i))) (by omega) (by decide)
    have k63 : ((nI (T.2.2.1 i)) : Int32).toNatClampNeg = (T.2.2.1 i) := gx_cl (rfl : (nI (T.2.2.1 i)) = (nI (T.2.2.1 i))) (by omega)
    refine va_lald hx hb hK hP 6 1 rfl rfl i63 dT_slopeFromParts_63 ?_
    rw [k63]
    refine lv_topl (fun v63 e63 => ?_)
    refine lv_lsub hx hb dT_slopeFromParts_64 ?_
    refine lv_topl (fun v64 e64 => ?_)
    exact W.lret (v := v64) hx hb hr (fun t9 ht9 hW => ⟨⟨v64, _, rfl, ⟨by rw [e64, e59, e63]; simp [tr_part, h1], rfl⟩, by rw [ht9]; exact hP, hD⟩, hS.F ht9⟩) hS.2.2 dT_slopeFromParts_65
  by_cases s21_2 : (nI (T.1 i)) = 3
  · have h1 : T.1 i = 3 := (gx_eq (rfl : (nI (T.1 i)) = (nI (T.1 i))) (rfl : (3 : Int32) = nI 3) (by omega) (by decide)).mp s21_2
    refine lv_tableIn (tgt := 66) hx hb dT_slopeFromParts_21 (by rw [s21_2]; decide) (by rw [s21_2]; decide) (by rw [s21_2] <;> rfl) (by decide) ?_
    refine lv_aload_n hx hb dT_slopeFromParts_66 rfl (lv_at hl 3 rfl) ?_
    refine lv_iload_n hx hb dT_slopeFromParts_67 rfl (lv_at hl 1 rfl) ?_
    have i68 : vp_in (nI (T.2.1 i)) 64 := gx_in (rfl : (nI (T.2.1 i)) = (nI (T.2.1 i))) (by omega) (by decide)
    have k68 : ((nI (T.2.1 i)) : Int32).toNatClampNeg = (T.2.1 i) := gx_cl (rfl : (nI (T.2.1 i)) = (nI (T.2.1 i))) (by omega)
    refine va_lald hx hb hK hP 6 1 rfl rfl i68 dT_slopeFromParts_68 ?_
    rw [k68]
    refine lv_topl (fun v68 e68 => ?_)
    refine lv_aload_n hx hb dT_slopeFromParts_69 rfl (lv_at hl 2 rfl) ?_
    refine va_get (D := D) (ci := 4) (v := .ref (q 3)) (C := R_T) (T := F_T) (N := 9) hx hb ht i_T hown hK hP 0 rfl rfl 3 (by decide) (ht _ m_63) (fun _ h9 => h9) rfl dT_slopeFromParts_70 ?_
    refine lv_iload hx hb dT_slopeFromParts_73 (lv_at hl 0 rfl) ?_
    have i75 : vp_in (nI (T.2.2.1 i)) 64 := gx_in (rfl : (nI (T.2.2.1 i)) = (nI (T.2.2.1 i))) (by omega) (by decide)
    have k75 : ((nI (T.2.2.1 i)) : Int32).toNatClampNeg = (T.2.2.1 i) := gx_cl (rfl : (nI (T.2.2.1 i)) = (nI (T.2.2.1 i))) (by omega)
    refine va_lald hx hb hK hP 4 1 rfl rfl i75 dT_slopeFromParts_75 ?_
    rw [k75]
    refine lv_topl (fun v75 e75 => ?_)
    refine lv_lmul hx hb dT_slopeFromParts_76 ?_
    refine lv_topl (fun v76 e76 => ?_)
    refine lv_aload_n hx hb dT_slopeFromParts_77 rfl (lv_at hl 2 rfl) ?_
    refine va_get (D := D) (ci := 4) (v := .ref (q 3)) (C := R_T) (T := F_T) (N := 9) hx hb ht i_T hown hK hP 0 rfl rfl 3 (by decide) (ht _ m_63) (fun _ h9 => h9) rfl dT_slopeFromParts_78 ?_
    refine lv_iload_n hx hb dT_slopeFromParts_81 rfl (lv_at hl 1 rfl) ?_
    have i82 : vp_in (nI (T.2.1 i)) 64 := gx_in (rfl : (nI (T.2.1 i)) = (nI (T.2.1 i))) (by omega) (by decide)
    have k82 : ((nI (T.2.1 i)) : Int32).toNatClampNeg = (T.2.1 i) := gx_cl (rfl : (nI (T.2.1 i)) = (nI (T.2.1 i))) (by omega)
    refine va_lald hx hb hK hP 4 1 rfl rfl i82 dT_slopeFromParts_82 ?_
    rw [k82]
    refine lv_topl (fun v82 e82 => ?_)
    refine lv_aload_n hx hb dT_slopeFromParts_83 rfl (lv_at hl 3 rfl) ?_
    refine lv_iload hx hb dT_slopeFromParts_84 (lv_at hl 0 rfl) ?_
    have i86 : vp_in (nI (T.2.2.1 i)) 64 := gx_in (rfl : (nI (T.2.2.1 i)) = (nI (T.2.2.1 i))) (by omega) (by decide)
    have k86 : ((nI (T.2.2.1 i)) : Int32).toNatClampNeg = (T.2.2.1 i) := gx_cl (rfl : (nI (T.2.2.1 i)) = (nI (T.2.2.1 i))) (by omega)
    refine va_lald hx hb hK hP 6 1 rfl rfl i86 dT_slopeFromParts_86 ?_
    rw [k86]
    refine lv_topl (fun v86 e86 => ?_)
    refine lv_lmul hx hb dT_slopeFromParts_87 ?_
    refine lv_topl (fun v87 e87 => ?_)
    refine lv_ladd hx hb dT_slopeFromParts_88 ?_
    refine lv_topl (fun v88 e88 => ?_)
    exact W.lret (v := v88) hx hb hr (fun t9 ht9 hW => ⟨⟨v88, _, rfl, ⟨by rw [e88, e76, e68, e75, e87, e82, e86]; simp [tr_part, h1], rfl⟩, by rw [ht9]; exact hP, hD⟩, hS.F ht9⟩) hS.2.2 dT_slopeFromParts_89
  have o21 : ((nI (T.1 i)) : Int32).toInt < 1 ∨ 3 < ((nI (T.1 i)) : Int32).toInt := gx_out (by intro k h1 h2 h3; have hk : k = 1 ∨ k = 2 ∨ k = 3 := (by omega); rcases hk with rfl | rfl | rfl; exact s21_0 (Int32.toInt_inj.mp (by rw [h3]; rfl)); exact s21_1 (Int32.toInt_inj.mp (by rw [h3]; rfl)); exact s21_2 (Int32.toInt_inj.mp (by rw [h3]; rfl)))
  refine lv_tableOut (tgt := 90) hx hb dT_slopeFromParts_21 o21 (by decide) ?_
  refine lv_lconst (v := 0) hx hb dT_slopeFromParts_90 (by decide) ?_
  have h1 : ¬ T.1 i = 1 := fun z => s21_0 ((gx_eq (rfl : (nI (T.1 i)) = (nI (T.1 i))) (rfl : (1 : Int32) = nI 1) (by omega) (by decide)).mpr z)
  have h2 : ¬ T.1 i = 2 := fun z => s21_1 ((gx_eq (rfl : (nI (T.1 i)) = (nI (T.1 i))) (rfl : (2 : Int32) = nI 2) (by omega) (by decide)).mpr z)
  have h3 : ¬ T.1 i = 3 := fun z => s21_2 ((gx_eq (rfl : (nI (T.1 i)) = (nI (T.1 i))) (rfl : (3 : Int32) = nI 3) (by omega) (by decide)).mpr z)
  exact W.lret (v := 0) hx hb hr (fun t9 ht9 hW => ⟨⟨0, _, rfl, ⟨by simp [tr_part, h1, h2, h3], rfl⟩, by rw [ht9]; exact hP, hD⟩, hS.F ht9⟩) hS.2.2 dT_slopeFromParts_91

set_option maxHeartbeats 4000000 in
set_option maxRecDepth 100000 in
theorem c_T_slopeFromParts_6 (l : Launch) (D : va_G) (cI cJ cB cZ : ClassId) (t : Nat) (q : Nat → Nat) (T : Tr) (f1 f2 f3 f4 : Nat → Int64) (i : Nat) (hi : i < 64) (hK9 : T.1 i ≤ 3) (hL9 : T.2.1 i < 64) (hR9 : T.2.2.1 i < 64) : ct_L l y_T_slopeFromParts w_T_slopeFromParts ({ frames := 0, cells := 0, slots := 0, locals := 0 }) D (gk_T cI cJ cB cZ) [.ref t, .ref (q 6), .int (nI i)] (wTr cI cJ t q T f1 f2 f3 f4) (0) (0) (fun r w => r = tr_part T f3 i ∧ w = wTr cI cJ t q T f1 f2 f3 f4) := by
  intro sz
  refine Met.ofW (cc := b_T_slopeFromParts) (maxL := 5) (ret := (some .long)) (by decide) rfl ?_
  intro p ev9 s m args below meth c s₁ B9 hml hv
  obtain ⟨rfl, hsz, hP, hK, hN, hD0⟩ := hv
  have hx := B9.exec
  have hb := B9.bytes
  have hr := B9.returns
  have hts := atoms_spec (ws := w_T_slopeFromParts) B9.pre
  have ht : ∀ w ∈ gk_big, w.before _ s = true := fun w h => hts w (List.mem_cons_of_mem _ h)
  have hown : s.vm.findClass R_T = some m.cls := findClass_of_methodNamed B9.named
  have hlocks := B9.notSynchronized
  subst hsz
  have hD := hD0.self (sz := s.heap.size)
  generalize hAe : va_A (wTr cI cJ t q T f1 f2 f3 f4) s.heap.size = A at hD ⊢
  have hA : ∀ q : Nat, s.heap.size ≤ q → A q := fun q h => by rw [← hAe]; exact Or.inr h
  generalize hHe : s.heap = H at hP ⊢
  have hS : va_S A s.heap H [] := by rw [← hHe]; exact va_S.rf
  have hP : va_P D vwCl [(t, .inr (4, [.ref (q 0), .ref (q 1), .ref (q 2), .ref (q 3), .ref (q 4), .ref (q 5), .ref (q 6), .ref (q 7), .int (nI T.2.2.2.2)])), ((q 0), .inl (cI, 64, .inl (fun z9 => nI (T.1 z9)))), ((q 1), .inl (cI, 64, .inl (fun z9 => nI (T.2.1 z9)))), ((q 2), .inl (cI, 64, .inl (fun z9 => nI (T.2.2.1 z9)))), ((q 3), .inl (cJ, 64, .inr (.inl T.2.2.2.1))), ((q 4), .inl (cJ, 64, .inr (.inl f1))), ((q 5), .inl (cJ, 64, .inr (.inl f2))), ((q 6), .inl (cJ, 64, .inr (.inl f3))), ((q 7), .inl (cJ, 64, .inr (.inl f4)))] H := hP
  have hD : va_D A [(t, .inr (4, [.ref (q 0), .ref (q 1), .ref (q 2), .ref (q 3), .ref (q 4), .ref (q 5), .ref (q 6), .ref (q 7), .int (nI T.2.2.2.2)])), ((q 0), .inl (cI, 64, .inl (fun z9 => nI (T.1 z9)))), ((q 1), .inl (cI, 64, .inl (fun z9 => nI (T.2.1 z9)))), ((q 2), .inl (cI, 64, .inl (fun z9 => nI (T.2.2.1 z9)))), ((q 3), .inl (cJ, 64, .inr (.inl T.2.2.2.1))), ((q 4), .inl (cJ, 64, .inr (.inl f1))), ((q 5), .inl (cJ, 64, .inr (.inl f2))), ((q 6), .inl (cJ, 64, .inr (.inl f3))), ((q 7), .inl (cJ, 64, .inr (.inl f4)))] := hD
  have hl := lv_entry ([.ref t, .ref (q 6), .int (nI i)]) (n := 5) (Nat.le_of_ble_eq_true rfl)
  rw [lg_entry_eq]
  generalize (lg_sl ([.ref t, .ref (q 6), .int (nI i)]) ++ List.replicate (5 - (lg_sl ([.ref t, .ref (q 6), .int (nI i)])).length) Slot.unset).toArray = ls at hl ⊢
  have hl : lv_has ls 5 [(0, .ref t), (1, .ref (q 6)), (2, .int (nI i))] := hl
  refine lv_aload_n hx hb dT_slopeFromParts_0 rfl (lv_at hl 0 rfl) ?_
  refine va_get (D := D) (ci := 4) (v := .ref (q 1)) (C := R_T) (T := F_T) (N := 9) hx hb ht i_T hown hK hP 0 rfl rfl 1 (by decide) (ht _ m_61) (fun _ h9 => h9) rfl dT_slopeFromParts_1 ?_
  refine lv_iload_n hx hb dT_slopeFromParts_4 rfl (lv_at hl 2 rfl) ?_
  have i5 : vp_in (nI i) 64 := gx_in (rfl : (nI i) = (nI i)) (by omega) (by decide)
  have k5 : ((nI i) : Int32).toNatClampNeg = i := gx_cl (rfl : (nI i) = (nI i)) (by omega)
  refine va_iald hx hb hK hP 2 0 rfl rfl i5 dT_slopeFromParts_5 ?_
  rw [k5]
  refine lv_topi (fun v5 e5 => ?_)
  have n5 : v5 = nI (T.2.1 i) := e5
  subst n5
  refine lv_istore_n (lv' := [(3, .int (nI (T.2.1 i))), (0, .ref t), (1, .ref (q 6)), (2, .int (nI i))]) hx hb dT_slopeFromParts_6 rfl hl (by decide) rfl (fun ls hl => ?_)
  refine lv_aload_n hx hb dT_slopeFromParts_7 rfl (lv_at hl 1 rfl) ?_
  refine va_get (D := D) (ci := 4) (v := .ref (q 2)) (C := R_T) (T := F_T) (N := 9) hx hb ht i_T hown hK hP 0 rfl rfl 2 (by decide) (ht _ m_62) (fun _ h9 => h9) rfl dT_slopeFromParts_8 ?_
  refine lv_iload_n hx hb dT_slopeFromParts_11 rfl (lv_at hl 3 rfl) ?_
  have i12 : vp_in (nI i) 64 := gx_in (rfl : (nI i) = (nI i)) (by omega) (by decide)
  have k12 : ((nI i) : Int32).toNatClampNeg = i := gx_cl (rfl : (nI i) = (nI i)) (by omega)
  refine va_iald hx hb hK hP 3 0 rfl rfl i12 dT_slopeFromParts_12 ?_
  rw [k12]
  refine lv_topi (fun v12 e12 => ?_)
  have n12 : v12 = nI (T.2.2.1 i) := e12
  subst n12
  refine lv_istore (lv' := [(4, .int (nI (T.2.2.1 i))), (3, .int (nI (T.2.1 i))), (0, .ref t), (1, .ref (q 6)), (2, .int (nI i))]) hx hb dT_slopeFromParts_13 hl (by decide) rfl (fun ls hl => ?_)
  refine lv_aload_n hx hb dT_slopeFromParts_15 rfl (lv_at hl 2 rfl) ?_
  refine va_get (D := D) (ci := 4) (v := .ref (q 0)) (C := R_T) (T := F_T) (N := 9) hx hb ht i_T hown hK hP 0 rfl rfl 0 (by decide) (ht _ m_60) (fun _ h9 => h9) rfl dT_slopeFromParts_16 ?_
  refine lv_iload_n hx hb dT_slopeFromParts_19 rfl (lv_at hl 4 rfl) ?_
  have i20 : vp_in (nI i) 64 := gx_in (rfl : (nI i) = (nI i)) (by omega) (by decide)
  have k20 : ((nI i) : Int32).toNatClampNeg = i := gx_cl (rfl : (nI i) = (nI i)) (by omega)
  refine va_iald hx hb hK hP 1 0 rfl rfl i20 dT_slopeFromParts_20 ?_
  rw [k20]
  refine lv_topi (fun v20 e20 => ?_)
  have n20 : v20 = nI (T.1 i) := e20
  subst n20
  by_cases s21_0 : (nI (T.1 i)) = 1
  · have h1 : T.1 i = 1 := (gx_eq (rfl : (nI (T.1 i)) = (nI (T.1 i))) (rfl : (1 : Int32) = nI 1) (by omega) (by decide)).mp s21_0
    refine lv_tableIn (tgt := 48) hx hb dT_slopeFromParts_21 (by rw [s21_0]; decide) (by rw [s21_0]; decide) (by rw [s21_0] <;> rfl) (by decide) ?_
    refine lv_aload_n hx hb dT_slopeFromParts_48 rfl (lv_at hl 3 rfl) ?_
    refine lv_iload_n hx hb dT_slopeFromParts_49 rfl (lv_at hl 1 rfl) ?_
    have i50 : vp_in (nI (T.2.1 i)) 64 := gx_in (rfl : (nI (T.2.1 i)) = (nI (T.2.1 i))) (by omega) (by decide)
    have k50 : ((nI (T.2.1 i)) : Int32).toNatClampNeg = (T.2.1 i) := gx_cl (rfl : (nI (T.2.1 i)) = (nI (T.2.1 i))) (by omega)
    refine va_lald hx hb hK hP 7 1 rfl rfl i50 dT_slopeFromParts_50 ?_
    rw [k50]
    refine lv_topl (fun v50 e50 => ?_)
    refine lv_aload_n hx hb dT_slopeFromParts_51 rfl (lv_at hl 3 rfl) ?_
    refine lv_iload hx hb dT_slopeFromParts_52 (lv_at hl 0 rfl) ?_
    have i54 : vp_in (nI (T.2.2.1 i)) 64 := gx_in (rfl : (nI (T.2.2.1 i)) = (nI (T.2.2.1 i))) (by omega) (by decide)
    have k54 : ((nI (T.2.2.1 i)) : Int32).toNatClampNeg = (T.2.2.1 i) := gx_cl (rfl : (nI (T.2.2.1 i)) = (nI (T.2.2.1 i))) (by omega)
    refine va_lald hx hb hK hP 7 1 rfl rfl i54 dT_slopeFromParts_54 ?_
    rw [k54]
    refine lv_topl (fun v54 e54 => ?_)
    refine lv_ladd hx hb dT_slopeFromParts_55 ?_
    refine lv_topl (fun v55 e55 => ?_)
    exact W.lret (v := v55) hx hb hr (fun t9 ht9 hW => ⟨⟨v55, _, rfl, ⟨by rw [e55, e50, e54]; simp [tr_part, h1], rfl⟩, by rw [ht9]; exact hP, hD⟩, hS.F ht9⟩) hS.2.2 dT_slopeFromParts_56
  by_cases s21_1 : (nI (T.1 i)) = 2
  · have h1 : T.1 i = 2 := (gx_eq (rfl : (nI (T.1 i)) = (nI (T.1 i))) (rfl : (2 : Int32) = nI 2) (by omega) (by decide)).mp s21_1
    refine lv_tableIn (tgt := 57) hx hb dT_slopeFromParts_21 (by rw [s21_1]; decide) (by rw [s21_1]; decide) (by rw [s21_1] <;> rfl) (by decide) ?_
    refine lv_aload_n hx hb dT_slopeFromParts_57 rfl (lv_at hl 3 rfl) ?_
    refine lv_iload_n hx hb dT_slopeFromParts_58 rfl (lv_at hl 1 rfl) ?_
    have i59 : vp_in (nI (T.2.1 i)) 64 := gx_in (rfl : (nI (T.2.1 i)) = (nI (T.2.1 i))) (by omega) (by decide)
    have k59 : ((nI (T.2.1 i)) : Int32).toNatClampNeg = (T.2.1 i) := gx_cl (rfl : (nI (T.2.1 i)) = (nI (T.2.1 i))) (by omega)
    refine va_lald hx hb hK hP 7 1 rfl rfl i59 dT_slopeFromParts_59 ?_
    rw [k59]
    refine lv_topl (fun v59 e59 => ?_)
    refine lv_aload_n hx hb dT_slopeFromParts_60 rfl (lv_at hl 3 rfl) ?_
    refine lv_iload hx hb dT_slopeFromParts_61 (lv_at hl 0 rfl) ?_
    have i63 : vp_in (nI (T.2.2.1 i)) 64 := gx_in (rfl : (nI (T.2.2.1 i)) = (nI (T.2.2.1 i))) (by omega) (by decide)
    have k63 : ((nI (T.2.2.1 i)) : Int32).toNatClampNeg = (T.2.2.1 i) := gx_cl (rfl : (nI (T.2.2.1 i)) = (nI (T.2.2.1 i))) (by omega)
    refine va_lald hx hb hK hP 7 1 rfl rfl i63 dT_slopeFromParts_63 ?_
    rw [k63]
    refine lv_topl (fun v63 e63 => ?_)
    refine lv_lsub hx hb dT_slopeFromParts_64 ?_
    refine lv_topl (fun v64 e64 => ?_)
    exact W.lret (v := v64) hx hb hr (fun t9 ht9 hW => ⟨⟨v64, _, rfl, ⟨by rw [e64, e59, e63]; simp [tr_part, h1], rfl⟩, by rw [ht9]; exact hP, hD⟩, hS.F ht9⟩) hS.2.2 dT_slopeFromParts_65
  by_cases s21_2 : (nI (T.1 i)) = 3
  · have h1 : T.1 i = 3 := (gx_eq (rfl : (nI (T.1 i)) = (nI (T.1 i))) (rfl : (3 : Int32) = nI 3) (by omega) (by decide)).mp s21_2
    refine lv_tableIn (tgt := 66) hx hb dT_slopeFromParts_21 (by rw [s21_2]; decide) (by rw [s21_2]; decide) (by rw [s21_2] <;> rfl) (by decide) ?_
    refine lv_aload_n hx hb dT_slopeFromParts_66 rfl (lv_at hl 3 rfl) ?_
    refine lv_iload_n hx hb dT_slopeFromParts_67 rfl (lv_at hl 1 rfl) ?_
    have i68 : vp_in (nI (T.2.1 i)) 64 := gx_in (rfl : (nI (T.2.1 i)) = (nI (T.2.1 i))) (by omega) (by decide)
    have k68 : ((nI (T.2.1 i)) : Int32).toNatClampNeg = (T.2.1 i) := gx_cl (rfl : (nI (T.2.1 i)) = (nI (T.2.1 i))) (by omega)
    refine va_lald hx hb hK hP 7 1 rfl rfl i68 dT_slopeFromParts_68 ?_
    rw [k68]
    refine lv_topl (fun v68 e68 => ?_)
    refine lv_aload_n hx hb dT_slopeFromParts_69 rfl (lv_at hl 2 rfl) ?_
    refine va_get (D := D) (ci := 4) (v := .ref (q 3)) (C := R_T) (T := F_T) (N := 9) hx hb ht i_T hown hK hP 0 rfl rfl 3 (by decide) (ht _ m_63) (fun _ h9 => h9) rfl dT_slopeFromParts_70 ?_
    refine lv_iload hx hb dT_slopeFromParts_73 (lv_at hl 0 rfl) ?_
    have i75 : vp_in (nI (T.2.2.1 i)) 64 := gx_in (rfl : (nI (T.2.2.1 i)) = (nI (T.2.2.1 i))) (by omega) (by decide)
    have k75 : ((nI (T.2.2.1 i)) : Int32).toNatClampNeg = (T.2.2.1 i) := gx_cl (rfl : (nI (T.2.2.1 i)) = (nI (T.2.2.1 i))) (by omega)
    refine va_lald hx hb hK hP 4 1 rfl rfl i75 dT_slopeFromParts_75 ?_
    rw [k75]
    refine lv_topl (fun v75 e75 => ?_)
    refine lv_lmul hx hb dT_slopeFromParts_76 ?_
    refine lv_topl (fun v76 e76 => ?_)
    refine lv_aload_n hx hb dT_slopeFromParts_77 rfl (lv_at hl 2 rfl) ?_
    refine va_get (D := D) (ci := 4) (v := .ref (q 3)) (C := R_T) (T := F_T) (N := 9) hx hb ht i_T hown hK hP 0 rfl rfl 3 (by decide) (ht _ m_63) (fun _ h9 => h9) rfl dT_slopeFromParts_78 ?_
    refine lv_iload_n hx hb dT_slopeFromParts_81 rfl (lv_at hl 1 rfl) ?_
    have i82 : vp_in (nI (T.2.1 i)) 64 := gx_in (rfl : (nI (T.2.1 i)) = (nI (T.2.1 i))) (by omega) (by decide)
    have k82 : ((nI (T.2.1 i)) : Int32).toNatClampNeg = (T.2.1 i) := gx_cl (rfl : (nI (T.2.1 i)) = (nI (T.2.1 i))) (by omega)
    refine va_lald hx hb hK hP 4 1 rfl rfl i82 dT_slopeFromParts_82 ?_
    rw [k82]
    refine lv_topl (fun v82 e82 => ?_)
    refine lv_aload_n hx hb dT_slopeFromParts_83 rfl (lv_at hl 3 rfl) ?_
    refine lv_iload hx hb dT_slopeFromParts_84 (lv_at hl 0 rfl) ?_
    have i86 : vp_in (nI (T.2.2.1 i)) 64 := gx_in (rfl : (nI (T.2.2.1 i)) = (nI (T.2.2.1 i))) (by omega) (by decide)
    have k86 : ((nI (T.2.2.1 i)) : Int32).toNatClampNeg = (T.2.2.1 i) := gx_cl (rfl : (nI (T.2.2.1 i)) = (nI (T.2.2.1 i))) (by omega)
    refine va_lald hx hb hK hP 7 1 rfl rfl i86 dT_slopeFromParts_86 ?_
    rw [k86]
    refine lv_topl (fun v86 e86 => ?_)
    refine lv_lmul hx hb dT_slopeFromParts_87 ?_
    refine lv_topl (fun v87 e87 => ?_)
    refine lv_ladd hx hb dT_slopeFromParts_88 ?_
    refine lv_topl (fun v88 e88 => ?_)
    exact W.lret (v := v88) hx hb hr (fun t9 ht9 hW => ⟨⟨v88, _, rfl, ⟨by rw [e88, e76, e68, e75, e87, e82, e86]; simp [tr_part, h1], rfl⟩, by rw [ht9]; exact hP, hD⟩, hS.F ht9⟩) hS.2.2 dT_slopeFromParts_89
  have o21 : ((nI (T.1 i)) : Int32).toInt < 1 ∨ 3 < ((nI (T.1 i)) : Int32).toInt := gx_out (by intro k h1 h2 h3; have hk : k = 1 ∨ k = 2 ∨ k = 3 := (by omega); rcases hk with rfl | rfl | rfl; exact s21_0 (Int32.toInt_inj.mp (by rw [h3]; rfl)); exact s21_1 (Int32.toInt_inj.mp (by rw [h3]; rfl)); exact s21_2 (Int32.toInt_inj.mp (by rw [h3]; rfl)))
  refine lv_tableOut (tgt := 90) hx hb dT_slopeFromParts_21 o21 (by decide) ?_
  refine lv_lconst (v := 0) hx hb dT_slopeFromParts_90 (by decide) ?_
  have h1 : ¬ T.1 i = 1 := fun z => s21_0 ((gx_eq (rfl : (nI (T.1 i)) = (nI (T.1 i))) (rfl : (1 : Int32) = nI 1) (by omega) (by decide)).mpr z)
  have h2 : ¬ T.1 i = 2 := fun z => s21_1 ((gx_eq (rfl : (nI (T.1 i)) = (nI (T.1 i))) (rfl : (2 : Int32) = nI 2) (by omega) (by decide)).mpr z)
  have h3 : ¬ T.1 i = 3 := fun z => s21_2 ((gx_eq (rfl : (nI (T.1 i)) = (nI (T.1 i))) (rfl : (3 : Int32) = nI 3) (by omega) (by decide)).mpr z)
  exact W.lret (v := 0) hx hb hr (fun t9 ht9 hW => ⟨⟨0, _, rfl, ⟨by simp [tr_part, h1, h2, h3], rfl⟩, by rw [ht9]; exact hP, hD⟩, hS.F ht9⟩) hS.2.2 dT_slopeFromParts_91

set_option maxHeartbeats 4000000 in
set_option maxRecDepth 100000 in
theorem c_T_workOutSlopes_4 (l : Launch) (D : va_G) (cI cJ cB cZ : ClassId) (t : Nat) (q : Nat → Nat) (T : Tr) (f1 f2 f3 f4 : Nat → Int64) (b : Nat) (hT : tr_ok T) (hb9 : b < 2) : ct_V l y_T_workOutSlopes w_T_workOutSlopes ({ frames := 1, cells := 0, slots := 0, locals := 24 }) D (gk_T cI cJ cB cZ) [.ref t, .ref (q 4), .int (nI b)] (wTr cI cJ t q T f1 f2 f3 f4) (0) (0) (fun w => w = wTr cI cJ t q T (tr_sl T b f1 T.2.2.2.2) f2 f3 f4) := by
  intro sz
  refine Met.ofW (cc := b_T_workOutSlopes) (maxL := 4) (ret := none) (by decide) rfl ?_
  intro p ev9 s m args below meth c s₁ B9 hml hv
  obtain ⟨rfl, hsz, hP, hK, hN, hD0⟩ := hv
  have hx := B9.exec
  have hb := B9.bytes
  have hr := B9.returns
  have hts := atoms_spec (ws := w_T_workOutSlopes) B9.pre
  have ht : ∀ w ∈ gk_big, w.before _ s = true := fun w h => hts w (List.mem_cons_of_mem _ h)
  have hown : s.vm.findClass R_T = some m.cls := findClass_of_methodNamed B9.named
  have hlocks := B9.notSynchronized
  subst hsz
  have hD := hD0.self (sz := s.heap.size)
  generalize hAe : va_A (wTr cI cJ t q T f1 f2 f3 f4) s.heap.size = A at hD ⊢
  have hA : ∀ q : Nat, s.heap.size ≤ q → A q := fun q h => by rw [← hAe]; exact Or.inr h
  generalize hHe : s.heap = H at hP ⊢
  have hS : va_S A s.heap H [] := by rw [← hHe]; exact va_S.rf
  have hP : va_P D vwCl [(t, .inr (4, [.ref (q 0), .ref (q 1), .ref (q 2), .ref (q 3), .ref (q 4), .ref (q 5), .ref (q 6), .ref (q 7), .int (nI T.2.2.2.2)])), ((q 0), .inl (cI, 64, .inl (fun z9 => nI (T.1 z9)))), ((q 1), .inl (cI, 64, .inl (fun z9 => nI (T.2.1 z9)))), ((q 2), .inl (cI, 64, .inl (fun z9 => nI (T.2.2.1 z9)))), ((q 3), .inl (cJ, 64, .inr (.inl T.2.2.2.1))), ((q 4), .inl (cJ, 64, .inr (.inl f1))), ((q 5), .inl (cJ, 64, .inr (.inl f2))), ((q 6), .inl (cJ, 64, .inr (.inl f3))), ((q 7), .inl (cJ, 64, .inr (.inl f4)))] H := hP
  have hD : va_D A [(t, .inr (4, [.ref (q 0), .ref (q 1), .ref (q 2), .ref (q 3), .ref (q 4), .ref (q 5), .ref (q 6), .ref (q 7), .int (nI T.2.2.2.2)])), ((q 0), .inl (cI, 64, .inl (fun z9 => nI (T.1 z9)))), ((q 1), .inl (cI, 64, .inl (fun z9 => nI (T.2.1 z9)))), ((q 2), .inl (cI, 64, .inl (fun z9 => nI (T.2.2.1 z9)))), ((q 3), .inl (cJ, 64, .inr (.inl T.2.2.2.1))), ((q 4), .inl (cJ, 64, .inr (.inl f1))), ((q 5), .inl (cJ, 64, .inr (.inl f2))), ((q 6), .inl (cJ, 64, .inr (.inl f3))), ((q 7), .inl (cJ, 64, .inr (.inl f4)))] := hD
  have hl := lv_entry ([.ref t, .ref (q 4), .int (nI b)]) (n := 4) (Nat.le_of_ble_eq_true rfl)
  rw [lg_entry_eq]
  generalize (lg_sl ([.ref t, .ref (q 4), .int (nI b)]) ++ List.replicate (4 - (lg_sl ([.ref t, .ref (q 4), .int (nI b)])).length) Slot.unset).toArray = ls at hl ⊢
  have hl : lv_has ls 4 [(0, .ref t), (1, .ref (q 4)), (2, .int (nI b))] := hl
  have hn64 := hT.1
  refine lv_iconst (v := 0) hx hb dT_workOutSlopes_0 (by decide) ?_
  refine lv_istore_n (lv' := [(3, .int 0), (0, .ref t), (1, .ref (q 4)), (2, .int (nI b))]) hx hb dT_workOutSlopes_1 rfl hl (by decide) rfl (fun ls hl => ?_)
  have lp2 : ∀ (n2 : Nat) (i : Nat), T.2.2.2.2 - i + 1 ≤ n2 → (i ≤ T.2.2.2.2) → ∀ (H : Heap) (locs : List Loc) (ls : Array Slot), va_P D vwCl [(t, .inr (4, [.ref (q 0), .ref (q 1), .ref (q 2), .ref (q 3), .ref (q 4), .ref (q 5), .ref (q 6), .ref (q 7), .int (nI T.2.2.2.2)])), ((q 0), .inl (cI, 64, .inl (fun z9 => nI (T.1 z9)))), ((q 1), .inl (cI, 64, .inl (fun z9 => nI (T.2.1 z9)))), ((q 2), .inl (cI, 64, .inl (fun z9 => nI (T.2.2.1 z9)))), ((q 3), .inl (cJ, 64, .inr (.inl T.2.2.2.1))), ((q 4), .inl (cJ, 64, .inr (.inl (tr_sl T b f1 i)))), ((q 5), .inl (cJ, 64, .inr (.inl f2))), ((q 6), .inl (cJ, 64, .inr (.inl f3))), ((q 7), .inl (cJ, 64, .inr (.inl f4)))] H → va_D A [(t, .inr (4, [.ref (q 0), .ref (q 1), .ref (q 2), .ref (q 3), .ref (q 4), .ref (q 5), .ref (q 6), .ref (q 7), .int (nI T.2.2.2.2)])), ((q 0), .inl (cI, 64, .inl (fun z9 => nI (T.1 z9)))), ((q 1), .inl (cI, 64, .inl (fun z9 => nI (T.2.1 z9)))), ((q 2), .inl (cI, 64, .inl (fun z9 => nI (T.2.2.1 z9)))), ((q 3), .inl (cJ, 64, .inr (.inl T.2.2.2.1))), ((q 4), .inl (cJ, 64, .inr (.inl (tr_sl T b f1 i)))), ((q 5), .inl (cJ, 64, .inr (.inl f2))), ((q 6), .inl (cJ, 64, .inr (.inl f3))), ((q 7), .inl (cJ, 64, .inr (.inl f4)))] → va_S A s.heap H locs → lv_has ls 4 [(3, .int (nI i)), (0, .ref t), (1, .ref (q 4)), (2, .int (nI b))] → W p l ev9 (headSpec w_T_workOutSlopes ({ frames := 1, cells := 0, slots := 0, locals := 24 })).room s m ([.ref t, .ref (q 4), .int (nI b)] : List Value).toArray below meth c H locs 0 0 (MQ below (gq_V D A (fun w => w = wTr cI cJ t q T (tr_sl T b f1 T.2.2.2.2) f2 f3 f4)) ([.ref t, .ref (q 4), .int (nI b)] : List Value).toArray s (0) (0) A) (F0 m 2 ls []) := by
    intro n2
    induction n2 with
    | zero =>
      intro i hm2
      exact absurd hm2 (by omega)
    | succ n2 ih2 =>
      intro i hm2 hi H locs ls hP hD hS hl
      refine lv_iload_n hx hb dT_workOutSlopes_2 rfl (lv_at hl 0 rfl) ?_
      refine lv_aload_n hx hb dT_workOutSlopes_3 rfl (lv_at hl 1 rfl) ?_
      refine va_get (D := D) (ci := 4) (v := .int (nI T.2.2.2.2)) (C := R_T) (T := F_T) (N := 9) hx hb ht i_T hown hK hP 0 rfl rfl 8 (by decide) (ht _ m_70) (fun _ h9 => h9) rfl dT_workOutSlopes_4 ?_
      refine lv_icmp_ge (tgt := 36) hx hb dT_workOutSlopes_7 (by decide) (fun c7 => ?_) (fun c7 => ?_)
      · have g7 : T.2.2.2.2 ≤ i := (gx_le (rfl : (nI T.2.2.2.2) = (nI T.2.2.2.2)) (rfl : (nI i) = (nI i)) (by omega) (by omega)).mp c7
        have zi : i = T.2.2.2.2 := by omega
        subst zi
        exact W.vret hx hb hr (fun t9 ht9 hW => ⟨⟨_, rfl, rfl, by rw [ht9]; exact hP, hD⟩, hS.F ht9⟩) hS.2.2 dT_workOutSlopes_36
      · have g7 : ¬ (T.2.2.2.2 ≤ i) := fun z => c7 ((gx_le (rfl : (nI T.2.2.2.2) = (nI T.2.2.2.2)) (rfl : (nI i) = (nI i)) (by omega) (by omega)).mpr z)
        obtain ⟨hki, hli, hri⟩ := hT.2.2 i (by omega)
        have hn64 := hT.1
        refine lv_aload_n hx hb dT_workOutSlopes_10 rfl (lv_at hl 2 rfl) ?_
        refine lv_iload_n hx hb dT_workOutSlopes_11 rfl (lv_at hl 0 rfl) ?_
        refine lv_iload_n hx hb dT_workOutSlopes_12 rfl (lv_at hl 0 rfl) ?_
        refine lv_iconst (v := 1) hx hb dT_workOutSlopes_13 (by decide) ?_
        refine lv_iload_n hx hb dT_workOutSlopes_14 rfl (lv_at hl 3 rfl) ?_
        refine lv_iadd hx hb dT_workOutSlopes_15 ?_
        refine lv_topi (fun v15 e15 => ?_)
        have n15 : v15 = nI (1 + b) := by rw [e15]; exact gx_add (rfl : (1 : Int32) = nI 1) (rfl : (nI b) = (nI b))
        subst n15
        refine lv_icmp_ne (tgt := 23) hx hb dT_workOutSlopes_16 (by decide) (fun c16 => ?_) (fun c16 => ?_)
        · have g16 : ¬ (i = (1 + b)) := fun z => c16 ((gx_eq (rfl : (nI i) = (nI i)) (rfl : (nI (1 + b)) = (nI (1 + b))) (by omega) (by omega)).mpr z)
          refine lv_aload_n hx hb dT_workOutSlopes_23 rfl (lv_at hl 1 rfl) ?_
          refine lv_aload_n hx hb dT_workOutSlopes_24 rfl (lv_at hl 2 rfl) ?_
          refine lv_iload_n hx hb dT_workOutSlopes_25 rfl (lv_at hl 0 rfl) ?_
          refine gc_l (va_runV (As := [.ref (q 4), .int (nI i)]) (rest := [.int (nI i), .ref (q 4)]) ⟨hx, hb, hml, hown, ht⟩ (c_T_slopeFromParts_4 l D cI cJ cB cZ t q T (tr_sl T b f1 i) f2 f3 f4 i (by omega) hki hli hri H.size) (cwV 2 ht (gw_V m_401 m_403 ms_17 m_4 m_404) rfl rfl rfl (by decide +kernel) ⟨Nat.le_of_ble_eq_true rfl, Nat.le_of_ble_eq_true rfl⟩) (gp_V (ci := 4) (q0 := 0) hK hN (hP.sub (ws' := (wTr cI cJ t q T (tr_sl T b f1 i) f2 f3 f4)) [0, 1, 2, 3, 4, 5, 6, 7, 8] rfl) (hD.sub (ws' := (wTr cI cJ t q T (tr_sl T b f1 i) f2 f3 f4)) [0, 1, 2, 3, 4, 5, 6, 7, 8] (by decide) rfl) rfl rfl) rfl rfl hl.1 rfl (lv_room (Nat.le_of_ble_eq_true rfl)) dT_workOutSlopes_26 ⟨Nat.le_of_ble_eq_true rfl, Nat.le_of_ble_eq_true rfl⟩) hP hD hS hA [0, 1, 2, 3, 4, 5, 6, 7, 8] rfl (by decide) (fun r w h => by obtain ⟨_, rfl⟩ := h; rfl) (fun r26 w26 H locs p26 hP hD hS => ?_)
          obtain ⟨rfl, rfl⟩ := p26
          have hP : va_P D vwCl [(t, .inr (4, [.ref (q 0), .ref (q 1), .ref (q 2), .ref (q 3), .ref (q 4), .ref (q 5), .ref (q 6), .ref (q 7), .int (nI T.2.2.2.2)])), ((q 0), .inl (cI, 64, .inl (fun z9 => nI (T.1 z9)))), ((q 1), .inl (cI, 64, .inl (fun z9 => nI (T.2.1 z9)))), ((q 2), .inl (cI, 64, .inl (fun z9 => nI (T.2.2.1 z9)))), ((q 3), .inl (cJ, 64, .inr (.inl T.2.2.2.1))), ((q 4), .inl (cJ, 64, .inr (.inl (tr_sl T b f1 i)))), ((q 5), .inl (cJ, 64, .inr (.inl f2))), ((q 6), .inl (cJ, 64, .inr (.inl f3))), ((q 7), .inl (cJ, 64, .inr (.inl f4)))] H := hP
          have hD : va_D A [(t, .inr (4, [.ref (q 0), .ref (q 1), .ref (q 2), .ref (q 3), .ref (q 4), .ref (q 5), .ref (q 6), .ref (q 7), .int (nI T.2.2.2.2)])), ((q 0), .inl (cI, 64, .inl (fun z9 => nI (T.1 z9)))), ((q 1), .inl (cI, 64, .inl (fun z9 => nI (T.2.1 z9)))), ((q 2), .inl (cI, 64, .inl (fun z9 => nI (T.2.2.1 z9)))), ((q 3), .inl (cJ, 64, .inr (.inl T.2.2.2.1))), ((q 4), .inl (cJ, 64, .inr (.inl (tr_sl T b f1 i)))), ((q 5), .inl (cJ, 64, .inr (.inl f2))), ((q 6), .inl (cJ, 64, .inr (.inl f3))), ((q 7), .inl (cJ, 64, .inr (.inl f4)))] := hD
          have i29 : vp_in (nI i) 64 := gx_in (rfl : (nI i) = (nI i)) (by omega) (by decide)
          have k29 : ((nI i) : Int32).toNatClampNeg = i := gx_cl (rfl : (nI i) = (nI i)) (by omega)
          refine va_last hx hb hK hP hD hS 5 1 rfl rfl i29 dT_workOutSlopes_29 (fun H locs hP hD hS => ?_)
          rw [k29] at hP hD
          have hP : va_P D vwCl [(t, .inr (4, [.ref (q 0), .ref (q 1), .ref (q 2), .ref (q 3), .ref (q 4), .ref (q 5), .ref (q 6), .ref (q 7), .int (nI T.2.2.2.2)])), ((q 0), .inl (cI, 64, .inl (fun z9 => nI (T.1 z9)))), ((q 1), .inl (cI, 64, .inl (fun z9 => nI (T.2.1 z9)))), ((q 2), .inl (cI, 64, .inl (fun z9 => nI (T.2.2.1 z9)))), ((q 3), .inl (cJ, 64, .inr (.inl T.2.2.2.1))), ((q 4), .inl (cJ, 64, .inr (.inl (vp_updL (tr_sl T b f1 i) i (tr_part T (tr_sl T b f1 i) i))))), ((q 5), .inl (cJ, 64, .inr (.inl f2))), ((q 6), .inl (cJ, 64, .inr (.inl f3))), ((q 7), .inl (cJ, 64, .inr (.inl f4)))] H := hP
          have hD : va_D A [(t, .inr (4, [.ref (q 0), .ref (q 1), .ref (q 2), .ref (q 3), .ref (q 4), .ref (q 5), .ref (q 6), .ref (q 7), .int (nI T.2.2.2.2)])), ((q 0), .inl (cI, 64, .inl (fun z9 => nI (T.1 z9)))), ((q 1), .inl (cI, 64, .inl (fun z9 => nI (T.2.1 z9)))), ((q 2), .inl (cI, 64, .inl (fun z9 => nI (T.2.2.1 z9)))), ((q 3), .inl (cJ, 64, .inr (.inl T.2.2.2.1))), ((q 4), .inl (cJ, 64, .inr (.inl (vp_updL (tr_sl T b f1 i) i (tr_part T (tr_sl T b f1 i) i))))), ((q 5), .inl (cJ, 64, .inr (.inl f2))), ((q 6), .inl (cJ, 64, .inr (.inl f3))), ((q 7), .inl (cJ, 64, .inr (.inl f4)))] := hD
          have hz : tr_sl T b f1 (i + 1) = vp_updL (tr_sl T b f1 i) i (tr_part T (tr_sl T b f1 i) i) := by show vp_updL _ i _ = _; rw [if_neg (by omega)]
          rw [← hz] at hP hD
          have hP : va_P D vwCl [(t, .inr (4, [.ref (q 0), .ref (q 1), .ref (q 2), .ref (q 3), .ref (q 4), .ref (q 5), .ref (q 6), .ref (q 7), .int (nI T.2.2.2.2)])), ((q 0), .inl (cI, 64, .inl (fun z9 => nI (T.1 z9)))), ((q 1), .inl (cI, 64, .inl (fun z9 => nI (T.2.1 z9)))), ((q 2), .inl (cI, 64, .inl (fun z9 => nI (T.2.2.1 z9)))), ((q 3), .inl (cJ, 64, .inr (.inl T.2.2.2.1))), ((q 4), .inl (cJ, 64, .inr (.inl (tr_sl T b f1 (i + 1))))), ((q 5), .inl (cJ, 64, .inr (.inl f2))), ((q 6), .inl (cJ, 64, .inr (.inl f3))), ((q 7), .inl (cJ, 64, .inr (.inl f4)))] H := hP
          have hD : va_D A [(t, .inr (4, [.ref (q 0), .ref (q 1), .ref (q 2), .ref (q 3), .ref (q 4), .ref (q 5), .ref (q 6), .ref (q 7), .int (nI T.2.2.2.2)])), ((q 0), .inl (cI, 64, .inl (fun z9 => nI (T.1 z9)))), ((q 1), .inl (cI, 64, .inl (fun z9 => nI (T.2.1 z9)))), ((q 2), .inl (cI, 64, .inl (fun z9 => nI (T.2.2.1 z9)))), ((q 3), .inl (cJ, 64, .inr (.inl T.2.2.2.1))), ((q 4), .inl (cJ, 64, .inr (.inl (tr_sl T b f1 (i + 1))))), ((q 5), .inl (cJ, 64, .inr (.inl f2))), ((q 6), .inl (cJ, 64, .inr (.inl f3))), ((q 7), .inl (cJ, 64, .inr (.inl f4)))] := hD
          refine lv_iinc (v := (nI (i + 1))) (lv' := [(3, .int (nI (i + 1))), (0, .ref t), (1, .ref (q 4)), (2, .int (nI b))]) hx hb dT_workOutSlopes_30 hl (k := 0) rfl (gx_inc (rfl : (nI i) = (nI i))) (by decide) rfl (fun ls hl => ?_)
          refine lv_goto (tgt := 2) hx hb dT_workOutSlopes_33 (by decide) ?_
          exact ih2 (i + 1) (by omega) (by omega) _ _ _ hP hD hS (lv_sub hl [0, 1, 2, 3] rfl)
        · have g16 : i = (1 + b) := (gx_eq (rfl : (nI i) = (nI i)) (rfl : (nI (1 + b)) = (nI (1 + b))) (by omega) (by omega)).mp c16
          refine lv_lconst (v := 1) hx hb dT_workOutSlopes_19 (by decide) ?_
          refine lv_goto (tgt := 29) hx hb dT_workOutSlopes_20 (by decide) ?_
          have i29 : vp_in (nI i) 64 := gx_in (rfl : (nI i) = (nI i)) (by omega) (by decide)
          have k29 : ((nI i) : Int32).toNatClampNeg = i := gx_cl (rfl : (nI i) = (nI i)) (by omega)
          refine va_last hx hb hK hP hD hS 5 1 rfl rfl i29 dT_workOutSlopes_29 (fun H locs hP hD hS => ?_)
          rw [k29] at hP hD
          have hP : va_P D vwCl [(t, .inr (4, [.ref (q 0), .ref (q 1), .ref (q 2), .ref (q 3), .ref (q 4), .ref (q 5), .ref (q 6), .ref (q 7), .int (nI T.2.2.2.2)])), ((q 0), .inl (cI, 64, .inl (fun z9 => nI (T.1 z9)))), ((q 1), .inl (cI, 64, .inl (fun z9 => nI (T.2.1 z9)))), ((q 2), .inl (cI, 64, .inl (fun z9 => nI (T.2.2.1 z9)))), ((q 3), .inl (cJ, 64, .inr (.inl T.2.2.2.1))), ((q 4), .inl (cJ, 64, .inr (.inl (vp_updL (tr_sl T b f1 i) i 1)))), ((q 5), .inl (cJ, 64, .inr (.inl f2))), ((q 6), .inl (cJ, 64, .inr (.inl f3))), ((q 7), .inl (cJ, 64, .inr (.inl f4)))] H := hP
          have hD : va_D A [(t, .inr (4, [.ref (q 0), .ref (q 1), .ref (q 2), .ref (q 3), .ref (q 4), .ref (q 5), .ref (q 6), .ref (q 7), .int (nI T.2.2.2.2)])), ((q 0), .inl (cI, 64, .inl (fun z9 => nI (T.1 z9)))), ((q 1), .inl (cI, 64, .inl (fun z9 => nI (T.2.1 z9)))), ((q 2), .inl (cI, 64, .inl (fun z9 => nI (T.2.2.1 z9)))), ((q 3), .inl (cJ, 64, .inr (.inl T.2.2.2.1))), ((q 4), .inl (cJ, 64, .inr (.inl (vp_updL (tr_sl T b f1 i) i 1)))), ((q 5), .inl (cJ, 64, .inr (.inl f2))), ((q 6), .inl (cJ, 64, .inr (.inl f3))), ((q 7), .inl (cJ, 64, .inr (.inl f4)))] := hD
          have hz : tr_sl T b f1 (i + 1) = vp_updL (tr_sl T b f1 i) i 1 := by show vp_updL _ i _ = _; rw [if_pos (by omega)]
          rw [← hz] at hP hD
          have hP : va_P D vwCl [(t, .inr (4, [.ref (q 0), .ref (q 1), .ref (q 2), .ref (q 3), .ref (q 4), .ref (q 5), .ref (q 6), .ref (q 7), .int (nI T.2.2.2.2)])), ((q 0), .inl (cI, 64, .inl (fun z9 => nI (T.1 z9)))), ((q 1), .inl (cI, 64, .inl (fun z9 => nI (T.2.1 z9)))), ((q 2), .inl (cI, 64, .inl (fun z9 => nI (T.2.2.1 z9)))), ((q 3), .inl (cJ, 64, .inr (.inl T.2.2.2.1))), ((q 4), .inl (cJ, 64, .inr (.inl (tr_sl T b f1 (i + 1))))), ((q 5), .inl (cJ, 64, .inr (.inl f2))), ((q 6), .inl (cJ, 64, .inr (.inl f3))), ((q 7), .inl (cJ, 64, .inr (.inl f4)))] H := hP
          have hD : va_D A [(t, .inr (4, [.ref (q 0), .ref (q 1), .ref (q 2), .ref (q 3), .ref (q 4), .ref (q 5), .ref (q 6), .ref (q 7), .int (nI T.2.2.2.2)])), ((q 0), .inl (cI, 64, .inl (fun z9 => nI (T.1 z9)))), ((q 1), .inl (cI, 64, .inl (fun z9 => nI (T.2.1 z9)))), ((q 2), .inl (cI, 64, .inl (fun z9 => nI (T.2.2.1 z9)))), ((q 3), .inl (cJ, 64, .inr (.inl T.2.2.2.1))), ((q 4), .inl (cJ, 64, .inr (.inl (tr_sl T b f1 (i + 1))))), ((q 5), .inl (cJ, 64, .inr (.inl f2))), ((q 6), .inl (cJ, 64, .inr (.inl f3))), ((q 7), .inl (cJ, 64, .inr (.inl f4)))] := hD
          refine lv_iinc (v := (nI (i + 1))) (lv' := [(3, .int (nI (i + 1))), (0, .ref t), (1, .ref (q 4)), (2, .int (nI b))]) hx hb dT_workOutSlopes_30 hl (k := 0) rfl (gx_inc (rfl : (nI i) = (nI i))) (by decide) rfl (fun ls hl => ?_)
          refine lv_goto (tgt := 2) hx hb dT_workOutSlopes_33 (by decide) ?_
          exact ih2 (i + 1) (by omega) (by omega) _ _ _ hP hD hS (lv_sub hl [0, 1, 2, 3] rfl)
  exact lp2 (T.2.2.2.2 - (0) + 1) 0 (by omega) (by omega) _ _ _ hP hD hS (lv_sub hl [0, 1, 2, 3] rfl)

set_option maxHeartbeats 4000000 in
set_option maxRecDepth 100000 in
theorem c_T_workOutSlopes_5 (l : Launch) (D : va_G) (cI cJ cB cZ : ClassId) (t : Nat) (q : Nat → Nat) (T : Tr) (f1 f2 f3 f4 : Nat → Int64) (b : Nat) (hT : tr_ok T) (hb9 : b < 2) : ct_V l y_T_workOutSlopes w_T_workOutSlopes ({ frames := 1, cells := 0, slots := 0, locals := 24 }) D (gk_T cI cJ cB cZ) [.ref t, .ref (q 5), .int (nI b)] (wTr cI cJ t q T f1 f2 f3 f4) (0) (0) (fun w => w = wTr cI cJ t q T f1 (tr_sl T b f2 T.2.2.2.2) f3 f4) := by
  intro sz
  refine Met.ofW (cc := b_T_workOutSlopes) (maxL := 4) (ret := none) (by decide) rfl ?_
  intro p ev9 s m args below meth c s₁ B9 hml hv
  obtain ⟨rfl, hsz, hP, hK, hN, hD0⟩ := hv
  have hx := B9.exec
  have hb := B9.bytes
  have hr := B9.returns
  have hts := atoms_spec (ws := w_T_workOutSlopes) B9.pre
  have ht : ∀ w ∈ gk_big, w.before _ s = true := fun w h => hts w (List.mem_cons_of_mem _ h)
  have hown : s.vm.findClass R_T = some m.cls := findClass_of_methodNamed B9.named
  have hlocks := B9.notSynchronized
  subst hsz
  have hD := hD0.self (sz := s.heap.size)
  generalize hAe : va_A (wTr cI cJ t q T f1 f2 f3 f4) s.heap.size = A at hD ⊢
  have hA : ∀ q : Nat, s.heap.size ≤ q → A q := fun q h => by rw [← hAe]; exact Or.inr h
  generalize hHe : s.heap = H at hP ⊢
  have hS : va_S A s.heap H [] := by rw [← hHe]; exact va_S.rf
  have hP : va_P D vwCl [(t, .inr (4, [.ref (q 0), .ref (q 1), .ref (q 2), .ref (q 3), .ref (q 4), .ref (q 5), .ref (q 6), .ref (q 7), .int (nI T.2.2.2.2)])), ((q 0), .inl (cI, 64, .inl (fun z9 => nI (T.1 z9)))), ((q 1), .inl (cI, 64, .inl (fun z9 => nI (T.2.1 z9)))), ((q 2), .inl (cI, 64, .inl (fun z9 => nI (T.2.2.1 z9)))), ((q 3), .inl (cJ, 64, .inr (.inl T.2.2.2.1))), ((q 4), .inl (cJ, 64, .inr (.inl f1))), ((q 5), .inl (cJ, 64, .inr (.inl f2))), ((q 6), .inl (cJ, 64, .inr (.inl f3))), ((q 7), .inl (cJ, 64, .inr (.inl f4)))] H := hP
  have hD : va_D A [(t, .inr (4, [.ref (q 0), .ref (q 1), .ref (q 2), .ref (q 3), .ref (q 4), .ref (q 5), .ref (q 6), .ref (q 7), .int (nI T.2.2.2.2)])), ((q 0), .inl (cI, 64, .inl (fun z9 => nI (T.1 z9)))), ((q 1), .inl (cI, 64, .inl (fun z9 => nI (T.2.1 z9)))), ((q 2), .inl (cI, 64, .inl (fun z9 => nI (T.2.2.1 z9)))), ((q 3), .inl (cJ, 64, .inr (.inl T.2.2.2.1))), ((q 4), .inl (cJ, 64, .inr (.inl f1))), ((q 5), .inl (cJ, 64, .inr (.inl f2))), ((q 6), .inl (cJ, 64, .inr (.inl f3))), ((q 7), .inl (cJ, 64, .inr (.inl f4)))] := hD
  have hl := lv_entry ([.ref t, .ref (q 5), .int (nI b)]) (n := 4) (Nat.le_of_ble_eq_true rfl)
  rw [lg_entry_eq]
  generalize (lg_sl ([.ref t, .ref (q 5), .int (nI b)]) ++ List.replicate (4 - (lg_sl ([.ref t, .ref (q 5), .int (nI b)])).length) Slot.unset).toArray = ls at hl ⊢
  have hl : lv_has ls 4 [(0, .ref t), (1, .ref (q 5)), (2, .int (nI b))] := hl
  have hn64 := hT.1
  refine lv_iconst (v := 0) hx hb dT_workOutSlopes_0 (by decide) ?_
  refine lv_istore_n (lv' := [(3, .int 0), (0, .ref t), (1, .ref (q 5)), (2, .int (nI b))]) hx hb dT_workOutSlopes_1 rfl hl (by decide) rfl (fun ls hl => ?_)
  have lp2 : ∀ (n2 : Nat) (i : Nat), T.2.2.2.2 - i + 1 ≤ n2 → (i ≤ T.2.2.2.2) → ∀ (H : Heap) (locs : List Loc) (ls : Array Slot), va_P D vwCl [(t, .inr (4, [.ref (q 0), .ref (q 1), .ref (q 2), .ref (q 3), .ref (q 4), .ref (q 5), .ref (q 6), .ref (q 7), .int (nI T.2.2.2.2)])), ((q 0), .inl (cI, 64, .inl (fun z9 => nI (T.1 z9)))), ((q 1), .inl (cI, 64, .inl (fun z9 => nI (T.2.1 z9)))), ((q 2), .inl (cI, 64, .inl (fun z9 => nI (T.2.2.1 z9)))), ((q 3), .inl (cJ, 64, .inr (.inl T.2.2.2.1))), ((q 4), .inl (cJ, 64, .inr (.inl f1))), ((q 5), .inl (cJ, 64, .inr (.inl (tr_sl T b f2 i)))), ((q 6), .inl (cJ, 64, .inr (.inl f3))), ((q 7), .inl (cJ, 64, .inr (.inl f4)))] H → va_D A [(t, .inr (4, [.ref (q 0), .ref (q 1), .ref (q 2), .ref (q 3), .ref (q 4), .ref (q 5), .ref (q 6), .ref (q 7), .int (nI T.2.2.2.2)])), ((q 0), .inl (cI, 64, .inl (fun z9 => nI (T.1 z9)))), ((q 1), .inl (cI, 64, .inl (fun z9 => nI (T.2.1 z9)))), ((q 2), .inl (cI, 64, .inl (fun z9 => nI (T.2.2.1 z9)))), ((q 3), .inl (cJ, 64, .inr (.inl T.2.2.2.1))), ((q 4), .inl (cJ, 64, .inr (.inl f1))), ((q 5), .inl (cJ, 64, .inr (.inl (tr_sl T b f2 i)))), ((q 6), .inl (cJ, 64, .inr (.inl f3))), ((q 7), .inl (cJ, 64, .inr (.inl f4)))] → va_S A s.heap H locs → lv_has ls 4 [(3, .int (nI i)), (0, .ref t), (1, .ref (q 5)), (2, .int (nI b))] → W p l ev9 (headSpec w_T_workOutSlopes ({ frames := 1, cells := 0, slots := 0, locals := 24 })).room s m ([.ref t, .ref (q 5), .int (nI b)] : List Value).toArray below meth c H locs 0 0 (MQ below (gq_V D A (fun w => w = wTr cI cJ t q T f1 (tr_sl T b f2 T.2.2.2.2) f3 f4)) ([.ref t, .ref (q 5), .int (nI b)] : List Value).toArray s (0) (0) A) (F0 m 2 ls []) := by
    intro n2
    induction n2 with
    | zero =>
      intro i hm2
      exact absurd hm2 (by omega)
    | succ n2 ih2 =>
      intro i hm2 hi H locs ls hP hD hS hl
      refine lv_iload_n hx hb dT_workOutSlopes_2 rfl (lv_at hl 0 rfl) ?_
      refine lv_aload_n hx hb dT_workOutSlopes_3 rfl (lv_at hl 1 rfl) ?_
      refine va_get (D := D) (ci := 4) (v := .int (nI T.2.2.2.2)) (C := R_T) (T := F_T) (N := 9) hx hb ht i_T hown hK hP 0 rfl rfl 8 (by decide) (ht _ m_70) (fun _ h9 => h9) rfl dT_workOutSlopes_4 ?_
      refine lv_icmp_ge (tgt := 36) hx hb dT_workOutSlopes_7 (by decide) (fun c7 => ?_) (fun c7 => ?_)
      · have g7 : T.2.2.2.2 ≤ i := (gx_le (rfl : (nI T.2.2.2.2) = (nI T.2.2.2.2)) (rfl : (nI i) = (nI i)) (by omega) (by omega)).mp c7
        have zi : i = T.2.2.2.2 := by omega
        subst zi
        exact W.vret hx hb hr (fun t9 ht9 hW => ⟨⟨_, rfl, rfl, by rw [ht9]; exact hP, hD⟩, hS.F ht9⟩) hS.2.2 dT_workOutSlopes_36
      · have g7 : ¬ (T.2.2.2.2 ≤ i) := fun z => c7 ((gx_le (rfl : (nI T.2.2.2.2) = (nI T.2.2.2.2)) (rfl : (nI i) = (nI i)) (by omega) (by omega)).mpr z)
        obtain ⟨hki, hli, hri⟩ := hT.2.2 i (by omega)
        have hn64 := hT.1
        refine lv_aload_n hx hb dT_workOutSlopes_10 rfl (lv_at hl 2 rfl) ?_
        refine lv_iload_n hx hb dT_workOutSlopes_11 rfl (lv_at hl 0 rfl) ?_
        refine lv_iload_n hx hb dT_workOutSlopes_12 rfl (lv_at hl 0 rfl) ?_
        refine lv_iconst (v := 1) hx hb dT_workOutSlopes_13 (by decide) ?_
        refine lv_iload_n hx hb dT_workOutSlopes_14 rfl (lv_at hl 3 rfl) ?_
        refine lv_iadd hx hb dT_workOutSlopes_15 ?_
        refine lv_topi (fun v15 e15 => ?_)
        have n15 : v15 = nI (1 + b) := by rw [e15]; exact gx_add (rfl : (1 : Int32) = nI 1) (rfl : (nI b) = (nI b))
        subst n15
        refine lv_icmp_ne (tgt := 23) hx hb dT_workOutSlopes_16 (by decide) (fun c16 => ?_) (fun c16 => ?_)
        · have g16 : ¬ (i = (1 + b)) := fun z => c16 ((gx_eq (rfl : (nI i) = (nI i)) (rfl : (nI (1 + b)) = (nI (1 + b))) (by omega) (by omega)).mpr z)
          refine lv_aload_n hx hb dT_workOutSlopes_23 rfl (lv_at hl 1 rfl) ?_
          refine lv_aload_n hx hb dT_workOutSlopes_24 rfl (lv_at hl 2 rfl) ?_
          refine lv_iload_n hx hb dT_workOutSlopes_25 rfl (lv_at hl 0 rfl) ?_
          refine gc_l (va_runV (As := [.ref (q 5), .int (nI i)]) (rest := [.int (nI i), .ref (q 5)]) ⟨hx, hb, hml, hown, ht⟩ (c_T_slopeFromParts_5 l D cI cJ cB cZ t q T f1 (tr_sl T b f2 i) f3 f4 i (by omega) hki hli hri H.size) (cwV 2 ht (gw_V m_401 m_403 ms_17 m_4 m_404) rfl rfl rfl (by decide +kernel) ⟨Nat.le_of_ble_eq_true rfl, Nat.le_of_ble_eq_true rfl⟩) (gp_V (ci := 4) (q0 := 0) hK hN (hP.sub (ws' := (wTr cI cJ t q T f1 (tr_sl T b f2 i) f3 f4)) [0, 1, 2, 3, 4, 5, 6, 7, 8] rfl) (hD.sub (ws' := (wTr cI cJ t q T f1 (tr_sl T b f2 i) f3 f4)) [0, 1, 2, 3, 4, 5, 6, 7, 8] (by decide) rfl) rfl rfl) rfl rfl hl.1 rfl (lv_room (Nat.le_of_ble_eq_true rfl)) dT_workOutSlopes_26 ⟨Nat.le_of_ble_eq_true rfl, Nat.le_of_ble_eq_true rfl⟩) hP hD hS hA [0, 1, 2, 3, 4, 5, 6, 7, 8] rfl (by decide) (fun r w h => by obtain ⟨_, rfl⟩ := h; rfl) (fun r26 w26 H locs p26 hP hD hS => ?_)
          obtain ⟨rfl, rfl⟩ := p26
          have hP : va_P D vwCl [(t, .inr (4, [.ref (q 0), .ref (q 1), .ref (q 2), .ref (q 3), .ref (q 4), .ref (q 5), .ref (q 6), .ref (q 7), .int (nI T.2.2.2.2)])), ((q 0), .inl (cI, 64, .inl (fun z9 => nI (T.1 z9)))), ((q 1), .inl (cI, 64, .inl (fun z9 => nI (T.2.1 z9)))), ((q 2), .inl (cI, 64, .inl (fun z9 => nI (T.2.2.1 z9)))), ((q 3), .inl (cJ, 64, .inr (.inl T.2.2.2.1))), ((q 4), .inl (cJ, 64, .inr (.inl f1))), ((q 5), .inl (cJ, 64, .inr (.inl (tr_sl T b f2 i)))), ((q 6), .inl (cJ, 64, .inr (.inl f3))), ((q 7), .inl (cJ, 64, .inr (.inl f4)))] H := hP
          have hD : va_D A [(t, .inr (4, [.ref (q 0), .ref (q 1), .ref (q 2), .ref (q 3), .ref (q 4), .ref (q 5), .ref (q 6), .ref (q 7), .int (nI T.2.2.2.2)])), ((q 0), .inl (cI, 64, .inl (fun z9 => nI (T.1 z9)))), ((q 1), .inl (cI, 64, .inl (fun z9 => nI (T.2.1 z9)))), ((q 2), .inl (cI, 64, .inl (fun z9 => nI (T.2.2.1 z9)))), ((q 3), .inl (cJ, 64, .inr (.inl T.2.2.2.1))), ((q 4), .inl (cJ, 64, .inr (.inl f1))), ((q 5), .inl (cJ, 64, .inr (.inl (tr_sl T b f2 i)))), ((q 6), .inl (cJ, 64, .inr (.inl f3))), ((q 7), .inl (cJ, 64, .inr (.inl f4)))] := hD
          have i29 : vp_in (nI i) 64 := gx_in (rfl : (nI i) = (nI i)) (by omega) (by decide)
          have k29 : ((nI i) : Int32).toNatClampNeg = i := gx_cl (rfl : (nI i) = (nI i)) (by omega)
          refine va_last hx hb hK hP hD hS 6 1 rfl rfl i29 dT_workOutSlopes_29 (fun H locs hP hD hS => ?_)
          rw [k29] at hP hD
          have hP : va_P D vwCl [(t, .inr (4, [.ref (q 0), .ref (q 1), .ref (q 2), .ref (q 3), .ref (q 4), .ref (q 5), .ref (q 6), .ref (q 7), .int (nI T.2.2.2.2)])), ((q 0), .inl (cI, 64, .inl (fun z9 => nI (T.1 z9)))), ((q 1), .inl (cI, 64, .inl (fun z9 => nI (T.2.1 z9)))), ((q 2), .inl (cI, 64, .inl (fun z9 => nI (T.2.2.1 z9)))), ((q 3), .inl (cJ, 64, .inr (.inl T.2.2.2.1))), ((q 4), .inl (cJ, 64, .inr (.inl f1))), ((q 5), .inl (cJ, 64, .inr (.inl (vp_updL (tr_sl T b f2 i) i (tr_part T (tr_sl T b f2 i) i))))), ((q 6), .inl (cJ, 64, .inr (.inl f3))), ((q 7), .inl (cJ, 64, .inr (.inl f4)))] H := hP
          have hD : va_D A [(t, .inr (4, [.ref (q 0), .ref (q 1), .ref (q 2), .ref (q 3), .ref (q 4), .ref (q 5), .ref (q 6), .ref (q 7), .int (nI T.2.2.2.2)])), ((q 0), .inl (cI, 64, .inl (fun z9 => nI (T.1 z9)))), ((q 1), .inl (cI, 64, .inl (fun z9 => nI (T.2.1 z9)))), ((q 2), .inl (cI, 64, .inl (fun z9 => nI (T.2.2.1 z9)))), ((q 3), .inl (cJ, 64, .inr (.inl T.2.2.2.1))), ((q 4), .inl (cJ, 64, .inr (.inl f1))), ((q 5), .inl (cJ, 64, .inr (.inl (vp_updL (tr_sl T b f2 i) i (tr_part T (tr_sl T b f2 i) i))))), ((q 6), .inl (cJ, 64, .inr (.inl f3))), ((q 7), .inl (cJ, 64, .inr (.inl f4)))] := hD
          have hz : tr_sl T b f2 (i + 1) = vp_updL (tr_sl T b f2 i) i (tr_part T (tr_sl T b f2 i) i) := by show vp_updL _ i _ = _; rw [if_neg (by omega)]
          rw [← hz] at hP hD
          have hP : va_P D vwCl [(t, .inr (4, [.ref (q 0), .ref (q 1), .ref (q 2), .ref (q 3), .ref (q 4), .ref (q 5), .ref (q 6), .ref (q 7), .int (nI T.2.2.2.2)])), ((q 0), .inl (cI, 64, .inl (fun z9 => nI (T.1 z9)))), ((q 1), .inl (cI, 64, .inl (fun z9 => nI (T.2.1 z9)))), ((q 2), .inl (cI, 64, .inl (fun z9 => nI (T.2.2.1 z9)))), ((q 3), .inl (cJ, 64, .inr (.inl T.2.2.2.1))), ((q 4), .inl (cJ, 64, .inr (.inl f1))), ((q 5), .inl (cJ, 64, .inr (.inl (tr_sl T b f2 (i + 1))))), ((q 6), .inl (cJ, 64, .inr (.inl f3))), ((q 7), .inl (cJ, 64, .inr (.inl f4)))] H := hP
          have hD : va_D A [(t, .inr (4, [.ref (q 0), .ref (q 1), .ref (q 2), .ref (q 3), .ref (q 4), .ref (q 5), .ref (q 6), .ref (q 7), .int (nI T.2.2.2.2)])), ((q 0), .inl (cI, 64, .inl (fun z9 => nI (T.1 z9)))), ((q 1), .inl (cI, 64, .inl (fun z9 => nI (T.2.1 z9)))), ((q 2), .inl (cI, 64, .inl (fun z9 => nI (T.2.2.1 z9)))), ((q 3), .inl (cJ, 64, .inr (.inl T.2.2.2.1))), ((q 4), .inl (cJ, 64, .inr (.inl f1))), ((q 5), .inl (cJ, 64, .inr (.inl (tr_sl T b f2 (i + 1))))), ((q 6), .inl (cJ, 64, .inr (.inl f3))), ((q 7), .inl (cJ, 64, .inr (.inl f4)))] := hD
          refine lv_iinc (v := (nI (i + 1))) (lv' := [(3, .int (nI (i + 1))), (0, .ref t), (1, .ref (q 5)), (2, .int (nI b))]) hx hb dT_workOutSlopes_30 hl (k := 0) rfl (gx_inc (rfl : (nI i) = (nI i))) (by decide) rfl (fun ls hl => ?_)
          refine lv_goto (tgt := 2) hx hb dT_workOutSlopes_33 (by decide) ?_
          exact ih2 (i + 1) (by omega) (by omega) _ _ _ hP hD hS (lv_sub hl [0, 1, 2, 3] rfl)
        · have g16 : i = (1 + b) := (gx_eq (rfl : (nI i) = (nI i)) (rfl : (nI (1 + b)) = (nI (1 + b))) (by omega) (by omega)).mp c16
          refine lv_lconst (v := 1) hx hb dT_workOutSlopes_19 (by decide) ?_
          refine lv_goto (tgt := 29) hx hb dT_workOutSlopes_20 (by decide) ?_
          have i29 : vp_in (nI i) 64 := gx_in (rfl : (nI i) = (nI i)) (by omega) (by decide)
          have k29 : ((nI i) : Int32).toNatClampNeg = i := gx_cl (rfl : (nI i) = (nI i)) (by omega)
          refine va_last hx hb hK hP hD hS 6 1 rfl rfl i29 dT_workOutSlopes_29 (fun H locs hP hD hS => ?_)
          rw [k29] at hP hD
          have hP : va_P D vwCl [(t, .inr (4, [.ref (q 0), .ref (q 1), .ref (q 2), .ref (q 3), .ref (q 4), .ref (q 5), .ref (q 6), .ref (q 7), .int (nI T.2.2.2.2)])), ((q 0), .inl (cI, 64, .inl (fun z9 => nI (T.1 z9)))), ((q 1), .inl (cI, 64, .inl (fun z9 => nI (T.2.1 z9)))), ((q 2), .inl (cI, 64, .inl (fun z9 => nI (T.2.2.1 z9)))), ((q 3), .inl (cJ, 64, .inr (.inl T.2.2.2.1))), ((q 4), .inl (cJ, 64, .inr (.inl f1))), ((q 5), .inl (cJ, 64, .inr (.inl (vp_updL (tr_sl T b f2 i) i 1)))), ((q 6), .inl (cJ, 64, .inr (.inl f3))), ((q 7), .inl (cJ, 64, .inr (.inl f4)))] H := hP
          have hD : va_D A [(t, .inr (4, [.ref (q 0), .ref (q 1), .ref (q 2), .ref (q 3), .ref (q 4), .ref (q 5), .ref (q 6), .ref (q 7), .int (nI T.2.2.2.2)])), ((q 0), .inl (cI, 64, .inl (fun z9 => nI (T.1 z9)))), ((q 1), .inl (cI, 64, .inl (fun z9 => nI (T.2.1 z9)))), ((q 2), .inl (cI, 64, .inl (fun z9 => nI (T.2.2.1 z9)))), ((q 3), .inl (cJ, 64, .inr (.inl T.2.2.2.1))), ((q 4), .inl (cJ, 64, .inr (.inl f1))), ((q 5), .inl (cJ, 64, .inr (.inl (vp_updL (tr_sl T b f2 i) i 1)))), ((q 6), .inl (cJ, 64, .inr (.inl f3))), ((q 7), .inl (cJ, 64, .inr (.inl f4)))] := hD
          have hz : tr_sl T b f2 (i + 1) = vp_updL (tr_sl T b f2 i) i 1 := by show vp_updL _ i _ = _; rw [if_pos (by omega)]
          rw [← hz] at hP hD
          have hP : va_P D vwCl [(t, .inr (4, [.ref (q 0), .ref (q 1), .ref (q 2), .ref (q 3), .ref (q 4), .ref (q 5), .ref (q 6), .ref (q 7), .int (nI T.2.2.2.2)])), ((q 0), .inl (cI, 64, .inl (fun z9 => nI (T.1 z9)))), ((q 1), .inl (cI, 64, .inl (fun z9 => nI (T.2.1 z9)))), ((q 2), .inl (cI, 64, .inl (fun z9 => nI (T.2.2.1 z9)))), ((q 3), .inl (cJ, 64, .inr (.inl T.2.2.2.1))), ((q 4), .inl (cJ, 64, .inr (.inl f1))), ((q 5), .inl (cJ, 64, .inr (.inl (tr_sl T b f2 (i + 1))))), ((q 6), .inl (cJ, 64, .inr (.inl f3))), ((q 7), .inl (cJ, 64, .inr (.inl f4)))] H := hP
          have hD : va_D A [(t, .inr (4, [.ref (q 0), .ref (q 1), .ref (q 2), .ref (q 3), .ref (q 4), .ref (q 5), .ref (q 6), .ref (q 7), .int (nI T.2.2.2.2)])), ((q 0), .inl (cI, 64, .inl (fun z9 => nI (T.1 z9)))), ((q 1), .inl (cI, 64, .inl (fun z9 => nI (T.2.1 z9)))), ((q 2), .inl (cI, 64, .inl (fun z9 => nI (T.2.2.1 z9)))), ((q 3), .inl (cJ, 64, .inr (.inl T.2.2.2.1))), ((q 4), .inl (cJ, 64, .inr (.inl f1))), ((q 5), .inl (cJ, 64, .inr (.inl (tr_sl T b f2 (i + 1))))), ((q 6), .inl (cJ, 64, .inr (.inl f3))), ((q 7), .inl (cJ, 64, .inr (.inl f4)))] := hD
          refine lv_iinc (v := (nI (i + 1))) (lv' := [(3, .int (nI (i + 1))), (0, .ref t), (1, .ref (q 5)), (2, .int (nI b))]) hx hb dT_workOutSlopes_30 hl (k := 0) rfl (gx_inc (rfl : (nI i) = (nI i))) (by decide) rfl (fun ls hl => ?_)
          refine lv_goto (tgt := 2) hx hb dT_workOutSlopes_33 (by decide) ?_
          exact ih2 (i + 1) (by omega) (by omega) _ _ _ hP hD hS (lv_sub hl [0, 1, 2, 3] rfl)
  exact lp2 (T.2.2.2.2 - (0) + 1) 0 (by omega) (by omega) _ _ _ hP hD hS (lv_sub hl [0, 1, 2, 3] rfl)

set_option maxHeartbeats 4000000 in
set_option maxRecDepth 100000 in
theorem c_T_slope (l : Launch) (D : va_G) (cI cJ cB cZ : ClassId) (t : Nat) (q : Nat → Nat) (T : Tr) (f1 f2 f3 f4 : Nat → Int64) (a b : Nat) (hT : tr_ok T) (ha : a < 64) (hb9 : b < 2) : ct_L l y_T_slope w_T_slope ({ frames := 2, cells := 0, slots := 0, locals := 47 }) D (gk_T cI cJ cB cZ) [.ref t, .int (nI a), .int (nI b)] (wTr cI cJ t q T f1 f2 f3 f4) (0) (0) (fun r w => r = (tr_sl T b f1 T.2.2.2.2) a ∧ w = wTr cI cJ t q T (tr_sl T b f1 T.2.2.2.2) f2 f3 f4) := by
  intro sz
  refine Met.ofW (cc := b_T_slope) (maxL := 3) (ret := (some .long)) (by decide) rfl ?_
  intro p ev9 s m args below meth c s₁ B9 hml hv
  obtain ⟨rfl, hsz, hP, hK, hN, hD0⟩ := hv
  have hx := B9.exec
  have hb := B9.bytes
  have hr := B9.returns
  have hts := atoms_spec (ws := w_T_slope) B9.pre
  have ht : ∀ w ∈ gk_big, w.before _ s = true := fun w h => hts w (List.mem_cons_of_mem _ h)
  have hown : s.vm.findClass R_T = some m.cls := findClass_of_methodNamed B9.named
  have hlocks := B9.notSynchronized
  subst hsz
  have hD := hD0.self (sz := s.heap.size)
  generalize hAe : va_A (wTr cI cJ t q T f1 f2 f3 f4) s.heap.size = A at hD ⊢
  have hA : ∀ q : Nat, s.heap.size ≤ q → A q := fun q h => by rw [← hAe]; exact Or.inr h
  generalize hHe : s.heap = H at hP ⊢
  have hS : va_S A s.heap H [] := by rw [← hHe]; exact va_S.rf
  have hP : va_P D vwCl [(t, .inr (4, [.ref (q 0), .ref (q 1), .ref (q 2), .ref (q 3), .ref (q 4), .ref (q 5), .ref (q 6), .ref (q 7), .int (nI T.2.2.2.2)])), ((q 0), .inl (cI, 64, .inl (fun z9 => nI (T.1 z9)))), ((q 1), .inl (cI, 64, .inl (fun z9 => nI (T.2.1 z9)))), ((q 2), .inl (cI, 64, .inl (fun z9 => nI (T.2.2.1 z9)))), ((q 3), .inl (cJ, 64, .inr (.inl T.2.2.2.1))), ((q 4), .inl (cJ, 64, .inr (.inl f1))), ((q 5), .inl (cJ, 64, .inr (.inl f2))), ((q 6), .inl (cJ, 64, .inr (.inl f3))), ((q 7), .inl (cJ, 64, .inr (.inl f4)))] H := hP
  have hD : va_D A [(t, .inr (4, [.ref (q 0), .ref (q 1), .ref (q 2), .ref (q 3), .ref (q 4), .ref (q 5), .ref (q 6), .ref (q 7), .int (nI T.2.2.2.2)])), ((q 0), .inl (cI, 64, .inl (fun z9 => nI (T.1 z9)))), ((q 1), .inl (cI, 64, .inl (fun z9 => nI (T.2.1 z9)))), ((q 2), .inl (cI, 64, .inl (fun z9 => nI (T.2.2.1 z9)))), ((q 3), .inl (cJ, 64, .inr (.inl T.2.2.2.1))), ((q 4), .inl (cJ, 64, .inr (.inl f1))), ((q 5), .inl (cJ, 64, .inr (.inl f2))), ((q 6), .inl (cJ, 64, .inr (.inl f3))), ((q 7), .inl (cJ, 64, .inr (.inl f4)))] := hD
  have hl := lv_entry ([.ref t, .int (nI a), .int (nI b)]) (n := 3) (Nat.le_of_ble_eq_true rfl)
  rw [lg_entry_eq]
  generalize (lg_sl ([.ref t, .int (nI a), .int (nI b)]) ++ List.replicate (3 - (lg_sl ([.ref t, .int (nI a), .int (nI b)])).length) Slot.unset).toArray = ls at hl ⊢
  have hl : lv_has ls 3 [(0, .ref t), (1, .int (nI a)), (2, .int (nI b))] := hl
  refine lv_aload_n hx hb dT_slope_0 rfl (lv_at hl 0 rfl) ?_
  refine lv_aload_n hx hb dT_slope_1 rfl (lv_at hl 0 rfl) ?_
  refine va_get (D := D) (ci := 4) (v := .ref (q 4)) (C := R_T) (T := F_T) (N := 9) hx hb ht i_T hown hK hP 0 rfl rfl 4 (by decide) (ht _ m_66) (fun _ h9 => h9) rfl dT_slope_2 ?_
  refine lv_iload_n hx hb dT_slope_5 rfl (lv_at hl 2 rfl) ?_
  refine gc_v (va_runV (As := [.ref (q 4), .int (nI b)]) (rest := []) ⟨hx, hb, hml, hown, ht⟩ (c_T_workOutSlopes_4 l D cI cJ cB cZ t q T f1 f2 f3 f4 b hT (by omega) H.size) (cwV 2 ht (gw_V m_397 m_399 ms_16 m_4 m_400) rfl rfl rfl (by decide +kernel) ⟨Nat.le_of_ble_eq_true rfl, Nat.le_of_ble_eq_true rfl⟩) (gp_V (ci := 4) (q0 := 0) hK hN (hP.sub (ws' := (wTr cI cJ t q T f1 f2 f3 f4)) [0, 1, 2, 3, 4, 5, 6, 7, 8] rfl) (hD.sub (ws' := (wTr cI cJ t q T f1 f2 f3 f4)) [0, 1, 2, 3, 4, 5, 6, 7, 8] (by decide) rfl) rfl rfl) rfl rfl hl.1 rfl (lv_room (Nat.le_of_ble_eq_true rfl)) dT_slope_6 ⟨Nat.le_of_ble_eq_true rfl, Nat.le_of_ble_eq_true rfl⟩) hP hD hS hA [0, 1, 2, 3, 4, 5, 6, 7, 8] rfl (by decide) (fun w h => by subst h; rfl) (fun w6 H locs p6 hP hD hS => ?_)
  subst p6
  have hP : va_P D vwCl [(t, .inr (4, [.ref (q 0), .ref (q 1), .ref (q 2), .ref (q 3), .ref (q 4), .ref (q 5), .ref (q 6), .ref (q 7), .int (nI T.2.2.2.2)])), ((q 0), .inl (cI, 64, .inl (fun z9 => nI (T.1 z9)))), ((q 1), .inl (cI, 64, .inl (fun z9 => nI (T.2.1 z9)))), ((q 2), .inl (cI, 64, .inl (fun z9 => nI (T.2.2.1 z9)))), ((q 3), .inl (cJ, 64, .inr (.inl T.2.2.2.1))), ((q 4), .inl (cJ, 64, .inr (.inl (tr_sl T b f1 T.2.2.2.2)))), ((q 5), .inl (cJ, 64, .inr (.inl f2))), ((q 6), .inl (cJ, 64, .inr (.inl f3))), ((q 7), .inl (cJ, 64, .inr (.inl f4)))] H := hP
  have hD : va_D A [(t, .inr (4, [.ref (q 0), .ref (q 1), .ref (q 2), .ref (q 3), .ref (q 4), .ref (q 5), .ref (q 6), .ref (q 7), .int (nI T.2.2.2.2)])), ((q 0), .inl (cI, 64, .inl (fun z9 => nI (T.1 z9)))), ((q 1), .inl (cI, 64, .inl (fun z9 => nI (T.2.1 z9)))), ((q 2), .inl (cI, 64, .inl (fun z9 => nI (T.2.2.1 z9)))), ((q 3), .inl (cJ, 64, .inr (.inl T.2.2.2.1))), ((q 4), .inl (cJ, 64, .inr (.inl (tr_sl T b f1 T.2.2.2.2)))), ((q 5), .inl (cJ, 64, .inr (.inl f2))), ((q 6), .inl (cJ, 64, .inr (.inl f3))), ((q 7), .inl (cJ, 64, .inr (.inl f4)))] := hD
  refine lv_aload_n hx hb dT_slope_9 rfl (lv_at hl 0 rfl) ?_
  refine va_get (D := D) (ci := 4) (v := .ref (q 4)) (C := R_T) (T := F_T) (N := 9) hx hb ht i_T hown hK hP 0 rfl rfl 4 (by decide) (ht _ m_66) (fun _ h9 => h9) rfl dT_slope_10 ?_
  refine lv_iload_n hx hb dT_slope_13 rfl (lv_at hl 1 rfl) ?_
  have i14 : vp_in (nI a) 64 := gx_in (rfl : (nI a) = (nI a)) (by omega) (by decide)
  have k14 : ((nI a) : Int32).toNatClampNeg = a := gx_cl (rfl : (nI a) = (nI a)) (by omega)
  refine va_lald hx hb hK hP 5 1 rfl rfl i14 dT_slope_14 ?_
  rw [k14]
  refine lv_topl (fun v14 e14 => ?_)
  exact W.lret (v := v14) hx hb hr (fun t9 ht9 hW => ⟨⟨v14, _, rfl, ⟨e14, rfl⟩, by rw [ht9]; exact hP, hD⟩, hS.F ht9⟩) hS.2.2 dT_slope_15

def gf_L (f : Nat → Int64) (x : Int64) (i : Nat) : Nat → Int64 := fun k => if k < i then x else f k
theorem gf_L_s (f : Nat → Int64) (x : Int64) (i : Nat) : vp_updL (gf_L f x i) i x = gf_L f x (i + 1) := by
  funext k; unfold vp_updL gf_L
  by_cases h : k = i
  · subst h; simp
  · by_cases h2 : k < i
    · simp [h, h2, show k < i + 1 by omega]
    · simp [h, h2, show ¬ k < i + 1 by omega]
def gf_N (K : Nat → Nat) (x lo i : Nat) : Nat → Nat := fun k => if lo ≤ k ∧ k < i then x else K k
theorem gf_N_0 (K : Nat → Nat) (x lo : Nat) : gf_N K x lo lo = K := by
  funext k; unfold gf_N; rw [if_neg (by omega)]
theorem gf_N_s (K : Nat → Nat) (x lo i : Nat) (h0 : lo ≤ i) : va_up (gf_N K x lo i) i x = gf_N K x lo (i + 1) := by
  funext k; unfold va_up gf_N
  by_cases h : k = i
  · subst h; simp [h0]
  · by_cases h2 : lo ≤ k ∧ k < i
    · simp [h, h2, show k < i + 1 by omega]
    · simp [h, h2, show ¬ (lo ≤ k ∧ k < i + 1) by omega]
set_option maxHeartbeats 4000000 in
set_option maxRecDepth 100000 in
theorem c_A_fillJ (l : Launch) (D : va_G) (cI cJ cB cZ : ClassId) (a N : Nat) (f : Nat → Int64) (x : Int64) (hN9 : N < 2 ^ 31) : ct_V l y_A_fillJ w_A_fillJ ({ frames := 0, cells := 0, slots := 0, locals := 0 }) D (gk_T cI cJ cB cZ) [.ref a, .long x] [(a, .inl (cJ, N, .inr (.inl f)))] (0) (0) (fun w => w = [(a, .inl (cJ, N, .inr (.inl (gf_L f x N))))]) := by
  intro sz
  refine Met.ofW (cc := b_A_fillJ) (maxL := 5) (ret := none) (by decide) rfl ?_
  intro p ev9 s m args below meth c s₁ B9 hml hv
  obtain ⟨rfl, hsz, hP, hK, hN, hD0⟩ := hv
  have hx := B9.exec
  have hb := B9.bytes
  have hr := B9.returns
  have hts := atoms_spec (ws := w_A_fillJ) B9.pre
  have ht : ∀ w ∈ gk_big, w.before _ s = true := fun w h => hts w (List.mem_cons_of_mem _ h)
  have hown : s.vm.findClass R_A = some m.cls := findClass_of_methodNamed B9.named
  have hlocks := B9.notSynchronized
  subst hsz
  have hD := hD0.self (sz := s.heap.size)
  generalize hAe : va_A [(a, .inl (cJ, N, .inr (.inl f)))] s.heap.size = A at hD ⊢
  have hA : ∀ q : Nat, s.heap.size ≤ q → A q := fun q h => by rw [← hAe]; exact Or.inr h
  generalize hHe : s.heap = H at hP ⊢
  have hS : va_S A s.heap H [] := by rw [← hHe]; exact va_S.rf
  have hP : va_P D vwCl [(a, .inl (cJ, N, .inr (.inl f)))] H := hP
  have hD : va_D A [(a, .inl (cJ, N, .inr (.inl f)))] := hD
  have hl := lv_entry ([.ref a, .long x]) (n := 5) (Nat.le_of_ble_eq_true rfl)
  rw [lg_entry_eq]
  generalize (lg_sl ([.ref a, .long x]) ++ List.replicate (5 - (lg_sl ([.ref a, .long x])).length) Slot.unset).toArray = ls at hl ⊢
  have hl : lv_has ls 5 [(0, .ref a), (1, .long x)] := hl
  refine lv_iconst (v := 0) hx hb dA_fillJ_0 (by decide) ?_
  refine lv_istore_n (lv' := [(3, .int 0), (0, .ref a), (1, .long x)]) hx hb dA_fillJ_1 rfl hl (by decide) rfl (fun ls hl => ?_)
  refine lv_aload_n hx hb dA_fillJ_2 rfl (lv_at hl 1 rfl) ?_
  refine va_alen hx hb hK hP 0 1 rfl rfl rfl dA_fillJ_3 ?_
  refine lv_istore (lv' := [(4, .int (nI N)), (3, .int 0), (0, .ref a), (1, .long x)]) hx hb dA_fillJ_4 hl (by decide) rfl (fun ls hl => ?_)
  have hz : f = gf_L f x 0 := by funext k; simp [gf_L]
  rw [hz] at hP hD
  have lp6 : ∀ (n6 : Nat) (i : Nat), N - i + 1 ≤ n6 → (i ≤ N) → ∀ (H : Heap) (locs : List Loc) (ls : Array Slot), va_P D vwCl [(a, .inl (cJ, N, .inr (.inl (gf_L f x i))))] H → va_D A [(a, .inl (cJ, N, .inr (.inl (gf_L f x i))))] → va_S A s.heap H locs → lv_has ls 5 [(3, .int (nI i)), (4, .int (nI N)), (0, .ref a), (1, .long x)] → W p l ev9 (headSpec w_A_fillJ ({ frames := 0, cells := 0, slots := 0, locals := 0 })).room s m ([.ref a, .long x] : List Value).toArray below meth c H locs 0 0 (MQ below (gq_V D A (fun w => w = [(a, .inl (cJ, N, .inr (.inl (gf_L f x N))))])) ([.ref a, .long x] : List Value).toArray s (0) (0) A) (F0 m 6 ls []) := by
    intro n6
    induction n6 with
    | zero =>
      intro i hm6
      exact absurd hm6 (by omega)
    | succ n6 ih6 =>
      intro i hm6 hi H locs ls hP hD hS hl
      refine lv_iload_n hx hb dA_fillJ_6 rfl (lv_at hl 0 rfl) ?_
      refine lv_iload hx hb dA_fillJ_7 (lv_at hl 1 rfl) ?_
      refine lv_icmp_ge (tgt := 22) hx hb dA_fillJ_9 (by decide) (fun c9 => ?_) (fun c9 => ?_)
      · have g9 : N ≤ i := (gx_le (rfl : (nI N) = (nI N)) (rfl : (nI i) = (nI i)) (by omega) (by omega)).mp c9
        have zi : i = N := by omega
        subst zi
        exact W.vret hx hb hr (fun t9 ht9 hW => ⟨⟨_, rfl, rfl, by rw [ht9]; exact hP, hD⟩, hS.F ht9⟩) hS.2.2 dA_fillJ_22
      · have g9 : ¬ (N ≤ i) := fun z => c9 ((gx_le (rfl : (nI N) = (nI N)) (rfl : (nI i) = (nI i)) (by omega) (by omega)).mpr z)
        refine lv_aload_n hx hb dA_fillJ_12 rfl (lv_at hl 2 rfl) ?_
        refine lv_iload_n hx hb dA_fillJ_13 rfl (lv_at hl 0 rfl) ?_
        refine lv_lload_n hx hb dA_fillJ_14 rfl (lv_at hl 3 rfl) ?_
        have i15 : vp_in (nI i) N := gx_in (rfl : (nI i) = (nI i)) (by omega) (by omega)
        have k15 : ((nI i) : Int32).toNatClampNeg = i := gx_cl (rfl : (nI i) = (nI i)) (by omega)
        refine va_last hx hb hK hP hD hS 0 1 rfl rfl i15 dA_fillJ_15 (fun H locs hP hD hS => ?_)
        rw [k15] at hP hD
        have hP : va_P D vwCl [(a, .inl (cJ, N, .inr (.inl (vp_updL (gf_L f x i) i x))))] H := hP
        have hD : va_D A [(a, .inl (cJ, N, .inr (.inl (vp_updL (gf_L f x i) i x))))] := hD
        rw [gf_L_s] at hP hD
        have hP : va_P D vwCl [(a, .inl (cJ, N, .inr (.inl (gf_L f x (i + 1)))))] H := hP
        have hD : va_D A [(a, .inl (cJ, N, .inr (.inl (gf_L f x (i + 1)))))] := hD
        refine lv_iinc (v := (nI (i + 1))) (lv' := [(3, .int (nI (i + 1))), (4, .int (nI N)), (0, .ref a), (1, .long x)]) hx hb dA_fillJ_16 hl (k := 0) rfl (gx_inc (rfl : (nI i) = (nI i))) (by decide) rfl (fun ls hl => ?_)
        refine lv_goto (tgt := 6) hx hb dA_fillJ_19 (by decide) ?_
        exact ih6 (i + 1) (by omega) (by omega) _ _ _ hP hD hS (lv_sub hl [0, 1, 2, 3] rfl)
  exact lp6 (N - (0) + 1) 0 (by omega) (by omega) _ _ _ hP hD hS (lv_sub hl [1, 0, 2, 3] rfl)

set_option maxHeartbeats 4000000 in
set_option maxRecDepth 100000 in
theorem c_A_fillI (l : Launch) (D : va_G) (cI cJ cB cZ : ClassId) (a N : Nat) (K : Nat → Nat) (x : Nat) (hN9 : N < 2 ^ 31) : ct_V l y_A_fillI w_A_fillI ({ frames := 0, cells := 0, slots := 0, locals := 0 }) D (gk_T cI cJ cB cZ) [.ref a, .int (nI x)] [(a, .inl (cI, N, .inl (fun z9 => nI (K z9))))] (0) (0) (fun w => w = [(a, .inl (cI, N, .inl (fun z9 => nI ((gf_N K x 0 N) z9))))]) := by
  intro sz
  refine Met.ofW (cc := b_A_fillI) (maxL := 4) (ret := none) (by decide) rfl ?_
  intro p ev9 s m args below meth c s₁ B9 hml hv
  obtain ⟨rfl, hsz, hP, hK, hN, hD0⟩ := hv
  have hx := B9.exec
  have hb := B9.bytes
  have hr := B9.returns
  have hts := atoms_spec (ws := w_A_fillI) B9.pre
  have ht : ∀ w ∈ gk_big, w.before _ s = true := fun w h => hts w (List.mem_cons_of_mem _ h)
  have hown : s.vm.findClass R_A = some m.cls := findClass_of_methodNamed B9.named
  have hlocks := B9.notSynchronized
  subst hsz
  have hD := hD0.self (sz := s.heap.size)
  generalize hAe : va_A [(a, .inl (cI, N, .inl (fun z9 => nI (K z9))))] s.heap.size = A at hD ⊢
  have hA : ∀ q : Nat, s.heap.size ≤ q → A q := fun q h => by rw [← hAe]; exact Or.inr h
  generalize hHe : s.heap = H at hP ⊢
  have hS : va_S A s.heap H [] := by rw [← hHe]; exact va_S.rf
  have hP : va_P D vwCl [(a, .inl (cI, N, .inl (fun z9 => nI (K z9))))] H := hP
  have hD : va_D A [(a, .inl (cI, N, .inl (fun z9 => nI (K z9))))] := hD
  have hl := lv_entry ([.ref a, .int (nI x)]) (n := 4) (Nat.le_of_ble_eq_true rfl)
  rw [lg_entry_eq]
  generalize (lg_sl ([.ref a, .int (nI x)]) ++ List.replicate (4 - (lg_sl ([.ref a, .int (nI x)])).length) Slot.unset).toArray = ls at hl ⊢
  have hl : lv_has ls 4 [(0, .ref a), (1, .int (nI x))] := hl
  refine lv_iconst (v := 0) hx hb dA_fillI_0 (by decide) ?_
  refine lv_istore_n (lv' := [(2, .int 0), (0, .ref a), (1, .int (nI x))]) hx hb dA_fillI_1 rfl hl (by decide) rfl (fun ls hl => ?_)
  refine lv_aload_n hx hb dA_fillI_2 rfl (lv_at hl 1 rfl) ?_
  refine va_alen hx hb hK hP 0 0 rfl rfl rfl dA_fillI_3 ?_
  refine lv_istore_n (lv' := [(3, .int (nI N)), (2, .int 0), (0, .ref a), (1, .int (nI x))]) hx hb dA_fillI_4 rfl hl (by decide) rfl (fun ls hl => ?_)
  have hz : K = gf_N K x 0 0 := (gf_N_0 K x 0).symm
  rw [hz] at hP hD
  have lp5 : ∀ (n5 : Nat) (j : Nat), N - j + 1 ≤ n5 → (j ≤ N) → ∀ (H : Heap) (locs : List Loc) (ls : Array Slot), va_P D vwCl [(a, .inl (cI, N, .inl (fun z9 => nI ((gf_N K x 0 j) z9))))] H → va_D A [(a, .inl (cI, N, .inl (fun z9 => nI ((gf_N K x 0 j) z9))))] → va_S A s.heap H locs → lv_has ls 4 [(2, .int (nI j)), (3, .int (nI N)), (0, .ref a), (1, .int (nI x))] → W p l ev9 (headSpec w_A_fillI ({ frames := 0, cells := 0, slots := 0, locals := 0 })).room s m ([.ref a, .int (nI x)] : List Value).toArray below meth c H locs 0 0 (MQ below (gq_V D A (fun w => w = [(a, .inl (cI, N, .inl (fun z9 => nI ((gf_N K x 0 N) z9))))])) ([.ref a, .int (nI x)] : List Value).toArray s (0) (0) A) (F0 m 5 ls []) := by
    intro n5
    induction n5 with
    | zero =>
      intro j hm5
      exact absurd hm5 (by omega)
    | succ n5 ih5 =>
      intro j hm5 hj H locs ls hP hD hS hl
      refine lv_iload_n hx hb dA_fillI_5 rfl (lv_at hl 0 rfl) ?_
      refine lv_iload_n hx hb dA_fillI_6 rfl (lv_at hl 1 rfl) ?_
      refine lv_icmp_ge (tgt := 20) hx hb dA_fillI_7 (by decide) (fun c7 => ?_) (fun c7 => ?_)
      · have g7 : N ≤ j := (gx_le (rfl : (nI N) = (nI N)) (rfl : (nI j) = (nI j)) (by omega) (by omega)).mp c7
        have zi : j = N := by omega
        subst zi
        exact W.vret hx hb hr (fun t9 ht9 hW => ⟨⟨_, rfl, rfl, by rw [ht9]; exact hP, hD⟩, hS.F ht9⟩) hS.2.2 dA_fillI_20
      · have g7 : ¬ (N ≤ j) := fun z => c7 ((gx_le (rfl : (nI N) = (nI N)) (rfl : (nI j) = (nI j)) (by omega) (by omega)).mpr z)
        refine lv_aload_n hx hb dA_fillI_10 rfl (lv_at hl 2 rfl) ?_
        refine lv_iload_n hx hb dA_fillI_11 rfl (lv_at hl 0 rfl) ?_
        refine lv_iload_n hx hb dA_fillI_12 rfl (lv_at hl 3 rfl) ?_
        have i13 : vp_in (nI j) N := gx_in (rfl : (nI j) = (nI j)) (by omega) (by omega)
        have k13 : ((nI j) : Int32).toNatClampNeg = j := gx_cl (rfl : (nI j) = (nI j)) (by omega)
        refine va_iast hx hb hK hP hD hS 0 0 rfl rfl i13 dA_fillI_13 (fun H locs hP hD hS => ?_)
        rw [k13] at hP hD
        have hP : va_P D vwCl [(a, .inl (cI, N, .inl (upd (fun z9 => nI ((gf_N K x 0 j) z9)) j (nI x))))] H := hP
        have hD : va_D A [(a, .inl (cI, N, .inl (upd (fun z9 => nI ((gf_N K x 0 j) z9)) j (nI x))))] := hD
        rw [gx_upd] at hP hD
        rw [gf_N_s K x 0 j (by omega)] at hP hD
        have hP : va_P D vwCl [(a, .inl (cI, N, .inl (fun z9 => nI ((gf_N K x 0 (j + 1)) z9))))] H := hP
        have hD : va_D A [(a, .inl (cI, N, .inl (fun z9 => nI ((gf_N K x 0 (j + 1)) z9))))] := hD
        refine lv_iinc (v := (nI (j + 1))) (lv' := [(2, .int (nI (j + 1))), (3, .int (nI N)), (0, .ref a), (1, .int (nI x))]) hx hb dA_fillI_14 hl (k := 0) rfl (gx_inc (rfl : (nI j) = (nI j))) (by decide) rfl (fun ls hl => ?_)
        refine lv_goto (tgt := 5) hx hb dA_fillI_17 (by decide) ?_
        exact ih5 (j + 1) (by omega) (by omega) _ _ _ hP hD hS (lv_sub hl [0, 1, 2, 3] rfl)
  exact lp5 (N - (0) + 1) 0 (by omega) (by omega) _ _ _ hP hD hS (lv_sub hl [1, 0, 2, 3] rfl)

set_option maxHeartbeats 4000000 in
set_option maxRecDepth 100000 in
theorem c_A_rangeCheck (l : Launch) (D : va_G) (cI cJ cB cZ : ClassId) (n lo hi : Nat) (hab : lo ≤ hi) (hbl : hi ≤ n) (hn9 : n < 2 ^ 31) : ct_V l y_A_rangeCheck w_A_rangeCheck ({ frames := 0, cells := 0, slots := 0, locals := 0 }) D (gk_T cI cJ cB cZ) [.int (nI n), .int (nI lo), .int (nI hi)] ([] : va_W) (0) (0) (fun w => w = []) := by
  intro sz
  refine Met.ofW (cc := b_A_rangeCheck) (maxL := 3) (ret := none) (by decide) rfl ?_
  intro p ev9 s m args below meth c s₁ B9 hml hv
  obtain ⟨rfl, hsz, hP, hK, hN, hD0⟩ := hv
  have hx := B9.exec
  have hb := B9.bytes
  have hr := B9.returns
  have hts := atoms_spec (ws := w_A_rangeCheck) B9.pre
  have ht : ∀ w ∈ gk_big, w.before _ s = true := fun w h => hts w (List.mem_cons_of_mem _ h)
  have hown : s.vm.findClass R_A = some m.cls := findClass_of_methodNamed B9.named
  have hlocks := B9.notSynchronized
  subst hsz
  have hD := hD0.self (sz := s.heap.size)
  generalize hAe : va_A ([] : va_W) s.heap.size = A at hD ⊢
  have hA : ∀ q : Nat, s.heap.size ≤ q → A q := fun q h => by rw [← hAe]; exact Or.inr h
  generalize hHe : s.heap = H at hP ⊢
  have hS : va_S A s.heap H [] := by rw [← hHe]; exact va_S.rf
  have hP : va_P D vwCl [] H := hP
  have hD : va_D A [] := hD
  have hl := lv_entry ([.int (nI n), .int (nI lo), .int (nI hi)]) (n := 3) (Nat.le_of_ble_eq_true rfl)
  rw [lg_entry_eq]
  generalize (lg_sl ([.int (nI n), .int (nI lo), .int (nI hi)]) ++ List.replicate (3 - (lg_sl ([.int (nI n), .int (nI lo), .int (nI hi)])).length) Slot.unset).toArray = ls at hl ⊢
  have hl : lv_has ls 3 [(0, .int (nI n)), (1, .int (nI lo)), (2, .int (nI hi))] := hl
  refine lv_iload_n hx hb dA_rangeCheck_0 rfl (lv_at hl 1 rfl) ?_
  refine lv_iload_n hx hb dA_rangeCheck_1 rfl (lv_at hl 2 rfl) ?_
  refine lv_icmp_le (tgt := 46) hx hb dA_rangeCheck_2 (by decide) (fun c2 => ?_) (fun c2 => ?_)
  · have g2 : lo ≤ hi := (gx_le (rfl : (nI lo) = (nI lo)) (rfl : (nI hi) = (nI hi)) (by omega) (by omega)).mp c2
    refine lv_iload_n hx hb dA_rangeCheck_46 rfl (lv_at hl 1 rfl) ?_
    refine lv_if_ge (tgt := 59) hx hb dA_rangeCheck_47 (by decide) (fun c47 => ?_) (fun c47 => ?_)
    · have g47 : 0 ≤ lo := (gx_le (rfl : (0 : Int32) = nI 0) (rfl : (nI lo) = (nI lo)) (by decide) (by omega)).mp c47
      refine lv_iload_n hx hb dA_rangeCheck_59 rfl (lv_at hl 2 rfl) ?_
      refine lv_iload_n hx hb dA_rangeCheck_60 rfl (lv_at hl 0 rfl) ?_
      refine lv_icmp_le (tgt := 73) hx hb dA_rangeCheck_61 (by decide) (fun c61 => ?_) (fun c61 => ?_)
      · have g61 : hi ≤ n := (gx_le (rfl : (nI hi) = (nI hi)) (rfl : (nI n) = (nI n)) (by omega) (by omega)).mp c61
        exact W.vret hx hb hr (fun t9 ht9 hW => ⟨⟨_, rfl, rfl, by rw [ht9]; exact hP, hD⟩, hS.F ht9⟩) hS.2.2 dA_rangeCheck_73
      · have g61 : ¬ (hi ≤ n) := fun z => c61 ((gx_le (rfl : (nI hi) = (nI hi)) (rfl : (nI n) = (nI n)) (by omega) (by omega)).mpr z)
        exact absurd hbl g61
    · have g47 : ¬ (0 ≤ lo) := fun z => c47 ((gx_le (rfl : (0 : Int32) = nI 0) (rfl : (nI lo) = (nI lo)) (by decide) (by omega)).mpr z)
      exact absurd (nI_pos' (by omega)) c47
  · have g2 : ¬ (lo ≤ hi) := fun z => c2 ((gx_le (rfl : (nI lo) = (nI lo)) (rfl : (nI hi) = (nI hi)) (by omega) (by omega)).mpr z)
    exact absurd hab g2

set_option maxHeartbeats 4000000 in
set_option maxRecDepth 100000 in
theorem c_A_fillR (l : Launch) (D : va_G) (cI cJ cB cZ : ClassId) (a N : Nat) (K : Nat → Nat) (lo hi x : Nat) (hN9 : N < 2 ^ 31) (hlo : lo ≤ hi) (hhi : hi ≤ N) : ct_V l y_A_fillR w_A_fillR ({ frames := 1, cells := 0, slots := 0, locals := 22 }) D (gk_T cI cJ cB cZ) [.ref a, .int (nI lo), .int (nI hi), .int (nI x)] [(a, .inl (cI, N, .inl (fun z9 => nI (K z9))))] (0) (0) (fun w => w = [(a, .inl (cI, N, .inl (fun z9 => nI ((gf_N K x lo hi) z9))))]) := by
  intro sz
  refine Met.ofW (cc := b_A_fillR) (maxL := 5) (ret := none) (by decide) rfl ?_
  intro p ev9 s m args below meth c s₁ B9 hml hv
  obtain ⟨rfl, hsz, hP, hK, hN, hD0⟩ := hv
  have hx := B9.exec
  have hb := B9.bytes
  have hr := B9.returns
  have hts := atoms_spec (ws := w_A_fillR) B9.pre
  have ht : ∀ w ∈ gk_big, w.before _ s = true := fun w h => hts w (List.mem_cons_of_mem _ h)
  have hown : s.vm.findClass R_A = some m.cls := findClass_of_methodNamed B9.named
  have hlocks := B9.notSynchronized
  subst hsz
  have hD := hD0.self (sz := s.heap.size)
  generalize hAe : va_A [(a, .inl (cI, N, .inl (fun z9 => nI (K z9))))] s.heap.size = A at hD ⊢
  have hA : ∀ q : Nat, s.heap.size ≤ q → A q := fun q h => by rw [← hAe]; exact Or.inr h
  generalize hHe : s.heap = H at hP ⊢
  have hS : va_S A s.heap H [] := by rw [← hHe]; exact va_S.rf
  have hP : va_P D vwCl [(a, .inl (cI, N, .inl (fun z9 => nI (K z9))))] H := hP
  have hD : va_D A [(a, .inl (cI, N, .inl (fun z9 => nI (K z9))))] := hD
  have hl := lv_entry ([.ref a, .int (nI lo), .int (nI hi), .int (nI x)]) (n := 5) (Nat.le_of_ble_eq_true rfl)
  rw [lg_entry_eq]
  generalize (lg_sl ([.ref a, .int (nI lo), .int (nI hi), .int (nI x)]) ++ List.replicate (5 - (lg_sl ([.ref a, .int (nI lo), .int (nI hi), .int (nI x)])).length) Slot.unset).toArray = ls at hl ⊢
  have hl : lv_has ls 5 [(0, .ref a), (1, .int (nI lo)), (2, .int (nI hi)), (3, .int (nI x))] := hl
  refine lv_aload_n hx hb dA_fillR_0 rfl (lv_at hl 0 rfl) ?_
  refine va_alen hx hb hK hP 0 0 rfl rfl rfl dA_fillR_1 ?_
  refine lv_iload_n hx hb dA_fillR_2 rfl (lv_at hl 1 rfl) ?_
  refine lv_iload_n hx hb dA_fillR_3 rfl (lv_at hl 2 rfl) ?_
  refine gc_v (va_runS (As := [.int (nI N), .int (nI lo), .int (nI hi)]) (rest := []) ⟨hx, hb, hml, hown, ht⟩ (c_A_rangeCheck l D cI cJ cB cZ N lo hi (by omega) (by omega) (by omega) H.size) (va_cwS 3 ht (gw_S m_326 m_327 m_9 m_328) rfl rfl rfl (by decide +kernel) ⟨Nat.le_of_ble_eq_true rfl, Nat.le_of_ble_eq_true rfl⟩) (gp_S hK hN (hP.sub (ws' := ([] : va_W)) [] rfl) (hD.sub (ws' := ([] : va_W)) [] (by decide) rfl)) rfl rfl hl.1 rfl (lv_room (Nat.le_of_ble_eq_true rfl)) dA_fillR_4 ⟨Nat.le_of_ble_eq_true rfl, Nat.le_of_ble_eq_true rfl⟩) hP hD hS hA [] rfl (by decide) (fun w h => by subst h; rfl) (fun w4 H locs p4 hP hD hS => ?_)
  subst p4
  have hP : va_P D vwCl [(a, .inl (cI, N, .inl (fun z9 => nI (K z9))))] H := hP
  have hD : va_D A [(a, .inl (cI, N, .inl (fun z9 => nI (K z9))))] := hD
  refine lv_iload_n hx hb dA_fillR_7 rfl (lv_at hl 1 rfl) ?_
  refine lv_istore (lv' := [(4, .int (nI lo)), (0, .ref a), (1, .int (nI lo)), (2, .int (nI hi)), (3, .int (nI x))]) hx hb dA_fillR_8 hl (by decide) rfl (fun ls hl => ?_)
  have hz : K = gf_N K x lo lo := (gf_N_0 K x lo).symm
  rw [hz] at hP hD
  have lp10 : ∀ (n10 : Nat) (j : Nat), hi - j + 1 ≤ n10 → (lo ≤ j ∧ j ≤ hi) → ∀ (H : Heap) (locs : List Loc) (ls : Array Slot), va_P D vwCl [(a, .inl (cI, N, .inl (fun z9 => nI ((gf_N K x lo j) z9))))] H → va_D A [(a, .inl (cI, N, .inl (fun z9 => nI ((gf_N K x lo j) z9))))] → va_S A s.heap H locs → lv_has ls 5 [(4, .int (nI j)), (0, .ref a), (1, .int (nI lo)), (2, .int (nI hi)), (3, .int (nI x))] → W p l ev9 (headSpec w_A_fillR ({ frames := 1, cells := 0, slots := 0, locals := 22 })).room s m ([.ref a, .int (nI lo), .int (nI hi), .int (nI x)] : List Value).toArray below meth c H locs 0 0 (MQ below (gq_V D A (fun w => w = [(a, .inl (cI, N, .inl (fun z9 => nI ((gf_N K x lo hi) z9))))])) ([.ref a, .int (nI lo), .int (nI hi), .int (nI x)] : List Value).toArray s (0) (0) A) (F0 m 10 ls []) := by
    intro n10
    induction n10 with
    | zero =>
      intro j hm10
      exact absurd hm10 (by omega)
    | succ n10 ih10 =>
      intro j hm10 hj H locs ls hP hD hS hl
      refine lv_iload hx hb dA_fillR_10 (lv_at hl 0 rfl) ?_
      refine lv_iload_n hx hb dA_fillR_12 rfl (lv_at hl 3 rfl) ?_
      refine lv_icmp_ge (tgt := 27) hx hb dA_fillR_13 (by decide) (fun c13 => ?_) (fun c13 => ?_)
      · have g13 : hi ≤ j := (gx_le (rfl : (nI hi) = (nI hi)) (rfl : (nI j) = (nI j)) (by omega) (by omega)).mp c13
        have zi : j = hi := by omega
        subst zi
        exact W.vret hx hb hr (fun t9 ht9 hW => ⟨⟨_, rfl, rfl, by rw [ht9]; exact hP, hD⟩, hS.F ht9⟩) hS.2.2 dA_fillR_27
      · have g13 : ¬ (hi ≤ j) := fun z => c13 ((gx_le (rfl : (nI hi) = (nI hi)) (rfl : (nI j) = (nI j)) (by omega) (by omega)).mpr z)
        refine lv_aload_n hx hb dA_fillR_16 rfl (lv_at hl 1 rfl) ?_
        refine lv_iload hx hb dA_fillR_17 (lv_at hl 0 rfl) ?_
        refine lv_iload_n hx hb dA_fillR_19 rfl (lv_at hl 4 rfl) ?_
        have i20 : vp_in (nI j) N := gx_in (rfl : (nI j) = (nI j)) (by omega) (by omega)
        have k20 : ((nI j) : Int32).toNatClampNeg = j := gx_cl (rfl : (nI j) = (nI j)) (by omega)
        refine va_iast hx hb hK hP hD hS 0 0 rfl rfl i20 dA_fillR_20 (fun H locs hP hD hS => ?_)
        rw [k20] at hP hD
        have hP : va_P D vwCl [(a, .inl (cI, N, .inl (upd (fun z9 => nI ((gf_N K x lo j) z9)) j (nI x))))] H := hP
        have hD : va_D A [(a, .inl (cI, N, .inl (upd (fun z9 => nI ((gf_N K x lo j) z9)) j (nI x))))] := hD
        rw [gx_upd] at hP hD
        rw [gf_N_s K x lo j (by omega)] at hP hD
        have hP : va_P D vwCl [(a, .inl (cI, N, .inl (fun z9 => nI ((gf_N K x lo (j + 1)) z9))))] H := hP
        have hD : va_D A [(a, .inl (cI, N, .inl (fun z9 => nI ((gf_N K x lo (j + 1)) z9))))] := hD
        refine lv_iinc (v := (nI (j + 1))) (lv' := [(4, .int (nI (j + 1))), (0, .ref a), (1, .int (nI lo)), (2, .int (nI hi)), (3, .int (nI x))]) hx hb dA_fillR_21 hl (k := 0) rfl (gx_inc (rfl : (nI j) = (nI j))) (by decide) rfl (fun ls hl => ?_)
        refine lv_goto (tgt := 10) hx hb dA_fillR_24 (by decide) ?_
        exact ih10 (j + 1) (by omega) (by omega) _ _ _ hP hD hS (lv_sub hl [0, 1, 2, 3, 4] rfl)
  exact lp10 (hi - (lo) + 1) lo (by omega) (by omega) _ _ _ hP hD hS (lv_sub hl [0, 1, 2, 3, 4] rfl)

