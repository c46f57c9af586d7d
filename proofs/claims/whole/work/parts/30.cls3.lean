/-- the charge for a statement -/
def ch_ok (C : Cs) (f t9 k : Nat) (b : Int32) : Prop := (k = 4 → cs_ok C f t9 (gf_N C.2.2.2.2 0 0 8)) ∧ (k ≤ 2 → cs_ok C f (t9 + t9 * kc_cost C (cn b) 8) (ka_out C (cn b) t9 (gf_N C.2.2.2.2 0 0 8) 8))
noncomputable def ch_C (C : Cs) (f t9 k : Nat) (b : Int32) : Cs := if k ≤ 2 then @ite _ (ch_ok C f t9 k b) (Classical.propDecidable _) (cs_put C f (t9 + t9 * kc_cost C (cn b) 8) (ka_out C (cn b) t9 (gf_N C.2.2.2.2 0 0 8) 8)) (cs_ad C (ka_out C (cn b) t9 (gf_N C.2.2.2.2 0 0 8) 8)) else if k = 4 then @ite _ (ch_ok C f t9 k b) (Classical.propDecidable _) (cs_put C f t9 (gf_N C.2.2.2.2 0 0 8)) (cs_ad C (gf_N C.2.2.2.2 0 0 8)) else C
def ch_bd (C : Cs) (f p : Nat) (a : Nat → Nat) : Prop := a f < 2 ^ 31 ∧ ∀ x, x < 8 → C.2.2.2.1 x < 2 ^ 31 ∧ C.2.2.1 (x * 8 + f) < 2 ^ 31 ∧ C.2.2.2.1 x + C.2.2.1 (x * 8 + f) * p < 2 ^ 62
/-- numbers stay small -/
def ch_sm (C : Cs) (f t9 k : Nat) (b : Int32) : Prop := t9 < 2 ^ 31 ∧ (k = 4 → ch_bd C f t9 (gf_N C.2.2.2.2 0 0 8)) ∧ (k ≤ 2 → kc_cost C (cn b) 8 < 2 ^ 31 ∧ ch_bd C f (t9 + t9 * kc_cost C (cn b) 8) (ka_out C (cn b) t9 (gf_N C.2.2.2.2 0 0 8) 8))
set_option maxHeartbeats 4000000 in
set_option maxRecDepth 100000 in
theorem c_C_chargeFor_x (l : Launch) (D : va_G) (cI cJ cB cZ : ClassId) (h g ko : Nat) (hq : Nat → Nat) (F : Nat) (kq : Nat → Nat) (C : Cs) (f k t9 : Nat) (b : Int32) (hk : k = 3 ∨ k = 5) (hf : f < 8) (hsm : ch_sm C f t9 k b) : ct_I l y_C_chargeFor w_C_chargeFor ({ frames := 2, cells := 0, slots := 0, locals := 53 }) D (gk_T cI cJ cB cZ) [.ref h, .int (nI f), .int (nI k), .int b, .int (nI t9)] [(h, .inr (5, [.ref g, .ref ko, .ref (hq 0), .ref (hq 1), .ref (hq 2), .ref (hq 3), .int (nI F)])), (ko, .inr (1, [.ref (kq 0), .ref (kq 1), .ref (kq 2), .ref (kq 3), .ref (kq 4)])), ((kq 0), .inl (cI, 80, .inl (fun z9 => nI (C.1 z9)))), ((kq 1), .inl (cI, 640, .inl (fun z9 => nI (C.2.1 z9)))), ((kq 2), .inl (cI, 64, .inl (fun z9 => nI (C.2.2.1 z9)))), ((kq 3), .inl (cI, 8, .inl (fun z9 => nI (C.2.2.2.1 z9)))), ((kq 4), .inl (cI, 8, .inl (fun z9 => nI (C.2.2.2.2 z9))))] (0) (0) (fun r w => r = gb (ch_ok C f t9 k b) ∧ w = [(h, .inr (5, [.ref g, .ref ko, .ref (hq 0), .ref (hq 1), .ref (hq 2), .ref (hq 3), .int (nI F)])), (ko, .inr (1, [.ref (kq 0), .ref (kq 1), .ref (kq 2), .ref (kq 3), .ref (kq 4)])), ((kq 0), .inl (cI, 80, .inl (fun z9 => nI (((ch_C C f t9 k b).1) z9)))), ((kq 1), .inl (cI, 640, .inl (fun z9 => nI (((ch_C C f t9 k b).2.1) z9)))), ((kq 2), .inl (cI, 64, .inl (fun z9 => nI (((ch_C C f t9 k b).2.2.1) z9)))), ((kq 3), .inl (cI, 8, .inl (fun z9 => nI (((ch_C C f t9 k b).2.2.2.1) z9)))), ((kq 4), .inl (cI, 8, .inl (fun z9 => nI (((ch_C C f t9 k b).2.2.2.2) z9))))]) := by
  intro sz
  refine Met.ofW (cc := b_C_chargeFor) (maxL := 5) (ret := (some .boolean)) (by decide) rfl ?_
  intro p ev9 s m args below meth c s₁ B9 hml hv
  obtain ⟨rfl, hsz, hP, hK, hN, hD0⟩ := hv
  have hx := B9.exec
  have hb := B9.bytes
  have hr := B9.returns
  have hts := atoms_spec (ws := w_C_chargeFor) B9.pre
  have ht : ∀ w ∈ gk_big, w.before _ s = true := fun w h => hts w (List.mem_cons_of_mem _ h)
  have hown : s.vm.findClass R_C = some m.cls := findClass_of_methodNamed B9.named
  have hlocks := B9.notSynchronized
  subst hsz
  have hD := hD0.self (sz := s.heap.size)
  generalize hAe : va_A [(h, .inr (5, [.ref g, .ref ko, .ref (hq 0), .ref (hq 1), .ref (hq 2), .ref (hq 3), .int (nI F)])), (ko, .inr (1, [.ref (kq 0), .ref (kq 1), .ref (kq 2), .ref (kq 3), .ref (kq 4)])), ((kq 0), .inl (cI, 80, .inl (fun z9 => nI (C.1 z9)))), ((kq 1), .inl (cI, 640, .inl (fun z9 => nI (C.2.1 z9)))), ((kq 2), .inl (cI, 64, .inl (fun z9 => nI (C.2.2.1 z9)))), ((kq 3), .inl (cI, 8, .inl (fun z9 => nI (C.2.2.2.1 z9)))), ((kq 4), .inl (cI, 8, .inl (fun z9 => nI (C.2.2.2.2 z9))))] s.heap.size = A at hD ⊢
  have hA : ∀ q : Nat, s.heap.size ≤ q → A q := fun q h => by rw [← hAe]; exact Or.inr h
  generalize hHe : s.heap = H at hP ⊢
  have hS : va_S A s.heap H [] := by rw [← hHe]; exact va_S.rf
  have hP : va_P D vwCl [(h, .inr (5, [.ref g, .ref ko, .ref (hq 0), .ref (hq 1), .ref (hq 2), .ref (hq 3), .int (nI F)])), (ko, .inr (1, [.ref (kq 0), .ref (kq 1), .ref (kq 2), .ref (kq 3), .ref (kq 4)])), ((kq 0), .inl (cI, 80, .inl (fun z9 => nI (C.1 z9)))), ((kq 1), .inl (cI, 640, .inl (fun z9 => nI (C.2.1 z9)))), ((kq 2), .inl (cI, 64, .inl (fun z9 => nI (C.2.2.1 z9)))), ((kq 3), .inl (cI, 8, .inl (fun z9 => nI (C.2.2.2.1 z9)))), ((kq 4), .inl (cI, 8, .inl (fun z9 => nI (C.2.2.2.2 z9))))] H := hP
  have hD : va_D A [(h, .inr (5, [.ref g, .ref ko, .ref (hq 0), .ref (hq 1), .ref (hq 2), .ref (hq 3), .int (nI F)])), (ko, .inr (1, [.ref (kq 0), .ref (kq 1), .ref (kq 2), .ref (kq 3), .ref (kq 4)])), ((kq 0), .inl (cI, 80, .inl (fun z9 => nI (C.1 z9)))), ((kq 1), .inl (cI, 640, .inl (fun z9 => nI (C.2.1 z9)))), ((kq 2), .inl (cI, 64, .inl (fun z9 => nI (C.2.2.1 z9)))), ((kq 3), .inl (cI, 8, .inl (fun z9 => nI (C.2.2.2.1 z9)))), ((kq 4), .inl (cI, 8, .inl (fun z9 => nI (C.2.2.2.2 z9))))] := hD
  have hl := lv_entry ([.ref h, .int (nI f), .int (nI k), .int b, .int (nI t9)]) (n := 5) (Nat.le_of_ble_eq_true rfl)
  rw [lg_entry_eq]
  generalize (lg_sl ([.ref h, .int (nI f), .int (nI k), .int b, .int (nI t9)]) ++ List.replicate (5 - (lg_sl ([.ref h, .int (nI f), .int (nI k), .int b, .int (nI t9)])).length) Slot.unset).toArray = ls at hl ⊢
  have hl : lv_has ls 5 [(0, .ref h), (1, .int (nI f)), (2, .int (nI k)), (3, .int b), (4, .int (nI t9))] := hl
  refine lv_iload_n hx hb dC_chargeFor_0 rfl (lv_at hl 2 rfl) ?_
  by_cases s1_0 : (nI k) = 3
  · have hs1 : k = 3 := (gx_eq (rfl : (nI k) = (nI k)) (rfl : (3 : Int32) = nI 3) (by omega) (by decide)).mp s1_0
    refine lv_tableIn (tgt := 28) hx hb dC_chargeFor_1 (by rw [s1_0]; decide) (by rw [s1_0]; decide) (by rw [s1_0] <;> rfl) (by decide) ?_
    refine lv_iconst (v := 1) hx hb dC_chargeFor_28 (by decide) ?_
    have hC : ch_C C f t9 k b = C := by unfold ch_C; rw [if_neg (by omega), if_neg (by omega)]
    have ho : ch_ok C f t9 k b := ⟨fun z => absurd z (by omega), fun z => absurd z (by omega)⟩
    exact W.zret (v := 1) hx hb hr (by decide) (fun t9 ht9 hW => ⟨⟨1, _, rfl, ⟨gb_t ho, by rw [hC]⟩, by rw [ht9]; exact hP, hD⟩, hS.F ht9⟩) hS.2.2 dC_chargeFor_29
  by_cases s1_1 : (nI k) = 4
  · exact absurd (show k = 4 from (gx_eq (rfl : (nI k) = (nI k)) (rfl : (4 : Int32) = nI 4) (by omega) (by decide)).mp s1_1) (by omega)
  by_cases s1_2 : (nI k) = 5
  · have hs1 : k = 5 := (gx_eq (rfl : (nI k) = (nI k)) (rfl : (5 : Int32) = nI 5) (by omega) (by decide)).mp s1_2
    refine lv_tableIn (tgt := 28) hx hb dC_chargeFor_1 (by rw [s1_2]; decide) (by rw [s1_2]; decide) (by rw [s1_2] <;> rfl) (by decide) ?_
    refine lv_iconst (v := 1) hx hb dC_chargeFor_28 (by decide) ?_
    have hC : ch_C C f t9 k b = C := by unfold ch_C; rw [if_neg (by omega), if_neg (by omega)]
    have ho : ch_ok C f t9 k b := ⟨fun z => absurd z (by omega), fun z => absurd z (by omega)⟩
    exact W.zret (v := 1) hx hb hr (by decide) (fun t9 ht9 hW => ⟨⟨1, _, rfl, ⟨gb_t ho, by rw [hC]⟩, by rw [ht9]; exact hP, hD⟩, hS.F ht9⟩) hS.2.2 dC_chargeFor_29
  have hn1_0 : ¬ k = 3 := fun z => s1_0 ((gx_eq (rfl : (nI k) = (nI k)) (rfl : (3 : Int32) = nI 3) (by omega) (by decide)).mpr z)
  have hn1_2 : ¬ k = 5 := fun z => s1_2 ((gx_eq (rfl : (nI k) = (nI k)) (rfl : (5 : Int32) = nI 5) (by omega) (by decide)).mpr z)
  exfalso; omega

set_option maxHeartbeats 4000000 in
set_option maxRecDepth 100000 in
theorem c_C_chargeFor_R (l : Launch) (D : va_G) (cI cJ cB cZ : ClassId) (h g ko : Nat) (hq : Nat → Nat) (F : Nat) (kq : Nat → Nat) (C : Cs) (f k t9 : Nat) (b : Int32) (hk : k = 4) (hf : f < 8) (hsm : ch_sm C f t9 k b) : ct_I l y_C_chargeFor w_C_chargeFor ({ frames := 2, cells := 0, slots := 0, locals := 53 }) D (gk_T cI cJ cB cZ) [.ref h, .int (nI f), .int (nI k), .int b, .int (nI t9)] [(h, .inr (5, [.ref g, .ref ko, .ref (hq 0), .ref (hq 1), .ref (hq 2), .ref (hq 3), .int (nI F)])), (ko, .inr (1, [.ref (kq 0), .ref (kq 1), .ref (kq 2), .ref (kq 3), .ref (kq 4)])), ((kq 0), .inl (cI, 80, .inl (fun z9 => nI (C.1 z9)))), ((kq 1), .inl (cI, 640, .inl (fun z9 => nI (C.2.1 z9)))), ((kq 2), .inl (cI, 64, .inl (fun z9 => nI (C.2.2.1 z9)))), ((kq 3), .inl (cI, 8, .inl (fun z9 => nI (C.2.2.2.1 z9)))), ((kq 4), .inl (cI, 8, .inl (fun z9 => nI (C.2.2.2.2 z9))))] (0) (0) (fun r w => r = gb (ch_ok C f t9 k b) ∧ w = [(h, .inr (5, [.ref g, .ref ko, .ref (hq 0), .ref (hq 1), .ref (hq 2), .ref (hq 3), .int (nI F)])), (ko, .inr (1, [.ref (kq 0), .ref (kq 1), .ref (kq 2), .ref (kq 3), .ref (kq 4)])), ((kq 0), .inl (cI, 80, .inl (fun z9 => nI (((ch_C C f t9 k b).1) z9)))), ((kq 1), .inl (cI, 640, .inl (fun z9 => nI (((ch_C C f t9 k b).2.1) z9)))), ((kq 2), .inl (cI, 64, .inl (fun z9 => nI (((ch_C C f t9 k b).2.2.1) z9)))), ((kq 3), .inl (cI, 8, .inl (fun z9 => nI (((ch_C C f t9 k b).2.2.2.1) z9)))), ((kq 4), .inl (cI, 8, .inl (fun z9 => nI (((ch_C C f t9 k b).2.2.2.2) z9))))]) := by
  intro sz
  refine Met.ofW (cc := b_C_chargeFor) (maxL := 5) (ret := (some .boolean)) (by decide) rfl ?_
  intro p ev9 s m args below meth c s₁ B9 hml hv
  obtain ⟨rfl, hsz, hP, hK, hN, hD0⟩ := hv
  have hx := B9.exec
  have hb := B9.bytes
  have hr := B9.returns
  have hts := atoms_spec (ws := w_C_chargeFor) B9.pre
  have ht : ∀ w ∈ gk_big, w.before _ s = true := fun w h => hts w (List.mem_cons_of_mem _ h)
  have hown : s.vm.findClass R_C = some m.cls := findClass_of_methodNamed B9.named
  have hlocks := B9.notSynchronized
  subst hsz
  have hD := hD0.self (sz := s.heap.size)
  generalize hAe : va_A [(h, .inr (5, [.ref g, .ref ko, .ref (hq 0), .ref (hq 1), .ref (hq 2), .ref (hq 3), .int (nI F)])), (ko, .inr (1, [.ref (kq 0), .ref (kq 1), .ref (kq 2), .ref (kq 3), .ref (kq 4)])), ((kq 0), .inl (cI, 80, .inl (fun z9 => nI (C.1 z9)))), ((kq 1), .inl (cI, 640, .inl (fun z9 => nI (C.2.1 z9)))), ((kq 2), .inl (cI, 64, .inl (fun z9 => nI (C.2.2.1 z9)))), ((kq 3), .inl (cI, 8, .inl (fun z9 => nI (C.2.2.2.1 z9)))), ((kq 4), .inl (cI, 8, .inl (fun z9 => nI (C.2.2.2.2 z9))))] s.heap.size = A at hD ⊢
  have hA : ∀ q : Nat, s.heap.size ≤ q → A q := fun q h => by rw [← hAe]; exact Or.inr h
  generalize hHe : s.heap = H at hP ⊢
  have hS : va_S A s.heap H [] := by rw [← hHe]; exact va_S.rf
  have hP : va_P D vwCl [(h, .inr (5, [.ref g, .ref ko, .ref (hq 0), .ref (hq 1), .ref (hq 2), .ref (hq 3), .int (nI F)])), (ko, .inr (1, [.ref (kq 0), .ref (kq 1), .ref (kq 2), .ref (kq 3), .ref (kq 4)])), ((kq 0), .inl (cI, 80, .inl (fun z9 => nI (C.1 z9)))), ((kq 1), .inl (cI, 640, .inl (fun z9 => nI (C.2.1 z9)))), ((kq 2), .inl (cI, 64, .inl (fun z9 => nI (C.2.2.1 z9)))), ((kq 3), .inl (cI, 8, .inl (fun z9 => nI (C.2.2.2.1 z9)))), ((kq 4), .inl (cI, 8, .inl (fun z9 => nI (C.2.2.2.2 z9))))] H := hP
  have hD : va_D A [(h, .inr (5, [.ref g, .ref ko, .ref (hq 0), .ref (hq 1), .ref (hq 2), .ref (hq 3), .int (nI F)])), (ko, .inr (1, [.ref (kq 0), .ref (kq 1), .ref (kq 2), .ref (kq 3), .ref (kq 4)])), ((kq 0), .inl (cI, 80, .inl (fun z9 => nI (C.1 z9)))), ((kq 1), .inl (cI, 640, .inl (fun z9 => nI (C.2.1 z9)))), ((kq 2), .inl (cI, 64, .inl (fun z9 => nI (C.2.2.1 z9)))), ((kq 3), .inl (cI, 8, .inl (fun z9 => nI (C.2.2.2.1 z9)))), ((kq 4), .inl (cI, 8, .inl (fun z9 => nI (C.2.2.2.2 z9))))] := hD
  have hl := lv_entry ([.ref h, .int (nI f), .int (nI k), .int b, .int (nI t9)]) (n := 5) (Nat.le_of_ble_eq_true rfl)
  rw [lg_entry_eq]
  generalize (lg_sl ([.ref h, .int (nI f), .int (nI k), .int b, .int (nI t9)]) ++ List.replicate (5 - (lg_sl ([.ref h, .int (nI f), .int (nI k), .int b, .int (nI t9)])).length) Slot.unset).toArray = ls at hl ⊢
  have hl : lv_has ls 5 [(0, .ref h), (1, .int (nI f)), (2, .int (nI k)), (3, .int b), (4, .int (nI t9))] := hl
  refine lv_iload_n hx hb dC_chargeFor_0 rfl (lv_at hl 2 rfl) ?_
  by_cases s1_0 : (nI k) = 3
  · exact absurd (show k = 3 from (gx_eq (rfl : (nI k) = (nI k)) (rfl : (3 : Int32) = nI 3) (by omega) (by decide)).mp s1_0) (by omega)
  by_cases s1_1 : (nI k) = 4
  · have hs1 : k = 4 := (gx_eq (rfl : (nI k) = (nI k)) (rfl : (4 : Int32) = nI 4) (by omega) (by decide)).mp s1_1
    refine lv_tableIn (tgt := 30) hx hb dC_chargeFor_1 (by rw [s1_1]; decide) (by rw [s1_1]; decide) (by rw [s1_1] <;> rfl) (by decide) ?_
    refine lv_aload_n hx hb dC_chargeFor_30 rfl (lv_at hl 0 rfl) ?_
    refine va_get (D := D) (ci := 5) (v := .ref ko) (C := R_C) (T := F_C) (N := 7) hx hb ht i_C hown hK hP 0 rfl rfl 1 (by decide) (ht _ m_131) (fun _ h9 => h9) rfl dC_chargeFor_31 ?_
    refine lv_iload_n hx hb dC_chargeFor_34 rfl (lv_at hl 1 rfl) ?_
    refine lv_iconst (v := (-1)) hx hb dC_chargeFor_35 (by decide) ?_
    refine lv_iload hx hb dC_chargeFor_36 (lv_at hl 4 rfl) ?_
    refine gc_i (va_runV (As := [.int (nI f), .int (-1), .int (nI t9)]) (rest := []) ⟨hx, hb, hml, hown, ht⟩ (c_K_charge_R l D cI cJ cB cZ ko kq C f t9 hf hsm.1 (hsm.2.1 hk).1 (hsm.2.1 hk).2 H.size) (cwV 3 ht (gw_V m_274 m_275 m_276 m_5 m_277) rfl rfl rfl (by decide +kernel) ⟨Nat.le_of_ble_eq_true rfl, Nat.le_of_ble_eq_true rfl⟩) (gp_V (ci := 1) (q0 := 0) hK hN (hP.sub (ws' := (wK cI ko kq C)) [1, 2, 3, 4, 5, 6] rfl) (hD.sub (ws' := (wK cI ko kq C)) [1, 2, 3, 4, 5, 6] (by decide) rfl) rfl rfl) rfl rfl hl.1 rfl (lv_room (Nat.le_of_ble_eq_true rfl)) dC_chargeFor_38 ⟨Nat.le_of_ble_eq_true rfl, Nat.le_of_ble_eq_true rfl⟩) hP hD hS hA [1, 2, 3, 4, 5, 6] rfl (by decide) (fun r w h => by obtain ⟨_, rfl, _⟩ := h; rfl) (fun r38 w38 H locs p38 hP hD hS => ?_)
    obtain ⟨C2, rfl, hres⟩ := p38
    have hP : va_P D vwCl [(h, .inr (5, [.ref g, .ref ko, .ref (hq 0), .ref (hq 1), .ref (hq 2), .ref (hq 3), .int (nI F)])), (ko, .inr (1, [.ref (kq 0), .ref (kq 1), .ref (kq 2), .ref (kq 3), .ref (kq 4)])), ((kq 0), .inl (cI, 80, .inl (fun z9 => nI (C2.1 z9)))), ((kq 1), .inl (cI, 640, .inl (fun z9 => nI (C2.2.1 z9)))), ((kq 2), .inl (cI, 64, .inl (fun z9 => nI (C2.2.2.1 z9)))), ((kq 3), .inl (cI, 8, .inl (fun z9 => nI (C2.2.2.2.1 z9)))), ((kq 4), .inl (cI, 8, .inl (fun z9 => nI (C2.2.2.2.2 z9))))] H := hP
    have hD : va_D A [(h, .inr (5, [.ref g, .ref ko, .ref (hq 0), .ref (hq 1), .ref (hq 2), .ref (hq 3), .int (nI F)])), (ko, .inr (1, [.ref (kq 0), .ref (kq 1), .ref (kq 2), .ref (kq 3), .ref (kq 4)])), ((kq 0), .inl (cI, 80, .inl (fun z9 => nI (C2.1 z9)))), ((kq 1), .inl (cI, 640, .inl (fun z9 => nI (C2.2.1 z9)))), ((kq 2), .inl (cI, 64, .inl (fun z9 => nI (C2.2.2.1 z9)))), ((kq 3), .inl (cI, 8, .inl (fun z9 => nI (C2.2.2.2.1 z9)))), ((kq 4), .inl (cI, 8, .inl (fun z9 => nI (C2.2.2.2.2 z9))))] := hD
    have hio : ch_ok C f t9 k b ↔ cs_ok C f t9 (gf_N C.2.2.2.2 0 0 8) := ⟨fun z => z.1 hk, fun z => ⟨fun _ => z, fun y => absurd y (by omega)⟩⟩
    by_cases ho : ch_ok C f t9 k b
    · obtain ⟨hr9, hC9⟩ := hres.1 (hio.mp ho)
      have hC : ch_C C f t9 k b = C2 := by unfold ch_C; rw [if_neg (show ¬ k ≤ 2 by omega), if_pos hk]; rw [if_pos ho, hC9]
      subst hr9
      exact W.zret (v := 1) hx hb hr (by decide) (fun t9 ht9 hW => ⟨⟨1, _, rfl, ⟨gb_t ho, by rw [hC]⟩, by rw [ht9]; exact hP, hD⟩, hS.F ht9⟩) hS.2.2 dC_chargeFor_41
    · obtain ⟨hr9, hC9⟩ := hres.2 (fun z => ho (hio.mpr z))
      have hC : ch_C C f t9 k b = C2 := by unfold ch_C; rw [if_neg (show ¬ k ≤ 2 by omega), if_pos hk]; rw [if_neg ho, hC9]
      subst hr9
      exact W.zret (v := 0) hx hb hr (by decide) (fun t9 ht9 hW => ⟨⟨0, _, rfl, ⟨gb_f ho, by rw [hC]⟩, by rw [ht9]; exact hP, hD⟩, hS.F ht9⟩) hS.2.2 dC_chargeFor_41
  by_cases s1_2 : (nI k) = 5
  · exact absurd (show k = 5 from (gx_eq (rfl : (nI k) = (nI k)) (rfl : (5 : Int32) = nI 5) (by omega) (by decide)).mp s1_2) (by omega)
  have hn1_1 : ¬ k = 4 := fun z => s1_1 ((gx_eq (rfl : (nI k) = (nI k)) (rfl : (4 : Int32) = nI 4) (by omega) (by decide)).mpr z)
  exfalso; omega

set_option maxHeartbeats 4000000 in
set_option maxRecDepth 100000 in
theorem c_C_chargeFor_E (l : Launch) (D : va_G) (cI cJ cB cZ : ClassId) (h g ko : Nat) (hq : Nat → Nat) (F : Nat) (kq : Nat → Nat) (C : Cs) (f k t9 : Nat) (e : Nat) (hk : k ≤ 2) (hf : f < 8) (hsm : ch_sm C f t9 k (nI e)) (he : e < 80) : ct_I l y_C_chargeFor w_C_chargeFor ({ frames := 2, cells := 0, slots := 0, locals := 53 }) D (gk_T cI cJ cB cZ) [.ref h, .int (nI f), .int (nI k), .int (nI e), .int (nI t9)] [(h, .inr (5, [.ref g, .ref ko, .ref (hq 0), .ref (hq 1), .ref (hq 2), .ref (hq 3), .int (nI F)])), (ko, .inr (1, [.ref (kq 0), .ref (kq 1), .ref (kq 2), .ref (kq 3), .ref (kq 4)])), ((kq 0), .inl (cI, 80, .inl (fun z9 => nI (C.1 z9)))), ((kq 1), .inl (cI, 640, .inl (fun z9 => nI (C.2.1 z9)))), ((kq 2), .inl (cI, 64, .inl (fun z9 => nI (C.2.2.1 z9)))), ((kq 3), .inl (cI, 8, .inl (fun z9 => nI (C.2.2.2.1 z9)))), ((kq 4), .inl (cI, 8, .inl (fun z9 => nI (C.2.2.2.2 z9))))] (0) (0) (fun r w => r = gb (ch_ok C f t9 k (nI e)) ∧ w = [(h, .inr (5, [.ref g, .ref ko, .ref (hq 0), .ref (hq 1), .ref (hq 2), .ref (hq 3), .int (nI F)])), (ko, .inr (1, [.ref (kq 0), .ref (kq 1), .ref (kq 2), .ref (kq 3), .ref (kq 4)])), ((kq 0), .inl (cI, 80, .inl (fun z9 => nI (((ch_C C f t9 k (nI e)).1) z9)))), ((kq 1), .inl (cI, 640, .inl (fun z9 => nI (((ch_C C f t9 k (nI e)).2.1) z9)))), ((kq 2), .inl (cI, 64, .inl (fun z9 => nI (((ch_C C f t9 k (nI e)).2.2.1) z9)))), ((kq 3), .inl (cI, 8, .inl (fun z9 => nI (((ch_C C f t9 k (nI e)).2.2.2.1) z9)))), ((kq 4), .inl (cI, 8, .inl (fun z9 => nI (((ch_C C f t9 k (nI e)).2.2.2.2) z9))))]) := by
  intro sz
  refine Met.ofW (cc := b_C_chargeFor) (maxL := 5) (ret := (some .boolean)) (by decide) rfl ?_
  intro p ev9 s m args below meth c s₁ B9 hml hv
  obtain ⟨rfl, hsz, hP, hK, hN, hD0⟩ := hv
  have hx := B9.exec
  have hb := B9.bytes
  have hr := B9.returns
  have hts := atoms_spec (ws := w_C_chargeFor) B9.pre
  have ht : ∀ w ∈ gk_big, w.before _ s = true := fun w h => hts w (List.mem_cons_of_mem _ h)
  have hown : s.vm.findClass R_C = some m.cls := findClass_of_methodNamed B9.named
  have hlocks := B9.notSynchronized
  subst hsz
  have hD := hD0.self (sz := s.heap.size)
  generalize hAe : va_A [(h, .inr (5, [.ref g, .ref ko, .ref (hq 0), .ref (hq 1), .ref (hq 2), .ref (hq 3), .int (nI F)])), (ko, .inr (1, [.ref (kq 0), .ref (kq 1), .ref (kq 2), .ref (kq 3), .ref (kq 4)])), ((kq 0), .inl (cI, 80, .inl (fun z9 => nI (C.1 z9)))), ((kq 1), .inl (cI, 640, .inl (fun z9 => nI (C.2.1 z9)))), ((kq 2), .inl (cI, 64, .inl (fun z9 => nI (C.2.2.1 z9)))), ((kq 3), .inl (cI, 8, .inl (fun z9 => nI (C.2.2.2.1 z9)))), ((kq 4), .inl (cI, 8, .inl (fun z9 => nI (C.2.2.2.2 z9))))] s.heap.size = A at hD ⊢
  have hA : ∀ q : Nat, s.heap.size ≤ q → A q := fun q h => by rw [← hAe]; exact Or.inr h
  generalize hHe : s.heap = H at hP ⊢
  have hS : va_S A s.heap H [] := by rw [← hHe]; exact va_S.rf
  have hP : va_P D vwCl [(h, .inr (5, [.ref g, .ref ko, .ref (hq 0), .ref (hq 1), .ref (hq 2), .ref (hq 3), .int (nI F)])), (ko, .inr (1, [.ref (kq 0), .ref (kq 1), .ref (kq 2), .ref (kq 3), .ref (kq 4)])), ((kq 0), .inl (cI, 80, .inl (fun z9 => nI (C.1 z9)))), ((kq 1), .inl (cI, 640, .inl (fun z9 => nI (C.2.1 z9)))), ((kq 2), .inl (cI, 64, .inl (fun z9 => nI (C.2.2.1 z9)))), ((kq 3), .inl (cI, 8, .inl (fun z9 => nI (C.2.2.2.1 z9)))), ((kq 4), .inl (cI, 8, .inl (fun z9 => nI (C.2.2.2.2 z9))))] H := hP
  have hD : va_D A [(h, .inr (5, [.ref g, .ref ko, .ref (hq 0), .ref (hq 1), .ref (hq 2), .ref (hq 3), .int (nI F)])), (ko, .inr (1, [.ref (kq 0), .ref (kq 1), .ref (kq 2), .ref (kq 3), .ref (kq 4)])), ((kq 0), .inl (cI, 80, .inl (fun z9 => nI (C.1 z9)))), ((kq 1), .inl (cI, 640, .inl (fun z9 => nI (C.2.1 z9)))), ((kq 2), .inl (cI, 64, .inl (fun z9 => nI (C.2.2.1 z9)))), ((kq 3), .inl (cI, 8, .inl (fun z9 => nI (C.2.2.2.1 z9)))), ((kq 4), .inl (cI, 8, .inl (fun z9 => nI (C.2.2.2.2 z9))))] := hD
  have hl := lv_entry ([.ref h, .int (nI f), .int (nI k), .int (nI e), .int (nI t9)]) (n := 5) (Nat.le_of_ble_eq_true rfl)
  rw [lg_entry_eq]
  generalize (lg_sl ([.ref h, .int (nI f), .int (nI k), .int (nI e), .int (nI t9)]) ++ List.replicate (5 - (lg_sl ([.ref h, .int (nI f), .int (nI k), .int (nI e), .int (nI t9)])).length) Slot.unset).toArray = ls at hl ⊢
  have hl : lv_has ls 5 [(0, .ref h), (1, .int (nI f)), (2, .int (nI k)), (3, .int (nI e)), (4, .int (nI t9))] := hl
  have hsm0 := hsm
  unfold ch_sm at hsm
  rw [cn_nI (show e < 2 ^ 31 by omega)] at hsm
  refine lv_iload_n hx hb dC_chargeFor_0 rfl (lv_at hl 2 rfl) ?_
  by_cases s1_0 : (nI k) = 3
  · exact absurd (show k = 3 from (gx_eq (rfl : (nI k) = (nI k)) (rfl : (3 : Int32) = nI 3) (by omega) (by decide)).mp s1_0) (by omega)
  by_cases s1_1 : (nI k) = 4
  · exact absurd (show k = 4 from (gx_eq (rfl : (nI k) = (nI k)) (rfl : (4 : Int32) = nI 4) (by omega) (by decide)).mp s1_1) (by omega)
  by_cases s1_2 : (nI k) = 5
  · exact absurd (show k = 5 from (gx_eq (rfl : (nI k) = (nI k)) (rfl : (5 : Int32) = nI 5) (by omega) (by decide)).mp s1_2) (by omega)
  have o1 : ((nI k) : Int32).toInt < 3 ∨ 5 < ((nI k) : Int32).toInt := gx_out (by intro k h1 h2 h3; have hk : k = 3 ∨ k = 4 ∨ k = 5 := (by omega); rcases hk with rfl | rfl | rfl; exact s1_0 (Int32.toInt_inj.mp (by rw [h3]; rfl)); exact s1_1 (Int32.toInt_inj.mp (by rw [h3]; rfl)); exact s1_2 (Int32.toInt_inj.mp (by rw [h3]; rfl)))
  refine lv_tableOut (tgt := 42) hx hb dC_chargeFor_1 o1 (by decide) ?_
  refine lv_aload_n hx hb dC_chargeFor_42 rfl (lv_at hl 0 rfl) ?_
  refine va_get (D := D) (ci := 5) (v := .ref ko) (C := R_C) (T := F_C) (N := 7) hx hb ht i_C hown hK hP 0 rfl rfl 1 (by decide) (ht _ m_131) (fun _ h9 => h9) rfl dC_chargeFor_43 ?_
  refine lv_iload_n hx hb dC_chargeFor_46 rfl (lv_at hl 1 rfl) ?_
  refine lv_iload_n hx hb dC_chargeFor_47 rfl (lv_at hl 3 rfl) ?_
  refine lv_iload hx hb dC_chargeFor_48 (lv_at hl 4 rfl) ?_
  refine gc_i (va_runV (As := [.int (nI f), .int (nI e), .int (nI t9)]) (rest := []) ⟨hx, hb, hml, hown, ht⟩ (c_K_charge_E l D cI cJ cB cZ ko kq C f t9 e hf hsm.1 (hsm.2.2 hk).2.1 he (hsm.2.2 hk).1 (hsm.2.2 hk).2.2 H.size) (cwV 3 ht (gw_V m_274 m_275 m_276 m_5 m_277) rfl rfl rfl (by decide +kernel) ⟨Nat.le_of_ble_eq_true rfl, Nat.le_of_ble_eq_true rfl⟩) (gp_V (ci := 1) (q0 := 0) hK hN (hP.sub (ws' := (wK cI ko kq C)) [1, 2, 3, 4, 5, 6] rfl) (hD.sub (ws' := (wK cI ko kq C)) [1, 2, 3, 4, 5, 6] (by decide) rfl) rfl rfl) rfl rfl hl.1 rfl (lv_room (Nat.le_of_ble_eq_true rfl)) dC_chargeFor_50 ⟨Nat.le_of_ble_eq_true rfl, Nat.le_of_ble_eq_true rfl⟩) hP hD hS hA [1, 2, 3, 4, 5, 6] rfl (by decide) (fun r w h => by obtain ⟨_, rfl, _⟩ := h; rfl) (fun r50 w50 H locs p50 hP hD hS => ?_)
  obtain ⟨C2, rfl, hres⟩ := p50
  have hP : va_P D vwCl [(h, .inr (5, [.ref g, .ref ko, .ref (hq 0), .ref (hq 1), .ref (hq 2), .ref (hq 3), .int (nI F)])), (ko, .inr (1, [.ref (kq 0), .ref (kq 1), .ref (kq 2), .ref (kq 3), .ref (kq 4)])), ((kq 0), .inl (cI, 80, .inl (fun z9 => nI (C2.1 z9)))), ((kq 1), .inl (cI, 640, .inl (fun z9 => nI (C2.2.1 z9)))), ((kq 2), .inl (cI, 64, .inl (fun z9 => nI (C2.2.2.1 z9)))), ((kq 3), .inl (cI, 8, .inl (fun z9 => nI (C2.2.2.2.1 z9)))), ((kq 4), .inl (cI, 8, .inl (fun z9 => nI (C2.2.2.2.2 z9))))] H := hP
  have hD : va_D A [(h, .inr (5, [.ref g, .ref ko, .ref (hq 0), .ref (hq 1), .ref (hq 2), .ref (hq 3), .int (nI F)])), (ko, .inr (1, [.ref (kq 0), .ref (kq 1), .ref (kq 2), .ref (kq 3), .ref (kq 4)])), ((kq 0), .inl (cI, 80, .inl (fun z9 => nI (C2.1 z9)))), ((kq 1), .inl (cI, 640, .inl (fun z9 => nI (C2.2.1 z9)))), ((kq 2), .inl (cI, 64, .inl (fun z9 => nI (C2.2.2.1 z9)))), ((kq 3), .inl (cI, 8, .inl (fun z9 => nI (C2.2.2.2.1 z9)))), ((kq 4), .inl (cI, 8, .inl (fun z9 => nI (C2.2.2.2.2 z9))))] := hD
  have hio : ch_ok C f t9 k (nI e) ↔ cs_ok C f (t9 + t9 * kc_cost C e 8) (ka_out C e t9 (gf_N C.2.2.2.2 0 0 8) 8) := ⟨fun z => by have := z.2 hk; rw [cn_nI (by omega)] at this; exact this, fun z => ⟨fun y => absurd y (by omega), fun _ => by rw [cn_nI (by omega)]; exact z⟩⟩
  by_cases ho : ch_ok C f t9 k (nI e)
  · obtain ⟨hr9, hC9⟩ := hres.1 (hio.mp ho)
    have hC : ch_C C f t9 k (nI e) = C2 := by unfold ch_C; rw [if_pos hk]; rw [if_pos ho, hC9]; rw [cn_nI (by omega)]
    subst hr9
    exact W.zret (v := 1) hx hb hr (by decide) (fun t9 ht9 hW => ⟨⟨1, _, rfl, ⟨gb_t ho, by rw [hC]⟩, by rw [ht9]; exact hP, hD⟩, hS.F ht9⟩) hS.2.2 dC_chargeFor_53
  · obtain ⟨hr9, hC9⟩ := hres.2 (fun z => ho (hio.mpr z))
    have hC : ch_C C f t9 k (nI e) = C2 := by unfold ch_C; rw [if_pos hk]; rw [if_neg ho, hC9]; rw [cn_nI (by omega)]
    subst hr9
    exact W.zret (v := 0) hx hb hr (by decide) (fun t9 ht9 hW => ⟨⟨0, _, rfl, ⟨gb_f ho, by rw [hC]⟩, by rw [ht9]; exact hP, hD⟩, hS.F ht9⟩) hS.2.2 dC_chargeFor_53

theorem c_C_chargeFor (l : Launch) (D : va_G) (cI cJ cB cZ : ClassId) (h g ko : Nat) (hq : Nat → Nat) (F : Nat) (kq : Nat → Nat) (C : Cs) (f k t9 : Nat) (b : Int32) (hk : k ≤ 5) (hf : f < 8) (hsm : ch_sm C f t9 k b) (hb : k ≤ 2 → ∃ e, e < 80 ∧ b = nI e) : ct_I l y_C_chargeFor w_C_chargeFor ({ frames := 2, cells := 0, slots := 0, locals := 53 }) D (gk_T cI cJ cB cZ) [.ref h, .int (nI f), .int (nI k), .int b, .int (nI t9)] [(h, .inr (5, [.ref g, .ref ko, .ref (hq 0), .ref (hq 1), .ref (hq 2), .ref (hq 3), .int (nI F)])), (ko, .inr (1, [.ref (kq 0), .ref (kq 1), .ref (kq 2), .ref (kq 3), .ref (kq 4)])), ((kq 0), .inl (cI, 80, .inl (fun z9 => nI (C.1 z9)))), ((kq 1), .inl (cI, 640, .inl (fun z9 => nI (C.2.1 z9)))), ((kq 2), .inl (cI, 64, .inl (fun z9 => nI (C.2.2.1 z9)))), ((kq 3), .inl (cI, 8, .inl (fun z9 => nI (C.2.2.2.1 z9)))), ((kq 4), .inl (cI, 8, .inl (fun z9 => nI (C.2.2.2.2 z9))))] 0 0 (fun r w => r = gb (ch_ok C f t9 k b) ∧ w = [(h, .inr (5, [.ref g, .ref ko, .ref (hq 0), .ref (hq 1), .ref (hq 2), .ref (hq 3), .int (nI F)])), (ko, .inr (1, [.ref (kq 0), .ref (kq 1), .ref (kq 2), .ref (kq 3), .ref (kq 4)])), ((kq 0), .inl (cI, 80, .inl (fun z9 => nI (((ch_C C f t9 k b).1) z9)))), ((kq 1), .inl (cI, 640, .inl (fun z9 => nI (((ch_C C f t9 k b).2.1) z9)))), ((kq 2), .inl (cI, 64, .inl (fun z9 => nI (((ch_C C f t9 k b).2.2.1) z9)))), ((kq 3), .inl (cI, 8, .inl (fun z9 => nI (((ch_C C f t9 k b).2.2.2.1) z9)))), ((kq 4), .inl (cI, 8, .inl (fun z9 => nI (((ch_C C f t9 k b).2.2.2.2) z9))))]) := by
  by_cases h2 : k ≤ 2
  · obtain ⟨e, he, rfl⟩ := hb h2
    exact c_C_chargeFor_E l D cI cJ cB cZ h g ko hq F kq C f k t9 e h2 hf hsm he
  · by_cases h4 : k = 4
    · exact c_C_chargeFor_R l D cI cJ cB cZ h g ko hq F kq C f k t9 b h4 hf hsm
    · exact c_C_chargeFor_x l D cI cJ cB cZ h g ko hq F kq C f k t9 b (by omega) hf hsm
