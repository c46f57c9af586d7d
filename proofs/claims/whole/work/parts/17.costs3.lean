def kf_up (K : Nat → Nat) (n : Nat) (F : Nat → Nat) (i : Nat) : Nat → Nat := fun x => if n * 8 ≤ x ∧ x < n * 8 + i then F (x - n * 8) else K x
theorem kf_up_0 (K : Nat → Nat) (n : Nat) (F : Nat → Nat) : kf_up K n F 0 = K := by funext x; unfold kf_up; rw [if_neg (by omega)]
theorem kf_up_s (K : Nat → Nat) (n : Nat) (F : Nat → Nat) (i : Nat) : va_up (kf_up K n F i) (n * 8 + i) (F i) = kf_up K n F (i + 1) := by
  funext x; unfold va_up kf_up
  by_cases h : x = n * 8 + i
  · subst h; rw [if_pos rfl, if_pos (by omega), show n * 8 + i - n * 8 = i by omega]
  · rw [if_neg h]
    by_cases h2 : n * 8 ≤ x ∧ x < n * 8 + i
    · rw [if_pos h2, if_pos (by omega)]
    · rw [if_neg h2, if_neg (by omega)]
theorem kf_up_r (K : Nat → Nat) (n : Nat) (F : Nat → Nat) (i a j : Nat) (ha : a < n) (hj : j < 8) : kf_up K n F i (a * 8 + j) = K (a * 8 + j) := by
  unfold kf_up; rw [if_neg (by omega)]
/-- an expression's costs: fac times (pa; na by function), and hr -/
def cs_exp (C : Cs) (n fac pa : Nat) (na hr : Nat → Nat) : Cs := (va_up C.1 n (min 1000 (1 + fac * pa)), kf_up C.2.1 n (fun i => min 1000 (fac * na i + hr i)) 8, C.2.2.1, C.2.2.2.1, C.2.2.2.2)
theorem gk_left {k : Nat} (h : k ≤ 11) : gb (2 ≤ nI k ∧ nI k ≤ 11) = gb (2 ≤ k) := gb_e (by
  have e1 : (2 : Int32) ≤ nI k ↔ 2 ≤ k := gx_le rfl rfl (by decide) (by omega)
  have e2 : nI k ≤ (11 : Int32) ↔ k ≤ 11 := gx_le rfl rfl (by omega) (by decide)
  rw [e1, e2]; omega)
theorem gk_right {k : Nat} (h : k ≤ 11) : gb (nI k = 2 ∨ nI k = 3 ∨ nI k = 4 ∨ nI k = 8 ∨ nI k = 9 ∨ nI k = 11) = gb (k = 2 ∨ k = 3 ∨ k = 4 ∨ k = 8 ∨ k = 9 ∨ k = 11) := gb_e (by
  have e2 : nI k = (2 : Int32) ↔ k = 2 := gx_eq rfl rfl (by omega) (by decide)
  have e3 : nI k = (3 : Int32) ↔ k = 3 := gx_eq rfl rfl (by omega) (by decide)
  have e4 : nI k = (4 : Int32) ↔ k = 4 := gx_eq rfl rfl (by omega) (by decide)
  have e8 : nI k = (8 : Int32) ↔ k = 8 := gx_eq rfl rfl (by omega) (by decide)
  have e9 : nI k = (9 : Int32) ↔ k = 9 := gx_eq rfl rfl (by omega) (by decide)
  have e11 : nI k = (11 : Int32) ↔ k = 11 := gx_eq rfl rfl (by omega) (by decide)
  rw [e2, e3, e4, e8, e9, e11])
set_option maxHeartbeats 4000000 in
set_option maxRecDepth 100000 in
theorem c_K_factorOf_n (l : Launch) (D : va_G) (cI cJ cB cZ : ClassId) (k : Nat) (b : Int32) (hk : k ≤ 11) (h6 : ¬ k = 6) : ct_I l y_K_factorOf w_K_factorOf ({ frames := 1, cells := 0, slots := 0, locals := 30 }) D (gk_T cI cJ cB cZ) [.int (nI k), .int b] ([] : va_W) (0) (0) (fun r w => r = nI (if 7 ≤ k ∧ k ≤ 9 then 2 else 1) ∧ w = []) := by
  intro sz
  refine Met.ofW (cc := b_K_factorOf) (maxL := 2) (ret := (some .int)) (by decide) rfl ?_
  intro p ev9 s m args below meth c s₁ B9 hml hv
  obtain ⟨rfl, hsz, hP, hK, hN, hD0⟩ := hv
  have hx := B9.exec
  have hb := B9.bytes
  have hr := B9.returns
  have hts := atoms_spec (ws := w_K_factorOf) B9.pre
  have ht : ∀ w ∈ gk_big, w.before _ s = true := fun w h => hts w (List.mem_cons_of_mem _ h)
  have hown : s.vm.findClass R_K = some m.cls := findClass_of_methodNamed B9.named
  have hlocks := B9.notSynchronized
  subst hsz
  have hD := hD0.self (sz := s.heap.size)
  generalize hAe : va_A ([] : va_W) s.heap.size = A at hD ⊢
  have hA : ∀ q : Nat, s.heap.size ≤ q → A q := fun q h => by rw [← hAe]; exact Or.inr h
  generalize hHe : s.heap = H at hP ⊢
  have hS : va_S A s.heap H [] := by rw [← hHe]; exact va_S.rf
  have hP : va_P D vwCl [] H := hP
  have hD : va_D A [] := hD
  have hl := lv_entry ([.int (nI k), .int b]) (n := 2) (Nat.le_of_ble_eq_true rfl)
  rw [lg_entry_eq]
  generalize (lg_sl ([.int (nI k), .int b]) ++ List.replicate (2 - (lg_sl ([.int (nI k), .int b])).length) Slot.unset).toArray = ls at hl ⊢
  have hl : lv_has ls 2 [(0, .int (nI k)), (1, .int b)] := hl
  refine lv_iload_n hx hb dK_factorOf_0 rfl (lv_at hl 0 rfl) ?_
  by_cases s1_0 : (nI k) = 6
  · exact absurd ((gx_eq (rfl : (nI k) = (nI k)) (rfl : (6 : Int32) = nI 6) (by omega) (by decide)).mp s1_0) h6
  by_cases s1_1 : (nI k) = 7
  · have hkc : k = 7 := (gx_eq (rfl : (nI k) = (nI k)) (rfl : (7 : Int32) = nI 7) (by omega) (by decide)).mp s1_1
    refine lv_tableIn (tgt := 32) hx hb dK_factorOf_1 (by rw [s1_1]; decide) (by rw [s1_1]; decide) (by rw [s1_1] <;> rfl) (by decide) ?_
    refine lv_iconst (v := 2) hx hb dK_factorOf_32 (by decide) ?_
    exact W.iret (v := 2) hx hb hr (fun t9 ht9 hW => ⟨⟨2, _, rfl, ⟨by rw [if_pos (by omega)]; rfl, rfl⟩, by rw [ht9]; exact hP, hD⟩, hS.F ht9⟩) hS.2.2 dK_factorOf_33
  by_cases s1_2 : (nI k) = 8
  · have hkc : k = 8 := (gx_eq (rfl : (nI k) = (nI k)) (rfl : (8 : Int32) = nI 8) (by omega) (by decide)).mp s1_2
    refine lv_tableIn (tgt := 32) hx hb dK_factorOf_1 (by rw [s1_2]; decide) (by rw [s1_2]; decide) (by rw [s1_2] <;> rfl) (by decide) ?_
    refine lv_iconst (v := 2) hx hb dK_factorOf_32 (by decide) ?_
    exact W.iret (v := 2) hx hb hr (fun t9 ht9 hW => ⟨⟨2, _, rfl, ⟨by rw [if_pos (by omega)]; rfl, rfl⟩, by rw [ht9]; exact hP, hD⟩, hS.F ht9⟩) hS.2.2 dK_factorOf_33
  by_cases s1_3 : (nI k) = 9
  · have hkc : k = 9 := (gx_eq (rfl : (nI k) = (nI k)) (rfl : (9 : Int32) = nI 9) (by omega) (by decide)).mp s1_3
    refine lv_tableIn (tgt := 32) hx hb dK_factorOf_1 (by rw [s1_3]; decide) (by rw [s1_3]; decide) (by rw [s1_3] <;> rfl) (by decide) ?_
    refine lv_iconst (v := 2) hx hb dK_factorOf_32 (by decide) ?_
    exact W.iret (v := 2) hx hb hr (fun t9 ht9 hW => ⟨⟨2, _, rfl, ⟨by rw [if_pos (by omega)]; rfl, rfl⟩, by rw [ht9]; exact hP, hD⟩, hS.F ht9⟩) hS.2.2 dK_factorOf_33
  have o1 : ((nI k) : Int32).toInt < 6 ∨ 9 < ((nI k) : Int32).toInt := gx_out (by intro k h1 h2 h3; have hk : k = 6 ∨ k = 7 ∨ k = 8 ∨ k = 9 := (by omega); rcases hk with rfl | rfl | rfl | rfl; exact s1_0 (Int32.toInt_inj.mp (by rw [h3]; rfl)); exact s1_1 (Int32.toInt_inj.mp (by rw [h3]; rfl)); exact s1_2 (Int32.toInt_inj.mp (by rw [h3]; rfl)); exact s1_3 (Int32.toInt_inj.mp (by rw [h3]; rfl)))
  refine lv_tableOut (tgt := 40) hx hb dK_factorOf_1 o1 (by decide) ?_
  refine lv_iconst (v := 1) hx hb dK_factorOf_40 (by decide) ?_
  have h6 : ¬ k = 6 := fun z => s1_0 ((gx_eq (rfl : (nI k) = (nI k)) (rfl : (6 : Int32) = nI 6) (by omega) (by decide)).mpr z)
  have h7 : ¬ k = 7 := fun z => s1_1 ((gx_eq (rfl : (nI k) = (nI k)) (rfl : (7 : Int32) = nI 7) (by omega) (by decide)).mpr z)
  have h8 : ¬ k = 8 := fun z => s1_2 ((gx_eq (rfl : (nI k) = (nI k)) (rfl : (8 : Int32) = nI 8) (by omega) (by decide)).mpr z)
  have h9 : ¬ k = 9 := fun z => s1_3 ((gx_eq (rfl : (nI k) = (nI k)) (rfl : (9 : Int32) = nI 9) (by omega) (by decide)).mpr z)
  exact W.iret (v := 1) hx hb hr (fun t9 ht9 hW => ⟨⟨1, _, rfl, ⟨by rw [if_neg (by omega)]; rfl, rfl⟩, by rw [ht9]; exact hP, hD⟩, hS.F ht9⟩) hS.2.2 dK_factorOf_41

set_option maxHeartbeats 4000000 in
set_option maxRecDepth 100000 in
theorem c_K_factorOf_p (l : Launch) (D : va_G) (cI cJ cB cZ : ClassId) (k b : Nat) (hk : k ≤ 11) (h6 : k = 6) (hb9 : b ≤ 3) : ct_I l y_K_factorOf w_K_factorOf ({ frames := 1, cells := 0, slots := 0, locals := 30 }) D (gk_T cI cJ cB cZ) [.int (nI k), .int (nI b)] ([] : va_W) (0) (0) (fun r w => r = nI (max 1 b) ∧ w = []) := by
  intro sz
  refine Met.ofW (cc := b_K_factorOf) (maxL := 2) (ret := (some .int)) (by decide) rfl ?_
  intro p ev9 s m args below meth c s₁ B9 hml hv
  obtain ⟨rfl, hsz, hP, hK, hN, hD0⟩ := hv
  have hx := B9.exec
  have hb := B9.bytes
  have hr := B9.returns
  have hts := atoms_spec (ws := w_K_factorOf) B9.pre
  have ht : ∀ w ∈ gk_big, w.before _ s = true := fun w h => hts w (List.mem_cons_of_mem _ h)
  have hown : s.vm.findClass R_K = some m.cls := findClass_of_methodNamed B9.named
  have hlocks := B9.notSynchronized
  subst hsz
  have hD := hD0.self (sz := s.heap.size)
  generalize hAe : va_A ([] : va_W) s.heap.size = A at hD ⊢
  have hA : ∀ q : Nat, s.heap.size ≤ q → A q := fun q h => by rw [← hAe]; exact Or.inr h
  generalize hHe : s.heap = H at hP ⊢
  have hS : va_S A s.heap H [] := by rw [← hHe]; exact va_S.rf
  have hP : va_P D vwCl [] H := hP
  have hD : va_D A [] := hD
  have hl := lv_entry ([.int (nI k), .int (nI b)]) (n := 2) (Nat.le_of_ble_eq_true rfl)
  rw [lg_entry_eq]
  generalize (lg_sl ([.int (nI k), .int (nI b)]) ++ List.replicate (2 - (lg_sl ([.int (nI k), .int (nI b)])).length) Slot.unset).toArray = ls at hl ⊢
  have hl : lv_has ls 2 [(0, .int (nI k)), (1, .int (nI b))] := hl
  refine lv_iload_n hx hb dK_factorOf_0 rfl (lv_at hl 0 rfl) ?_
  by_cases s1_0 : (nI k) = 6
  · have hkc : k = 6 := (gx_eq (rfl : (nI k) = (nI k)) (rfl : (6 : Int32) = nI 6) (by omega) (by decide)).mp s1_0
    refine lv_tableIn (tgt := 34) hx hb dK_factorOf_1 (by rw [s1_0]; decide) (by rw [s1_0]; decide) (by rw [s1_0] <;> rfl) (by decide) ?_
    refine lv_iconst (v := 1) hx hb dK_factorOf_34 (by decide) ?_
    refine lv_iload_n hx hb dK_factorOf_35 rfl (lv_at hl 1 rfl) ?_
    refine va_mmax hx hb (by rw [hml]; exact hl.1.symm) hown (ht _ m_197) (ht _ m_198) (ht _ m_7) (ht _ mh_max) (Nat.le_of_ble_eq_true rfl) (Nat.le_of_ble_eq_true rfl) (Nat.zero_le _) (Nat.zero_le _) dK_factorOf_36 ?_
    refine lv_topi (fun v36 e36 => ?_)
    have n36 : v36 = nI (max 1 b) := by rw [e36]; exact gx_max (rfl : (1 : Int32) = nI 1) (rfl : (nI b) = (nI b)) (by decide) (by omega)
    subst n36
    exact W.iret (v := (nI (max 1 b))) hx hb hr (fun t9 ht9 hW => ⟨⟨(nI (max 1 b)), _, rfl, ⟨rfl, rfl⟩, by rw [ht9]; exact hP, hD⟩, hS.F ht9⟩) hS.2.2 dK_factorOf_39
  by_cases s1_1 : (nI k) = 7
  · exact absurd (show k = 7 from (gx_eq (rfl : (nI k) = (nI k)) (rfl : (7 : Int32) = nI 7) (by omega) (by decide)).mp s1_1) (by omega)
  by_cases s1_2 : (nI k) = 8
  · exact absurd (show k = 8 from (gx_eq (rfl : (nI k) = (nI k)) (rfl : (8 : Int32) = nI 8) (by omega) (by decide)).mp s1_2) (by omega)
  by_cases s1_3 : (nI k) = 9
  · exact absurd (show k = 9 from (gx_eq (rfl : (nI k) = (nI k)) (rfl : (9 : Int32) = nI 9) (by omega) (by decide)).mp s1_3) (by omega)
  exact absurd ((gx_eq (rfl : (nI k) = (nI k)) (rfl : (6 : Int32) = nI 6) (by omega) (by decide)).mpr h6) s1_0

set_option maxHeartbeats 4000000 in
set_option maxRecDepth 100000 in
theorem c_K_addExpression_0 (l : Launch) (D : va_G) (cI cJ cB cZ : ClassId) (o : Nat) (q : Nat → Nat) (C : Cs) (n k : Nat) (a : Int32) (b : Int32) (d : Int32) (hn : n < 80) (hk : k < 2) (hpl : ∀ x, C.1 x ≤ 1000) (hnm : ∀ x, C.2.1 x ≤ 1000) : ct_V l y_K_addExpression w_K_addExpression ({ frames := 2, cells := 0, slots := 0, locals := 51 }) D (gk_T cI cJ cB cZ) [.ref o, .int (nI n), .int (nI k), .int a, .int b, .int d] (wK cI o q C) (0) (0) (fun w => w = wK cI o q (cs_exp C n (if 7 ≤ k ∧ k ≤ 9 then 2 else 1) (0 + 0) (fun i => (0 + 0)) (fun i => 0))) := by
  intro sz
  refine Met.ofW (cc := b_K_addExpression) (maxL := 13) (ret := none) (by decide) rfl ?_
  intro p ev9 s m args below meth c s₁ B9 hml hv
  obtain ⟨rfl, hsz, hP, hK, hN, hD0⟩ := hv
  have hx := B9.exec
  have hb := B9.bytes
  have hr := B9.returns
  have hts := atoms_spec (ws := w_K_addExpression) B9.pre
  have ht : ∀ w ∈ gk_big, w.before _ s = true := fun w h => hts w (List.mem_cons_of_mem _ h)
  have hown : s.vm.findClass R_K = some m.cls := findClass_of_methodNamed B9.named
  have hlocks := B9.notSynchronized
  subst hsz
  have hD := hD0.self (sz := s.heap.size)
  generalize hAe : va_A (wK cI o q C) s.heap.size = A at hD ⊢
  have hA : ∀ q : Nat, s.heap.size ≤ q → A q := fun q h => by rw [← hAe]; exact Or.inr h
  generalize hHe : s.heap = H at hP ⊢
  have hS : va_S A s.heap H [] := by rw [← hHe]; exact va_S.rf
  have hP : va_P D vwCl [(o, .inr (1, [.ref (q 0), .ref (q 1), .ref (q 2), .ref (q 3), .ref (q 4)])), ((q 0), .inl (cI, 80, .inl (fun z9 => nI (C.1 z9)))), ((q 1), .inl (cI, 640, .inl (fun z9 => nI (C.2.1 z9)))), ((q 2), .inl (cI, 64, .inl (fun z9 => nI (C.2.2.1 z9)))), ((q 3), .inl (cI, 8, .inl (fun z9 => nI (C.2.2.2.1 z9)))), ((q 4), .inl (cI, 8, .inl (fun z9 => nI (C.2.2.2.2 z9))))] H := hP
  have hD : va_D A [(o, .inr (1, [.ref (q 0), .ref (q 1), .ref (q 2), .ref (q 3), .ref (q 4)])), ((q 0), .inl (cI, 80, .inl (fun z9 => nI (C.1 z9)))), ((q 1), .inl (cI, 640, .inl (fun z9 => nI (C.2.1 z9)))), ((q 2), .inl (cI, 64, .inl (fun z9 => nI (C.2.2.1 z9)))), ((q 3), .inl (cI, 8, .inl (fun z9 => nI (C.2.2.2.1 z9)))), ((q 4), .inl (cI, 8, .inl (fun z9 => nI (C.2.2.2.2 z9))))] := hD
  have hl := lv_entry ([.ref o, .int (nI n), .int (nI k), .int a, .int b, .int d]) (n := 13) (Nat.le_of_ble_eq_true rfl)
  rw [lg_entry_eq]
  generalize (lg_sl ([.ref o, .int (nI n), .int (nI k), .int a, .int b, .int d]) ++ List.replicate (13 - (lg_sl ([.ref o, .int (nI n), .int (nI k), .int a, .int b, .int d])).length) Slot.unset).toArray = ls at hl ⊢
  have hl : lv_has ls 13 [(0, .ref o), (1, .int (nI n)), (2, .int (nI k)), (3, .int a), (4, .int b), (5, .int d)] := hl
  have hf9 : (if 7 ≤ k ∧ k ≤ 9 then 2 else 1) ≤ 3 := by split <;> omega
  refine lv_iload_n hx hb dK_addExpression_0 rfl (lv_at hl 2 rfl) ?_
  refine lv_iload hx hb dK_addExpression_1 (lv_at hl 4 rfl) ?_
  refine gc_i (va_runS (As := [.int (nI k), .int b]) (rest := []) ⟨hx, hb, hml, hown, ht⟩ (c_K_factorOf_n l D cI cJ cB cZ k b (by omega) (by omega) H.size) (va_cwS 2 ht (gw_S m_194 m_195 m_5 m_196) rfl rfl rfl (by decide +kernel) ⟨Nat.le_of_ble_eq_true rfl, Nat.le_of_ble_eq_true rfl⟩) (gp_S hK hN (hP.sub (ws' := ([] : va_W)) [] rfl) (hD.sub (ws' := ([] : va_W)) [] (by decide) rfl)) rfl rfl hl.1 rfl (lv_room (Nat.le_of_ble_eq_true rfl)) dK_addExpression_3 ⟨Nat.le_of_ble_eq_true rfl, Nat.le_of_ble_eq_true rfl⟩) hP hD hS hA [] rfl (by decide) (fun r w h => by obtain ⟨_, rfl⟩ := h; rfl) (fun r3 w3 H locs p3 hP hD hS => ?_)
  obtain ⟨rfl, rfl⟩ := p3
  have hP : va_P D vwCl [(o, .inr (1, [.ref (q 0), .ref (q 1), .ref (q 2), .ref (q 3), .ref (q 4)])), ((q 0), .inl (cI, 80, .inl (fun z9 => nI (C.1 z9)))), ((q 1), .inl (cI, 640, .inl (fun z9 => nI (C.2.1 z9)))), ((q 2), .inl (cI, 64, .inl (fun z9 => nI (C.2.2.1 z9)))), ((q 3), .inl (cI, 8, .inl (fun z9 => nI (C.2.2.2.1 z9)))), ((q 4), .inl (cI, 8, .inl (fun z9 => nI (C.2.2.2.2 z9))))] H := hP
  have hD : va_D A [(o, .inr (1, [.ref (q 0), .ref (q 1), .ref (q 2), .ref (q 3), .ref (q 4)])), ((q 0), .inl (cI, 80, .inl (fun z9 => nI (C.1 z9)))), ((q 1), .inl (cI, 640, .inl (fun z9 => nI (C.2.1 z9)))), ((q 2), .inl (cI, 64, .inl (fun z9 => nI (C.2.2.1 z9)))), ((q 3), .inl (cI, 8, .inl (fun z9 => nI (C.2.2.2.1 z9)))), ((q 4), .inl (cI, 8, .inl (fun z9 => nI (C.2.2.2.2 z9))))] := hD
  refine lv_istore (lv' := [(6, .int (nI (if 7 ≤ k ∧ k ≤ 9 then 2 else 1))), (0, .ref o), (1, .int (nI n)), (2, .int (nI k)), (3, .int a), (4, .int b), (5, .int d)]) hx hb dK_addExpression_6 hl (by decide) rfl (fun ls hl => ?_)
  refine lv_iload_n hx hb dK_addExpression_8 rfl (lv_at hl 3 rfl) ?_
  refine gc_i (va_runS (As := [.int (nI k)]) (rest := []) ⟨hx, hb, hml, hown, ht⟩ (c_E_hasLeft l D cI cJ cB cZ (nI k) H.size) (va_cwS 1 ht (gw_S m_200 m_165 m_3 m_166) rfl rfl rfl (by decide +kernel) ⟨Nat.le_of_ble_eq_true rfl, Nat.le_of_ble_eq_true rfl⟩) (gp_S hK hN (hP.sub (ws' := ([] : va_W)) [] rfl) (hD.sub (ws' := ([] : va_W)) [] (by decide) rfl)) rfl rfl hl.1 rfl (lv_room (Nat.le_of_ble_eq_true rfl)) dK_addExpression_9 ⟨Nat.le_of_ble_eq_true rfl, Nat.le_of_ble_eq_true rfl⟩) hP hD hS hA [] rfl (by decide) (fun r w h => by obtain ⟨_, rfl⟩ := h; rfl) (fun r9 w9 H locs p9 hP hD hS => ?_)
  obtain ⟨rfl, rfl⟩ := p9
  have hP : va_P D vwCl [(o, .inr (1, [.ref (q 0), .ref (q 1), .ref (q 2), .ref (q 3), .ref (q 4)])), ((q 0), .inl (cI, 80, .inl (fun z9 => nI (C.1 z9)))), ((q 1), .inl (cI, 640, .inl (fun z9 => nI (C.2.1 z9)))), ((q 2), .inl (cI, 64, .inl (fun z9 => nI (C.2.2.1 z9)))), ((q 3), .inl (cI, 8, .inl (fun z9 => nI (C.2.2.2.1 z9)))), ((q 4), .inl (cI, 8, .inl (fun z9 => nI (C.2.2.2.2 z9))))] H := hP
  have hD : va_D A [(o, .inr (1, [.ref (q 0), .ref (q 1), .ref (q 2), .ref (q 3), .ref (q 4)])), ((q 0), .inl (cI, 80, .inl (fun z9 => nI (C.1 z9)))), ((q 1), .inl (cI, 640, .inl (fun z9 => nI (C.2.1 z9)))), ((q 2), .inl (cI, 64, .inl (fun z9 => nI (C.2.2.1 z9)))), ((q 3), .inl (cI, 8, .inl (fun z9 => nI (C.2.2.2.1 z9)))), ((q 4), .inl (cI, 8, .inl (fun z9 => nI (C.2.2.2.2 z9))))] := hD
  rw [gk_left (by omega)]
  refine lv_istore (lv' := [(7, .int (gb (2 ≤ k))), (6, .int (nI (if 7 ≤ k ∧ k ≤ 9 then 2 else 1))), (0, .ref o), (1, .int (nI n)), (2, .int (nI k)), (3, .int a), (4, .int b), (5, .int d)]) hx hb dK_addExpression_12 hl (by decide) rfl (fun ls hl => ?_)
  refine lv_iload_n hx hb dK_addExpression_14 rfl (lv_at hl 4 rfl) ?_
  refine gc_i (va_runS (As := [.int (nI k)]) (rest := []) ⟨hx, hb, hml, hown, ht⟩ (c_E_hasRight l D cI cJ cB cZ (nI k) H.size) (va_cwS 1 ht (gw_S m_201 m_175 m_3 m_176) rfl rfl rfl (by decide +kernel) ⟨Nat.le_of_ble_eq_true rfl, Nat.le_of_ble_eq_true rfl⟩) (gp_S hK hN (hP.sub (ws' := ([] : va_W)) [] rfl) (hD.sub (ws' := ([] : va_W)) [] (by decide) rfl)) rfl rfl hl.1 rfl (lv_room (Nat.le_of_ble_eq_true rfl)) dK_addExpression_15 ⟨Nat.le_of_ble_eq_true rfl, Nat.le_of_ble_eq_true rfl⟩) hP hD hS hA [] rfl (by decide) (fun r w h => by obtain ⟨_, rfl⟩ := h; rfl) (fun r15 w15 H locs p15 hP hD hS => ?_)
  obtain ⟨rfl, rfl⟩ := p15
  have hP : va_P D vwCl [(o, .inr (1, [.ref (q 0), .ref (q 1), .ref (q 2), .ref (q 3), .ref (q 4)])), ((q 0), .inl (cI, 80, .inl (fun z9 => nI (C.1 z9)))), ((q 1), .inl (cI, 640, .inl (fun z9 => nI (C.2.1 z9)))), ((q 2), .inl (cI, 64, .inl (fun z9 => nI (C.2.2.1 z9)))), ((q 3), .inl (cI, 8, .inl (fun z9 => nI (C.2.2.2.1 z9)))), ((q 4), .inl (cI, 8, .inl (fun z9 => nI (C.2.2.2.2 z9))))] H := hP
  have hD : va_D A [(o, .inr (1, [.ref (q 0), .ref (q 1), .ref (q 2), .ref (q 3), .ref (q 4)])), ((q 0), .inl (cI, 80, .inl (fun z9 => nI (C.1 z9)))), ((q 1), .inl (cI, 640, .inl (fun z9 => nI (C.2.1 z9)))), ((q 2), .inl (cI, 64, .inl (fun z9 => nI (C.2.2.1 z9)))), ((q 3), .inl (cI, 8, .inl (fun z9 => nI (C.2.2.2.1 z9)))), ((q 4), .inl (cI, 8, .inl (fun z9 => nI (C.2.2.2.2 z9))))] := hD
  rw [gk_right (by omega)]
  refine lv_istore (lv' := [(8, .int (gb (k = 2 ∨ k = 3 ∨ k = 4 ∨ k = 8 ∨ k = 9 ∨ k = 11))), (7, .int (gb (2 ≤ k))), (6, .int (nI (if 7 ≤ k ∧ k ≤ 9 then 2 else 1))), (0, .ref o), (1, .int (nI n)), (2, .int (nI k)), (3, .int a), (4, .int b), (5, .int d)]) hx hb dK_addExpression_18 hl (by decide) rfl (fun ls hl => ?_)
  refine lv_iload hx hb dK_addExpression_20 (lv_at hl 1 rfl) ?_
  refine lv_if_eq (tgt := 34) hx hb dK_addExpression_22 (by decide) (fun c22 => ?_) (fun c22 => ?_)
  · refine lv_iconst (v := 0) hx hb dK_addExpression_34 (by decide) ?_
    refine lv_iload hx hb dK_addExpression_35 (lv_at hl 0 rfl) ?_
    refine lv_if_eq (tgt := 50) hx hb dK_addExpression_37 (by decide) (fun c37 => ?_) (fun c37 => ?_)
    · refine lv_iconst (v := 0) hx hb dK_addExpression_50 (by decide) ?_
      refine lv_iadd hx hb dK_addExpression_51 ?_
      refine lv_topi (fun v51 e51 => ?_)
      have n51 : v51 = nI (0 + 0) := by rw [e51]; exact gx_add (rfl : (0 : Int32) = nI 0) (rfl : (0 : Int32) = nI 0)
      subst n51
      refine lv_istore (lv' := [(9, .int (nI (0 + 0))), (8, .int (gb (k = 2 ∨ k = 3 ∨ k = 4 ∨ k = 8 ∨ k = 9 ∨ k = 11))), (7, .int (gb (2 ≤ k))), (6, .int (nI (if 7 ≤ k ∧ k ≤ 9 then 2 else 1))), (0, .ref o), (1, .int (nI n)), (2, .int (nI k)), (3, .int a), (4, .int b), (5, .int d)]) hx hb dK_addExpression_52 hl (by decide) rfl (fun ls hl => ?_)
      refine lv_aload_n hx hb dK_addExpression_54 rfl (lv_at hl 4 rfl) ?_
      refine va_get (D := D) (ci := 1) (v := .ref (q 0)) (C := R_K) (T := F_K) (N := 5) hx hb ht i_K hown hK hP 0 rfl rfl 0 (by decide) (ht _ m_113) (fun _ h9 => h9) rfl dK_addExpression_55 ?_
      refine lv_iload_n hx hb dK_addExpression_58 rfl (lv_at hl 5 rfl) ?_
      refine lv_sipush (v := 1000) hx hb dK_addExpression_59 (by decide) ?_
      refine lv_iconst (v := 1) hx hb dK_addExpression_62 (by decide) ?_
      refine lv_iload hx hb dK_addExpression_63 (lv_at hl 3 rfl) ?_
      refine lv_iload hx hb dK_addExpression_65 (lv_at hl 0 rfl) ?_
      refine lv_imul hx hb dK_addExpression_67 ?_
      refine lv_topi (fun v67 e67 => ?_)
      have n67 : v67 = nI ((if 7 ≤ k ∧ k ≤ 9 then 2 else 1) * (0 + 0)) := by rw [e67]; exact gx_mul (rfl : (nI (if 7 ≤ k ∧ k ≤ 9 then 2 else 1)) = (nI (if 7 ≤ k ∧ k ≤ 9 then 2 else 1))) (rfl : (nI (0 + 0)) = (nI (0 + 0)))
      subst n67
      refine lv_iadd hx hb dK_addExpression_68 ?_
      refine lv_topi (fun v68 e68 => ?_)
      have n68 : v68 = nI (1 + ((if 7 ≤ k ∧ k ≤ 9 then 2 else 1) * (0 + 0))) := by rw [e68]; exact gx_add (rfl : (1 : Int32) = nI 1) (rfl : (nI ((if 7 ≤ k ∧ k ≤ 9 then 2 else 1) * (0 + 0))) = (nI ((if 7 ≤ k ∧ k ≤ 9 then 2 else 1) * (0 + 0))))
      subst n68
      have hm9 : (if 7 ≤ k ∧ k ≤ 9 then 2 else 1) * (0 + 0) ≤ 3 * (0 + 0) := Nat.mul_le_mul_right _ hf9
      refine va_mmin hx hb (by rw [hml]; exact hl.1.symm) hown (ht _ m_202) (ht _ m_203) (ht _ m_7) (ht _ mh_min) (Nat.le_of_ble_eq_true rfl) (Nat.le_of_ble_eq_true rfl) (Nat.zero_le _) (Nat.zero_le _) dK_addExpression_69 ?_
      refine lv_topi (fun v69 e69 => ?_)
      have n69 : v69 = nI (min 1000 (1 + ((if 7 ≤ k ∧ k ≤ 9 then 2 else 1) * (0 + 0)))) := by rw [e69]; exact gx_min (rfl : (1000 : Int32) = nI 1000) (rfl : (nI (1 + ((if 7 ≤ k ∧ k ≤ 9 then 2 else 1) * (0 + 0)))) = (nI (1 + ((if 7 ≤ k ∧ k ≤ 9 then 2 else 1) * (0 + 0))))) (by decide) (by omega)
      subst n69
      have i72 : vp_in (nI n) 80 := gx_in (rfl : (nI n) = (nI n)) (by omega) (by decide)
      have k72 : ((nI n) : Int32).toNatClampNeg = n := gx_cl (rfl : (nI n) = (nI n)) (by omega)
      refine va_iast hx hb hK hP hD hS 1 0 rfl rfl i72 dK_addExpression_72 (fun H locs hP hD hS => ?_)
      rw [k72] at hP hD
      have hP : va_P D vwCl [(o, .inr (1, [.ref (q 0), .ref (q 1), .ref (q 2), .ref (q 3), .ref (q 4)])), ((q 0), .inl (cI, 80, .inl (upd (fun z9 => nI (C.1 z9)) n (nI (min 1000 (1 + ((if 7 ≤ k ∧ k ≤ 9 then 2 else 1) * (0 + 0)))))))), ((q 1), .inl (cI, 640, .inl (fun z9 => nI (C.2.1 z9)))), ((q 2), .inl (cI, 64, .inl (fun z9 => nI (C.2.2.1 z9)))), ((q 3), .inl (cI, 8, .inl (fun z9 => nI (C.2.2.2.1 z9)))), ((q 4), .inl (cI, 8, .inl (fun z9 => nI (C.2.2.2.2 z9))))] H := hP
      have hD : va_D A [(o, .inr (1, [.ref (q 0), .ref (q 1), .ref (q 2), .ref (q 3), .ref (q 4)])), ((q 0), .inl (cI, 80, .inl (upd (fun z9 => nI (C.1 z9)) n (nI (min 1000 (1 + ((if 7 ≤ k ∧ k ≤ 9 then 2 else 1) * (0 + 0)))))))), ((q 1), .inl (cI, 640, .inl (fun z9 => nI (C.2.1 z9)))), ((q 2), .inl (cI, 64, .inl (fun z9 => nI (C.2.2.1 z9)))), ((q 3), .inl (cI, 8, .inl (fun z9 => nI (C.2.2.2.1 z9)))), ((q 4), .inl (cI, 8, .inl (fun z9 => nI (C.2.2.2.2 z9))))] := hD
      rw [gx_upd] at hP hD
      refine lv_iconst (v := 0) hx hb dK_addExpression_73 (by decide) ?_
      refine lv_istore (lv' := [(10, .int 0), (9, .int (nI (0 + 0))), (8, .int (gb (k = 2 ∨ k = 3 ∨ k = 4 ∨ k = 8 ∨ k = 9 ∨ k = 11))), (7, .int (gb (2 ≤ k))), (6, .int (nI (if 7 ≤ k ∧ k ≤ 9 then 2 else 1))), (0, .ref o), (1, .int (nI n)), (2, .int (nI k)), (3, .int a), (4, .int b), (5, .int d)]) hx hb dK_addExpression_74 hl (by decide) rfl (fun ls hl => ?_)
      rw [← kf_up_0 C.2.1 n (fun i => min 1000 ((if 7 ≤ k ∧ k ≤ 9 then 2 else 1) * (0 + 0) + 0))] at hP hD
      have lp76 : ∀ (n76 : Nat) (i : Nat), 8 - i + 1 ≤ n76 → (i ≤ 8) → ∀ (H : Heap) (locs : List Loc) (ls : Array Slot), va_P D vwCl [(o, .inr (1, [.ref (q 0), .ref (q 1), .ref (q 2), .ref (q 3), .ref (q 4)])), ((q 0), .inl (cI, 80, .inl (fun z9 => nI ((va_up C.1 n (min 1000 (1 + (if 7 ≤ k ∧ k ≤ 9 then 2 else 1) * (0 + 0)))) z9)))), ((q 1), .inl (cI, 640, .inl (fun z9 => nI ((kf_up C.2.1 n (fun i => min 1000 ((if 7 ≤ k ∧ k ≤ 9 then 2 else 1) * (0 + 0) + 0)) i) z9)))), ((q 2), .inl (cI, 64, .inl (fun z9 => nI (C.2.2.1 z9)))), ((q 3), .inl (cI, 8, .inl (fun z9 => nI (C.2.2.2.1 z9)))), ((q 4), .inl (cI, 8, .inl (fun z9 => nI (C.2.2.2.2 z9))))] H → va_D A [(o, .inr (1, [.ref (q 0), .ref (q 1), .ref (q 2), .ref (q 3), .ref (q 4)])), ((q 0), .inl (cI, 80, .inl (fun z9 => nI ((va_up C.1 n (min 1000 (1 + (if 7 ≤ k ∧ k ≤ 9 then 2 else 1) * (0 + 0)))) z9)))), ((q 1), .inl (cI, 640, .inl (fun z9 => nI ((kf_up C.2.1 n (fun i => min 1000 ((if 7 ≤ k ∧ k ≤ 9 then 2 else 1) * (0 + 0) + 0)) i) z9)))), ((q 2), .inl (cI, 64, .inl (fun z9 => nI (C.2.2.1 z9)))), ((q 3), .inl (cI, 8, .inl (fun z9 => nI (C.2.2.2.1 z9)))), ((q 4), .inl (cI, 8, .inl (fun z9 => nI (C.2.2.2.2 z9))))] → va_S A s.heap H locs → lv_has ls 13 [(10, .int (nI i)), (9, .int (nI (0 + 0))), (8, .int (gb (k = 2 ∨ k = 3 ∨ k = 4 ∨ k = 8 ∨ k = 9 ∨ k = 11))), (7, .int (gb (2 ≤ k))), (6, .int (nI (if 7 ≤ k ∧ k ≤ 9 then 2 else 1))), (0, .ref o), (1, .int (nI n)), (2, .int (nI k)), (3, .int a), (4, .int b), (5, .int d)] → W p l ev9 (headSpec w_K_addExpression ({ frames := 2, cells := 0, slots := 0, locals := 51 })).room s m ([.ref o, .int (nI n), .int (nI k), .int a, .int b, .int d] : List Value).toArray below meth c H locs 0 0 (MQ below (gq_V D A (fun w => w = wK cI o q (cs_exp C n (if 7 ≤ k ∧ k ≤ 9 then 2 else 1) (0 + 0) (fun i => (0 + 0)) (fun i => 0)))) ([.ref o, .int (nI n), .int (nI k), .int a, .int b, .int d] : List Value).toArray s (0) (0) A) (F0 m 76 ls []) := by
        intro n76
        induction n76 with
        | zero =>
          intro i hm76
          exact absurd hm76 (by omega)
        | succ n76 ih76 =>
          intro i hm76 hi H locs ls hP hD hS hl
          refine lv_iload hx hb dK_addExpression_76 (lv_at hl 0 rfl) ?_
          refine lv_bipush (v := 8) hx hb dK_addExpression_78 (by decide) ?_
          refine lv_icmp_ge (tgt := 181) hx hb dK_addExpression_80 (by decide) (fun c80 => ?_) (fun c80 => ?_)
          · have g80 : 8 ≤ i := (gx_le (rfl : (8 : Int32) = nI 8) (rfl : (nI i) = (nI i)) (by decide) (by omega)).mp c80
            have zi : i = 8 := by omega
            subst zi
            have hP : va_P D vwCl (wK cI o q (cs_exp C n (if 7 ≤ k ∧ k ≤ 9 then 2 else 1) (0 + 0) (fun i => (0 + 0)) (fun i => 0))) _ := hP
            have hD : va_D A (wK cI o q (cs_exp C n (if 7 ≤ k ∧ k ≤ 9 then 2 else 1) (0 + 0) (fun i => (0 + 0)) (fun i => 0))) := hD
            exact W.vret hx hb hr (fun t9 ht9 hW => ⟨⟨_, rfl, rfl, by rw [ht9]; exact hP, hD⟩, hS.F ht9⟩) hS.2.2 dK_addExpression_181
          · have g80 : ¬ (8 ≤ i) := fun z => c80 ((gx_le (rfl : (8 : Int32) = nI 8) (rfl : (nI i) = (nI i)) (by decide) (by omega)).mpr z)
            refine lv_iload hx hb dK_addExpression_83 (lv_at hl 3 rfl) ?_
            refine lv_if_eq (tgt := 103) hx hb dK_addExpression_85 (by decide) (fun c85 => ?_) (fun c85 => ?_)
            · refine lv_iconst (v := 0) hx hb dK_addExpression_103 (by decide) ?_
              refine lv_iload hx hb dK_addExpression_104 (lv_at hl 2 rfl) ?_
              refine lv_if_eq (tgt := 125) hx hb dK_addExpression_106 (by decide) (fun c106 => ?_) (fun c106 => ?_)
              · refine lv_iconst (v := 0) hx hb dK_addExpression_125 (by decide) ?_
                refine lv_iadd hx hb dK_addExpression_126 ?_
                refine lv_topi (fun v126 e126 => ?_)
                have n126 : v126 = nI (0 + 0) := by rw [e126]; exact gx_add (rfl : (0 : Int32) = nI 0) (rfl : (0 : Int32) = nI 0)
                subst n126
                refine lv_istore (lv' := [(11, .int (nI (0 + 0))), (10, .int (nI i)), (9, .int (nI (0 + 0))), (8, .int (gb (k = 2 ∨ k = 3 ∨ k = 4 ∨ k = 8 ∨ k = 9 ∨ k = 11))), (7, .int (gb (2 ≤ k))), (6, .int (nI (if 7 ≤ k ∧ k ≤ 9 then 2 else 1))), (0, .ref o), (1, .int (nI n)), (2, .int (nI k)), (3, .int a), (4, .int b), (5, .int d)]) hx hb dK_addExpression_127 hl (by decide) rfl (fun ls hl => ?_)
                refine lv_iload_n hx hb dK_addExpression_129 rfl (lv_at hl 8 rfl) ?_
                refine lv_bipush (v := 11) hx hb dK_addExpression_130 (by decide) ?_
                refine lv_icmp_ne (tgt := 146) hx hb dK_addExpression_132 (by decide) (fun c132 => ?_) (fun c132 => ?_)
                · have g132 : ¬ (k = 11) := fun z => c132 ((gx_eq (rfl : (nI k) = (nI k)) (rfl : (11 : Int32) = nI 11) (by omega) (by decide)).mpr z)
                  refine lv_iconst (v := 0) hx hb dK_addExpression_146 (by decide) ?_
                  refine lv_istore (lv' := [(12, .int 0), (11, .int (nI (0 + 0))), (10, .int (nI i)), (9, .int (nI (0 + 0))), (8, .int (gb (k = 2 ∨ k = 3 ∨ k = 4 ∨ k = 8 ∨ k = 9 ∨ k = 11))), (7, .int (gb (2 ≤ k))), (6, .int (nI (if 7 ≤ k ∧ k ≤ 9 then 2 else 1))), (0, .ref o), (1, .int (nI n)), (2, .int (nI k)), (3, .int a), (4, .int b), (5, .int d)]) hx hb dK_addExpression_147 hl (by decide) rfl (fun ls hl => ?_)
                  refine lv_aload_n hx hb dK_addExpression_149 rfl (lv_at hl 7 rfl) ?_
                  refine va_get (D := D) (ci := 1) (v := .ref (q 1)) (C := R_K) (T := F_K) (N := 5) hx hb ht i_K hown hK hP 0 rfl rfl 1 (by decide) (ht _ m_114) (fun _ h9 => h9) rfl dK_addExpression_150 ?_
                  refine lv_iload_n hx hb dK_addExpression_153 rfl (lv_at hl 8 rfl) ?_
                  refine lv_bipush (v := 8) hx hb dK_addExpression_154 (by decide) ?_
                  refine lv_imul hx hb dK_addExpression_156 ?_
                  refine lv_topi (fun v156 e156 => ?_)
                  have n156 : v156 = nI (n * 8) := by rw [e156]; exact gx_mul (rfl : (nI n) = (nI n)) (rfl : (8 : Int32) = nI 8)
                  subst n156
                  refine lv_iload hx hb dK_addExpression_157 (lv_at hl 2 rfl) ?_
                  refine lv_iadd hx hb dK_addExpression_159 ?_
                  refine lv_topi (fun v159 e159 => ?_)
                  have n159 : v159 = nI ((n * 8) + i) := by rw [e159]; exact gx_add (rfl : (nI (n * 8)) = (nI (n * 8))) (rfl : (nI i) = (nI i))
                  subst n159
                  refine lv_sipush (v := 1000) hx hb dK_addExpression_160 (by decide) ?_
                  refine lv_iload hx hb dK_addExpression_163 (lv_at hl 6 rfl) ?_
                  refine lv_iload hx hb dK_addExpression_165 (lv_at hl 1 rfl) ?_
                  refine lv_imul hx hb dK_addExpression_167 ?_
                  refine lv_topi (fun v167 e167 => ?_)
                  have n167 : v167 = nI ((if 7 ≤ k ∧ k ≤ 9 then 2 else 1) * (0 + 0)) := by rw [e167]; exact gx_mul (rfl : (nI (if 7 ≤ k ∧ k ≤ 9 then 2 else 1)) = (nI (if 7 ≤ k ∧ k ≤ 9 then 2 else 1))) (rfl : (nI (0 + 0)) = (nI (0 + 0)))
                  subst n167
                  refine lv_iload hx hb dK_addExpression_168 (lv_at hl 0 rfl) ?_
                  refine lv_iadd hx hb dK_addExpression_170 ?_
                  refine lv_topi (fun v170 e170 => ?_)
                  have n170 : v170 = nI (((if 7 ≤ k ∧ k ≤ 9 then 2 else 1) * (0 + 0)) + 0) := by rw [e170]; exact gx_add (rfl : (nI ((if 7 ≤ k ∧ k ≤ 9 then 2 else 1) * (0 + 0))) = (nI ((if 7 ≤ k ∧ k ≤ 9 then 2 else 1) * (0 + 0)))) (rfl : (0 : Int32) = nI 0)
                  subst n170
                  have hm9 : (if 7 ≤ k ∧ k ≤ 9 then 2 else 1) * (0 + 0) ≤ 3 * (0 + 0) := Nat.mul_le_mul_right _ hf9
                  refine va_mmin hx hb (by rw [hml]; exact hl.1.symm) hown (ht _ m_202) (ht _ m_203) (ht _ m_7) (ht _ mh_min) (Nat.le_of_ble_eq_true rfl) (Nat.le_of_ble_eq_true rfl) (Nat.zero_le _) (Nat.zero_le _) dK_addExpression_171 ?_
                  refine lv_topi (fun v171 e171 => ?_)
                  have n171 : v171 = nI (min 1000 (((if 7 ≤ k ∧ k ≤ 9 then 2 else 1) * (0 + 0)) + 0)) := by rw [e171]; exact gx_min (rfl : (1000 : Int32) = nI 1000) (rfl : (nI (((if 7 ≤ k ∧ k ≤ 9 then 2 else 1) * (0 + 0)) + 0)) = (nI (((if 7 ≤ k ∧ k ≤ 9 then 2 else 1) * (0 + 0)) + 0))) (by decide) (by omega)
                  subst n171
                  have i174 : vp_in (nI ((n * 8) + i)) 640 := gx_in (rfl : (nI ((n * 8) + i)) = (nI ((n * 8) + i))) (by omega) (by decide)
                  have k174 : ((nI ((n * 8) + i)) : Int32).toNatClampNeg = ((n * 8) + i) := gx_cl (rfl : (nI ((n * 8) + i)) = (nI ((n * 8) + i))) (by omega)
                  refine va_iast hx hb hK hP hD hS 2 0 rfl rfl i174 dK_addExpression_174 (fun H locs hP hD hS => ?_)
                  rw [k174] at hP hD
                  have hP : va_P D vwCl [(o, .inr (1, [.ref (q 0), .ref (q 1), .ref (q 2), .ref (q 3), .ref (q 4)])), ((q 0), .inl (cI, 80, .inl (fun z9 => nI ((va_up C.1 n (min 1000 (1 + (if 7 ≤ k ∧ k ≤ 9 then 2 else 1) * (0 + 0)))) z9)))), ((q 1), .inl (cI, 640, .inl (upd (fun z9 => nI ((kf_up C.2.1 n (fun i => min 1000 ((if 7 ≤ k ∧ k ≤ 9 then 2 else 1) * (0 + 0) + 0)) i) z9)) ((n * 8) + i) (nI (min 1000 (((if 7 ≤ k ∧ k ≤ 9 then 2 else 1) * (0 + 0)) + 0)))))), ((q 2), .inl (cI, 64, .inl (fun z9 => nI (C.2.2.1 z9)))), ((q 3), .inl (cI, 8, .inl (fun z9 => nI (C.2.2.2.1 z9)))), ((q 4), .inl (cI, 8, .inl (fun z9 => nI (C.2.2.2.2 z9))))] H := hP
                  have hD : va_D A [(o, .inr (1, [.ref (q 0), .ref (q 1), .ref (q 2), .ref (q 3), .ref (q 4)])), ((q 0), .inl (cI, 80, .inl (fun z9 => nI ((va_up C.1 n (min 1000 (1 + (if 7 ≤ k ∧ k ≤ 9 then 2 else 1) * (0 + 0)))) z9)))), ((q 1), .inl (cI, 640, .inl (upd (fun z9 => nI ((kf_up C.2.1 n (fun i => min 1000 ((if 7 ≤ k ∧ k ≤ 9 then 2 else 1) * (0 + 0) + 0)) i) z9)) ((n * 8) + i) (nI (min 1000 (((if 7 ≤ k ∧ k ≤ 9 then 2 else 1) * (0 + 0)) + 0)))))), ((q 2), .inl (cI, 64, .inl (fun z9 => nI (C.2.2.1 z9)))), ((q 3), .inl (cI, 8, .inl (fun z9 => nI (C.2.2.2.1 z9)))), ((q 4), .inl (cI, 8, .inl (fun z9 => nI (C.2.2.2.2 z9))))] := hD
                  rw [gx_upd] at hP hD
                  have hz : min 1000 ((if 7 ≤ k ∧ k ≤ 9 then 2 else 1) * (0 + 0) + 0) = (fun i => min 1000 ((if 7 ≤ k ∧ k ≤ 9 then 2 else 1) * (0 + 0) + 0)) i := by show _ = min 1000 ((if 7 ≤ k ∧ k ≤ 9 then 2 else 1) * (0 + 0) + 0); rfl
                  rw [hz, kf_up_s] at hP hD
                  have hP : va_P D vwCl [(o, .inr (1, [.ref (q 0), .ref (q 1), .ref (q 2), .ref (q 3), .ref (q 4)])), ((q 0), .inl (cI, 80, .inl (fun z9 => nI ((va_up C.1 n (min 1000 (1 + (if 7 ≤ k ∧ k ≤ 9 then 2 else 1) * (0 + 0)))) z9)))), ((q 1), .inl (cI, 640, .inl (fun z9 => nI ((kf_up C.2.1 n (fun i => min 1000 ((if 7 ≤ k ∧ k ≤ 9 then 2 else 1) * (0 + 0) + 0)) (i + 1)) z9)))), ((q 2), .inl (cI, 64, .inl (fun z9 => nI (C.2.2.1 z9)))), ((q 3), .inl (cI, 8, .inl (fun z9 => nI (C.2.2.2.1 z9)))), ((q 4), .inl (cI, 8, .inl (fun z9 => nI (C.2.2.2.2 z9))))] H := hP
                  have hD : va_D A [(o, .inr (1, [.ref (q 0), .ref (q 1), .ref (q 2), .ref (q 3), .ref (q 4)])), ((q 0), .inl (cI, 80, .inl (fun z9 => nI ((va_up C.1 n (min 1000 (1 + (if 7 ≤ k ∧ k ≤ 9 then 2 else 1) * (0 + 0)))) z9)))), ((q 1), .inl (cI, 640, .inl (fun z9 => nI ((kf_up C.2.1 n (fun i => min 1000 ((if 7 ≤ k ∧ k ≤ 9 then 2 else 1) * (0 + 0) + 0)) (i + 1)) z9)))), ((q 2), .inl (cI, 64, .inl (fun z9 => nI (C.2.2.1 z9)))), ((q 3), .inl (cI, 8, .inl (fun z9 => nI (C.2.2.2.1 z9)))), ((q 4), .inl (cI, 8, .inl (fun z9 => nI (C.2.2.2.2 z9))))] := hD
                  refine lv_iinc (v := (nI (i + 1))) (lv' := [(10, .int (nI (i + 1))), (12, .int 0), (11, .int (nI (0 + 0))), (9, .int (nI (0 + 0))), (8, .int (gb (k = 2 ∨ k = 3 ∨ k = 4 ∨ k = 8 ∨ k = 9 ∨ k = 11))), (7, .int (gb (2 ≤ k))), (6, .int (nI (if 7 ≤ k ∧ k ≤ 9 then 2 else 1))), (0, .ref o), (1, .int (nI n)), (2, .int (nI k)), (3, .int a), (4, .int b), (5, .int d)]) hx hb dK_addExpression_175 hl (k := 2) rfl (gx_inc (rfl : (nI i) = (nI i))) (by decide) rfl (fun ls hl => ?_)
                  refine lv_goto (tgt := 76) hx hb dK_addExpression_178 (by decide) ?_
                  exact ih76 (i + 1) (by omega) (by omega) _ _ _ hP hD hS (lv_sub hl [0, 3, 4, 5, 6, 7, 8, 9, 10, 11, 12] rfl)
                · have g132 : k = 11 := (gx_eq (rfl : (nI k) = (nI k)) (rfl : (11 : Int32) = nI 11) (by omega) (by decide)).mp c132
                  exfalso; omega
              · exact absurd (gb_1.mpr (by omega)) c106
            · exact absurd (gb_1.mpr (by omega)) c85
      exact lp76 (8 - (0) + 1) 0 (by omega) (by omega) _ _ _ hP hD hS (lv_sub hl [0, 1, 2, 3, 4, 5, 6, 7, 8, 9, 10] rfl)
    · exact absurd (gb_1.mpr (by omega)) c37
  · exact absurd (gb_1.mpr (by omega)) c22

set_option maxHeartbeats 4000000 in
set_option maxRecDepth 100000 in
theorem c_K_addExpression_1 (l : Launch) (D : va_G) (cI cJ cB cZ : ClassId) (o : Nat) (q : Nat → Nat) (C : Cs) (n k : Nat) (a : Nat) (b : Int32) (d : Int32) (hn : n < 80) (hk : k = 5 ∨ k = 7 ∨ k = 10) (hpl : ∀ x, C.1 x ≤ 1000) (hnm : ∀ x, C.2.1 x ≤ 1000) (ha : a < n) : ct_V l y_K_addExpression w_K_addExpression ({ frames := 2, cells := 0, slots := 0, locals := 51 }) D (gk_T cI cJ cB cZ) [.ref o, .int (nI n), .int (nI k), .int (nI a), .int b, .int d] (wK cI o q C) (0) (0) (fun w => w = wK cI o q (cs_exp C n (if 7 ≤ k ∧ k ≤ 9 then 2 else 1) (C.1 a + 0) (fun i => (C.2.1 (a * 8 + i) + 0)) (fun i => 0))) := by
  intro sz
  refine Met.ofW (cc := b_K_addExpression) (maxL := 13) (ret := none) (by decide) rfl ?_
  intro p ev9 s m args below meth c s₁ B9 hml hv
  obtain ⟨rfl, hsz, hP, hK, hN, hD0⟩ := hv
  have hx := B9.exec
  have hb := B9.bytes
  have hr := B9.returns
  have hts := atoms_spec (ws := w_K_addExpression) B9.pre
  have ht : ∀ w ∈ gk_big, w.before _ s = true := fun w h => hts w (List.mem_cons_of_mem _ h)
  have hown : s.vm.findClass R_K = some m.cls := findClass_of_methodNamed B9.named
  have hlocks := B9.notSynchronized
  subst hsz
  have hD := hD0.self (sz := s.heap.size)
  generalize hAe : va_A (wK cI o q C) s.heap.size = A at hD ⊢
  have hA : ∀ q : Nat, s.heap.size ≤ q → A q := fun q h => by rw [← hAe]; exact Or.inr h
  generalize hHe : s.heap = H at hP ⊢
  have hS : va_S A s.heap H [] := by rw [← hHe]; exact va_S.rf
  have hP : va_P D vwCl [(o, .inr (1, [.ref (q 0), .ref (q 1), .ref (q 2), .ref (q 3), .ref (q 4)])), ((q 0), .inl (cI, 80, .inl (fun z9 => nI (C.1 z9)))), ((q 1), .inl (cI, 640, .inl (fun z9 => nI (C.2.1 z9)))), ((q 2), .inl (cI, 64, .inl (fun z9 => nI (C.2.2.1 z9)))), ((q 3), .inl (cI, 8, .inl (fun z9 => nI (C.2.2.2.1 z9)))), ((q 4), .inl (cI, 8, .inl (fun z9 => nI (C.2.2.2.2 z9))))] H := hP
  have hD : va_D A [(o, .inr (1, [.ref (q 0), .ref (q 1), .ref (q 2), .ref (q 3), .ref (q 4)])), ((q 0), .inl (cI, 80, .inl (fun z9 => nI (C.1 z9)))), ((q 1), .inl (cI, 640, .inl (fun z9 => nI (C.2.1 z9)))), ((q 2), .inl (cI, 64, .inl (fun z9 => nI (C.2.2.1 z9)))), ((q 3), .inl (cI, 8, .inl (fun z9 => nI (C.2.2.2.1 z9)))), ((q 4), .inl (cI, 8, .inl (fun z9 => nI (C.2.2.2.2 z9))))] := hD
  have hl := lv_entry ([.ref o, .int (nI n), .int (nI k), .int (nI a), .int b, .int d]) (n := 13) (Nat.le_of_ble_eq_true rfl)
  rw [lg_entry_eq]
  generalize (lg_sl ([.ref o, .int (nI n), .int (nI k), .int (nI a), .int b, .int d]) ++ List.replicate (13 - (lg_sl ([.ref o, .int (nI n), .int (nI k), .int (nI a), .int b, .int d])).length) Slot.unset).toArray = ls at hl ⊢
  have hl : lv_has ls 13 [(0, .ref o), (1, .int (nI n)), (2, .int (nI k)), (3, .int (nI a)), (4, .int b), (5, .int d)] := hl
  have hf9 : (if 7 ≤ k ∧ k ≤ 9 then 2 else 1) ≤ 3 := by split <;> omega
  have hpa := hpl a
  refine lv_iload_n hx hb dK_addExpression_0 rfl (lv_at hl 2 rfl) ?_
  refine lv_iload hx hb dK_addExpression_1 (lv_at hl 4 rfl) ?_
  refine gc_i (va_runS (As := [.int (nI k), .int b]) (rest := []) ⟨hx, hb, hml, hown, ht⟩ (c_K_factorOf_n l D cI cJ cB cZ k b (by omega) (by omega) H.size) (va_cwS 2 ht (gw_S m_194 m_195 m_5 m_196) rfl rfl rfl (by decide +kernel) ⟨Nat.le_of_ble_eq_true rfl, Nat.le_of_ble_eq_true rfl⟩) (gp_S hK hN (hP.sub (ws' := ([] : va_W)) [] rfl) (hD.sub (ws' := ([] : va_W)) [] (by decide) rfl)) rfl rfl hl.1 rfl (lv_room (Nat.le_of_ble_eq_true rfl)) dK_addExpression_3 ⟨Nat.le_of_ble_eq_true rfl, Nat.le_of_ble_eq_true rfl⟩) hP hD hS hA [] rfl (by decide) (fun r w h => by obtain ⟨_, rfl⟩ := h; rfl) (fun r3 w3 H locs p3 hP hD hS => ?_)
  obtain ⟨rfl, rfl⟩ := p3
  have hP : va_P D vwCl [(o, .inr (1, [.ref (q 0), .ref (q 1), .ref (q 2), .ref (q 3), .ref (q 4)])), ((q 0), .inl (cI, 80, .inl (fun z9 => nI (C.1 z9)))), ((q 1), .inl (cI, 640, .inl (fun z9 => nI (C.2.1 z9)))), ((q 2), .inl (cI, 64, .inl (fun z9 => nI (C.2.2.1 z9)))), ((q 3), .inl (cI, 8, .inl (fun z9 => nI (C.2.2.2.1 z9)))), ((q 4), .inl (cI, 8, .inl (fun z9 => nI (C.2.2.2.2 z9))))] H := hP
  have hD : va_D A [(o, .inr (1, [.ref (q 0), .ref (q 1), .ref (q 2), .ref (q 3), .ref (q 4)])), ((q 0), .inl (cI, 80, .inl (fun z9 => nI (C.1 z9)))), ((q 1), .inl (cI, 640, .inl (fun z9 => nI (C.2.1 z9)))), ((q 2), .inl (cI, 64, .inl (fun z9 => nI (C.2.2.1 z9)))), ((q 3), .inl (cI, 8, .inl (fun z9 => nI (C.2.2.2.1 z9)))), ((q 4), .inl (cI, 8, .inl (fun z9 => nI (C.2.2.2.2 z9))))] := hD
  refine lv_istore (lv' := [(6, .int (nI (if 7 ≤ k ∧ k ≤ 9 then 2 else 1))), (0, .ref o), (1, .int (nI n)), (2, .int (nI k)), (3, .int (nI a)), (4, .int b), (5, .int d)]) hx hb dK_addExpression_6 hl (by decide) rfl (fun ls hl => ?_)
  refine lv_iload_n hx hb dK_addExpression_8 rfl (lv_at hl 3 rfl) ?_
  refine gc_i (va_runS (As := [.int (nI k)]) (rest := []) ⟨hx, hb, hml, hown, ht⟩ (c_E_hasLeft l D cI cJ cB cZ (nI k) H.size) (va_cwS 1 ht (gw_S m_200 m_165 m_3 m_166) rfl rfl rfl (by decide +kernel) ⟨Nat.le_of_ble_eq_true rfl, Nat.le_of_ble_eq_true rfl⟩) (gp_S hK hN (hP.sub (ws' := ([] : va_W)) [] rfl) (hD.sub (ws' := ([] : va_W)) [] (by decide) rfl)) rfl rfl hl.1 rfl (lv_room (Nat.le_of_ble_eq_true rfl)) dK_addExpression_9 ⟨Nat.le_of_ble_eq_true rfl, Nat.le_of_ble_eq_true rfl⟩) hP hD hS hA [] rfl (by decide) (fun r w h => by obtain ⟨_, rfl⟩ := h; rfl) (fun r9 w9 H locs p9 hP hD hS => ?_)
  obtain ⟨rfl, rfl⟩ := p9
  have hP : va_P D vwCl [(o, .inr (1, [.ref (q 0), .ref (q 1), .ref (q 2), .ref (q 3), .ref (q 4)])), ((q 0), .inl (cI, 80, .inl (fun z9 => nI (C.1 z9)))), ((q 1), .inl (cI, 640, .inl (fun z9 => nI (C.2.1 z9)))), ((q 2), .inl (cI, 64, .inl (fun z9 => nI (C.2.2.1 z9)))), ((q 3), .inl (cI, 8, .inl (fun z9 => nI (C.2.2.2.1 z9)))), ((q 4), .inl (cI, 8, .inl (fun z9 => nI (C.2.2.2.2 z9))))] H := hP
  have hD : va_D A [(o, .inr (1, [.ref (q 0), .ref (q 1), .ref (q 2), .ref (q 3), .ref (q 4)])), ((q 0), .inl (cI, 80, .inl (fun z9 => nI (C.1 z9)))), ((q 1), .inl (cI, 640, .inl (fun z9 => nI (C.2.1 z9)))), ((q 2), .inl (cI, 64, .inl (fun z9 => nI (C.2.2.1 z9)))), ((q 3), .inl (cI, 8, .inl (fun z9 => nI (C.2.2.2.1 z9)))), ((q 4), .inl (cI, 8, .inl (fun z9 => nI (C.2.2.2.2 z9))))] := hD
  rw [gk_left (by omega)]
  refine lv_istore (lv' := [(7, .int (gb (2 ≤ k))), (6, .int (nI (if 7 ≤ k ∧ k ≤ 9 then 2 else 1))), (0, .ref o), (1, .int (nI n)), (2, .int (nI k)), (3, .int (nI a)), (4, .int b), (5, .int d)]) hx hb dK_addExpression_12 hl (by decide) rfl (fun ls hl => ?_)
  refine lv_iload_n hx hb dK_addExpression_14 rfl (lv_at hl 4 rfl) ?_
  refine gc_i (va_runS (As := [.int (nI k)]) (rest := []) ⟨hx, hb, hml, hown, ht⟩ (c_E_hasRight l D cI cJ cB cZ (nI k) H.size) (va_cwS 1 ht (gw_S m_201 m_175 m_3 m_176) rfl rfl rfl (by decide +kernel) ⟨Nat.le_of_ble_eq_true rfl, Nat.le_of_ble_eq_true rfl⟩) (gp_S hK hN (hP.sub (ws' := ([] : va_W)) [] rfl) (hD.sub (ws' := ([] : va_W)) [] (by decide) rfl)) rfl rfl hl.1 rfl (lv_room (Nat.le_of_ble_eq_true rfl)) dK_addExpression_15 ⟨Nat.le_of_ble_eq_true rfl, Nat.le_of_ble_eq_true rfl⟩) hP hD hS hA [] rfl (by decide) (fun r w h => by obtain ⟨_, rfl⟩ := h; rfl) (fun r15 w15 H locs p15 hP hD hS => ?_)
  obtain ⟨rfl, rfl⟩ := p15
  have hP : va_P D vwCl [(o, .inr (1, [.ref (q 0), .ref (q 1), .ref (q 2), .ref (q 3), .ref (q 4)])), ((q 0), .inl (cI, 80, .inl (fun z9 => nI (C.1 z9)))), ((q 1), .inl (cI, 640, .inl (fun z9 => nI (C.2.1 z9)))), ((q 2), .inl (cI, 64, .inl (fun z9 => nI (C.2.2.1 z9)))), ((q 3), .inl (cI, 8, .inl (fun z9 => nI (C.2.2.2.1 z9)))), ((q 4), .inl (cI, 8, .inl (fun z9 => nI (C.2.2.2.2 z9))))] H := hP
  have hD : va_D A [(o, .inr (1, [.ref (q 0), .ref (q 1), .ref (q 2), .ref (q 3), .ref (q 4)])), ((q 0), .inl (cI, 80, .inl (fun z9 => nI (C.1 z9)))), ((q 1), .inl (cI, 640, .inl (fun z9 => nI (C.2.1 z9)))), ((q 2), .inl (cI, 64, .inl (fun z9 => nI (C.2.2.1 z9)))), ((q 3), .inl (cI, 8, .inl (fun z9 => nI (C.2.2.2.1 z9)))), ((q 4), .inl (cI, 8, .inl (fun z9 => nI (C.2.2.2.2 z9))))] := hD
  rw [gk_right (by omega)]
  refine lv_istore (lv' := [(8, .int (gb (k = 2 ∨ k = 3 ∨ k = 4 ∨ k = 8 ∨ k = 9 ∨ k = 11))), (7, .int (gb (2 ≤ k))), (6, .int (nI (if 7 ≤ k ∧ k ≤ 9 then 2 else 1))), (0, .ref o), (1, .int (nI n)), (2, .int (nI k)), (3, .int (nI a)), (4, .int b), (5, .int d)]) hx hb dK_addExpression_18 hl (by decide) rfl (fun ls hl => ?_)
  refine lv_iload hx hb dK_addExpression_20 (lv_at hl 1 rfl) ?_
  refine lv_if_eq (tgt := 34) hx hb dK_addExpression_22 (by decide) (fun c22 => ?_) (fun c22 => ?_)
  · exact absurd (gb_1.mp c22) (fun z => z (by omega))
  · refine lv_aload_n hx hb dK_addExpression_25 rfl (lv_at hl 3 rfl) ?_
    refine va_get (D := D) (ci := 1) (v := .ref (q 0)) (C := R_K) (T := F_K) (N := 5) hx hb ht i_K hown hK hP 0 rfl rfl 0 (by decide) (ht _ m_113) (fun _ h9 => h9) rfl dK_addExpression_26 ?_
    refine lv_iload_n hx hb dK_addExpression_29 rfl (lv_at hl 6 rfl) ?_
    have i30 : vp_in (nI a) 80 := gx_in (rfl : (nI a) = (nI a)) (by omega) (by decide)
    have k30 : ((nI a) : Int32).toNatClampNeg = a := gx_cl (rfl : (nI a) = (nI a)) (by omega)
    refine va_iald hx hb hK hP 1 0 rfl rfl i30 dK_addExpression_30 ?_
    rw [k30]
    refine lv_topi (fun v30 e30 => ?_)
    have n30 : v30 = nI (C.1 a) := e30
    subst n30
    refine lv_goto (tgt := 35) hx hb dK_addExpression_31 (by decide) ?_
    refine lv_iload hx hb dK_addExpression_35 (lv_at hl 0 rfl) ?_
    refine lv_if_eq (tgt := 50) hx hb dK_addExpression_37 (by decide) (fun c37 => ?_) (fun c37 => ?_)
    · refine lv_iconst (v := 0) hx hb dK_addExpression_50 (by decide) ?_
      refine lv_iadd hx hb dK_addExpression_51 ?_
      refine lv_topi (fun v51 e51 => ?_)
      have n51 : v51 = nI ((C.1 a) + 0) := by rw [e51]; exact gx_add (rfl : (nI (C.1 a)) = (nI (C.1 a))) (rfl : (0 : Int32) = nI 0)
      subst n51
      refine lv_istore (lv' := [(9, .int (nI ((C.1 a) + 0))), (8, .int (gb (k = 2 ∨ k = 3 ∨ k = 4 ∨ k = 8 ∨ k = 9 ∨ k = 11))), (7, .int (gb (2 ≤ k))), (6, .int (nI (if 7 ≤ k ∧ k ≤ 9 then 2 else 1))), (0, .ref o), (1, .int (nI n)), (2, .int (nI k)), (3, .int (nI a)), (4, .int b), (5, .int d)]) hx hb dK_addExpression_52 hl (by decide) rfl (fun ls hl => ?_)
      refine lv_aload_n hx hb dK_addExpression_54 rfl (lv_at hl 4 rfl) ?_
      refine va_get (D := D) (ci := 1) (v := .ref (q 0)) (C := R_K) (T := F_K) (N := 5) hx hb ht i_K hown hK hP 0 rfl rfl 0 (by decide) (ht _ m_113) (fun _ h9 => h9) rfl dK_addExpression_55 ?_
      refine lv_iload_n hx hb dK_addExpression_58 rfl (lv_at hl 5 rfl) ?_
      refine lv_sipush (v := 1000) hx hb dK_addExpression_59 (by decide) ?_
      refine lv_iconst (v := 1) hx hb dK_addExpression_62 (by decide) ?_
      refine lv_iload hx hb dK_addExpression_63 (lv_at hl 3 rfl) ?_
      refine lv_iload hx hb dK_addExpression_65 (lv_at hl 0 rfl) ?_
      refine lv_imul hx hb dK_addExpression_67 ?_
      refine lv_topi (fun v67 e67 => ?_)
      have n67 : v67 = nI ((if 7 ≤ k ∧ k ≤ 9 then 2 else 1) * ((C.1 a) + 0)) := by rw [e67]; exact gx_mul (rfl : (nI (if 7 ≤ k ∧ k ≤ 9 then 2 else 1)) = (nI (if 7 ≤ k ∧ k ≤ 9 then 2 else 1))) (rfl : (nI ((C.1 a) + 0)) = (nI ((C.1 a) + 0)))
      subst n67
      refine lv_iadd hx hb dK_addExpression_68 ?_
      refine lv_topi (fun v68 e68 => ?_)
      have n68 : v68 = nI (1 + ((if 7 ≤ k ∧ k ≤ 9 then 2 else 1) * ((C.1 a) + 0))) := by rw [e68]; exact gx_add (rfl : (1 : Int32) = nI 1) (rfl : (nI ((if 7 ≤ k ∧ k ≤ 9 then 2 else 1) * ((C.1 a) + 0))) = (nI ((if 7 ≤ k ∧ k ≤ 9 then 2 else 1) * ((C.1 a) + 0))))
      subst n68
      have hm9 : (if 7 ≤ k ∧ k ≤ 9 then 2 else 1) * (C.1 a + 0) ≤ 3 * (C.1 a + 0) := Nat.mul_le_mul_right _ hf9
      refine va_mmin hx hb (by rw [hml]; exact hl.1.symm) hown (ht _ m_202) (ht _ m_203) (ht _ m_7) (ht _ mh_min) (Nat.le_of_ble_eq_true rfl) (Nat.le_of_ble_eq_true rfl) (Nat.zero_le _) (Nat.zero_le _) dK_addExpression_69 ?_
      refine lv_topi (fun v69 e69 => ?_)
      have n69 : v69 = nI (min 1000 (1 + ((if 7 ≤ k ∧ k ≤ 9 then 2 else 1) * ((C.1 a) + 0)))) := by rw [e69]; exact gx_min (rfl : (1000 : Int32) = nI 1000) (rfl : (nI (1 + ((if 7 ≤ k ∧ k ≤ 9 then 2 else 1) * ((C.1 a) + 0)))) = (nI (1 + ((if 7 ≤ k ∧ k ≤ 9 then 2 else 1) * ((C.1 a) + 0))))) (by decide) (by omega)
      subst n69
      have i72 : vp_in (nI n) 80 := gx_in (rfl : (nI n) = (nI n)) (by omega) (by decide)
      have k72 : ((nI n) : Int32).toNatClampNeg = n := gx_cl (rfl : (nI n) = (nI n)) (by omega)
      refine va_iast hx hb hK hP hD hS 1 0 rfl rfl i72 dK_addExpression_72 (fun H locs hP hD hS => ?_)
      rw [k72] at hP hD
      have hP : va_P D vwCl [(o, .inr (1, [.ref (q 0), .ref (q 1), .ref (q 2), .ref (q 3), .ref (q 4)])), ((q 0), .inl (cI, 80, .inl (upd (fun z9 => nI (C.1 z9)) n (nI (min 1000 (1 + ((if 7 ≤ k ∧ k ≤ 9 then 2 else 1) * ((C.1 a) + 0)))))))), ((q 1), .inl (cI, 640, .inl (fun z9 => nI (C.2.1 z9)))), ((q 2), .inl (cI, 64, .inl (fun z9 => nI (C.2.2.1 z9)))), ((q 3), .inl (cI, 8, .inl (fun z9 => nI (C.2.2.2.1 z9)))), ((q 4), .inl (cI, 8, .inl (fun z9 => nI (C.2.2.2.2 z9))))] H := hP
      have hD : va_D A [(o, .inr (1, [.ref (q 0), .ref (q 1), .ref (q 2), .ref (q 3), .ref (q 4)])), ((q 0), .inl (cI, 80, .inl (upd (fun z9 => nI (C.1 z9)) n (nI (min 1000 (1 + ((if 7 ≤ k ∧ k ≤ 9 then 2 else 1) * ((C.1 a) + 0)))))))), ((q 1), .inl (cI, 640, .inl (fun z9 => nI (C.2.1 z9)))), ((q 2), .inl (cI, 64, .inl (fun z9 => nI (C.2.2.1 z9)))), ((q 3), .inl (cI, 8, .inl (fun z9 => nI (C.2.2.2.1 z9)))), ((q 4), .inl (cI, 8, .inl (fun z9 => nI (C.2.2.2.2 z9))))] := hD
      rw [gx_upd] at hP hD
      refine lv_iconst (v := 0) hx hb dK_addExpression_73 (by decide) ?_
      refine lv_istore (lv' := [(10, .int 0), (9, .int (nI ((C.1 a) + 0))), (8, .int (gb (k = 2 ∨ k = 3 ∨ k = 4 ∨ k = 8 ∨ k = 9 ∨ k = 11))), (7, .int (gb (2 ≤ k))), (6, .int (nI (if 7 ≤ k ∧ k ≤ 9 then 2 else 1))), (0, .ref o), (1, .int (nI n)), (2, .int (nI k)), (3, .int (nI a)), (4, .int b), (5, .int d)]) hx hb dK_addExpression_74 hl (by decide) rfl (fun ls hl => ?_)
      rw [← kf_up_0 C.2.1 n (fun i => min 1000 ((if 7 ≤ k ∧ k ≤ 9 then 2 else 1) * (C.2.1 (a * 8 + i) + 0) + 0))] at hP hD
      have lp76 : ∀ (n76 : Nat) (i : Nat), 8 - i + 1 ≤ n76 → (i ≤ 8) → ∀ (H : Heap) (locs : List Loc) (ls : Array Slot), va_P D vwCl [(o, .inr (1, [.ref (q 0), .ref (q 1), .ref (q 2), .ref (q 3), .ref (q 4)])), ((q 0), .inl (cI, 80, .inl (fun z9 => nI ((va_up C.1 n (min 1000 (1 + (if 7 ≤ k ∧ k ≤ 9 then 2 else 1) * (C.1 a + 0)))) z9)))), ((q 1), .inl (cI, 640, .inl (fun z9 => nI ((kf_up C.2.1 n (fun i => min 1000 ((if 7 ≤ k ∧ k ≤ 9 then 2 else 1) * (C.2.1 (a * 8 + i) + 0) + 0)) i) z9)))), ((q 2), .inl (cI, 64, .inl (fun z9 => nI (C.2.2.1 z9)))), ((q 3), .inl (cI, 8, .inl (fun z9 => nI (C.2.2.2.1 z9)))), ((q 4), .inl (cI, 8, .inl (fun z9 => nI (C.2.2.2.2 z9))))] H → va_D A [(o, .inr (1, [.ref (q 0), .ref (q 1), .ref (q 2), .ref (q 3), .ref (q 4)])), ((q 0), .inl (cI, 80, .inl (fun z9 => nI ((va_up C.1 n (min 1000 (1 + (if 7 ≤ k ∧ k ≤ 9 then 2 else 1) * (C.1 a + 0)))) z9)))), ((q 1), .inl (cI, 640, .inl (fun z9 => nI ((kf_up C.2.1 n (fun i => min 1000 ((if 7 ≤ k ∧ k ≤ 9 then 2 else 1) * (C.2.1 (a * 8 + i) + 0) + 0)) i) z9)))), ((q 2), .inl (cI, 64, .inl (fun z9 => nI (C.2.2.1 z9)))), ((q 3), .inl (cI, 8, .inl (fun z9 => nI (C.2.2.2.1 z9)))), ((q 4), .inl (cI, 8, .inl (fun z9 => nI (C.2.2.2.2 z9))))] → va_S A s.heap H locs → lv_has ls 13 [(10, .int (nI i)), (9, .int (nI ((C.1 a) + 0))), (8, .int (gb (k = 2 ∨ k = 3 ∨ k = 4 ∨ k = 8 ∨ k = 9 ∨ k = 11))), (7, .int (gb (2 ≤ k))), (6, .int (nI (if 7 ≤ k ∧ k ≤ 9 then 2 else 1))), (0, .ref o), (1, .int (nI n)), (2, .int (nI k)), (3, .int (nI a)), (4, .int b), (5, .int d)] → W p l ev9 (headSpec w_K_addExpression ({ frames := 2, cells := 0, slots := 0, locals := 51 })).room s m ([.ref o, .int (nI n), .int (nI k), .int (nI a), .int b, .int d] : List Value).toArray below meth c H locs 0 0 (MQ below (gq_V D A (fun w => w = wK cI o q (cs_exp C n (if 7 ≤ k ∧ k ≤ 9 then 2 else 1) (C.1 a + 0) (fun i => (C.2.1 (a * 8 + i) + 0)) (fun i => 0)))) ([.ref o, .int (nI n), .int (nI k), .int (nI a), .int b, .int d] : List Value).toArray s (0) (0) A) (F0 m 76 ls []) := by
        intro n76
        induction n76 with
        | zero =>
          intro i hm76
          exact absurd hm76 (by omega)
        | succ n76 ih76 =>
          intro i hm76 hi H locs ls hP hD hS hl
          refine lv_iload hx hb dK_addExpression_76 (lv_at hl 0 rfl) ?_
          refine lv_bipush (v := 8) hx hb dK_addExpression_78 (by decide) ?_
          refine lv_icmp_ge (tgt := 181) hx hb dK_addExpression_80 (by decide) (fun c80 => ?_) (fun c80 => ?_)
          · have g80 : 8 ≤ i := (gx_le (rfl : (8 : Int32) = nI 8) (rfl : (nI i) = (nI i)) (by decide) (by omega)).mp c80
            have zi : i = 8 := by omega
            subst zi
            have hP : va_P D vwCl (wK cI o q (cs_exp C n (if 7 ≤ k ∧ k ≤ 9 then 2 else 1) (C.1 a + 0) (fun i => (C.2.1 (a * 8 + i) + 0)) (fun i => 0))) _ := hP
            have hD : va_D A (wK cI o q (cs_exp C n (if 7 ≤ k ∧ k ≤ 9 then 2 else 1) (C.1 a + 0) (fun i => (C.2.1 (a * 8 + i) + 0)) (fun i => 0))) := hD
            exact W.vret hx hb hr (fun t9 ht9 hW => ⟨⟨_, rfl, rfl, by rw [ht9]; exact hP, hD⟩, hS.F ht9⟩) hS.2.2 dK_addExpression_181
          · have g80 : ¬ (8 ≤ i) := fun z => c80 ((gx_le (rfl : (8 : Int32) = nI 8) (rfl : (nI i) = (nI i)) (by decide) (by omega)).mpr z)
            have hna := hnm (a * 8 + i)
            refine lv_iload hx hb dK_addExpression_83 (lv_at hl 3 rfl) ?_
            refine lv_if_eq (tgt := 103) hx hb dK_addExpression_85 (by decide) (fun c85 => ?_) (fun c85 => ?_)
            · exact absurd (gb_1.mp c85) (fun z => z (by omega))
            · refine lv_aload_n hx hb dK_addExpression_88 rfl (lv_at hl 5 rfl) ?_
              refine va_get (D := D) (ci := 1) (v := .ref (q 1)) (C := R_K) (T := F_K) (N := 5) hx hb ht i_K hown hK hP 0 rfl rfl 1 (by decide) (ht _ m_114) (fun _ h9 => h9) rfl dK_addExpression_89 ?_
              refine lv_iload_n hx hb dK_addExpression_92 rfl (lv_at hl 8 rfl) ?_
              refine lv_bipush (v := 8) hx hb dK_addExpression_93 (by decide) ?_
              refine lv_imul hx hb dK_addExpression_95 ?_
              refine lv_topi (fun v95 e95 => ?_)
              have n95 : v95 = nI (a * 8) := by rw [e95]; exact gx_mul (rfl : (nI a) = (nI a)) (rfl : (8 : Int32) = nI 8)
              subst n95
              refine lv_iload hx hb dK_addExpression_96 (lv_at hl 0 rfl) ?_
              refine lv_iadd hx hb dK_addExpression_98 ?_
              refine lv_topi (fun v98 e98 => ?_)
              have n98 : v98 = nI ((a * 8) + i) := by rw [e98]; exact gx_add (rfl : (nI (a * 8)) = (nI (a * 8))) (rfl : (nI i) = (nI i))
              subst n98
              have i99 : vp_in (nI ((a * 8) + i)) 640 := gx_in (rfl : (nI ((a * 8) + i)) = (nI ((a * 8) + i))) (by omega) (by decide)
              have k99 : ((nI ((a * 8) + i)) : Int32).toNatClampNeg = ((a * 8) + i) := gx_cl (rfl : (nI ((a * 8) + i)) = (nI ((a * 8) + i))) (by omega)
              refine va_iald hx hb hK hP 2 0 rfl rfl i99 dK_addExpression_99 ?_
              rw [k99]
              refine lv_topi (fun v99 e99 => ?_)
              have n99 : v99 = nI ((kf_up C.2.1 n (fun i => min 1000 ((if 7 ≤ k ∧ k ≤ 9 then 2 else 1) * (C.2.1 (a * 8 + i) + 0) + 0)) i) ((a * 8) + i)) := e99
              subst n99
              rw [kf_up_r _ _ _ _ _ _ ha (by omega)]
              refine lv_goto (tgt := 104) hx hb dK_addExpression_100 (by decide) ?_
              refine lv_iload hx hb dK_addExpression_104 (lv_at hl 2 rfl) ?_
              refine lv_if_eq (tgt := 125) hx hb dK_addExpression_106 (by decide) (fun c106 => ?_) (fun c106 => ?_)
              · refine lv_iconst (v := 0) hx hb dK_addExpression_125 (by decide) ?_
                refine lv_iadd hx hb dK_addExpression_126 ?_
                refine lv_topi (fun v126 e126 => ?_)
                have n126 : v126 = nI ((C.2.1 (a * 8 + i)) + 0) := by rw [e126]; exact gx_add (rfl : (nI (C.2.1 (a * 8 + i))) = (nI (C.2.1 (a * 8 + i)))) (rfl : (0 : Int32) = nI 0)
                subst n126
                refine lv_istore (lv' := [(11, .int (nI ((C.2.1 (a * 8 + i)) + 0))), (10, .int (nI i)), (9, .int (nI ((C.1 a) + 0))), (8, .int (gb (k = 2 ∨ k = 3 ∨ k = 4 ∨ k = 8 ∨ k = 9 ∨ k = 11))), (7, .int (gb (2 ≤ k))), (6, .int (nI (if 7 ≤ k ∧ k ≤ 9 then 2 else 1))), (0, .ref o), (1, .int (nI n)), (2, .int (nI k)), (3, .int (nI a)), (4, .int b), (5, .int d)]) hx hb dK_addExpression_127 hl (by decide) rfl (fun ls hl => ?_)
                refine lv_iload_n hx hb dK_addExpression_129 rfl (lv_at hl 8 rfl) ?_
                refine lv_bipush (v := 11) hx hb dK_addExpression_130 (by decide) ?_
                refine lv_icmp_ne (tgt := 146) hx hb dK_addExpression_132 (by decide) (fun c132 => ?_) (fun c132 => ?_)
                · have g132 : ¬ (k = 11) := fun z => c132 ((gx_eq (rfl : (nI k) = (nI k)) (rfl : (11 : Int32) = nI 11) (by omega) (by decide)).mpr z)
                  refine lv_iconst (v := 0) hx hb dK_addExpression_146 (by decide) ?_
                  refine lv_istore (lv' := [(12, .int 0), (11, .int (nI ((C.2.1 (a * 8 + i)) + 0))), (10, .int (nI i)), (9, .int (nI ((C.1 a) + 0))), (8, .int (gb (k = 2 ∨ k = 3 ∨ k = 4 ∨ k = 8 ∨ k = 9 ∨ k = 11))), (7, .int (gb (2 ≤ k))), (6, .int (nI (if 7 ≤ k ∧ k ≤ 9 then 2 else 1))), (0, .ref o), (1, .int (nI n)), (2, .int (nI k)), (3, .int (nI a)), (4, .int b), (5, .int d)]) hx hb dK_addExpression_147 hl (by decide) rfl (fun ls hl => ?_)
                  refine lv_aload_n hx hb dK_addExpression_149 rfl (lv_at hl 7 rfl) ?_
                  refine va_get (D := D) (ci := 1) (v := .ref (q 1)) (C := R_K) (T := F_K) (N := 5) hx hb ht i_K hown hK hP 0 rfl rfl 1 (by decide) (ht _ m_114) (fun _ h9 => h9) rfl dK_addExpression_150 ?_
                  refine lv_iload_n hx hb dK_addExpression_153 rfl (lv_at hl 8 rfl) ?_
                  refine lv_bipush (v := 8) hx hb dK_addExpression_154 (by decide) ?_
                  refine lv_imul hx hb dK_addExpression_156 ?_
                  refine lv_topi (fun v156 e156 => ?_)
                  have n156 : v156 = nI (n * 8) := by rw [e156]; exact gx_mul (rfl : (nI n) = (nI n)) (rfl : (8 : Int32) = nI 8)
                  subst n156
                  refine lv_iload hx hb dK_addExpression_157 (lv_at hl 2 rfl) ?_
                  refine lv_iadd hx hb dK_addExpression_159 ?_
                  refine lv_topi (fun v159 e159 => ?_)
                  have n159 : v159 = nI ((n * 8) + i) := by rw [e159]; exact gx_add (rfl : (nI (n * 8)) = (nI (n * 8))) (rfl : (nI i) = (nI i))
                  subst n159
                  refine lv_sipush (v := 1000) hx hb dK_addExpression_160 (by decide) ?_
                  refine lv_iload hx hb dK_addExpression_163 (lv_at hl 6 rfl) ?_
                  refine lv_iload hx hb dK_addExpression_165 (lv_at hl 1 rfl) ?_
                  refine lv_imul hx hb dK_addExpression_167 ?_
                  refine lv_topi (fun v167 e167 => ?_)
                  have n167 : v167 = nI ((if 7 ≤ k ∧ k ≤ 9 then 2 else 1) * ((C.2.1 (a * 8 + i)) + 0)) := by rw [e167]; exact gx_mul (rfl : (nI (if 7 ≤ k ∧ k ≤ 9 then 2 else 1)) = (nI (if 7 ≤ k ∧ k ≤ 9 then 2 else 1))) (rfl : (nI ((C.2.1 (a * 8 + i)) + 0)) = (nI ((C.2.1 (a * 8 + i)) + 0)))
                  subst n167
                  refine lv_iload hx hb dK_addExpression_168 (lv_at hl 0 rfl) ?_
                  refine lv_iadd hx hb dK_addExpression_170 ?_
                  refine lv_topi (fun v170 e170 => ?_)
                  have n170 : v170 = nI (((if 7 ≤ k ∧ k ≤ 9 then 2 else 1) * ((C.2.1 (a * 8 + i)) + 0)) + 0) := by rw [e170]; exact gx_add (rfl : (nI ((if 7 ≤ k ∧ k ≤ 9 then 2 else 1) * ((C.2.1 (a * 8 + i)) + 0))) = (nI ((if 7 ≤ k ∧ k ≤ 9 then 2 else 1) * ((C.2.1 (a * 8 + i)) + 0)))) (rfl : (0 : Int32) = nI 0)
                  subst n170
                  have hm9 : (if 7 ≤ k ∧ k ≤ 9 then 2 else 1) * (C.2.1 (a * 8 + i) + 0) ≤ 3 * (C.2.1 (a * 8 + i) + 0) := Nat.mul_le_mul_right _ hf9
                  refine va_mmin hx hb (by rw [hml]; exact hl.1.symm) hown (ht _ m_202) (ht _ m_203) (ht _ m_7) (ht _ mh_min) (Nat.le_of_ble_eq_true rfl) (Nat.le_of_ble_eq_true rfl) (Nat.zero_le _) (Nat.zero_le _) dK_addExpression_171 ?_
                  refine lv_topi (fun v171 e171 => ?_)
                  have n171 : v171 = nI (min 1000 (((if 7 ≤ k ∧ k ≤ 9 then 2 else 1) * ((C.2.1 (a * 8 + i)) + 0)) + 0)) := by rw [e171]; exact gx_min (rfl : (1000 : Int32) = nI 1000) (rfl : (nI (((if 7 ≤ k ∧ k ≤ 9 then 2 else 1) * ((C.2.1 (a * 8 + i)) + 0)) + 0)) = (nI (((if 7 ≤ k ∧ k ≤ 9 then 2 else 1) * ((C.2.1 (a * 8 + i)) + 0)) + 0))) (by decide) (by omega)
                  subst n171
                  have i174 : vp_in (nI ((n * 8) + i)) 640 := gx_in (rfl : (nI ((n * 8) + i)) = (nI ((n * 8) + i))) (by omega) (by decide)
                  have k174 : ((nI ((n * 8) + i)) : Int32).toNatClampNeg = ((n * 8) + i) := gx_cl (rfl : (nI ((n * 8) + i)) = (nI ((n * 8) + i))) (by omega)
                  refine va_iast hx hb hK hP hD hS 2 0 rfl rfl i174 dK_addExpression_174 (fun H locs hP hD hS => ?_)
                  rw [k174] at hP hD
                  have hP : va_P D vwCl [(o, .inr (1, [.ref (q 0), .ref (q 1), .ref (q 2), .ref (q 3), .ref (q 4)])), ((q 0), .inl (cI, 80, .inl (fun z9 => nI ((va_up C.1 n (min 1000 (1 + (if 7 ≤ k ∧ k ≤ 9 then 2 else 1) * (C.1 a + 0)))) z9)))), ((q 1), .inl (cI, 640, .inl (upd (fun z9 => nI ((kf_up C.2.1 n (fun i => min 1000 ((if 7 ≤ k ∧ k ≤ 9 then 2 else 1) * (C.2.1 (a * 8 + i) + 0) + 0)) i) z9)) ((n * 8) + i) (nI (min 1000 (((if 7 ≤ k ∧ k ≤ 9 then 2 else 1) * ((C.2.1 (a * 8 + i)) + 0)) + 0)))))), ((q 2), .inl (cI, 64, .inl (fun z9 => nI (C.2.2.1 z9)))), ((q 3), .inl (cI, 8, .inl (fun z9 => nI (C.2.2.2.1 z9)))), ((q 4), .inl (cI, 8, .inl (fun z9 => nI (C.2.2.2.2 z9))))] H := hP
                  have hD : va_D A [(o, .inr (1, [.ref (q 0), .ref (q 1), .ref (q 2), .ref (q 3), .ref (q 4)])), ((q 0), .inl (cI, 80, .inl (fun z9 => nI ((va_up C.1 n (min 1000 (1 + (if 7 ≤ k ∧ k ≤ 9 then 2 else 1) * (C.1 a + 0)))) z9)))), ((q 1), .inl (cI, 640, .inl (upd (fun z9 => nI ((kf_up C.2.1 n (fun i => min 1000 ((if 7 ≤ k ∧ k ≤ 9 then 2 else 1) * (C.2.1 (a * 8 + i) + 0) + 0)) i) z9)) ((n * 8) + i) (nI (min 1000 (((if 7 ≤ k ∧ k ≤ 9 then 2 else 1) * ((C.2.1 (a * 8 + i)) + 0)) + 0)))))), ((q 2), .inl (cI, 64, .inl (fun z9 => nI (C.2.2.1 z9)))), ((q 3), .inl (cI, 8, .inl (fun z9 => nI (C.2.2.2.1 z9)))), ((q 4), .inl (cI, 8, .inl (fun z9 => nI (C.2.2.2.2 z9))))] := hD
                  rw [gx_upd] at hP hD
                  have hz : min 1000 ((if 7 ≤ k ∧ k ≤ 9 then 2 else 1) * (C.2.1 (a * 8 + i) + 0) + 0) = (fun i => min 1000 ((if 7 ≤ k ∧ k ≤ 9 then 2 else 1) * (C.2.1 (a * 8 + i) + 0) + 0)) i := by show _ = min 1000 ((if 7 ≤ k ∧ k ≤ 9 then 2 else 1) * (C.2.1 (a * 8 + i) + 0) + 0); rfl
                  rw [hz, kf_up_s] at hP hD
                  have hP : va_P D vwCl [(o, .inr (1, [.ref (q 0), .ref (q 1), .ref (q 2), .ref (q 3), .ref (q 4)])), ((q 0), .inl (cI, 80, .inl (fun z9 => nI ((va_up C.1 n (min 1000 (1 + (if 7 ≤ k ∧ k ≤ 9 then 2 else 1) * (C.1 a + 0)))) z9)))), ((q 1), .inl (cI, 640, .inl (fun z9 => nI ((kf_up C.2.1 n (fun i => min 1000 ((if 7 ≤ k ∧ k ≤ 9 then 2 else 1) * (C.2.1 (a * 8 + i) + 0) + 0)) (i + 1)) z9)))), ((q 2), .inl (cI, 64, .inl (fun z9 => nI (C.2.2.1 z9)))), ((q 3), .inl (cI, 8, .inl (fun z9 => nI (C.2.2.2.1 z9)))), ((q 4), .inl (cI, 8, .inl (fun z9 => nI (C.2.2.2.2 z9))))] H := hP
                  have hD : va_D A [(o, .inr (1, [.ref (q 0), .ref (q 1), .ref (q 2), .ref (q 3), .ref (q 4)])), ((q 0), .inl (cI, 80, .inl (fun z9 => nI ((va_up C.1 n (min 1000 (1 + (if 7 ≤ k ∧ k ≤ 9 then 2 else 1) * (C.1 a + 0)))) z9)))), ((q 1), .inl (cI, 640, .inl (fun z9 => nI ((kf_up C.2.1 n (fun i => min 1000 ((if 7 ≤ k ∧ k ≤ 9 then 2 else 1) * (C.2.1 (a * 8 + i) + 0) + 0)) (i + 1)) z9)))), ((q 2), .inl (cI, 64, .inl (fun z9 => nI (C.2.2.1 z9)))), ((q 3), .inl (cI, 8, .inl (fun z9 => nI (C.2.2.2.1 z9)))), ((q 4), .inl (cI, 8, .inl (fun z9 => nI (C.2.2.2.2 z9))))] := hD
                  refine lv_iinc (v := (nI (i + 1))) (lv' := [(10, .int (nI (i + 1))), (12, .int 0), (11, .int (nI ((C.2.1 (a * 8 + i)) + 0))), (9, .int (nI ((C.1 a) + 0))), (8, .int (gb (k = 2 ∨ k = 3 ∨ k = 4 ∨ k = 8 ∨ k = 9 ∨ k = 11))), (7, .int (gb (2 ≤ k))), (6, .int (nI (if 7 ≤ k ∧ k ≤ 9 then 2 else 1))), (0, .ref o), (1, .int (nI n)), (2, .int (nI k)), (3, .int (nI a)), (4, .int b), (5, .int d)]) hx hb dK_addExpression_175 hl (k := 2) rfl (gx_inc (rfl : (nI i) = (nI i))) (by decide) rfl (fun ls hl => ?_)
                  refine lv_goto (tgt := 76) hx hb dK_addExpression_178 (by decide) ?_
                  exact ih76 (i + 1) (by omega) (by omega) _ _ _ hP hD hS (lv_sub hl [0, 3, 4, 5, 6, 7, 8, 9, 10, 11, 12] rfl)
                · have g132 : k = 11 := (gx_eq (rfl : (nI k) = (nI k)) (rfl : (11 : Int32) = nI 11) (by omega) (by decide)).mp c132
                  exfalso; omega
              · exact absurd (gb_1.mpr (by omega)) c106
      exact lp76 (8 - (0) + 1) 0 (by omega) (by omega) _ _ _ hP hD hS (lv_sub hl [0, 1, 2, 3, 4, 5, 6, 7, 8, 9, 10] rfl)
    · exact absurd (gb_1.mpr (by omega)) c37

set_option maxHeartbeats 4000000 in
set_option maxRecDepth 100000 in
theorem c_K_addExpression_p (l : Launch) (D : va_G) (cI cJ cB cZ : ClassId) (o : Nat) (q : Nat → Nat) (C : Cs) (n k : Nat) (a : Nat) (b : Nat) (d : Int32) (hn : n < 80) (hk : k = 6) (hpl : ∀ x, C.1 x ≤ 1000) (hnm : ∀ x, C.2.1 x ≤ 1000) (ha : a < n) (hb8 : b ≤ 3) : ct_V l y_K_addExpression w_K_addExpression ({ frames := 2, cells := 0, slots := 0, locals := 51 }) D (gk_T cI cJ cB cZ) [.ref o, .int (nI n), .int (nI k), .int (nI a), .int (nI b), .int d] (wK cI o q C) (0) (0) (fun w => w = wK cI o q (cs_exp C n (max 1 b) (C.1 a + 0) (fun i => (C.2.1 (a * 8 + i) + 0)) (fun i => 0))) := by
  intro sz
  refine Met.ofW (cc := b_K_addExpression) (maxL := 13) (ret := none) (by decide) rfl ?_
  intro p ev9 s m args below meth c s₁ B9 hml hv
  obtain ⟨rfl, hsz, hP, hK, hN, hD0⟩ := hv
  have hx := B9.exec
  have hb := B9.bytes
  have hr := B9.returns
  have hts := atoms_spec (ws := w_K_addExpression) B9.pre
  have ht : ∀ w ∈ gk_big, w.before _ s = true := fun w h => hts w (List.mem_cons_of_mem _ h)
  have hown : s.vm.findClass R_K = some m.cls := findClass_of_methodNamed B9.named
  have hlocks := B9.notSynchronized
  subst hsz
  have hD := hD0.self (sz := s.heap.size)
  generalize hAe : va_A (wK cI o q C) s.heap.size = A at hD ⊢
  have hA : ∀ q : Nat, s.heap.size ≤ q → A q := fun q h => by rw [← hAe]; exact Or.inr h
  generalize hHe : s.heap = H at hP ⊢
  have hS : va_S A s.heap H [] := by rw [← hHe]; exact va_S.rf
  have hP : va_P D vwCl [(o, .inr (1, [.ref (q 0), .ref (q 1), .ref (q 2), .ref (q 3), .ref (q 4)])), ((q 0), .inl (cI, 80, .inl (fun z9 => nI (C.1 z9)))), ((q 1), .inl (cI, 640, .inl (fun z9 => nI (C.2.1 z9)))), ((q 2), .inl (cI, 64, .inl (fun z9 => nI (C.2.2.1 z9)))), ((q 3), .inl (cI, 8, .inl (fun z9 => nI (C.2.2.2.1 z9)))), ((q 4), .inl (cI, 8, .inl (fun z9 => nI (C.2.2.2.2 z9))))] H := hP
  have hD : va_D A [(o, .inr (1, [.ref (q 0), .ref (q 1), .ref (q 2), .ref (q 3), .ref (q 4)])), ((q 0), .inl (cI, 80, .inl (fun z9 => nI (C.1 z9)))), ((q 1), .inl (cI, 640, .inl (fun z9 => nI (C.2.1 z9)))), ((q 2), .inl (cI, 64, .inl (fun z9 => nI (C.2.2.1 z9)))), ((q 3), .inl (cI, 8, .inl (fun z9 => nI (C.2.2.2.1 z9)))), ((q 4), .inl (cI, 8, .inl (fun z9 => nI (C.2.2.2.2 z9))))] := hD
  have hl := lv_entry ([.ref o, .int (nI n), .int (nI k), .int (nI a), .int (nI b), .int d]) (n := 13) (Nat.le_of_ble_eq_true rfl)
  rw [lg_entry_eq]
  generalize (lg_sl ([.ref o, .int (nI n), .int (nI k), .int (nI a), .int (nI b), .int d]) ++ List.replicate (13 - (lg_sl ([.ref o, .int (nI n), .int (nI k), .int (nI a), .int (nI b), .int d])).length) Slot.unset).toArray = ls at hl ⊢
  have hl : lv_has ls 13 [(0, .ref o), (1, .int (nI n)), (2, .int (nI k)), (3, .int (nI a)), (4, .int (nI b)), (5, .int d)] := hl
  have hf9 : (max 1 b) ≤ 3 := by omega
  have hpa := hpl a
  refine lv_iload_n hx hb dK_addExpression_0 rfl (lv_at hl 2 rfl) ?_
  refine lv_iload hx hb dK_addExpression_1 (lv_at hl 4 rfl) ?_
  refine gc_i (va_runS (As := [.int (nI k), .int (nI b)]) (rest := []) ⟨hx, hb, hml, hown, ht⟩ (c_K_factorOf_p l D cI cJ cB cZ k b (by omega) (by omega) (by omega) H.size) (va_cwS 2 ht (gw_S m_194 m_195 m_5 m_196) rfl rfl rfl (by decide +kernel) ⟨Nat.le_of_ble_eq_true rfl, Nat.le_of_ble_eq_true rfl⟩) (gp_S hK hN (hP.sub (ws' := ([] : va_W)) [] rfl) (hD.sub (ws' := ([] : va_W)) [] (by decide) rfl)) rfl rfl hl.1 rfl (lv_room (Nat.le_of_ble_eq_true rfl)) dK_addExpression_3 ⟨Nat.le_of_ble_eq_true rfl, Nat.le_of_ble_eq_true rfl⟩) hP hD hS hA [] rfl (by decide) (fun r w h => by obtain ⟨_, rfl⟩ := h; rfl) (fun r3 w3 H locs p3 hP hD hS => ?_)
  obtain ⟨rfl, rfl⟩ := p3
  have hP : va_P D vwCl [(o, .inr (1, [.ref (q 0), .ref (q 1), .ref (q 2), .ref (q 3), .ref (q 4)])), ((q 0), .inl (cI, 80, .inl (fun z9 => nI (C.1 z9)))), ((q 1), .inl (cI, 640, .inl (fun z9 => nI (C.2.1 z9)))), ((q 2), .inl (cI, 64, .inl (fun z9 => nI (C.2.2.1 z9)))), ((q 3), .inl (cI, 8, .inl (fun z9 => nI (C.2.2.2.1 z9)))), ((q 4), .inl (cI, 8, .inl (fun z9 => nI (C.2.2.2.2 z9))))] H := hP
  have hD : va_D A [(o, .inr (1, [.ref (q 0), .ref (q 1), .ref (q 2), .ref (q 3), .ref (q 4)])), ((q 0), .inl (cI, 80, .inl (fun z9 => nI (C.1 z9)))), ((q 1), .inl (cI, 640, .inl (fun z9 => nI (C.2.1 z9)))), ((q 2), .inl (cI, 64, .inl (fun z9 => nI (C.2.2.1 z9)))), ((q 3), .inl (cI, 8, .inl (fun z9 => nI (C.2.2.2.1 z9)))), ((q 4), .inl (cI, 8, .inl (fun z9 => nI (C.2.2.2.2 z9))))] := hD
  refine lv_istore (lv' := [(6, .int (nI (max 1 b))), (0, .ref o), (1, .int (nI n)), (2, .int (nI k)), (3, .int (nI a)), (4, .int (nI b)), (5, .int d)]) hx hb dK_addExpression_6 hl (by decide) rfl (fun ls hl => ?_)
  refine lv_iload_n hx hb dK_addExpression_8 rfl (lv_at hl 3 rfl) ?_
  refine gc_i (va_runS (As := [.int (nI k)]) (rest := []) ⟨hx, hb, hml, hown, ht⟩ (c_E_hasLeft l D cI cJ cB cZ (nI k) H.size) (va_cwS 1 ht (gw_S m_200 m_165 m_3 m_166) rfl rfl rfl (by decide +kernel) ⟨Nat.le_of_ble_eq_true rfl, Nat.le_of_ble_eq_true rfl⟩) (gp_S hK hN (hP.sub (ws' := ([] : va_W)) [] rfl) (hD.sub (ws' := ([] : va_W)) [] (by decide) rfl)) rfl rfl hl.1 rfl (lv_room (Nat.le_of_ble_eq_true rfl)) dK_addExpression_9 ⟨Nat.le_of_ble_eq_true rfl, Nat.le_of_ble_eq_true rfl⟩) hP hD hS hA [] rfl (by decide) (fun r w h => by obtain ⟨_, rfl⟩ := h; rfl) (fun r9 w9 H locs p9 hP hD hS => ?_)
  obtain ⟨rfl, rfl⟩ := p9
  have hP : va_P D vwCl [(o, .inr (1, [.ref (q 0), .ref (q 1), .ref (q 2), .ref (q 3), .ref (q 4)])), ((q 0), .inl (cI, 80, .inl (fun z9 => nI (C.1 z9)))), ((q 1), .inl (cI, 640, .inl (fun z9 => nI (C.2.1 z9)))), ((q 2), .inl (cI, 64, .inl (fun z9 => nI (C.2.2.1 z9)))), ((q 3), .inl (cI, 8, .inl (fun z9 => nI (C.2.2.2.1 z9)))), ((q 4), .inl (cI, 8, .inl (fun z9 => nI (C.2.2.2.2 z9))))] H := hP
  have hD : va_D A [(o, .inr (1, [.ref (q 0), .ref (q 1), .ref (q 2), .ref (q 3), .ref (q 4)])), ((q 0), .inl (cI, 80, .inl (fun z9 => nI (C.1 z9)))), ((q 1), .inl (cI, 640, .inl (fun z9 => nI (C.2.1 z9)))), ((q 2), .inl (cI, 64, .inl (fun z9 => nI (C.2.2.1 z9)))), ((q 3), .inl (cI, 8, .inl (fun z9 => nI (C.2.2.2.1 z9)))), ((q 4), .inl (cI, 8, .inl (fun z9 => nI (C.2.2.2.2 z9))))] := hD
  rw [gk_left (by omega)]
  refine lv_istore (lv' := [(7, .int (gb (2 ≤ k))), (6, .int (nI (max 1 b))), (0, .ref o), (1, .int (nI n)), (2, .int (nI k)), (3, .int (nI a)), (4, .int (nI b)), (5, .int d)]) hx hb dK_addExpression_12 hl (by decide) rfl (fun ls hl => ?_)
  refine lv_iload_n hx hb dK_addExpression_14 rfl (lv_at hl 4 rfl) ?_
  refine gc_i (va_runS (As := [.int (nI k)]) (rest := []) ⟨hx, hb, hml, hown, ht⟩ (c_E_hasRight l D cI cJ cB cZ (nI k) H.size) (va_cwS 1 ht (gw_S m_201 m_175 m_3 m_176) rfl rfl rfl (by decide +kernel) ⟨Nat.le_of_ble_eq_true rfl, Nat.le_of_ble_eq_true rfl⟩) (gp_S hK hN (hP.sub (ws' := ([] : va_W)) [] rfl) (hD.sub (ws' := ([] : va_W)) [] (by decide) rfl)) rfl rfl hl.1 rfl (lv_room (Nat.le_of_ble_eq_true rfl)) dK_addExpression_15 ⟨Nat.le_of_ble_eq_true rfl, Nat.le_of_ble_eq_true rfl⟩) hP hD hS hA [] rfl (by decide) (fun r w h => by obtain ⟨_, rfl⟩ := h; rfl) (fun r15 w15 H locs p15 hP hD hS => ?_)
  obtain ⟨rfl, rfl⟩ := p15
  have hP : va_P D vwCl [(o, .inr (1, [.ref (q 0), .ref (q 1), .ref (q 2), .ref (q 3), .ref (q 4)])), ((q 0), .inl (cI, 80, .inl (fun z9 => nI (C.1 z9)))), ((q 1), .inl (cI, 640, .inl (fun z9 => nI (C.2.1 z9)))), ((q 2), .inl (cI, 64, .inl (fun z9 => nI (C.2.2.1 z9)))), ((q 3), .inl (cI, 8, .inl (fun z9 => nI (C.2.2.2.1 z9)))), ((q 4), .inl (cI, 8, .inl (fun z9 => nI (C.2.2.2.2 z9))))] H := hP
  have hD : va_D A [(o, .inr (1, [.ref (q 0), .ref (q 1), .ref (q 2), .ref (q 3), .ref (q 4)])), ((q 0), .inl (cI, 80, .inl (fun z9 => nI (C.1 z9)))), ((q 1), .inl (cI, 640, .inl (fun z9 => nI (C.2.1 z9)))), ((q 2), .inl (cI, 64, .inl (fun z9 => nI (C.2.2.1 z9)))), ((q 3), .inl (cI, 8, .inl (fun z9 => nI (C.2.2.2.1 z9)))), ((q 4), .inl (cI, 8, .inl (fun z9 => nI (C.2.2.2.2 z9))))] := hD
  rw [gk_right (by omega)]
  refine lv_istore (lv' := [(8, .int (gb (k = 2 ∨ k = 3 ∨ k = 4 ∨ k = 8 ∨ k = 9 ∨ k = 11))), (7, .int (gb (2 ≤ k))), (6, .int (nI (max 1 b))), (0, .ref o), (1, .int (nI n)), (2, .int (nI k)), (3, .int (nI a)), (4, .int (nI b)), (5, .int d)]) hx hb dK_addExpression_18 hl (by decide) rfl (fun ls hl => ?_)
  refine lv_iload hx hb dK_addExpression_20 (lv_at hl 1 rfl) ?_
  refine lv_if_eq (tgt := 34) hx hb dK_addExpression_22 (by decide) (fun c22 => ?_) (fun c22 => ?_)
  · exact absurd (gb_1.mp c22) (fun z => z (by omega))
  · refine lv_aload_n hx hb dK_addExpression_25 rfl (lv_at hl 3 rfl) ?_
    refine va_get (D := D) (ci := 1) (v := .ref (q 0)) (C := R_K) (T := F_K) (N := 5) hx hb ht i_K hown hK hP 0 rfl rfl 0 (by decide) (ht _ m_113) (fun _ h9 => h9) rfl dK_addExpression_26 ?_
    refine lv_iload_n hx hb dK_addExpression_29 rfl (lv_at hl 6 rfl) ?_
    have i30 : vp_in (nI a) 80 := gx_in (rfl : (nI a) = (nI a)) (by omega) (by decide)
    have k30 : ((nI a) : Int32).toNatClampNeg = a := gx_cl (rfl : (nI a) = (nI a)) (by omega)
    refine va_iald hx hb hK hP 1 0 rfl rfl i30 dK_addExpression_30 ?_
    rw [k30]
    refine lv_topi (fun v30 e30 => ?_)
    have n30 : v30 = nI (C.1 a) := e30
    subst n30
    refine lv_goto (tgt := 35) hx hb dK_addExpression_31 (by decide) ?_
    refine lv_iload hx hb dK_addExpression_35 (lv_at hl 0 rfl) ?_
    refine lv_if_eq (tgt := 50) hx hb dK_addExpression_37 (by decide) (fun c37 => ?_) (fun c37 => ?_)
    · refine lv_iconst (v := 0) hx hb dK_addExpression_50 (by decide) ?_
      refine lv_iadd hx hb dK_addExpression_51 ?_
      refine lv_topi (fun v51 e51 => ?_)
      have n51 : v51 = nI ((C.1 a) + 0) := by rw [e51]; exact gx_add (rfl : (nI (C.1 a)) = (nI (C.1 a))) (rfl : (0 : Int32) = nI 0)
      subst n51
      refine lv_istore (lv' := [(9, .int (nI ((C.1 a) + 0))), (8, .int (gb (k = 2 ∨ k = 3 ∨ k = 4 ∨ k = 8 ∨ k = 9 ∨ k = 11))), (7, .int (gb (2 ≤ k))), (6, .int (nI (max 1 b))), (0, .ref o), (1, .int (nI n)), (2, .int (nI k)), (3, .int (nI a)), (4, .int (nI b)), (5, .int d)]) hx hb dK_addExpression_52 hl (by decide) rfl (fun ls hl => ?_)
      refine lv_aload_n hx hb dK_addExpression_54 rfl (lv_at hl 4 rfl) ?_
      refine va_get (D := D) (ci := 1) (v := .ref (q 0)) (C := R_K) (T := F_K) (N := 5) hx hb ht i_K hown hK hP 0 rfl rfl 0 (by decide) (ht _ m_113) (fun _ h9 => h9) rfl dK_addExpression_55 ?_
      refine lv_iload_n hx hb dK_addExpression_58 rfl (lv_at hl 5 rfl) ?_
      refine lv_sipush (v := 1000) hx hb dK_addExpression_59 (by decide) ?_
      refine lv_iconst (v := 1) hx hb dK_addExpression_62 (by decide) ?_
      refine lv_iload hx hb dK_addExpression_63 (lv_at hl 3 rfl) ?_
      refine lv_iload hx hb dK_addExpression_65 (lv_at hl 0 rfl) ?_
      refine lv_imul hx hb dK_addExpression_67 ?_
      refine lv_topi (fun v67 e67 => ?_)
      have n67 : v67 = nI ((max 1 b) * ((C.1 a) + 0)) := by rw [e67]; exact gx_mul (rfl : (nI (max 1 b)) = (nI (max 1 b))) (rfl : (nI ((C.1 a) + 0)) = (nI ((C.1 a) + 0)))
      subst n67
      refine lv_iadd hx hb dK_addExpression_68 ?_
      refine lv_topi (fun v68 e68 => ?_)
      have n68 : v68 = nI (1 + ((max 1 b) * ((C.1 a) + 0))) := by rw [e68]; exact gx_add (rfl : (1 : Int32) = nI 1) (rfl : (nI ((max 1 b) * ((C.1 a) + 0))) = (nI ((max 1 b) * ((C.1 a) + 0))))
      subst n68
      have hm9 : (max 1 b) * (C.1 a + 0) ≤ 3 * (C.1 a + 0) := Nat.mul_le_mul_right _ hf9
      refine va_mmin hx hb (by rw [hml]; exact hl.1.symm) hown (ht _ m_202) (ht _ m_203) (ht _ m_7) (ht _ mh_min) (Nat.le_of_ble_eq_true rfl) (Nat.le_of_ble_eq_true rfl) (Nat.zero_le _) (Nat.zero_le _) dK_addExpression_69 ?_
      refine lv_topi (fun v69 e69 => ?_)
      have n69 : v69 = nI (min 1000 (1 + ((max 1 b) * ((C.1 a) + 0)))) := by rw [e69]; exact gx_min (rfl : (1000 : Int32) = nI 1000) (rfl : (nI (1 + ((max 1 b) * ((C.1 a) + 0)))) = (nI (1 + ((max 1 b) * ((C.1 a) + 0))))) (by decide) (by omega)
      subst n69
      have i72 : vp_in (nI n) 80 := gx_in (rfl : (nI n) = (nI n)) (by omega) (by decide)
      have k72 : ((nI n) : Int32).toNatClampNeg = n := gx_cl (rfl : (nI n) = (nI n)) (by omega)
      refine va_iast hx hb hK hP hD hS 1 0 rfl rfl i72 dK_addExpression_72 (fun H locs hP hD hS => ?_)
      rw [k72] at hP hD
      have hP : va_P D vwCl [(o, .inr (1, [.ref (q 0), .ref (q 1), .ref (q 2), .ref (q 3), .ref (q 4)])), ((q 0), .inl (cI, 80, .inl (upd (fun z9 => nI (C.1 z9)) n (nI (min 1000 (1 + ((max 1 b) * ((C.1 a) + 0)))))))), ((q 1), .inl (cI, 640, .inl (fun z9 => nI (C.2.1 z9)))), ((q 2), .inl (cI, 64, .inl (fun z9 => nI (C.2.2.1 z9)))), ((q 3), .inl (cI, 8, .inl (fun z9 => nI (C.2.2.2.1 z9)))), ((q 4), .inl (cI, 8, .inl (fun z9 => nI (C.2.2.2.2 z9))))] H := hP
      have hD : va_D A [(o, .inr (1, [.ref (q 0), .ref (q 1), .ref (q 2), .ref (q 3), .ref (q 4)])), ((q 0), .inl (cI, 80, .inl (upd (fun z9 => nI (C.1 z9)) n (nI (min 1000 (1 + ((max 1 b) * ((C.1 a) + 0)))))))), ((q 1), .inl (cI, 640, .inl (fun z9 => nI (C.2.1 z9)))), ((q 2), .inl (cI, 64, .inl (fun z9 => nI (C.2.2.1 z9)))), ((q 3), .inl (cI, 8, .inl (fun z9 => nI (C.2.2.2.1 z9)))), ((q 4), .inl (cI, 8, .inl (fun z9 => nI (C.2.2.2.2 z9))))] := hD
      rw [gx_upd] at hP hD
      refine lv_iconst (v := 0) hx hb dK_addExpression_73 (by decide) ?_
      refine lv_istore (lv' := [(10, .int 0), (9, .int (nI ((C.1 a) + 0))), (8, .int (gb (k = 2 ∨ k = 3 ∨ k = 4 ∨ k = 8 ∨ k = 9 ∨ k = 11))), (7, .int (gb (2 ≤ k))), (6, .int (nI (max 1 b))), (0, .ref o), (1, .int (nI n)), (2, .int (nI k)), (3, .int (nI a)), (4, .int (nI b)), (5, .int d)]) hx hb dK_addExpression_74 hl (by decide) rfl (fun ls hl => ?_)
      rw [← kf_up_0 C.2.1 n (fun i => min 1000 ((max 1 b) * (C.2.1 (a * 8 + i) + 0) + 0))] at hP hD
      have lp76 : ∀ (n76 : Nat) (i : Nat), 8 - i + 1 ≤ n76 → (i ≤ 8) → ∀ (H : Heap) (locs : List Loc) (ls : Array Slot), va_P D vwCl [(o, .inr (1, [.ref (q 0), .ref (q 1), .ref (q 2), .ref (q 3), .ref (q 4)])), ((q 0), .inl (cI, 80, .inl (fun z9 => nI ((va_up C.1 n (min 1000 (1 + (max 1 b) * (C.1 a + 0)))) z9)))), ((q 1), .inl (cI, 640, .inl (fun z9 => nI ((kf_up C.2.1 n (fun i => min 1000 ((max 1 b) * (C.2.1 (a * 8 + i) + 0) + 0)) i) z9)))), ((q 2), .inl (cI, 64, .inl (fun z9 => nI (C.2.2.1 z9)))), ((q 3), .inl (cI, 8, .inl (fun z9 => nI (C.2.2.2.1 z9)))), ((q 4), .inl (cI, 8, .inl (fun z9 => nI (C.2.2.2.2 z9))))] H → va_D A [(o, .inr (1, [.ref (q 0), .ref (q 1), .ref (q 2), .ref (q 3), .ref (q 4)])), ((q 0), .inl (cI, 80, .inl (fun z9 => nI ((va_up C.1 n (min 1000 (1 + (max 1 b) * (C.1 a + 0)))) z9)))), ((q 1), .inl (cI, 640, .inl (fun z9 => nI ((kf_up C.2.1 n (fun i => min 1000 ((max 1 b) * (C.2.1 (a * 8 + i) + 0) + 0)) i) z9)))), ((q 2), .inl (cI, 64, .inl (fun z9 => nI (C.2.2.1 z9)))), ((q 3), .inl (cI, 8, .inl (fun z9 => nI (C.2.2.2.1 z9)))), ((q 4), .inl (cI, 8, .inl (fun z9 => nI (C.2.2.2.2 z9))))] → va_S A s.heap H locs → lv_has ls 13 [(10, .int (nI i)), (9, .int (nI ((C.1 a) + 0))), (8, .int (gb (k = 2 ∨ k = 3 ∨ k = 4 ∨ k = 8 ∨ k = 9 ∨ k = 11))), (7, .int (gb (2 ≤ k))), (6, .int (nI (max 1 b))), (0, .ref o), (1, .int (nI n)), (2, .int (nI k)), (3, .int (nI a)), (4, .int (nI b)), (5, .int d)] → W p l ev9 (headSpec w_K_addExpression ({ frames := 2, cells := 0, slots := 0, locals := 51 })).room s m ([.ref o, .int (nI n), .int (nI k), .int (nI a), .int (nI b), .int d] : List Value).toArray below meth c H locs 0 0 (MQ below (gq_V D A (fun w => w = wK cI o q (cs_exp C n (max 1 b) (C.1 a + 0) (fun i => (C.2.1 (a * 8 + i) + 0)) (fun i => 0)))) ([.ref o, .int (nI n), .int (nI k), .int (nI a), .int (nI b), .int d] : List Value).toArray s (0) (0) A) (F0 m 76 ls []) := by
        intro n76
        induction n76 with
        | zero =>
          intro i hm76
          exact absurd hm76 (by omega)
        | succ n76 ih76 =>
          intro i hm76 hi H locs ls hP hD hS hl
          refine lv_iload hx hb dK_addExpression_76 (lv_at hl 0 rfl) ?_
          refine lv_bipush (v := 8) hx hb dK_addExpression_78 (by decide) ?_
          refine lv_icmp_ge (tgt := 181) hx hb dK_addExpression_80 (by decide) (fun c80 => ?_) (fun c80 => ?_)
          · have g80 : 8 ≤ i := (gx_le (rfl : (8 : Int32) = nI 8) (rfl : (nI i) = (nI i)) (by decide) (by omega)).mp c80
            have zi : i = 8 := by omega
            subst zi
            have hP : va_P D vwCl (wK cI o q (cs_exp C n (max 1 b) (C.1 a + 0) (fun i => (C.2.1 (a * 8 + i) + 0)) (fun i => 0))) _ := hP
            have hD : va_D A (wK cI o q (cs_exp C n (max 1 b) (C.1 a + 0) (fun i => (C.2.1 (a * 8 + i) + 0)) (fun i => 0))) := hD
            exact W.vret hx hb hr (fun t9 ht9 hW => ⟨⟨_, rfl, rfl, by rw [ht9]; exact hP, hD⟩, hS.F ht9⟩) hS.2.2 dK_addExpression_181
          · have g80 : ¬ (8 ≤ i) := fun z => c80 ((gx_le (rfl : (8 : Int32) = nI 8) (rfl : (nI i) = (nI i)) (by decide) (by omega)).mpr z)
            have hna := hnm (a * 8 + i)
            refine lv_iload hx hb dK_addExpression_83 (lv_at hl 3 rfl) ?_
            refine lv_if_eq (tgt := 103) hx hb dK_addExpression_85 (by decide) (fun c85 => ?_) (fun c85 => ?_)
            · exact absurd (gb_1.mp c85) (fun z => z (by omega))
            · refine lv_aload_n hx hb dK_addExpression_88 rfl (lv_at hl 5 rfl) ?_
              refine va_get (D := D) (ci := 1) (v := .ref (q 1)) (C := R_K) (T := F_K) (N := 5) hx hb ht i_K hown hK hP 0 rfl rfl 1 (by decide) (ht _ m_114) (fun _ h9 => h9) rfl dK_addExpression_89 ?_
              refine lv_iload_n hx hb dK_addExpression_92 rfl (lv_at hl 8 rfl) ?_
              refine lv_bipush (v := 8) hx hb dK_addExpression_93 (by decide) ?_
              refine lv_imul hx hb dK_addExpression_95 ?_
              refine lv_topi (fun v95 e95 => ?_)
              have n95 : v95 = nI (a * 8) := by rw [e95]; exact gx_mul (rfl : (nI a) = (nI a)) (rfl : (8 : Int32) = nI 8)
              subst n95
              refine lv_iload hx hb dK_addExpression_96 (lv_at hl 0 rfl) ?_
              refine lv_iadd hx hb dK_addExpression_98 ?_
              refine lv_topi (fun v98 e98 => ?_)
              have n98 : v98 = nI ((a * 8) + i) := by rw [e98]; exact gx_add (rfl : (nI (a * 8)) = (nI (a * 8))) (rfl : (nI i) = (nI i))
              subst n98
              have i99 : vp_in (nI ((a * 8) + i)) 640 := gx_in (rfl : (nI ((a * 8) + i)) = (nI ((a * 8) + i))) (by omega) (by decide)
              have k99 : ((nI ((a * 8) + i)) : Int32).toNatClampNeg = ((a * 8) + i) := gx_cl (rfl : (nI ((a * 8) + i)) = (nI ((a * 8) + i))) (by omega)
              refine va_iald hx hb hK hP 2 0 rfl rfl i99 dK_addExpression_99 ?_
              rw [k99]
              refine lv_topi (fun v99 e99 => ?_)
              have n99 : v99 = nI ((kf_up C.2.1 n (fun i => min 1000 ((max 1 b) * (C.2.1 (a * 8 + i) + 0) + 0)) i) ((a * 8) + i)) := e99
              subst n99
              rw [kf_up_r _ _ _ _ _ _ ha (by omega)]
              refine lv_goto (tgt := 104) hx hb dK_addExpression_100 (by decide) ?_
              refine lv_iload hx hb dK_addExpression_104 (lv_at hl 2 rfl) ?_
              refine lv_if_eq (tgt := 125) hx hb dK_addExpression_106 (by decide) (fun c106 => ?_) (fun c106 => ?_)
              · refine lv_iconst (v := 0) hx hb dK_addExpression_125 (by decide) ?_
                refine lv_iadd hx hb dK_addExpression_126 ?_
                refine lv_topi (fun v126 e126 => ?_)
                have n126 : v126 = nI ((C.2.1 (a * 8 + i)) + 0) := by rw [e126]; exact gx_add (rfl : (nI (C.2.1 (a * 8 + i))) = (nI (C.2.1 (a * 8 + i)))) (rfl : (0 : Int32) = nI 0)
                subst n126
                refine lv_istore (lv' := [(11, .int (nI ((C.2.1 (a * 8 + i)) + 0))), (10, .int (nI i)), (9, .int (nI ((C.1 a) + 0))), (8, .int (gb (k = 2 ∨ k = 3 ∨ k = 4 ∨ k = 8 ∨ k = 9 ∨ k = 11))), (7, .int (gb (2 ≤ k))), (6, .int (nI (max 1 b))), (0, .ref o), (1, .int (nI n)), (2, .int (nI k)), (3, .int (nI a)), (4, .int (nI b)), (5, .int d)]) hx hb dK_addExpression_127 hl (by decide) rfl (fun ls hl => ?_)
                refine lv_iload_n hx hb dK_addExpression_129 rfl (lv_at hl 8 rfl) ?_
                refine lv_bipush (v := 11) hx hb dK_addExpression_130 (by decide) ?_
                refine lv_icmp_ne (tgt := 146) hx hb dK_addExpression_132 (by decide) (fun c132 => ?_) (fun c132 => ?_)
                · have g132 : ¬ (k = 11) := fun z => c132 ((gx_eq (rfl : (nI k) = (nI k)) (rfl : (11 : Int32) = nI 11) (by omega) (by decide)).mpr z)
                  refine lv_iconst (v := 0) hx hb dK_addExpression_146 (by decide) ?_
                  refine lv_istore (lv' := [(12, .int 0), (11, .int (nI ((C.2.1 (a * 8 + i)) + 0))), (10, .int (nI i)), (9, .int (nI ((C.1 a) + 0))), (8, .int (gb (k = 2 ∨ k = 3 ∨ k = 4 ∨ k = 8 ∨ k = 9 ∨ k = 11))), (7, .int (gb (2 ≤ k))), (6, .int (nI (max 1 b))), (0, .ref o), (1, .int (nI n)), (2, .int (nI k)), (3, .int (nI a)), (4, .int (nI b)), (5, .int d)]) hx hb dK_addExpression_147 hl (by decide) rfl (fun ls hl => ?_)
                  refine lv_aload_n hx hb dK_addExpression_149 rfl (lv_at hl 7 rfl) ?_
                  refine va_get (D := D) (ci := 1) (v := .ref (q 1)) (C := R_K) (T := F_K) (N := 5) hx hb ht i_K hown hK hP 0 rfl rfl 1 (by decide) (ht _ m_114) (fun _ h9 => h9) rfl dK_addExpression_150 ?_
                  refine lv_iload_n hx hb dK_addExpression_153 rfl (lv_at hl 8 rfl) ?_
                  refine lv_bipush (v := 8) hx hb dK_addExpression_154 (by decide) ?_
                  refine lv_imul hx hb dK_addExpression_156 ?_
                  refine lv_topi (fun v156 e156 => ?_)
                  have n156 : v156 = nI (n * 8) := by rw [e156]; exact gx_mul (rfl : (nI n) = (nI n)) (rfl : (8 : Int32) = nI 8)
                  subst n156
                  refine lv_iload hx hb dK_addExpression_157 (lv_at hl 2 rfl) ?_
                  refine lv_iadd hx hb dK_addExpression_159 ?_
                  refine lv_topi (fun v159 e159 => ?_)
                  have n159 : v159 = nI ((n * 8) + i) := by rw [e159]; exact gx_add (rfl : (nI (n * 8)) = (nI (n * 8))) (rfl : (nI i) = (nI i))
                  subst n159
                  refine lv_sipush (v := 1000) hx hb dK_addExpression_160 (by decide) ?_
                  refine lv_iload hx hb dK_addExpression_163 (lv_at hl 6 rfl) ?_
                  refine lv_iload hx hb dK_addExpression_165 (lv_at hl 1 rfl) ?_
                  refine lv_imul hx hb dK_addExpression_167 ?_
                  refine lv_topi (fun v167 e167 => ?_)
                  have n167 : v167 = nI ((max 1 b) * ((C.2.1 (a * 8 + i)) + 0)) := by rw [e167]; exact gx_mul (rfl : (nI (max 1 b)) = (nI (max 1 b))) (rfl : (nI ((C.2.1 (a * 8 + i)) + 0)) = (nI ((C.2.1 (a * 8 + i)) + 0)))
                  subst n167
                  refine lv_iload hx hb dK_addExpression_168 (lv_at hl 0 rfl) ?_
                  refine lv_iadd hx hb dK_addExpression_170 ?_
                  refine lv_topi (fun v170 e170 => ?_)
                  have n170 : v170 = nI (((max 1 b) * ((C.2.1 (a * 8 + i)) + 0)) + 0) := by rw [e170]; exact gx_add (rfl : (nI ((max 1 b) * ((C.2.1 (a * 8 + i)) + 0))) = (nI ((max 1 b) * ((C.2.1 (a * 8 + i)) + 0)))) (rfl : (0 : Int32) = nI 0)
                  subst n170
                  have hm9 : (max 1 b) * (C.2.1 (a * 8 + i) + 0) ≤ 3 * (C.2.1 (a * 8 + i) + 0) := Nat.mul_le_mul_right _ hf9
                  refine va_mmin hx hb (by rw [hml]; exact hl.1.symm) hown (ht _ m_202) (ht _ m_203) (ht _ m_7) (ht _ mh_min) (Nat.le_of_ble_eq_true rfl) (Nat.le_of_ble_eq_true rfl) (Nat.zero_le _) (Nat.zero_le _) dK_addExpression_171 ?_
                  refine lv_topi (fun v171 e171 => ?_)
                  have n171 : v171 = nI (min 1000 (((max 1 b) * ((C.2.1 (a * 8 + i)) + 0)) + 0)) := by rw [e171]; exact gx_min (rfl : (1000 : Int32) = nI 1000) (rfl : (nI (((max 1 b) * ((C.2.1 (a * 8 + i)) + 0)) + 0)) = (nI (((max 1 b) * ((C.2.1 (a * 8 + i)) + 0)) + 0))) (by decide) (by omega)
                  subst n171
                  have i174 : vp_in (nI ((n * 8) + i)) 640 := gx_in (rfl : (nI ((n * 8) + i)) = (nI ((n * 8) + i))) (by omega) (by decide)
                  have k174 : ((nI ((n * 8) + i)) : Int32).toNatClampNeg = ((n * 8) + i) := gx_cl (rfl : (nI ((n * 8) + i)) = (nI ((n * 8) + i))) (by omega)
                  refine va_iast hx hb hK hP hD hS 2 0 rfl rfl i174 dK_addExpression_174 (fun H locs hP hD hS => ?_)
                  rw [k174] at hP hD
                  have hP : va_P D vwCl [(o, .inr (1, [.ref (q 0), .ref (q 1), .ref (q 2), .ref (q 3), .ref (q 4)])), ((q 0), .inl (cI, 80, .inl (fun z9 => nI ((va_up C.1 n (min 1000 (1 + (max 1 b) * (C.1 a + 0)))) z9)))), ((q 1), .inl (cI, 640, .inl (upd (fun z9 => nI ((kf_up C.2.1 n (fun i => min 1000 ((max 1 b) * (C.2.1 (a * 8 + i) + 0) + 0)) i) z9)) ((n * 8) + i) (nI (min 1000 (((max 1 b) * ((C.2.1 (a * 8 + i)) + 0)) + 0)))))), ((q 2), .inl (cI, 64, .inl (fun z9 => nI (C.2.2.1 z9)))), ((q 3), .inl (cI, 8, .inl (fun z9 => nI (C.2.2.2.1 z9)))), ((q 4), .inl (cI, 8, .inl (fun z9 => nI (C.2.2.2.2 z9))))] H := hP
                  have hD : va_D A [(o, .inr (1, [.ref (q 0), .ref (q 1), .ref (q 2), .ref (q 3), .ref (q 4)])), ((q 0), .inl (cI, 80, .inl (fun z9 => nI ((va_up C.1 n (min 1000 (1 + (max 1 b) * (C.1 a + 0)))) z9)))), ((q 1), .inl (cI, 640, .inl (upd (fun z9 => nI ((kf_up C.2.1 n (fun i => min 1000 ((max 1 b) * (C.2.1 (a * 8 + i) + 0) + 0)) i) z9)) ((n * 8) + i) (nI (min 1000 (((max 1 b) * ((C.2.1 (a * 8 + i)) + 0)) + 0)))))), ((q 2), .inl (cI, 64, .inl (fun z9 => nI (C.2.2.1 z9)))), ((q 3), .inl (cI, 8, .inl (fun z9 => nI (C.2.2.2.1 z9)))), ((q 4), .inl (cI, 8, .inl (fun z9 => nI (C.2.2.2.2 z9))))] := hD
                  rw [gx_upd] at hP hD
                  have hz : min 1000 ((max 1 b) * (C.2.1 (a * 8 + i) + 0) + 0) = (fun i => min 1000 ((max 1 b) * (C.2.1 (a * 8 + i) + 0) + 0)) i := by show _ = min 1000 ((max 1 b) * (C.2.1 (a * 8 + i) + 0) + 0); rfl
                  rw [hz, kf_up_s] at hP hD
                  have hP : va_P D vwCl [(o, .inr (1, [.ref (q 0), .ref (q 1), .ref (q 2), .ref (q 3), .ref (q 4)])), ((q 0), .inl (cI, 80, .inl (fun z9 => nI ((va_up C.1 n (min 1000 (1 + (max 1 b) * (C.1 a + 0)))) z9)))), ((q 1), .inl (cI, 640, .inl (fun z9 => nI ((kf_up C.2.1 n (fun i => min 1000 ((max 1 b) * (C.2.1 (a * 8 + i) + 0) + 0)) (i + 1)) z9)))), ((q 2), .inl (cI, 64, .inl (fun z9 => nI (C.2.2.1 z9)))), ((q 3), .inl (cI, 8, .inl (fun z9 => nI (C.2.2.2.1 z9)))), ((q 4), .inl (cI, 8, .inl (fun z9 => nI (C.2.2.2.2 z9))))] H := hP
                  have hD : va_D A [(o, .inr (1, [.ref (q 0), .ref (q 1), .ref (q 2), .ref (q 3), .ref (q 4)])), ((q 0), .inl (cI, 80, .inl (fun z9 => nI ((va_up C.1 n (min 1000 (1 + (max 1 b) * (C.1 a + 0)))) z9)))), ((q 1), .inl (cI, 640, .inl (fun z9 => nI ((kf_up C.2.1 n (fun i => min 1000 ((max 1 b) * (C.2.1 (a * 8 + i) + 0) + 0)) (i + 1)) z9)))), ((q 2), .inl (cI, 64, .inl (fun z9 => nI (C.2.2.1 z9)))), ((q 3), .inl (cI, 8, .inl (fun z9 => nI (C.2.2.2.1 z9)))), ((q 4), .inl (cI, 8, .inl (fun z9 => nI (C.2.2.2.2 z9))))] := hD
                  refine lv_iinc (v := (nI (i + 1))) (lv' := [(10, .int (nI (i + 1))), (12, .int 0), (11, .int (nI ((C.2.1 (a * 8 + i)) + 0))), (9, .int (nI ((C.1 a) + 0))), (8, .int (gb (k = 2 ∨ k = 3 ∨ k = 4 ∨ k = 8 ∨ k = 9 ∨ k = 11))), (7, .int (gb (2 ≤ k))), (6, .int (nI (max 1 b))), (0, .ref o), (1, .int (nI n)), (2, .int (nI k)), (3, .int (nI a)), (4, .int (nI b)), (5, .int d)]) hx hb dK_addExpression_175 hl (k := 2) rfl (gx_inc (rfl : (nI i) = (nI i))) (by decide) rfl (fun ls hl => ?_)
                  refine lv_goto (tgt := 76) hx hb dK_addExpression_178 (by decide) ?_
                  exact ih76 (i + 1) (by omega) (by omega) _ _ _ hP hD hS (lv_sub hl [0, 3, 4, 5, 6, 7, 8, 9, 10, 11, 12] rfl)
                · have g132 : k = 11 := (gx_eq (rfl : (nI k) = (nI k)) (rfl : (11 : Int32) = nI 11) (by omega) (by decide)).mp c132
                  exfalso; omega
              · exact absurd (gb_1.mpr (by omega)) c106
      exact lp76 (8 - (0) + 1) 0 (by omega) (by omega) _ _ _ hP hD hS (lv_sub hl [0, 1, 2, 3, 4, 5, 6, 7, 8, 9, 10] rfl)
    · exact absurd (gb_1.mpr (by omega)) c37

set_option maxHeartbeats 4000000 in
set_option maxRecDepth 100000 in
theorem c_K_addExpression_2 (l : Launch) (D : va_G) (cI cJ cB cZ : ClassId) (o : Nat) (q : Nat → Nat) (C : Cs) (n k : Nat) (a : Nat) (b : Nat) (d : Int32) (hn : n < 80) (hk : k = 2 ∨ k = 3 ∨ k = 4 ∨ k = 8 ∨ k = 9) (hpl : ∀ x, C.1 x ≤ 1000) (hnm : ∀ x, C.2.1 x ≤ 1000) (ha : a < n) (hb8 : b < n) : ct_V l y_K_addExpression w_K_addExpression ({ frames := 2, cells := 0, slots := 0, locals := 51 }) D (gk_T cI cJ cB cZ) [.ref o, .int (nI n), .int (nI k), .int (nI a), .int (nI b), .int d] (wK cI o q C) (0) (0) (fun w => w = wK cI o q (cs_exp C n (if 7 ≤ k ∧ k ≤ 9 then 2 else 1) (C.1 a + C.1 b) (fun i => (C.2.1 (a * 8 + i) + C.2.1 (b * 8 + i))) (fun i => 0))) := by
  intro sz
  refine Met.ofW (cc := b_K_addExpression) (maxL := 13) (ret := none) (by decide) rfl ?_
  intro p ev9 s m args below meth c s₁ B9 hml hv
  obtain ⟨rfl, hsz, hP, hK, hN, hD0⟩ := hv
  have hx := B9.exec
  have hb := B9.bytes
  have hr := B9.returns
  have hts := atoms_spec (ws := w_K_addExpression) B9.pre
  have ht : ∀ w ∈ gk_big, w.before _ s = true := fun w h => hts w (List.mem_cons_of_mem _ h)
  have hown : s.vm.findClass R_K = some m.cls := findClass_of_methodNamed B9.named
  have hlocks := B9.notSynchronized
  subst hsz
  have hD := hD0.self (sz := s.heap.size)
  generalize hAe : va_A (wK cI o q C) s.heap.size = A at hD ⊢
  have hA : ∀ q : Nat, s.heap.size ≤ q → A q := fun q h => by rw [← hAe]; exact Or.inr h
  generalize hHe : s.heap = H at hP ⊢
  have hS : va_S A s.heap H [] := by rw [← hHe]; exact va_S.rf
  have hP : va_P D vwCl [(o, .inr (1, [.ref (q 0), .ref (q 1), .ref (q 2), .ref (q 3), .ref (q 4)])), ((q 0), .inl (cI, 80, .inl (fun z9 => nI (C.1 z9)))), ((q 1), .inl (cI, 640, .inl (fun z9 => nI (C.2.1 z9)))), ((q 2), .inl (cI, 64, .inl (fun z9 => nI (C.2.2.1 z9)))), ((q 3), .inl (cI, 8, .inl (fun z9 => nI (C.2.2.2.1 z9)))), ((q 4), .inl (cI, 8, .inl (fun z9 => nI (C.2.2.2.2 z9))))] H := hP
  have hD : va_D A [(o, .inr (1, [.ref (q 0), .ref (q 1), .ref (q 2), .ref (q 3), .ref (q 4)])), ((q 0), .inl (cI, 80, .inl (fun z9 => nI (C.1 z9)))), ((q 1), .inl (cI, 640, .inl (fun z9 => nI (C.2.1 z9)))), ((q 2), .inl (cI, 64, .inl (fun z9 => nI (C.2.2.1 z9)))), ((q 3), .inl (cI, 8, .inl (fun z9 => nI (C.2.2.2.1 z9)))), ((q 4), .inl (cI, 8, .inl (fun z9 => nI (C.2.2.2.2 z9))))] := hD
  have hl := lv_entry ([.ref o, .int (nI n), .int (nI k), .int (nI a), .int (nI b), .int d]) (n := 13) (Nat.le_of_ble_eq_true rfl)
  rw [lg_entry_eq]
  generalize (lg_sl ([.ref o, .int (nI n), .int (nI k), .int (nI a), .int (nI b), .int d]) ++ List.replicate (13 - (lg_sl ([.ref o, .int (nI n), .int (nI k), .int (nI a), .int (nI b), .int d])).length) Slot.unset).toArray = ls at hl ⊢
  have hl : lv_has ls 13 [(0, .ref o), (1, .int (nI n)), (2, .int (nI k)), (3, .int (nI a)), (4, .int (nI b)), (5, .int d)] := hl
  have hf9 : (if 7 ≤ k ∧ k ≤ 9 then 2 else 1) ≤ 3 := by split <;> omega
  have hpa := hpl a
  have hpb := hpl b
  refine lv_iload_n hx hb dK_addExpression_0 rfl (lv_at hl 2 rfl) ?_
  refine lv_iload hx hb dK_addExpression_1 (lv_at hl 4 rfl) ?_
  refine gc_i (va_runS (As := [.int (nI k), .int (nI b)]) (rest := []) ⟨hx, hb, hml, hown, ht⟩ (c_K_factorOf_n l D cI cJ cB cZ k (nI b) (by omega) (by omega) H.size) (va_cwS 2 ht (gw_S m_194 m_195 m_5 m_196) rfl rfl rfl (by decide +kernel) ⟨Nat.le_of_ble_eq_true rfl, Nat.le_of_ble_eq_true rfl⟩) (gp_S hK hN (hP.sub (ws' := ([] : va_W)) [] rfl) (hD.sub (ws' := ([] : va_W)) [] (by decide) rfl)) rfl rfl hl.1 rfl (lv_room (Nat.le_of_ble_eq_true rfl)) dK_addExpression_3 ⟨Nat.le_of_ble_eq_true rfl, Nat.le_of_ble_eq_true rfl⟩) hP hD hS hA [] rfl (by decide) (fun r w h => by obtain ⟨_, rfl⟩ := h; rfl) (fun r3 w3 H locs p3 hP hD hS => ?_)
  obtain ⟨rfl, rfl⟩ := p3
  have hP : va_P D vwCl [(o, .inr (1, [.ref (q 0), .ref (q 1), .ref (q 2), .ref (q 3), .ref (q 4)])), ((q 0), .inl (cI, 80, .inl (fun z9 => nI (C.1 z9)))), ((q 1), .inl (cI, 640, .inl (fun z9 => nI (C.2.1 z9)))), ((q 2), .inl (cI, 64, .inl (fun z9 => nI (C.2.2.1 z9)))), ((q 3), .inl (cI, 8, .inl (fun z9 => nI (C.2.2.2.1 z9)))), ((q 4), .inl (cI, 8, .inl (fun z9 => nI (C.2.2.2.2 z9))))] H := hP
  have hD : va_D A [(o, .inr (1, [.ref (q 0), .ref (q 1), .ref (q 2), .ref (q 3), .ref (q 4)])), ((q 0), .inl (cI, 80, .inl (fun z9 => nI (C.1 z9)))), ((q 1), .inl (cI, 640, .inl (fun z9 => nI (C.2.1 z9)))), ((q 2), .inl (cI, 64, .inl (fun z9 => nI (C.2.2.1 z9)))), ((q 3), .inl (cI, 8, .inl (fun z9 => nI (C.2.2.2.1 z9)))), ((q 4), .inl (cI, 8, .inl (fun z9 => nI (C.2.2.2.2 z9))))] := hD
  refine lv_istore (lv' := [(6, .int (nI (if 7 ≤ k ∧ k ≤ 9 then 2 else 1))), (0, .ref o), (1, .int (nI n)), (2, .int (nI k)), (3, .int (nI a)), (4, .int (nI b)), (5, .int d)]) hx hb dK_addExpression_6 hl (by decide) rfl (fun ls hl => ?_)
  refine lv_iload_n hx hb dK_addExpression_8 rfl (lv_at hl 3 rfl) ?_
  refine gc_i (va_runS (As := [.int (nI k)]) (rest := []) ⟨hx, hb, hml, hown, ht⟩ (c_E_hasLeft l D cI cJ cB cZ (nI k) H.size) (va_cwS 1 ht (gw_S m_200 m_165 m_3 m_166) rfl rfl rfl (by decide +kernel) ⟨Nat.le_of_ble_eq_true rfl, Nat.le_of_ble_eq_true rfl⟩) (gp_S hK hN (hP.sub (ws' := ([] : va_W)) [] rfl) (hD.sub (ws' := ([] : va_W)) [] (by decide) rfl)) rfl rfl hl.1 rfl (lv_room (Nat.le_of_ble_eq_true rfl)) dK_addExpression_9 ⟨Nat.le_of_ble_eq_true rfl, Nat.le_of_ble_eq_true rfl⟩) hP hD hS hA [] rfl (by decide) (fun r w h => by obtain ⟨_, rfl⟩ := h; rfl) (fun r9 w9 H locs p9 hP hD hS => ?_)
  obtain ⟨rfl, rfl⟩ := p9
  have hP : va_P D vwCl [(o, .inr (1, [.ref (q 0), .ref (q 1), .ref (q 2), .ref (q 3), .ref (q 4)])), ((q 0), .inl (cI, 80, .inl (fun z9 => nI (C.1 z9)))), ((q 1), .inl (cI, 640, .inl (fun z9 => nI (C.2.1 z9)))), ((q 2), .inl (cI, 64, .inl (fun z9 => nI (C.2.2.1 z9)))), ((q 3), .inl (cI, 8, .inl (fun z9 => nI (C.2.2.2.1 z9)))), ((q 4), .inl (cI, 8, .inl (fun z9 => nI (C.2.2.2.2 z9))))] H := hP
  have hD : va_D A [(o, .inr (1, [.ref (q 0), .ref (q 1), .ref (q 2), .ref (q 3), .ref (q 4)])), ((q 0), .inl (cI, 80, .inl (fun z9 => nI (C.1 z9)))), ((q 1), .inl (cI, 640, .inl (fun z9 => nI (C.2.1 z9)))), ((q 2), .inl (cI, 64, .inl (fun z9 => nI (C.2.2.1 z9)))), ((q 3), .inl (cI, 8, .inl (fun z9 => nI (C.2.2.2.1 z9)))), ((q 4), .inl (cI, 8, .inl (fun z9 => nI (C.2.2.2.2 z9))))] := hD
  rw [gk_left (by omega)]
  refine lv_istore (lv' := [(7, .int (gb (2 ≤ k))), (6, .int (nI (if 7 ≤ k ∧ k ≤ 9 then 2 else 1))), (0, .ref o), (1, .int (nI n)), (2, .int (nI k)), (3, .int (nI a)), (4, .int (nI b)), (5, .int d)]) hx hb dK_addExpression_12 hl (by decide) rfl (fun ls hl => ?_)
  refine lv_iload_n hx hb dK_addExpression_14 rfl (lv_at hl 4 rfl) ?_
  refine gc_i (va_runS (As := [.int (nI k)]) (rest := []) ⟨hx, hb, hml, hown, ht⟩ (c_E_hasRight l D cI cJ cB cZ (nI k) H.size) (va_cwS 1 ht (gw_S m_201 m_175 m_3 m_176) rfl rfl rfl (by decide +kernel) ⟨Nat.le_of_ble_eq_true rfl, Nat.le_of_ble_eq_true rfl⟩) (gp_S hK hN (hP.sub (ws' := ([] : va_W)) [] rfl) (hD.sub (ws' := ([] : va_W)) [] (by decide) rfl)) rfl rfl hl.1 rfl (lv_room (Nat.le_of_ble_eq_true rfl)) dK_addExpression_15 ⟨Nat.le_of_ble_eq_true rfl, Nat.le_of_ble_eq_true rfl⟩) hP hD hS hA [] rfl (by decide) (fun r w h => by obtain ⟨_, rfl⟩ := h; rfl) (fun r15 w15 H locs p15 hP hD hS => ?_)
  obtain ⟨rfl, rfl⟩ := p15
  have hP : va_P D vwCl [(o, .inr (1, [.ref (q 0), .ref (q 1), .ref (q 2), .ref (q 3), .ref (q 4)])), ((q 0), .inl (cI, 80, .inl (fun z9 => nI (C.1 z9)))), ((q 1), .inl (cI, 640, .inl (fun z9 => nI (C.2.1 z9)))), ((q 2), .inl (cI, 64, .inl (fun z9 => nI (C.2.2.1 z9)))), ((q 3), .inl (cI, 8, .inl (fun z9 => nI (C.2.2.2.1 z9)))), ((q 4), .inl (cI, 8, .inl (fun z9 => nI (C.2.2.2.2 z9))))] H := hP
  have hD : va_D A [(o, .inr (1, [.ref (q 0), .ref (q 1), .ref (q 2), .ref (q 3), .ref (q 4)])), ((q 0), .inl (cI, 80, .inl (fun z9 => nI (C.1 z9)))), ((q 1), .inl (cI, 640, .inl (fun z9 => nI (C.2.1 z9)))), ((q 2), .inl (cI, 64, .inl (fun z9 => nI (C.2.2.1 z9)))), ((q 3), .inl (cI, 8, .inl (fun z9 => nI (C.2.2.2.1 z9)))), ((q 4), .inl (cI, 8, .inl (fun z9 => nI (C.2.2.2.2 z9))))] := hD
  rw [gk_right (by omega)]
  refine lv_istore (lv' := [(8, .int (gb (k = 2 ∨ k = 3 ∨ k = 4 ∨ k = 8 ∨ k = 9 ∨ k = 11))), (7, .int (gb (2 ≤ k))), (6, .int (nI (if 7 ≤ k ∧ k ≤ 9 then 2 else 1))), (0, .ref o), (1, .int (nI n)), (2, .int (nI k)), (3, .int (nI a)), (4, .int (nI b)), (5, .int d)]) hx hb dK_addExpression_18 hl (by decide) rfl (fun ls hl => ?_)
  refine lv_iload hx hb dK_addExpression_20 (lv_at hl 1 rfl) ?_
  refine lv_if_eq (tgt := 34) hx hb dK_addExpression_22 (by decide) (fun c22 => ?_) (fun c22 => ?_)
  · exact absurd (gb_1.mp c22) (fun z => z (by omega))
  · refine lv_aload_n hx hb dK_addExpression_25 rfl (lv_at hl 3 rfl) ?_
    refine va_get (D := D) (ci := 1) (v := .ref (q 0)) (C := R_K) (T := F_K) (N := 5) hx hb ht i_K hown hK hP 0 rfl rfl 0 (by decide) (ht _ m_113) (fun _ h9 => h9) rfl dK_addExpression_26 ?_
    refine lv_iload_n hx hb dK_addExpression_29 rfl (lv_at hl 6 rfl) ?_
    have i30 : vp_in (nI a) 80 := gx_in (rfl : (nI a) = (nI a)) (by omega) (by decide)
    have k30 : ((nI a) : Int32).toNatClampNeg = a := gx_cl (rfl : (nI a) = (nI a)) (by omega)
    refine va_iald hx hb hK hP 1 0 rfl rfl i30 dK_addExpression_30 ?_
    rw [k30]
    refine lv_topi (fun v30 e30 => ?_)
    have n30 : v30 = nI (C.1 a) := e30
    subst n30
    refine lv_goto (tgt := 35) hx hb dK_addExpression_31 (by decide) ?_
    refine lv_iload hx hb dK_addExpression_35 (lv_at hl 0 rfl) ?_
    refine lv_if_eq (tgt := 50) hx hb dK_addExpression_37 (by decide) (fun c37 => ?_) (fun c37 => ?_)
    · exact absurd (gb_1.mp c37) (fun z => z (by omega))
    · refine lv_aload_n hx hb dK_addExpression_40 rfl (lv_at hl 3 rfl) ?_
      refine va_get (D := D) (ci := 1) (v := .ref (q 0)) (C := R_K) (T := F_K) (N := 5) hx hb ht i_K hown hK hP 0 rfl rfl 0 (by decide) (ht _ m_113) (fun _ h9 => h9) rfl dK_addExpression_41 ?_
      refine lv_iload hx hb dK_addExpression_44 (lv_at hl 7 rfl) ?_
      have i46 : vp_in (nI b) 80 := gx_in (rfl : (nI b) = (nI b)) (by omega) (by decide)
      have k46 : ((nI b) : Int32).toNatClampNeg = b := gx_cl (rfl : (nI b) = (nI b)) (by omega)
      refine va_iald hx hb hK hP 1 0 rfl rfl i46 dK_addExpression_46 ?_
      rw [k46]
      refine lv_topi (fun v46 e46 => ?_)
      have n46 : v46 = nI (C.1 b) := e46
      subst n46
      refine lv_goto (tgt := 51) hx hb dK_addExpression_47 (by decide) ?_
      refine lv_iadd hx hb dK_addExpression_51 ?_
      refine lv_topi (fun v51 e51 => ?_)
      have n51 : v51 = nI ((C.1 a) + (C.1 b)) := by rw [e51]; exact gx_add (rfl : (nI (C.1 a)) = (nI (C.1 a))) (rfl : (nI (C.1 b)) = (nI (C.1 b)))
      subst n51
      refine lv_istore (lv' := [(9, .int (nI ((C.1 a) + (C.1 b)))), (8, .int (gb (k = 2 ∨ k = 3 ∨ k = 4 ∨ k = 8 ∨ k = 9 ∨ k = 11))), (7, .int (gb (2 ≤ k))), (6, .int (nI (if 7 ≤ k ∧ k ≤ 9 then 2 else 1))), (0, .ref o), (1, .int (nI n)), (2, .int (nI k)), (3, .int (nI a)), (4, .int (nI b)), (5, .int d)]) hx hb dK_addExpression_52 hl (by decide) rfl (fun ls hl => ?_)
      refine lv_aload_n hx hb dK_addExpression_54 rfl (lv_at hl 4 rfl) ?_
      refine va_get (D := D) (ci := 1) (v := .ref (q 0)) (C := R_K) (T := F_K) (N := 5) hx hb ht i_K hown hK hP 0 rfl rfl 0 (by decide) (ht _ m_113) (fun _ h9 => h9) rfl dK_addExpression_55 ?_
      refine lv_iload_n hx hb dK_addExpression_58 rfl (lv_at hl 5 rfl) ?_
      refine lv_sipush (v := 1000) hx hb dK_addExpression_59 (by decide) ?_
      refine lv_iconst (v := 1) hx hb dK_addExpression_62 (by decide) ?_
      refine lv_iload hx hb dK_addExpression_63 (lv_at hl 3 rfl) ?_
      refine lv_iload hx hb dK_addExpression_65 (lv_at hl 0 rfl) ?_
      refine lv_imul hx hb dK_addExpression_67 ?_
      refine lv_topi (fun v67 e67 => ?_)
      have n67 : v67 = nI ((if 7 ≤ k ∧ k ≤ 9 then 2 else 1) * ((C.1 a) + (C.1 b))) := by rw [e67]; exact gx_mul (rfl : (nI (if 7 ≤ k ∧ k ≤ 9 then 2 else 1)) = (nI (if 7 ≤ k ∧ k ≤ 9 then 2 else 1))) (rfl : (nI ((C.1 a) + (C.1 b))) = (nI ((C.1 a) + (C.1 b))))
      subst n67
      refine lv_iadd hx hb dK_addExpression_68 ?_
      refine lv_topi (fun v68 e68 => ?_)
      have n68 : v68 = nI (1 + ((if 7 ≤ k ∧ k ≤ 9 then 2 else 1) * ((C.1 a) + (C.1 b)))) := by rw [e68]; exact gx_add (rfl : (1 : Int32) = nI 1) (rfl : (nI ((if 7 ≤ k ∧ k ≤ 9 then 2 else 1) * ((C.1 a) + (C.1 b)))) = (nI ((if 7 ≤ k ∧ k ≤ 9 then 2 else 1) * ((C.1 a) + (C.1 b)))))
      subst n68
      have hm9 : (if 7 ≤ k ∧ k ≤ 9 then 2 else 1) * (C.1 a + C.1 b) ≤ 3 * (C.1 a + C.1 b) := Nat.mul_le_mul_right _ hf9
      refine va_mmin hx hb (by rw [hml]; exact hl.1.symm) hown (ht _ m_202) (ht _ m_203) (ht _ m_7) (ht _ mh_min) (Nat.le_of_ble_eq_true rfl) (Nat.le_of_ble_eq_true rfl) (Nat.zero_le _) (Nat.zero_le _) dK_addExpression_69 ?_
      refine lv_topi (fun v69 e69 => ?_)
      have n69 : v69 = nI (min 1000 (1 + ((if 7 ≤ k ∧ k ≤ 9 then 2 else 1) * ((C.1 a) + (C.1 b))))) := by rw [e69]; exact gx_min (rfl : (1000 : Int32) = nI 1000) (rfl : (nI (1 + ((if 7 ≤ k ∧ k ≤ 9 then 2 else 1) * ((C.1 a) + (C.1 b))))) = (nI (1 + ((if 7 ≤ k ∧ k ≤ 9 then 2 else 1) * ((C.1 a) + (C.1 b)))))) (by decide) (by omega)
      subst n69
      have i72 : vp_in (nI n) 80 := gx_in (rfl : (nI n) = (nI n)) (by omega) (by decide)
      have k72 : ((nI n) : Int32).toNatClampNeg = n := gx_cl (rfl : (nI n) = (nI n)) (by omega)
      refine va_iast hx hb hK hP hD hS 1 0 rfl rfl i72 dK_addExpression_72 (fun H locs hP hD hS => ?_)
      rw [k72] at hP hD
      have hP : va_P D vwCl [(o, .inr (1, [.ref (q 0), .ref (q 1), .ref (q 2), .ref (q 3), .ref (q 4)])), ((q 0), .inl (cI, 80, .inl (upd (fun z9 => nI (C.1 z9)) n (nI (min 1000 (1 + ((if 7 ≤ k ∧ k ≤ 9 then 2 else 1) * ((C.1 a) + (C.1 b))))))))), ((q 1), .inl (cI, 640, .inl (fun z9 => nI (C.2.1 z9)))), ((q 2), .inl (cI, 64, .inl (fun z9 => nI (C.2.2.1 z9)))), ((q 3), .inl (cI, 8, .inl (fun z9 => nI (C.2.2.2.1 z9)))), ((q 4), .inl (cI, 8, .inl (fun z9 => nI (C.2.2.2.2 z9))))] H := hP
      have hD : va_D A [(o, .inr (1, [.ref (q 0), .ref (q 1), .ref (q 2), .ref (q 3), .ref (q 4)])), ((q 0), .inl (cI, 80, .inl (upd (fun z9 => nI (C.1 z9)) n (nI (min 1000 (1 + ((if 7 ≤ k ∧ k ≤ 9 then 2 else 1) * ((C.1 a) + (C.1 b))))))))), ((q 1), .inl (cI, 640, .inl (fun z9 => nI (C.2.1 z9)))), ((q 2), .inl (cI, 64, .inl (fun z9 => nI (C.2.2.1 z9)))), ((q 3), .inl (cI, 8, .inl (fun z9 => nI (C.2.2.2.1 z9)))), ((q 4), .inl (cI, 8, .inl (fun z9 => nI (C.2.2.2.2 z9))))] := hD
      rw [gx_upd] at hP hD
      refine lv_iconst (v := 0) hx hb dK_addExpression_73 (by decide) ?_
      refine lv_istore (lv' := [(10, .int 0), (9, .int (nI ((C.1 a) + (C.1 b)))), (8, .int (gb (k = 2 ∨ k = 3 ∨ k = 4 ∨ k = 8 ∨ k = 9 ∨ k = 11))), (7, .int (gb (2 ≤ k))), (6, .int (nI (if 7 ≤ k ∧ k ≤ 9 then 2 else 1))), (0, .ref o), (1, .int (nI n)), (2, .int (nI k)), (3, .int (nI a)), (4, .int (nI b)), (5, .int d)]) hx hb dK_addExpression_74 hl (by decide) rfl (fun ls hl => ?_)
      rw [← kf_up_0 C.2.1 n (fun i => min 1000 ((if 7 ≤ k ∧ k ≤ 9 then 2 else 1) * (C.2.1 (a * 8 + i) + C.2.1 (b * 8 + i)) + 0))] at hP hD
      have lp76 : ∀ (n76 : Nat) (i : Nat), 8 - i + 1 ≤ n76 → (i ≤ 8) → ∀ (H : Heap) (locs : List Loc) (ls : Array Slot), va_P D vwCl [(o, .inr (1, [.ref (q 0), .ref (q 1), .ref (q 2), .ref (q 3), .ref (q 4)])), ((q 0), .inl (cI, 80, .inl (fun z9 => nI ((va_up C.1 n (min 1000 (1 + (if 7 ≤ k ∧ k ≤ 9 then 2 else 1) * (C.1 a + C.1 b)))) z9)))), ((q 1), .inl (cI, 640, .inl (fun z9 => nI ((kf_up C.2.1 n (fun i => min 1000 ((if 7 ≤ k ∧ k ≤ 9 then 2 else 1) * (C.2.1 (a * 8 + i) + C.2.1 (b * 8 + i)) + 0)) i) z9)))), ((q 2), .inl (cI, 64, .inl (fun z9 => nI (C.2.2.1 z9)))), ((q 3), .inl (cI, 8, .inl (fun z9 => nI (C.2.2.2.1 z9)))), ((q 4), .inl (cI, 8, .inl (fun z9 => nI (C.2.2.2.2 z9))))] H → va_D A [(o, .inr (1, [.ref (q 0), .ref (q 1), .ref (q 2), .ref (q 3), .ref (q 4)])), ((q 0), .inl (cI, 80, .inl (fun z9 => nI ((va_up C.1 n (min 1000 (1 + (if 7 ≤ k ∧ k ≤ 9 then 2 else 1) * (C.1 a + C.1 b)))) z9)))), ((q 1), .inl (cI, 640, .inl (fun z9 => nI ((kf_up C.2.1 n (fun i => min 1000 ((if 7 ≤ k ∧ k ≤ 9 then 2 else 1) * (C.2.1 (a * 8 + i) + C.2.1 (b * 8 + i)) + 0)) i) z9)))), ((q 2), .inl (cI, 64, .inl (fun z9 => nI (C.2.2.1 z9)))), ((q 3), .inl (cI, 8, .inl (fun z9 => nI (C.2.2.2.1 z9)))), ((q 4), .inl (cI, 8, .inl (fun z9 => nI (C.2.2.2.2 z9))))] → va_S A s.heap H locs → lv_has ls 13 [(10, .int (nI i)), (9, .int (nI ((C.1 a) + (C.1 b)))), (8, .int (gb (k = 2 ∨ k = 3 ∨ k = 4 ∨ k = 8 ∨ k = 9 ∨ k = 11))), (7, .int (gb (2 ≤ k))), (6, .int (nI (if 7 ≤ k ∧ k ≤ 9 then 2 else 1))), (0, .ref o), (1, .int (nI n)), (2, .int (nI k)), (3, .int (nI a)), (4, .int (nI b)), (5, .int d)] → W p l ev9 (headSpec w_K_addExpression ({ frames := 2, cells := 0, slots := 0, locals := 51 })).room s m ([.ref o, .int (nI n), .int (nI k), .int (nI a), .int (nI b), .int d] : List Value).toArray below meth c H locs 0 0 (MQ below (gq_V D A (fun w => w = wK cI o q (cs_exp C n (if 7 ≤ k ∧ k ≤ 9 then 2 else 1) (C.1 a + C.1 b) (fun i => (C.2.1 (a * 8 + i) + C.2.1 (b * 8 + i))) (fun i => 0)))) ([.ref o, .int (nI n), .int (nI k), .int (nI a), .int (nI b), .int d] : List Value).toArray s (0) (0) A) (F0 m 76 ls []) := by
        intro n76
        induction n76 with
        | zero =>
          intro i hm76
          exact absurd hm76 (by omega)
        | succ n76 ih76 =>
          intro i hm76 hi H locs ls hP hD hS hl
          refine lv_iload hx hb dK_addExpression_76 (lv_at hl 0 rfl) ?_
          refine lv_bipush (v := 8) hx hb dK_addExpression_78 (by decide) ?_
          refine lv_icmp_ge (tgt := 181) hx hb dK_addExpression_80 (by decide) (fun c80 => ?_) (fun c80 => ?_)
          · have g80 : 8 ≤ i := (gx_le (rfl : (8 : Int32) = nI 8) (rfl : (nI i) = (nI i)) (by decide) (by omega)).mp c80
            have zi : i = 8 := by omega
            subst zi
            have hP : va_P D vwCl (wK cI o q (cs_exp C n (if 7 ≤ k ∧ k ≤ 9 then 2 else 1) (C.1 a + C.1 b) (fun i => (C.2.1 (a * 8 + i) + C.2.1 (b * 8 + i))) (fun i => 0))) _ := hP
            have hD : va_D A (wK cI o q (cs_exp C n (if 7 ≤ k ∧ k ≤ 9 then 2 else 1) (C.1 a + C.1 b) (fun i => (C.2.1 (a * 8 + i) + C.2.1 (b * 8 + i))) (fun i => 0))) := hD
            exact W.vret hx hb hr (fun t9 ht9 hW => ⟨⟨_, rfl, rfl, by rw [ht9]; exact hP, hD⟩, hS.F ht9⟩) hS.2.2 dK_addExpression_181
          · have g80 : ¬ (8 ≤ i) := fun z => c80 ((gx_le (rfl : (8 : Int32) = nI 8) (rfl : (nI i) = (nI i)) (by decide) (by omega)).mpr z)
            have hna := hnm (a * 8 + i)
            have hnb := hnm (b * 8 + i)
            refine lv_iload hx hb dK_addExpression_83 (lv_at hl 3 rfl) ?_
            refine lv_if_eq (tgt := 103) hx hb dK_addExpression_85 (by decide) (fun c85 => ?_) (fun c85 => ?_)
            · exact absurd (gb_1.mp c85) (fun z => z (by omega))
            · refine lv_aload_n hx hb dK_addExpression_88 rfl (lv_at hl 5 rfl) ?_
              refine va_get (D := D) (ci := 1) (v := .ref (q 1)) (C := R_K) (T := F_K) (N := 5) hx hb ht i_K hown hK hP 0 rfl rfl 1 (by decide) (ht _ m_114) (fun _ h9 => h9) rfl dK_addExpression_89 ?_
              refine lv_iload_n hx hb dK_addExpression_92 rfl (lv_at hl 8 rfl) ?_
              refine lv_bipush (v := 8) hx hb dK_addExpression_93 (by decide) ?_
              refine lv_imul hx hb dK_addExpression_95 ?_
              refine lv_topi (fun v95 e95 => ?_)
              have n95 : v95 = nI (a * 8) := by rw [e95]; exact gx_mul (rfl : (nI a) = (nI a)) (rfl : (8 : Int32) = nI 8)
              subst n95
              refine lv_iload hx hb dK_addExpression_96 (lv_at hl 0 rfl) ?_
              refine lv_iadd hx hb dK_addExpression_98 ?_
              refine lv_topi (fun v98 e98 => ?_)
              have n98 : v98 = nI ((a * 8) + i) := by rw [e98]; exact gx_add (rfl : (nI (a * 8)) = (nI (a * 8))) (rfl : (nI i) = (nI i))
              subst n98
              have i99 : vp_in (nI ((a * 8) + i)) 640 := gx_in (rfl : (nI ((a * 8) + i)) = (nI ((a * 8) + i))) (by omega) (by decide)
              have k99 : ((nI ((a * 8) + i)) : Int32).toNatClampNeg = ((a * 8) + i) := gx_cl (rfl : (nI ((a * 8) + i)) = (nI ((a * 8) + i))) (by omega)
              refine va_iald hx hb hK hP 2 0 rfl rfl i99 dK_addExpression_99 ?_
              rw [k99]
              refine lv_topi (fun v99 e99 => ?_)
              have n99 : v99 = nI ((kf_up C.2.1 n (fun i => min 1000 ((if 7 ≤ k ∧ k ≤ 9 then 2 else 1) * (C.2.1 (a * 8 + i) + C.2.1 (b * 8 + i)) + 0)) i) ((a * 8) + i)) := e99
              subst n99
              rw [kf_up_r _ _ _ _ _ _ ha (by omega)]
              refine lv_goto (tgt := 104) hx hb dK_addExpression_100 (by decide) ?_
              refine lv_iload hx hb dK_addExpression_104 (lv_at hl 2 rfl) ?_
              refine lv_if_eq (tgt := 125) hx hb dK_addExpression_106 (by decide) (fun c106 => ?_) (fun c106 => ?_)
              · exact absurd (gb_1.mp c106) (fun z => z (by omega))
              · refine lv_aload_n hx hb dK_addExpression_109 rfl (lv_at hl 5 rfl) ?_
                refine va_get (D := D) (ci := 1) (v := .ref (q 1)) (C := R_K) (T := F_K) (N := 5) hx hb ht i_K hown hK hP 0 rfl rfl 1 (by decide) (ht _ m_114) (fun _ h9 => h9) rfl dK_addExpression_110 ?_
                refine lv_iload hx hb dK_addExpression_113 (lv_at hl 9 rfl) ?_
                refine lv_bipush (v := 8) hx hb dK_addExpression_115 (by decide) ?_
                refine lv_imul hx hb dK_addExpression_117 ?_
                refine lv_topi (fun v117 e117 => ?_)
                have n117 : v117 = nI (b * 8) := by rw [e117]; exact gx_mul (rfl : (nI b) = (nI b)) (rfl : (8 : Int32) = nI 8)
                subst n117
                refine lv_iload hx hb dK_addExpression_118 (lv_at hl 0 rfl) ?_
                refine lv_iadd hx hb dK_addExpression_120 ?_
                refine lv_topi (fun v120 e120 => ?_)
                have n120 : v120 = nI ((b * 8) + i) := by rw [e120]; exact gx_add (rfl : (nI (b * 8)) = (nI (b * 8))) (rfl : (nI i) = (nI i))
                subst n120
                have i121 : vp_in (nI ((b * 8) + i)) 640 := gx_in (rfl : (nI ((b * 8) + i)) = (nI ((b * 8) + i))) (by omega) (by decide)
                have k121 : ((nI ((b * 8) + i)) : Int32).toNatClampNeg = ((b * 8) + i) := gx_cl (rfl : (nI ((b * 8) + i)) = (nI ((b * 8) + i))) (by omega)
                refine va_iald hx hb hK hP 2 0 rfl rfl i121 dK_addExpression_121 ?_
                rw [k121]
                refine lv_topi (fun v121 e121 => ?_)
                have n121 : v121 = nI ((kf_up C.2.1 n (fun i => min 1000 ((if 7 ≤ k ∧ k ≤ 9 then 2 else 1) * (C.2.1 (a * 8 + i) + C.2.1 (b * 8 + i)) + 0)) i) ((b * 8) + i)) := e121
                subst n121
                rw [kf_up_r _ _ _ _ _ _ hb8 (by omega)]
                refine lv_goto (tgt := 126) hx hb dK_addExpression_122 (by decide) ?_
                refine lv_iadd hx hb dK_addExpression_126 ?_
                refine lv_topi (fun v126 e126 => ?_)
                have n126 : v126 = nI ((C.2.1 (a * 8 + i)) + (C.2.1 (b * 8 + i))) := by rw [e126]; exact gx_add (rfl : (nI (C.2.1 (a * 8 + i))) = (nI (C.2.1 (a * 8 + i)))) (rfl : (nI (C.2.1 (b * 8 + i))) = (nI (C.2.1 (b * 8 + i))))
                subst n126
                refine lv_istore (lv' := [(11, .int (nI ((C.2.1 (a * 8 + i)) + (C.2.1 (b * 8 + i))))), (10, .int (nI i)), (9, .int (nI ((C.1 a) + (C.1 b)))), (8, .int (gb (k = 2 ∨ k = 3 ∨ k = 4 ∨ k = 8 ∨ k = 9 ∨ k = 11))), (7, .int (gb (2 ≤ k))), (6, .int (nI (if 7 ≤ k ∧ k ≤ 9 then 2 else 1))), (0, .ref o), (1, .int (nI n)), (2, .int (nI k)), (3, .int (nI a)), (4, .int (nI b)), (5, .int d)]) hx hb dK_addExpression_127 hl (by decide) rfl (fun ls hl => ?_)
                refine lv_iload_n hx hb dK_addExpression_129 rfl (lv_at hl 8 rfl) ?_
                refine lv_bipush (v := 11) hx hb dK_addExpression_130 (by decide) ?_
                refine lv_icmp_ne (tgt := 146) hx hb dK_addExpression_132 (by decide) (fun c132 => ?_) (fun c132 => ?_)
                · have g132 : ¬ (k = 11) := fun z => c132 ((gx_eq (rfl : (nI k) = (nI k)) (rfl : (11 : Int32) = nI 11) (by omega) (by decide)).mpr z)
                  refine lv_iconst (v := 0) hx hb dK_addExpression_146 (by decide) ?_
                  refine lv_istore (lv' := [(12, .int 0), (11, .int (nI ((C.2.1 (a * 8 + i)) + (C.2.1 (b * 8 + i))))), (10, .int (nI i)), (9, .int (nI ((C.1 a) + (C.1 b)))), (8, .int (gb (k = 2 ∨ k = 3 ∨ k = 4 ∨ k = 8 ∨ k = 9 ∨ k = 11))), (7, .int (gb (2 ≤ k))), (6, .int (nI (if 7 ≤ k ∧ k ≤ 9 then 2 else 1))), (0, .ref o), (1, .int (nI n)), (2, .int (nI k)), (3, .int (nI a)), (4, .int (nI b)), (5, .int d)]) hx hb dK_addExpression_147 hl (by decide) rfl (fun ls hl => ?_)
                  refine lv_aload_n hx hb dK_addExpression_149 rfl (lv_at hl 7 rfl) ?_
                  refine va_get (D := D) (ci := 1) (v := .ref (q 1)) (C := R_K) (T := F_K) (N := 5) hx hb ht i_K hown hK hP 0 rfl rfl 1 (by decide) (ht _ m_114) (fun _ h9 => h9) rfl dK_addExpression_150 ?_
                  refine lv_iload_n hx hb dK_addExpression_153 rfl (lv_at hl 8 rfl) ?_
                  refine lv_bipush (v := 8) hx hb dK_addExpression_154 (by decide) ?_
                  refine lv_imul hx hb dK_addExpression_156 ?_
                  refine lv_topi (fun v156 e156 => ?_)
                  have n156 : v156 = nI (n * 8) := by rw [e156]; exact gx_mul (rfl : (nI n) = (nI n)) (rfl : (8 : Int32) = nI 8)
                  subst n156
                  refine lv_iload hx hb dK_addExpression_157 (lv_at hl 2 rfl) ?_
                  refine lv_iadd hx hb dK_addExpression_159 ?_
                  refine lv_topi (fun v159 e159 => ?_)
                  have n159 : v159 = nI ((n * 8) + i) := by rw [e159]; exact gx_add (rfl : (nI (n * 8)) = (nI (n * 8))) (rfl : (nI i) = (nI i))
                  subst n159
                  refine lv_sipush (v := 1000) hx hb dK_addExpression_160 (by decide) ?_
                  refine lv_iload hx hb dK_addExpression_163 (lv_at hl 6 rfl) ?_
                  refine lv_iload hx hb dK_addExpression_165 (lv_at hl 1 rfl) ?_
                  refine lv_imul hx hb dK_addExpression_167 ?_
                  refine lv_topi (fun v167 e167 => ?_)
                  have n167 : v167 = nI ((if 7 ≤ k ∧ k ≤ 9 then 2 else 1) * ((C.2.1 (a * 8 + i)) + (C.2.1 (b * 8 + i)))) := by rw [e167]; exact gx_mul (rfl : (nI (if 7 ≤ k ∧ k ≤ 9 then 2 else 1)) = (nI (if 7 ≤ k ∧ k ≤ 9 then 2 else 1))) (rfl : (nI ((C.2.1 (a * 8 + i)) + (C.2.1 (b * 8 + i)))) = (nI ((C.2.1 (a * 8 + i)) + (C.2.1 (b * 8 + i)))))
                  subst n167
                  refine lv_iload hx hb dK_addExpression_168 (lv_at hl 0 rfl) ?_
                  refine lv_iadd hx hb dK_addExpression_170 ?_
                  refine lv_topi (fun v170 e170 => ?_)
                  have n170 : v170 = nI (((if 7 ≤ k ∧ k ≤ 9 then 2 else 1) * ((C.2.1 (a * 8 + i)) + (C.2.1 (b * 8 + i)))) + 0) := by rw [e170]; exact gx_add (rfl : (nI ((if 7 ≤ k ∧ k ≤ 9 then 2 else 1) * ((C.2.1 (a * 8 + i)) + (C.2.1 (b * 8 + i))))) = (nI ((if 7 ≤ k ∧ k ≤ 9 then 2 else 1) * ((C.2.1 (a * 8 + i)) + (C.2.1 (b * 8 + i)))))) (rfl : (0 : Int32) = nI 0)
                  subst n170
                  have hm9 : (if 7 ≤ k ∧ k ≤ 9 then 2 else 1) * (C.2.1 (a * 8 + i) + C.2.1 (b * 8 + i)) ≤ 3 * (C.2.1 (a * 8 + i) + C.2.1 (b * 8 + i)) := Nat.mul_le_mul_right _ hf9
                  refine va_mmin hx hb (by rw [hml]; exact hl.1.symm) hown (ht _ m_202) (ht _ m_203) (ht _ m_7) (ht _ mh_min) (Nat.le_of_ble_eq_true rfl) (Nat.le_of_ble_eq_true rfl) (Nat.zero_le _) (Nat.zero_le _) dK_addExpression_171 ?_
                  refine lv_topi (fun v171 e171 => ?_)
                  have n171 : v171 = nI (min 1000 (((if 7 ≤ k ∧ k ≤ 9 then 2 else 1) * ((C.2.1 (a * 8 + i)) + (C.2.1 (b * 8 + i)))) + 0)) := by rw [e171]; exact gx_min (rfl : (1000 : Int32) = nI 1000) (rfl : (nI (((if 7 ≤ k ∧ k ≤ 9 then 2 else 1) * ((C.2.1 (a * 8 + i)) + (C.2.1 (b * 8 + i)))) + 0)) = (nI (((if 7 ≤ k ∧ k ≤ 9 then 2 else 1) * ((C.2.1 (a * 8 + i)) + (C.2.1 (b * 8 + i)))) + 0))) (by decide) (by omega)
                  subst n171
                  have i174 : vp_in (nI ((n * 8) + i)) 640 := gx_in (rfl : (nI ((n * 8) + i)) = (nI ((n * 8) + i))) (by omega) (by decide)
                  have k174 : ((nI ((n * 8) + i)) : Int32).toNatClampNeg = ((n * 8) + i) := gx_cl (rfl : (nI ((n * 8) + i)) = (nI ((n * 8) + i))) (by omega)
                  refine va_iast hx hb hK hP hD hS 2 0 rfl rfl i174 dK_addExpression_174 (fun H locs hP hD hS => ?_)
                  rw [k174] at hP hD
                  have hP : va_P D vwCl [(o, .inr (1, [.ref (q 0), .ref (q 1), .ref (q 2), .ref (q 3), .ref (q 4)])), ((q 0), .inl (cI, 80, .inl (fun z9 => nI ((va_up C.1 n (min 1000 (1 + (if 7 ≤ k ∧ k ≤ 9 then 2 else 1) * (C.1 a + C.1 b)))) z9)))), ((q 1), .inl (cI, 640, .inl (upd (fun z9 => nI ((kf_up C.2.1 n (fun i => min 1000 ((if 7 ≤ k ∧ k ≤ 9 then 2 else 1) * (C.2.1 (a * 8 + i) + C.2.1 (b * 8 + i)) + 0)) i) z9)) ((n * 8) + i) (nI (min 1000 (((if 7 ≤ k ∧ k ≤ 9 then 2 else 1) * ((C.2.1 (a * 8 + i)) + (C.2.1 (b * 8 + i)))) + 0)))))), ((q 2), .inl (cI, 64, .inl (fun z9 => nI (C.2.2.1 z9)))), ((q 3), .inl (cI, 8, .inl (fun z9 => nI (C.2.2.2.1 z9)))), ((q 4), .inl (cI, 8, .inl (fun z9 => nI (C.2.2.2.2 z9))))] H := hP
                  have hD : va_D A [(o, .inr (1, [.ref (q 0), .ref (q 1), .ref (q 2), .ref (q 3), .ref (q 4)])), ((q 0), .inl (cI, 80, .inl (fun z9 => nI ((va_up C.1 n (min 1000 (1 + (if 7 ≤ k ∧ k ≤ 9 then 2 else 1) * (C.1 a + C.1 b)))) z9)))), ((q 1), .inl (cI, 640, .inl (upd (fun z9 => nI ((kf_up C.2.1 n (fun i => min 1000 ((if 7 ≤ k ∧ k ≤ 9 then 2 else 1) * (C.2.1 (a * 8 + i) + C.2.1 (b * 8 + i)) + 0)) i) z9)) ((n * 8) + i) (nI (min 1000 (((if 7 ≤ k ∧ k ≤ 9 then 2 else 1) * ((C.2.1 (a * 8 + i)) + (C.2.1 (b * 8 + i)))) + 0)))))), ((q 2), .inl (cI, 64, .inl (fun z9 => nI (C.2.2.1 z9)))), ((q 3), .inl (cI, 8, .inl (fun z9 => nI (C.2.2.2.1 z9)))), ((q 4), .inl (cI, 8, .inl (fun z9 => nI (C.2.2.2.2 z9))))] := hD
                  rw [gx_upd] at hP hD
                  have hz : min 1000 ((if 7 ≤ k ∧ k ≤ 9 then 2 else 1) * (C.2.1 (a * 8 + i) + C.2.1 (b * 8 + i)) + 0) = (fun i => min 1000 ((if 7 ≤ k ∧ k ≤ 9 then 2 else 1) * (C.2.1 (a * 8 + i) + C.2.1 (b * 8 + i)) + 0)) i := by show _ = min 1000 ((if 7 ≤ k ∧ k ≤ 9 then 2 else 1) * (C.2.1 (a * 8 + i) + C.2.1 (b * 8 + i)) + 0); rfl
                  rw [hz, kf_up_s] at hP hD
                  have hP : va_P D vwCl [(o, .inr (1, [.ref (q 0), .ref (q 1), .ref (q 2), .ref (q 3), .ref (q 4)])), ((q 0), .inl (cI, 80, .inl (fun z9 => nI ((va_up C.1 n (min 1000 (1 + (if 7 ≤ k ∧ k ≤ 9 then 2 else 1) * (C.1 a + C.1 b)))) z9)))), ((q 1), .inl (cI, 640, .inl (fun z9 => nI ((kf_up C.2.1 n (fun i => min 1000 ((if 7 ≤ k ∧ k ≤ 9 then 2 else 1) * (C.2.1 (a * 8 + i) + C.2.1 (b * 8 + i)) + 0)) (i + 1)) z9)))), ((q 2), .inl (cI, 64, .inl (fun z9 => nI (C.2.2.1 z9)))), ((q 3), .inl (cI, 8, .inl (fun z9 => nI (C.2.2.2.1 z9)))), ((q 4), .inl (cI, 8, .inl (fun z9 => nI (C.2.2.2.2 z9))))] H := hP
                  have hD : va_D A [(o, .inr (1, [.ref (q 0), .ref (q 1), .ref (q 2), .ref (q 3), .ref (q 4)])), ((q 0), .inl (cI, 80, .inl (fun z9 => nI ((va_up C.1 n (min 1000 (1 + (if 7 ≤ k ∧ k ≤ 9 then 2 else 1) * (C.1 a + C.1 b)))) z9)))), ((q 1), .inl (cI, 640, .inl (fun z9 => nI ((kf_up C.2.1 n (fun i => min 1000 ((if 7 ≤ k ∧ k ≤ 9 then 2 else 1) * (C.2.1 (a * 8 + i) + C.2.1 (b * 8 + i)) + 0)) (i + 1)) z9)))), ((q 2), .inl (cI, 64, .inl (fun z9 => nI (C.2.2.1 z9)))), ((q 3), .inl (cI, 8, .inl (fun z9 => nI (C.2.2.2.1 z9)))), ((q 4), .inl (cI, 8, .inl (fun z9 => nI (C.2.2.2.2 z9))))] := hD
                  refine lv_iinc (v := (nI (i + 1))) (lv' := [(10, .int (nI (i + 1))), (12, .int 0), (11, .int (nI ((C.2.1 (a * 8 + i)) + (C.2.1 (b * 8 + i))))), (9, .int (nI ((C.1 a) + (C.1 b)))), (8, .int (gb (k = 2 ∨ k = 3 ∨ k = 4 ∨ k = 8 ∨ k = 9 ∨ k = 11))), (7, .int (gb (2 ≤ k))), (6, .int (nI (if 7 ≤ k ∧ k ≤ 9 then 2 else 1))), (0, .ref o), (1, .int (nI n)), (2, .int (nI k)), (3, .int (nI a)), (4, .int (nI b)), (5, .int d)]) hx hb dK_addExpression_175 hl (k := 2) rfl (gx_inc (rfl : (nI i) = (nI i))) (by decide) rfl (fun ls hl => ?_)
                  refine lv_goto (tgt := 76) hx hb dK_addExpression_178 (by decide) ?_
                  exact ih76 (i + 1) (by omega) (by omega) _ _ _ hP hD hS (lv_sub hl [0, 3, 4, 5, 6, 7, 8, 9, 10, 11, 12] rfl)
                · have g132 : k = 11 := (gx_eq (rfl : (nI k) = (nI k)) (rfl : (11 : Int32) = nI 11) (by omega) (by decide)).mp c132
                  exfalso; omega
      exact lp76 (8 - (0) + 1) 0 (by omega) (by omega) _ _ _ hP hD hS (lv_sub hl [0, 1, 2, 3, 4, 5, 6, 7, 8, 9, 10] rfl)

set_option maxHeartbeats 4000000 in
set_option maxRecDepth 100000 in
theorem c_K_addExpression_c (l : Launch) (D : va_G) (cI cJ cB cZ : ClassId) (o : Nat) (q : Nat → Nat) (C : Cs) (n k : Nat) (a : Nat) (b : Nat) (d : Nat) (hn : n < 80) (hk : k = 11) (hpl : ∀ x, C.1 x ≤ 1000) (hnm : ∀ x, C.2.1 x ≤ 1000) (ha : a < n) (hb8 : b < n) (hd8 : d < 8) : ct_V l y_K_addExpression w_K_addExpression ({ frames := 2, cells := 0, slots := 0, locals := 51 }) D (gk_T cI cJ cB cZ) [.ref o, .int (nI n), .int (nI k), .int (nI a), .int (nI b), .int (nI d)] (wK cI o q C) (0) (0) (fun w => w = wK cI o q (cs_exp C n (if 7 ≤ k ∧ k ≤ 9 then 2 else 1) (C.1 a + C.1 b) (fun i => (C.2.1 (a * 8 + i) + C.2.1 (b * 8 + i))) (fun i => (if i = d then 1 else 0)))) := by
  intro sz
  refine Met.ofW (cc := b_K_addExpression) (maxL := 13) (ret := none) (by decide) rfl ?_
  intro p ev9 s m args below meth c s₁ B9 hml hv
  obtain ⟨rfl, hsz, hP, hK, hN, hD0⟩ := hv
  have hx := B9.exec
  have hb := B9.bytes
  have hr := B9.returns
  have hts := atoms_spec (ws := w_K_addExpression) B9.pre
  have ht : ∀ w ∈ gk_big, w.before _ s = true := fun w h => hts w (List.mem_cons_of_mem _ h)
  have hown : s.vm.findClass R_K = some m.cls := findClass_of_methodNamed B9.named
  have hlocks := B9.notSynchronized
  subst hsz
  have hD := hD0.self (sz := s.heap.size)
  generalize hAe : va_A (wK cI o q C) s.heap.size = A at hD ⊢
  have hA : ∀ q : Nat, s.heap.size ≤ q → A q := fun q h => by rw [← hAe]; exact Or.inr h
  generalize hHe : s.heap = H at hP ⊢
  have hS : va_S A s.heap H [] := by rw [← hHe]; exact va_S.rf
  have hP : va_P D vwCl [(o, .inr (1, [.ref (q 0), .ref (q 1), .ref (q 2), .ref (q 3), .ref (q 4)])), ((q 0), .inl (cI, 80, .inl (fun z9 => nI (C.1 z9)))), ((q 1), .inl (cI, 640, .inl (fun z9 => nI (C.2.1 z9)))), ((q 2), .inl (cI, 64, .inl (fun z9 => nI (C.2.2.1 z9)))), ((q 3), .inl (cI, 8, .inl (fun z9 => nI (C.2.2.2.1 z9)))), ((q 4), .inl (cI, 8, .inl (fun z9 => nI (C.2.2.2.2 z9))))] H := hP
  have hD : va_D A [(o, .inr (1, [.ref (q 0), .ref (q 1), .ref (q 2), .ref (q 3), .ref (q 4)])), ((q 0), .inl (cI, 80, .inl (fun z9 => nI (C.1 z9)))), ((q 1), .inl (cI, 640, .inl (fun z9 => nI (C.2.1 z9)))), ((q 2), .inl (cI, 64, .inl (fun z9 => nI (C.2.2.1 z9)))), ((q 3), .inl (cI, 8, .inl (fun z9 => nI (C.2.2.2.1 z9)))), ((q 4), .inl (cI, 8, .inl (fun z9 => nI (C.2.2.2.2 z9))))] := hD
  have hl := lv_entry ([.ref o, .int (nI n), .int (nI k), .int (nI a), .int (nI b), .int (nI d)]) (n := 13) (Nat.le_of_ble_eq_true rfl)
  rw [lg_entry_eq]
  generalize (lg_sl ([.ref o, .int (nI n), .int (nI k), .int (nI a), .int (nI b), .int (nI d)]) ++ List.replicate (13 - (lg_sl ([.ref o, .int (nI n), .int (nI k), .int (nI a), .int (nI b), .int (nI d)])).length) Slot.unset).toArray = ls at hl ⊢
  have hl : lv_has ls 13 [(0, .ref o), (1, .int (nI n)), (2, .int (nI k)), (3, .int (nI a)), (4, .int (nI b)), (5, .int (nI d))] := hl
  have hf9 : (if 7 ≤ k ∧ k ≤ 9 then 2 else 1) ≤ 3 := by split <;> omega
  have hpa := hpl a
  have hpb := hpl b
  refine lv_iload_n hx hb dK_addExpression_0 rfl (lv_at hl 2 rfl) ?_
  refine lv_iload hx hb dK_addExpression_1 (lv_at hl 4 rfl) ?_
  refine gc_i (va_runS (As := [.int (nI k), .int (nI b)]) (rest := []) ⟨hx, hb, hml, hown, ht⟩ (c_K_factorOf_n l D cI cJ cB cZ k (nI b) (by omega) (by omega) H.size) (va_cwS 2 ht (gw_S m_194 m_195 m_5 m_196) rfl rfl rfl (by decide +kernel) ⟨Nat.le_of_ble_eq_true rfl, Nat.le_of_ble_eq_true rfl⟩) (gp_S hK hN (hP.sub (ws' := ([] : va_W)) [] rfl) (hD.sub (ws' := ([] : va_W)) [] (by decide) rfl)) rfl rfl hl.1 rfl (lv_room (Nat.le_of_ble_eq_true rfl)) dK_addExpression_3 ⟨Nat.le_of_ble_eq_true rfl, Nat.le_of_ble_eq_true rfl⟩) hP hD hS hA [] rfl (by decide) (fun r w h => by obtain ⟨_, rfl⟩ := h; rfl) (fun r3 w3 H locs p3 hP hD hS => ?_)
  obtain ⟨rfl, rfl⟩ := p3
  have hP : va_P D vwCl [(o, .inr (1, [.ref (q 0), .ref (q 1), .ref (q 2), .ref (q 3), .ref (q 4)])), ((q 0), .inl (cI, 80, .inl (fun z9 => nI (C.1 z9)))), ((q 1), .inl (cI, 640, .inl (fun z9 => nI (C.2.1 z9)))), ((q 2), .inl (cI, 64, .inl (fun z9 => nI (C.2.2.1 z9)))), ((q 3), .inl (cI, 8, .inl (fun z9 => nI (C.2.2.2.1 z9)))), ((q 4), .inl (cI, 8, .inl (fun z9 => nI (C.2.2.2.2 z9))))] H := hP
  have hD : va_D A [(o, .inr (1, [.ref (q 0), .ref (q 1), .ref (q 2), .ref (q 3), .ref (q 4)])), ((q 0), .inl (cI, 80, .inl (fun z9 => nI (C.1 z9)))), ((q 1), .inl (cI, 640, .inl (fun z9 => nI (C.2.1 z9)))), ((q 2), .inl (cI, 64, .inl (fun z9 => nI (C.2.2.1 z9)))), ((q 3), .inl (cI, 8, .inl (fun z9 => nI (C.2.2.2.1 z9)))), ((q 4), .inl (cI, 8, .inl (fun z9 => nI (C.2.2.2.2 z9))))] := hD
  refine lv_istore (lv' := [(6, .int (nI (if 7 ≤ k ∧ k ≤ 9 then 2 else 1))), (0, .ref o), (1, .int (nI n)), (2, .int (nI k)), (3, .int (nI a)), (4, .int (nI b)), (5, .int (nI d))]) hx hb dK_addExpression_6 hl (by decide) rfl (fun ls hl => ?_)
  refine lv_iload_n hx hb dK_addExpression_8 rfl (lv_at hl 3 rfl) ?_
  refine gc_i (va_runS (As := [.int (nI k)]) (rest := []) ⟨hx, hb, hml, hown, ht⟩ (c_E_hasLeft l D cI cJ cB cZ (nI k) H.size) (va_cwS 1 ht (gw_S m_200 m_165 m_3 m_166) rfl rfl rfl (by decide +kernel) ⟨Nat.le_of_ble_eq_true rfl, Nat.le_of_ble_eq_true rfl⟩) (gp_S hK hN (hP.sub (ws' := ([] : va_W)) [] rfl) (hD.sub (ws' := ([] : va_W)) [] (by decide) rfl)) rfl rfl hl.1 rfl (lv_room (Nat.le_of_ble_eq_true rfl)) dK_addExpression_9 ⟨Nat.le_of_ble_eq_true rfl, Nat.le_of_ble_eq_true rfl⟩) hP hD hS hA [] rfl (by decide) (fun r w h => by obtain ⟨_, rfl⟩ := h; rfl) (fun r9 w9 H locs p9 hP hD hS => ?_)
  obtain ⟨rfl, rfl⟩ := p9
  have hP : va_P D vwCl [(o, .inr (1, [.ref (q 0), .ref (q 1), .ref (q 2), .ref (q 3), .ref (q 4)])), ((q 0), .inl (cI, 80, .inl (fun z9 => nI (C.1 z9)))), ((q 1), .inl (cI, 640, .inl (fun z9 => nI (C.2.1 z9)))), ((q 2), .inl (cI, 64, .inl (fun z9 => nI (C.2.2.1 z9)))), ((q 3), .inl (cI, 8, .inl (fun z9 => nI (C.2.2.2.1 z9)))), ((q 4), .inl (cI, 8, .inl (fun z9 => nI (C.2.2.2.2 z9))))] H := hP
  have hD : va_D A [(o, .inr (1, [.ref (q 0), .ref (q 1), .ref (q 2), .ref (q 3), .ref (q 4)])), ((q 0), .inl (cI, 80, .inl (fun z9 => nI (C.1 z9)))), ((q 1), .inl (cI, 640, .inl (fun z9 => nI (C.2.1 z9)))), ((q 2), .inl (cI, 64, .inl (fun z9 => nI (C.2.2.1 z9)))), ((q 3), .inl (cI, 8, .inl (fun z9 => nI (C.2.2.2.1 z9)))), ((q 4), .inl (cI, 8, .inl (fun z9 => nI (C.2.2.2.2 z9))))] := hD
  rw [gk_left (by omega)]
  refine lv_istore (lv' := [(7, .int (gb (2 ≤ k))), (6, .int (nI (if 7 ≤ k ∧ k ≤ 9 then 2 else 1))), (0, .ref o), (1, .int (nI n)), (2, .int (nI k)), (3, .int (nI a)), (4, .int (nI b)), (5, .int (nI d))]) hx hb dK_addExpression_12 hl (by decide) rfl (fun ls hl => ?_)
  refine lv_iload_n hx hb dK_addExpression_14 rfl (lv_at hl 4 rfl) ?_
  refine gc_i (va_runS (As := [.int (nI k)]) (rest := []) ⟨hx, hb, hml, hown, ht⟩ (c_E_hasRight l D cI cJ cB cZ (nI k) H.size) (va_cwS 1 ht (gw_S m_201 m_175 m_3 m_176) rfl rfl rfl (by decide +kernel) ⟨Nat.le_of_ble_eq_true rfl, Nat.le_of_ble_eq_true rfl⟩) (gp_S hK hN (hP.sub (ws' := ([] : va_W)) [] rfl) (hD.sub (ws' := ([] : va_W)) [] (by decide) rfl)) rfl rfl hl.1 rfl (lv_room (Nat.le_of_ble_eq_true rfl)) dK_addExpression_15 ⟨Nat.le_of_ble_eq_true rfl, Nat.le_of_ble_eq_true rfl⟩) hP hD hS hA [] rfl (by decide) (fun r w h => by obtain ⟨_, rfl⟩ := h; rfl) (fun r15 w15 H locs p15 hP hD hS => ?_)
  obtain ⟨rfl, rfl⟩ := p15
  have hP : va_P D vwCl [(o, .inr (1, [.ref (q 0), .ref (q 1), .ref (q 2), .ref (q 3), .ref (q 4)])), ((q 0), .inl (cI, 80, .inl (fun z9 => nI (C.1 z9)))), ((q 1), .inl (cI, 640, .inl (fun z9 => nI (C.2.1 z9)))), ((q 2), .inl (cI, 64, .inl (fun z9 => nI (C.2.2.1 z9)))), ((q 3), .inl (cI, 8, .inl (fun z9 => nI (C.2.2.2.1 z9)))), ((q 4), .inl (cI, 8, .inl (fun z9 => nI (C.2.2.2.2 z9))))] H := hP
  have hD : va_D A [(o, .inr (1, [.ref (q 0), .ref (q 1), .ref (q 2), .ref (q 3), .ref (q 4)])), ((q 0), .inl (cI, 80, .inl (fun z9 => nI (C.1 z9)))), ((q 1), .inl (cI, 640, .inl (fun z9 => nI (C.2.1 z9)))), ((q 2), .inl (cI, 64, .inl (fun z9 => nI (C.2.2.1 z9)))), ((q 3), .inl (cI, 8, .inl (fun z9 => nI (C.2.2.2.1 z9)))), ((q 4), .inl (cI, 8, .inl (fun z9 => nI (C.2.2.2.2 z9))))] := hD
  rw [gk_right (by omega)]
  refine lv_istore (lv' := [(8, .int (gb (k = 2 ∨ k = 3 ∨ k = 4 ∨ k = 8 ∨ k = 9 ∨ k = 11))), (7, .int (gb (2 ≤ k))), (6, .int (nI (if 7 ≤ k ∧ k ≤ 9 then 2 else 1))), (0, .ref o), (1, .int (nI n)), (2, .int (nI k)), (3, .int (nI a)), (4, .int (nI b)), (5, .int (nI d))]) hx hb dK_addExpression_18 hl (by decide) rfl (fun ls hl => ?_)
  refine lv_iload hx hb dK_addExpression_20 (lv_at hl 1 rfl) ?_
  refine lv_if_eq (tgt := 34) hx hb dK_addExpression_22 (by decide) (fun c22 => ?_) (fun c22 => ?_)
  · exact absurd (gb_1.mp c22) (fun z => z (by omega))
  · refine lv_aload_n hx hb dK_addExpression_25 rfl (lv_at hl 3 rfl) ?_
    refine va_get (D := D) (ci := 1) (v := .ref (q 0)) (C := R_K) (T := F_K) (N := 5) hx hb ht i_K hown hK hP 0 rfl rfl 0 (by decide) (ht _ m_113) (fun _ h9 => h9) rfl dK_addExpression_26 ?_
    refine lv_iload_n hx hb dK_addExpression_29 rfl (lv_at hl 6 rfl) ?_
    have i30 : vp_in (nI a) 80 := gx_in (rfl : (nI a) = (nI a)) (by omega) (by decide)
    have k30 : ((nI a) : Int32).toNatClampNeg = a := gx_cl (rfl : (nI a) = (nI a)) (by omega)
    refine va_iald hx hb hK hP 1 0 rfl rfl i30 dK_addExpression_30 ?_
    rw [k30]
    refine lv_topi (fun v30 e30 => ?_)
    have n30 : v30 = nI (C.1 a) := e30
    subst n30
    refine lv_goto (tgt := 35) hx hb dK_addExpression_31 (by decide) ?_
    refine lv_iload hx hb dK_addExpression_35 (lv_at hl 0 rfl) ?_
    refine lv_if_eq (tgt := 50) hx hb dK_addExpression_37 (by decide) (fun c37 => ?_) (fun c37 => ?_)
    · exact absurd (gb_1.mp c37) (fun z => z (by omega))
    · refine lv_aload_n hx hb dK_addExpression_40 rfl (lv_at hl 3 rfl) ?_
      refine va_get (D := D) (ci := 1) (v := .ref (q 0)) (C := R_K) (T := F_K) (N := 5) hx hb ht i_K hown hK hP 0 rfl rfl 0 (by decide) (ht _ m_113) (fun _ h9 => h9) rfl dK_addExpression_41 ?_
      refine lv_iload hx hb dK_addExpression_44 (lv_at hl 7 rfl) ?_
      have i46 : vp_in (nI b) 80 := gx_in (rfl : (nI b) = (nI b)) (by omega) (by decide)
      have k46 : ((nI b) : Int32).toNatClampNeg = b := gx_cl (rfl : (nI b) = (nI b)) (by omega)
      refine va_iald hx hb hK hP 1 0 rfl rfl i46 dK_addExpression_46 ?_
      rw [k46]
      refine lv_topi (fun v46 e46 => ?_)
      have n46 : v46 = nI (C.1 b) := e46
      subst n46
      refine lv_goto (tgt := 51) hx hb dK_addExpression_47 (by decide) ?_
      refine lv_iadd hx hb dK_addExpression_51 ?_
      refine lv_topi (fun v51 e51 => ?_)
      have n51 : v51 = nI ((C.1 a) + (C.1 b)) := by rw [e51]; exact gx_add (rfl : (nI (C.1 a)) = (nI (C.1 a))) (rfl : (nI (C.1 b)) = (nI (C.1 b)))
      subst n51
      refine lv_istore (lv' := [(9, .int (nI ((C.1 a) + (C.1 b)))), (8, .int (gb (k = 2 ∨ k = 3 ∨ k = 4 ∨ k = 8 ∨ k = 9 ∨ k = 11))), (7, .int (gb (2 ≤ k))), (6, .int (nI (if 7 ≤ k ∧ k ≤ 9 then 2 else 1))), (0, .ref o), (1, .int (nI n)), (2, .int (nI k)), (3, .int (nI a)), (4, .int (nI b)), (5, .int (nI d))]) hx hb dK_addExpression_52 hl (by decide) rfl (fun ls hl => ?_)
      refine lv_aload_n hx hb dK_addExpression_54 rfl (lv_at hl 4 rfl) ?_
      refine va_get (D := D) (ci := 1) (v := .ref (q 0)) (C := R_K) (T := F_K) (N := 5) hx hb ht i_K hown hK hP 0 rfl rfl 0 (by decide) (ht _ m_113) (fun _ h9 => h9) rfl dK_addExpression_55 ?_
      refine lv_iload_n hx hb dK_addExpression_58 rfl (lv_at hl 5 rfl) ?_
      refine lv_sipush (v := 1000) hx hb dK_addExpression_59 (by decide) ?_
      refine lv_iconst (v := 1) hx hb dK_addExpression_62 (by decide) ?_
      refine lv_iload hx hb dK_addExpression_63 (lv_at hl 3 rfl) ?_
      refine lv_iload hx hb dK_addExpression_65 (lv_at hl 0 rfl) ?_
      refine lv_imul hx hb dK_addExpression_67 ?_
      refine lv_topi (fun v67 e67 => ?_)
      have n67 : v67 = nI ((if 7 ≤ k ∧ k ≤ 9 then 2 else 1) * ((C.1 a) + (C.1 b))) := by rw [e67]; exact gx_mul (rfl : (nI (if 7 ≤ k ∧ k ≤ 9 then 2 else 1)) = (nI (if 7 ≤ k ∧ k ≤ 9 then 2 else 1))) (rfl : (nI ((C.1 a) + (C.1 b))) = (nI ((C.1 a) + (C.1 b))))
      subst n67
      refine lv_iadd hx hb dK_addExpression_68 ?_
      refine lv_topi (fun v68 e68 => ?_)
      have n68 : v68 = nI (1 + ((if 7 ≤ k ∧ k ≤ 9 then 2 else 1) * ((C.1 a) + (C.1 b)))) := by rw [e68]; exact gx_add (rfl : (1 : Int32) = nI 1) (rfl : (nI ((if 7 ≤ k ∧ k ≤ 9 then 2 else 1) * ((C.1 a) + (C.1 b)))) = (nI ((if 7 ≤ k ∧ k ≤ 9 then 2 else 1) * ((C.1 a) + (C.1 b)))))
      subst n68
      have hm9 : (if 7 ≤ k ∧ k ≤ 9 then 2 else 1) * (C.1 a + C.1 b) ≤ 3 * (C.1 a + C.1 b) := Nat.mul_le_mul_right _ hf9
      refine va_mmin hx hb (by rw [hml]; exact hl.1.symm) hown (ht _ m_202) (ht _ m_203) (ht _ m_7) (ht _ mh_min) (Nat.le_of_ble_eq_true rfl) (Nat.le_of_ble_eq_true rfl) (Nat.zero_le _) (Nat.zero_le _) dK_addExpression_69 ?_
      refine lv_topi (fun v69 e69 => ?_)
      have n69 : v69 = nI (min 1000 (1 + ((if 7 ≤ k ∧ k ≤ 9 then 2 else 1) * ((C.1 a) + (C.1 b))))) := by rw [e69]; exact gx_min (rfl : (1000 : Int32) = nI 1000) (rfl : (nI (1 + ((if 7 ≤ k ∧ k ≤ 9 then 2 else 1) * ((C.1 a) + (C.1 b))))) = (nI (1 + ((if 7 ≤ k ∧ k ≤ 9 then 2 else 1) * ((C.1 a) + (C.1 b)))))) (by decide) (by omega)
      subst n69
      have i72 : vp_in (nI n) 80 := gx_in (rfl : (nI n) = (nI n)) (by omega) (by decide)
      have k72 : ((nI n) : Int32).toNatClampNeg = n := gx_cl (rfl : (nI n) = (nI n)) (by omega)
      refine va_iast hx hb hK hP hD hS 1 0 rfl rfl i72 dK_addExpression_72 (fun H locs hP hD hS => ?_)
      rw [k72] at hP hD
      have hP : va_P D vwCl [(o, .inr (1, [.ref (q 0), .ref (q 1), .ref (q 2), .ref (q 3), .ref (q 4)])), ((q 0), .inl (cI, 80, .inl (upd (fun z9 => nI (C.1 z9)) n (nI (min 1000 (1 + ((if 7 ≤ k ∧ k ≤ 9 then 2 else 1) * ((C.1 a) + (C.1 b))))))))), ((q 1), .inl (cI, 640, .inl (fun z9 => nI (C.2.1 z9)))), ((q 2), .inl (cI, 64, .inl (fun z9 => nI (C.2.2.1 z9)))), ((q 3), .inl (cI, 8, .inl (fun z9 => nI (C.2.2.2.1 z9)))), ((q 4), .inl (cI, 8, .inl (fun z9 => nI (C.2.2.2.2 z9))))] H := hP
      have hD : va_D A [(o, .inr (1, [.ref (q 0), .ref (q 1), .ref (q 2), .ref (q 3), .ref (q 4)])), ((q 0), .inl (cI, 80, .inl (upd (fun z9 => nI (C.1 z9)) n (nI (min 1000 (1 + ((if 7 ≤ k ∧ k ≤ 9 then 2 else 1) * ((C.1 a) + (C.1 b))))))))), ((q 1), .inl (cI, 640, .inl (fun z9 => nI (C.2.1 z9)))), ((q 2), .inl (cI, 64, .inl (fun z9 => nI (C.2.2.1 z9)))), ((q 3), .inl (cI, 8, .inl (fun z9 => nI (C.2.2.2.1 z9)))), ((q 4), .inl (cI, 8, .inl (fun z9 => nI (C.2.2.2.2 z9))))] := hD
      rw [gx_upd] at hP hD
      refine lv_iconst (v := 0) hx hb dK_addExpression_73 (by decide) ?_
      refine lv_istore (lv' := [(10, .int 0), (9, .int (nI ((C.1 a) + (C.1 b)))), (8, .int (gb (k = 2 ∨ k = 3 ∨ k = 4 ∨ k = 8 ∨ k = 9 ∨ k = 11))), (7, .int (gb (2 ≤ k))), (6, .int (nI (if 7 ≤ k ∧ k ≤ 9 then 2 else 1))), (0, .ref o), (1, .int (nI n)), (2, .int (nI k)), (3, .int (nI a)), (4, .int (nI b)), (5, .int (nI d))]) hx hb dK_addExpression_74 hl (by decide) rfl (fun ls hl => ?_)
      rw [← kf_up_0 C.2.1 n (fun i => min 1000 ((if 7 ≤ k ∧ k ≤ 9 then 2 else 1) * (C.2.1 (a * 8 + i) + C.2.1 (b * 8 + i)) + (if i = d then 1 else 0)))] at hP hD
      have lp76 : ∀ (n76 : Nat) (i : Nat), 8 - i + 1 ≤ n76 → (i ≤ 8) → ∀ (H : Heap) (locs : List Loc) (ls : Array Slot), va_P D vwCl [(o, .inr (1, [.ref (q 0), .ref (q 1), .ref (q 2), .ref (q 3), .ref (q 4)])), ((q 0), .inl (cI, 80, .inl (fun z9 => nI ((va_up C.1 n (min 1000 (1 + (if 7 ≤ k ∧ k ≤ 9 then 2 else 1) * (C.1 a + C.1 b)))) z9)))), ((q 1), .inl (cI, 640, .inl (fun z9 => nI ((kf_up C.2.1 n (fun i => min 1000 ((if 7 ≤ k ∧ k ≤ 9 then 2 else 1) * (C.2.1 (a * 8 + i) + C.2.1 (b * 8 + i)) + (if i = d then 1 else 0))) i) z9)))), ((q 2), .inl (cI, 64, .inl (fun z9 => nI (C.2.2.1 z9)))), ((q 3), .inl (cI, 8, .inl (fun z9 => nI (C.2.2.2.1 z9)))), ((q 4), .inl (cI, 8, .inl (fun z9 => nI (C.2.2.2.2 z9))))] H → va_D A [(o, .inr (1, [.ref (q 0), .ref (q 1), .ref (q 2), .ref (q 3), .ref (q 4)])), ((q 0), .inl (cI, 80, .inl (fun z9 => nI ((va_up C.1 n (min 1000 (1 + (if 7 ≤ k ∧ k ≤ 9 then 2 else 1) * (C.1 a + C.1 b)))) z9)))), ((q 1), .inl (cI, 640, .inl (fun z9 => nI ((kf_up C.2.1 n (fun i => min 1000 ((if 7 ≤ k ∧ k ≤ 9 then 2 else 1) * (C.2.1 (a * 8 + i) + C.2.1 (b * 8 + i)) + (if i = d then 1 else 0))) i) z9)))), ((q 2), .inl (cI, 64, .inl (fun z9 => nI (C.2.2.1 z9)))), ((q 3), .inl (cI, 8, .inl (fun z9 => nI (C.2.2.2.1 z9)))), ((q 4), .inl (cI, 8, .inl (fun z9 => nI (C.2.2.2.2 z9))))] → va_S A s.heap H locs → lv_has ls 13 [(10, .int (nI i)), (9, .int (nI ((C.1 a) + (C.1 b)))), (8, .int (gb (k = 2 ∨ k = 3 ∨ k = 4 ∨ k = 8 ∨ k = 9 ∨ k = 11))), (7, .int (gb (2 ≤ k))), (6, .int (nI (if 7 ≤ k ∧ k ≤ 9 then 2 else 1))), (0, .ref o), (1, .int (nI n)), (2, .int (nI k)), (3, .int (nI a)), (4, .int (nI b)), (5, .int (nI d))] → W p l ev9 (headSpec w_K_addExpression ({ frames := 2, cells := 0, slots := 0, locals := 51 })).room s m ([.ref o, .int (nI n), .int (nI k), .int (nI a), .int (nI b), .int (nI d)] : List Value).toArray below meth c H locs 0 0 (MQ below (gq_V D A (fun w => w = wK cI o q (cs_exp C n (if 7 ≤ k ∧ k ≤ 9 then 2 else 1) (C.1 a + C.1 b) (fun i => (C.2.1 (a * 8 + i) + C.2.1 (b * 8 + i))) (fun i => (if i = d then 1 else 0))))) ([.ref o, .int (nI n), .int (nI k), .int (nI a), .int (nI b), .int (nI d)] : List Value).toArray s (0) (0) A) (F0 m 76 ls []) := by
        intro n76
        induction n76 with
        | zero =>
          intro i hm76
          exact absurd hm76 (by omega)
        | succ n76 ih76 =>
          intro i hm76 hi H locs ls hP hD hS hl
          refine lv_iload hx hb dK_addExpression_76 (lv_at hl 0 rfl) ?_
          refine lv_bipush (v := 8) hx hb dK_addExpression_78 (by decide) ?_
          refine lv_icmp_ge (tgt := 181) hx hb dK_addExpression_80 (by decide) (fun c80 => ?_) (fun c80 => ?_)
          · have g80 : 8 ≤ i := (gx_le (rfl : (8 : Int32) = nI 8) (rfl : (nI i) = (nI i)) (by decide) (by omega)).mp c80
            have zi : i = 8 := by omega
            subst zi
            have hP : va_P D vwCl (wK cI o q (cs_exp C n (if 7 ≤ k ∧ k ≤ 9 then 2 else 1) (C.1 a + C.1 b) (fun i => (C.2.1 (a * 8 + i) + C.2.1 (b * 8 + i))) (fun i => (if i = d then 1 else 0)))) _ := hP
            have hD : va_D A (wK cI o q (cs_exp C n (if 7 ≤ k ∧ k ≤ 9 then 2 else 1) (C.1 a + C.1 b) (fun i => (C.2.1 (a * 8 + i) + C.2.1 (b * 8 + i))) (fun i => (if i = d then 1 else 0)))) := hD
            exact W.vret hx hb hr (fun t9 ht9 hW => ⟨⟨_, rfl, rfl, by rw [ht9]; exact hP, hD⟩, hS.F ht9⟩) hS.2.2 dK_addExpression_181
          · have g80 : ¬ (8 ≤ i) := fun z => c80 ((gx_le (rfl : (8 : Int32) = nI 8) (rfl : (nI i) = (nI i)) (by decide) (by omega)).mpr z)
            have hna := hnm (a * 8 + i)
            have hnb := hnm (b * 8 + i)
            refine lv_iload hx hb dK_addExpression_83 (lv_at hl 3 rfl) ?_
            refine lv_if_eq (tgt := 103) hx hb dK_addExpression_85 (by decide) (fun c85 => ?_) (fun c85 => ?_)
            · exact absurd (gb_1.mp c85) (fun z => z (by omega))
            · refine lv_aload_n hx hb dK_addExpression_88 rfl (lv_at hl 5 rfl) ?_
              refine va_get (D := D) (ci := 1) (v := .ref (q 1)) (C := R_K) (T := F_K) (N := 5) hx hb ht i_K hown hK hP 0 rfl rfl 1 (by decide) (ht _ m_114) (fun _ h9 => h9) rfl dK_addExpression_89 ?_
              refine lv_iload_n hx hb dK_addExpression_92 rfl (lv_at hl 8 rfl) ?_
              refine lv_bipush (v := 8) hx hb dK_addExpression_93 (by decide) ?_
              refine lv_imul hx hb dK_addExpression_95 ?_
              refine lv_topi (fun v95 e95 => ?_)
              have n95 : v95 = nI (a * 8) := by rw [e95]; exact gx_mul (rfl : (nI a) = (nI a)) (rfl : (8 : Int32) = nI 8)
              subst n95
              refine lv_iload hx hb dK_addExpression_96 (lv_at hl 0 rfl) ?_
              refine lv_iadd hx hb dK_addExpression_98 ?_
              refine lv_topi (fun v98 e98 => ?_)
              have n98 : v98 = nI ((a * 8) + i) := by rw [e98]; exact gx_add (rfl : (nI (a * 8)) = (nI (a * 8))) (rfl : (nI i) = (nI i))
              subst n98
              have i99 : vp_in (nI ((a * 8) + i)) 640 := gx_in (rfl : (nI ((a * 8) + i)) = (nI ((a * 8) + i))) (by omega) (by decide)
              have k99 : ((nI ((a * 8) + i)) : Int32).toNatClampNeg = ((a * 8) + i) := gx_cl (rfl : (nI ((a * 8) + i)) = (nI ((a * 8) + i))) (by omega)
              refine va_iald hx hb hK hP 2 0 rfl rfl i99 dK_addExpression_99 ?_
              rw [k99]
              refine lv_topi (fun v99 e99 => ?_)
              have n99 : v99 = nI ((kf_up C.2.1 n (fun i => min 1000 ((if 7 ≤ k ∧ k ≤ 9 then 2 else 1) * (C.2.1 (a * 8 + i) + C.2.1 (b * 8 + i)) + (if i = d then 1 else 0))) i) ((a * 8) + i)) := e99
              subst n99
              rw [kf_up_r _ _ _ _ _ _ ha (by omega)]
              refine lv_goto (tgt := 104) hx hb dK_addExpression_100 (by decide) ?_
              refine lv_iload hx hb dK_addExpression_104 (lv_at hl 2 rfl) ?_
              refine lv_if_eq (tgt := 125) hx hb dK_addExpression_106 (by decide) (fun c106 => ?_) (fun c106 => ?_)
              · exact absurd (gb_1.mp c106) (fun z => z (by omega))
              · refine lv_aload_n hx hb dK_addExpression_109 rfl (lv_at hl 5 rfl) ?_
                refine va_get (D := D) (ci := 1) (v := .ref (q 1)) (C := R_K) (T := F_K) (N := 5) hx hb ht i_K hown hK hP 0 rfl rfl 1 (by decide) (ht _ m_114) (fun _ h9 => h9) rfl dK_addExpression_110 ?_
                refine lv_iload hx hb dK_addExpression_113 (lv_at hl 9 rfl) ?_
                refine lv_bipush (v := 8) hx hb dK_addExpression_115 (by decide) ?_
                refine lv_imul hx hb dK_addExpression_117 ?_
                refine lv_topi (fun v117 e117 => ?_)
                have n117 : v117 = nI (b * 8) := by rw [e117]; exact gx_mul (rfl : (nI b) = (nI b)) (rfl : (8 : Int32) = nI 8)
                subst n117
                refine lv_iload hx hb dK_addExpression_118 (lv_at hl 0 rfl) ?_
                refine lv_iadd hx hb dK_addExpression_120 ?_
                refine lv_topi (fun v120 e120 => ?_)
                have n120 : v120 = nI ((b * 8) + i) := by rw [e120]; exact gx_add (rfl : (nI (b * 8)) = (nI (b * 8))) (rfl : (nI i) = (nI i))
                subst n120
                have i121 : vp_in (nI ((b * 8) + i)) 640 := gx_in (rfl : (nI ((b * 8) + i)) = (nI ((b * 8) + i))) (by omega) (by decide)
                have k121 : ((nI ((b * 8) + i)) : Int32).toNatClampNeg = ((b * 8) + i) := gx_cl (rfl : (nI ((b * 8) + i)) = (nI ((b * 8) + i))) (by omega)
                refine va_iald hx hb hK hP 2 0 rfl rfl i121 dK_addExpression_121 ?_
                rw [k121]
                refine lv_topi (fun v121 e121 => ?_)
                have n121 : v121 = nI ((kf_up C.2.1 n (fun i => min 1000 ((if 7 ≤ k ∧ k ≤ 9 then 2 else 1) * (C.2.1 (a * 8 + i) + C.2.1 (b * 8 + i)) + (if i = d then 1 else 0))) i) ((b * 8) + i)) := e121
                subst n121
                rw [kf_up_r _ _ _ _ _ _ hb8 (by omega)]
                refine lv_goto (tgt := 126) hx hb dK_addExpression_122 (by decide) ?_
                refine lv_iadd hx hb dK_addExpression_126 ?_
                refine lv_topi (fun v126 e126 => ?_)
                have n126 : v126 = nI ((C.2.1 (a * 8 + i)) + (C.2.1 (b * 8 + i))) := by rw [e126]; exact gx_add (rfl : (nI (C.2.1 (a * 8 + i))) = (nI (C.2.1 (a * 8 + i)))) (rfl : (nI (C.2.1 (b * 8 + i))) = (nI (C.2.1 (b * 8 + i))))
                subst n126
                refine lv_istore (lv' := [(11, .int (nI ((C.2.1 (a * 8 + i)) + (C.2.1 (b * 8 + i))))), (10, .int (nI i)), (9, .int (nI ((C.1 a) + (C.1 b)))), (8, .int (gb (k = 2 ∨ k = 3 ∨ k = 4 ∨ k = 8 ∨ k = 9 ∨ k = 11))), (7, .int (gb (2 ≤ k))), (6, .int (nI (if 7 ≤ k ∧ k ≤ 9 then 2 else 1))), (0, .ref o), (1, .int (nI n)), (2, .int (nI k)), (3, .int (nI a)), (4, .int (nI b)), (5, .int (nI d))]) hx hb dK_addExpression_127 hl (by decide) rfl (fun ls hl => ?_)
                refine lv_iload_n hx hb dK_addExpression_129 rfl (lv_at hl 8 rfl) ?_
                refine lv_bipush (v := 11) hx hb dK_addExpression_130 (by decide) ?_
                refine lv_icmp_ne (tgt := 146) hx hb dK_addExpression_132 (by decide) (fun c132 => ?_) (fun c132 => ?_)
                · have g132 : ¬ (k = 11) := fun z => c132 ((gx_eq (rfl : (nI k) = (nI k)) (rfl : (11 : Int32) = nI 11) (by omega) (by decide)).mpr z)
                  exfalso; omega
                · have g132 : k = 11 := (gx_eq (rfl : (nI k) = (nI k)) (rfl : (11 : Int32) = nI 11) (by omega) (by decide)).mp c132
                  refine lv_iload hx hb dK_addExpression_135 (lv_at hl 1 rfl) ?_
                  refine lv_iload hx hb dK_addExpression_137 (lv_at hl 11 rfl) ?_
                  refine lv_icmp_ne (tgt := 146) hx hb dK_addExpression_139 (by decide) (fun c139 => ?_) (fun c139 => ?_)
                  · have g139 : ¬ (i = d) := fun z => c139 ((gx_eq (rfl : (nI i) = (nI i)) (rfl : (nI d) = (nI d)) (by omega) (by omega)).mpr z)
                    refine lv_iconst (v := 0) hx hb dK_addExpression_146 (by decide) ?_
                    refine lv_istore (lv' := [(12, .int 0), (11, .int (nI ((C.2.1 (a * 8 + i)) + (C.2.1 (b * 8 + i))))), (10, .int (nI i)), (9, .int (nI ((C.1 a) + (C.1 b)))), (8, .int (gb (k = 2 ∨ k = 3 ∨ k = 4 ∨ k = 8 ∨ k = 9 ∨ k = 11))), (7, .int (gb (2 ≤ k))), (6, .int (nI (if 7 ≤ k ∧ k ≤ 9 then 2 else 1))), (0, .ref o), (1, .int (nI n)), (2, .int (nI k)), (3, .int (nI a)), (4, .int (nI b)), (5, .int (nI d))]) hx hb dK_addExpression_147 hl (by decide) rfl (fun ls hl => ?_)
                    refine lv_aload_n hx hb dK_addExpression_149 rfl (lv_at hl 7 rfl) ?_
                    refine va_get (D := D) (ci := 1) (v := .ref (q 1)) (C := R_K) (T := F_K) (N := 5) hx hb ht i_K hown hK hP 0 rfl rfl 1 (by decide) (ht _ m_114) (fun _ h9 => h9) rfl dK_addExpression_150 ?_
                    refine lv_iload_n hx hb dK_addExpression_153 rfl (lv_at hl 8 rfl) ?_
                    refine lv_bipush (v := 8) hx hb dK_addExpression_154 (by decide) ?_
                    refine lv_imul hx hb dK_addExpression_156 ?_
                    refine lv_topi (fun v156 e156 => ?_)
                    have n156 : v156 = nI (n * 8) := by rw [e156]; exact gx_mul (rfl : (nI n) = (nI n)) (rfl : (8 : Int32) = nI 8)
                    subst n156
                    refine lv_iload hx hb dK_addExpression_157 (lv_at hl 2 rfl) ?_
                    refine lv_iadd hx hb dK_addExpression_159 ?_
                    refine lv_topi (fun v159 e159 => ?_)
                    have n159 : v159 = nI ((n * 8) + i) := by rw [e159]; exact gx_add (rfl : (nI (n * 8)) = (nI (n * 8))) (rfl : (nI i) = (nI i))
                    subst n159
                    refine lv_sipush (v := 1000) hx hb dK_addExpression_160 (by decide) ?_
                    refine lv_iload hx hb dK_addExpression_163 (lv_at hl 6 rfl) ?_
                    refine lv_iload hx hb dK_addExpression_165 (lv_at hl 1 rfl) ?_
                    refine lv_imul hx hb dK_addExpression_167 ?_
                    refine lv_topi (fun v167 e167 => ?_)
                    have n167 : v167 = nI ((if 7 ≤ k ∧ k ≤ 9 then 2 else 1) * ((C.2.1 (a * 8 + i)) + (C.2.1 (b * 8 + i)))) := by rw [e167]; exact gx_mul (rfl : (nI (if 7 ≤ k ∧ k ≤ 9 then 2 else 1)) = (nI (if 7 ≤ k ∧ k ≤ 9 then 2 else 1))) (rfl : (nI ((C.2.1 (a * 8 + i)) + (C.2.1 (b * 8 + i)))) = (nI ((C.2.1 (a * 8 + i)) + (C.2.1 (b * 8 + i)))))
                    subst n167
                    refine lv_iload hx hb dK_addExpression_168 (lv_at hl 0 rfl) ?_
                    refine lv_iadd hx hb dK_addExpression_170 ?_
                    refine lv_topi (fun v170 e170 => ?_)
                    have n170 : v170 = nI (((if 7 ≤ k ∧ k ≤ 9 then 2 else 1) * ((C.2.1 (a * 8 + i)) + (C.2.1 (b * 8 + i)))) + 0) := by rw [e170]; exact gx_add (rfl : (nI ((if 7 ≤ k ∧ k ≤ 9 then 2 else 1) * ((C.2.1 (a * 8 + i)) + (C.2.1 (b * 8 + i))))) = (nI ((if 7 ≤ k ∧ k ≤ 9 then 2 else 1) * ((C.2.1 (a * 8 + i)) + (C.2.1 (b * 8 + i)))))) (rfl : (0 : Int32) = nI 0)
                    subst n170
                    have hm9 : (if 7 ≤ k ∧ k ≤ 9 then 2 else 1) * (C.2.1 (a * 8 + i) + C.2.1 (b * 8 + i)) ≤ 3 * (C.2.1 (a * 8 + i) + C.2.1 (b * 8 + i)) := Nat.mul_le_mul_right _ hf9
                    refine va_mmin hx hb (by rw [hml]; exact hl.1.symm) hown (ht _ m_202) (ht _ m_203) (ht _ m_7) (ht _ mh_min) (Nat.le_of_ble_eq_true rfl) (Nat.le_of_ble_eq_true rfl) (Nat.zero_le _) (Nat.zero_le _) dK_addExpression_171 ?_
                    refine lv_topi (fun v171 e171 => ?_)
                    have n171 : v171 = nI (min 1000 (((if 7 ≤ k ∧ k ≤ 9 then 2 else 1) * ((C.2.1 (a * 8 + i)) + (C.2.1 (b * 8 + i)))) + 0)) := by rw [e171]; exact gx_min (rfl : (1000 : Int32) = nI 1000) (rfl : (nI (((if 7 ≤ k ∧ k ≤ 9 then 2 else 1) * ((C.2.1 (a * 8 + i)) + (C.2.1 (b * 8 + i)))) + 0)) = (nI (((if 7 ≤ k ∧ k ≤ 9 then 2 else 1) * ((C.2.1 (a * 8 + i)) + (C.2.1 (b * 8 + i)))) + 0))) (by decide) (by omega)
                    subst n171
                    have i174 : vp_in (nI ((n * 8) + i)) 640 := gx_in (rfl : (nI ((n * 8) + i)) = (nI ((n * 8) + i))) (by omega) (by decide)
                    have k174 : ((nI ((n * 8) + i)) : Int32).toNatClampNeg = ((n * 8) + i) := gx_cl (rfl : (nI ((n * 8) + i)) = (nI ((n * 8) + i))) (by omega)
                    refine va_iast hx hb hK hP hD hS 2 0 rfl rfl i174 dK_addExpression_174 (fun H locs hP hD hS => ?_)
                    rw [k174] at hP hD
                    have hP : va_P D vwCl [(o, .inr (1, [.ref (q 0), .ref (q 1), .ref (q 2), .ref (q 3), .ref (q 4)])), ((q 0), .inl (cI, 80, .inl (fun z9 => nI ((va_up C.1 n (min 1000 (1 + (if 7 ≤ k ∧ k ≤ 9 then 2 else 1) * (C.1 a + C.1 b)))) z9)))), ((q 1), .inl (cI, 640, .inl (upd (fun z9 => nI ((kf_up C.2.1 n (fun i => min 1000 ((if 7 ≤ k ∧ k ≤ 9 then 2 else 1) * (C.2.1 (a * 8 + i) + C.2.1 (b * 8 + i)) + (if i = d then 1 else 0))) i) z9)) ((n * 8) + i) (nI (min 1000 (((if 7 ≤ k ∧ k ≤ 9 then 2 else 1) * ((C.2.1 (a * 8 + i)) + (C.2.1 (b * 8 + i)))) + 0)))))), ((q 2), .inl (cI, 64, .inl (fun z9 => nI (C.2.2.1 z9)))), ((q 3), .inl (cI, 8, .inl (fun z9 => nI (C.2.2.2.1 z9)))), ((q 4), .inl (cI, 8, .inl (fun z9 => nI (C.2.2.2.2 z9))))] H := hP
                    have hD : va_D A [(o, .inr (1, [.ref (q 0), .ref (q 1), .ref (q 2), .ref (q 3), .ref (q 4)])), ((q 0), .inl (cI, 80, .inl (fun z9 => nI ((va_up C.1 n (min 1000 (1 + (if 7 ≤ k ∧ k ≤ 9 then 2 else 1) * (C.1 a + C.1 b)))) z9)))), ((q 1), .inl (cI, 640, .inl (upd (fun z9 => nI ((kf_up C.2.1 n (fun i => min 1000 ((if 7 ≤ k ∧ k ≤ 9 then 2 else 1) * (C.2.1 (a * 8 + i) + C.2.1 (b * 8 + i)) + (if i = d then 1 else 0))) i) z9)) ((n * 8) + i) (nI (min 1000 (((if 7 ≤ k ∧ k ≤ 9 then 2 else 1) * ((C.2.1 (a * 8 + i)) + (C.2.1 (b * 8 + i)))) + 0)))))), ((q 2), .inl (cI, 64, .inl (fun z9 => nI (C.2.2.1 z9)))), ((q 3), .inl (cI, 8, .inl (fun z9 => nI (C.2.2.2.1 z9)))), ((q 4), .inl (cI, 8, .inl (fun z9 => nI (C.2.2.2.2 z9))))] := hD
                    rw [gx_upd] at hP hD
                    have hz : min 1000 ((if 7 ≤ k ∧ k ≤ 9 then 2 else 1) * (C.2.1 (a * 8 + i) + C.2.1 (b * 8 + i)) + 0) = (fun i => min 1000 ((if 7 ≤ k ∧ k ≤ 9 then 2 else 1) * (C.2.1 (a * 8 + i) + C.2.1 (b * 8 + i)) + (if i = d then 1 else 0))) i := by show _ = min 1000 ((if 7 ≤ k ∧ k ≤ 9 then 2 else 1) * (C.2.1 (a * 8 + i) + C.2.1 (b * 8 + i)) + (if i = d then 1 else 0)); rw [if_neg g139]
                    rw [hz, kf_up_s] at hP hD
                    have hP : va_P D vwCl [(o, .inr (1, [.ref (q 0), .ref (q 1), .ref (q 2), .ref (q 3), .ref (q 4)])), ((q 0), .inl (cI, 80, .inl (fun z9 => nI ((va_up C.1 n (min 1000 (1 + (if 7 ≤ k ∧ k ≤ 9 then 2 else 1) * (C.1 a + C.1 b)))) z9)))), ((q 1), .inl (cI, 640, .inl (fun z9 => nI ((kf_up C.2.1 n (fun i => min 1000 ((if 7 ≤ k ∧ k ≤ 9 then 2 else 1) * (C.2.1 (a * 8 + i) + C.2.1 (b * 8 + i)) + (if i = d then 1 else 0))) (i + 1)) z9)))), ((q 2), .inl (cI, 64, .inl (fun z9 => nI (C.2.2.1 z9)))), ((q 3), .inl (cI, 8, .inl (fun z9 => nI (C.2.2.2.1 z9)))), ((q 4), .inl (cI, 8, .inl (fun z9 => nI (C.2.2.2.2 z9))))] H := hP
                    have hD : va_D A [(o, .inr (1, [.ref (q 0), .ref (q 1), .ref (q 2), .ref (q 3), .ref (q 4)])), ((q 0), .inl (cI, 80, .inl (fun z9 => nI ((va_up C.1 n (min 1000 (1 + (if 7 ≤ k ∧ k ≤ 9 then 2 else 1) * (C.1 a + C.1 b)))) z9)))), ((q 1), .inl (cI, 640, .inl (fun z9 => nI ((kf_up C.2.1 n (fun i => min 1000 ((if 7 ≤ k ∧ k ≤ 9 then 2 else 1) * (C.2.1 (a * 8 + i) + C.2.1 (b * 8 + i)) + (if i = d then 1 else 0))) (i + 1)) z9)))), ((q 2), .inl (cI, 64, .inl (fun z9 => nI (C.2.2.1 z9)))), ((q 3), .inl (cI, 8, .inl (fun z9 => nI (C.2.2.2.1 z9)))), ((q 4), .inl (cI, 8, .inl (fun z9 => nI (C.2.2.2.2 z9))))] := hD
                    refine lv_iinc (v := (nI (i + 1))) (lv' := [(10, .int (nI (i + 1))), (12, .int 0), (11, .int (nI ((C.2.1 (a * 8 + i)) + (C.2.1 (b * 8 + i))))), (9, .int (nI ((C.1 a) + (C.1 b)))), (8, .int (gb (k = 2 ∨ k = 3 ∨ k = 4 ∨ k = 8 ∨ k = 9 ∨ k = 11))), (7, .int (gb (2 ≤ k))), (6, .int (nI (if 7 ≤ k ∧ k ≤ 9 then 2 else 1))), (0, .ref o), (1, .int (nI n)), (2, .int (nI k)), (3, .int (nI a)), (4, .int (nI b)), (5, .int (nI d))]) hx hb dK_addExpression_175 hl (k := 2) rfl (gx_inc (rfl : (nI i) = (nI i))) (by decide) rfl (fun ls hl => ?_)
                    refine lv_goto (tgt := 76) hx hb dK_addExpression_178 (by decide) ?_
                    exact ih76 (i + 1) (by omega) (by omega) _ _ _ hP hD hS (lv_sub hl [0, 3, 4, 5, 6, 7, 8, 9, 10, 11, 12] rfl)
                  · have g139 : i = d := (gx_eq (rfl : (nI i) = (nI i)) (rfl : (nI d) = (nI d)) (by omega) (by omega)).mp c139
                    refine lv_iconst (v := 1) hx hb dK_addExpression_142 (by decide) ?_
                    refine lv_goto (tgt := 147) hx hb dK_addExpression_143 (by decide) ?_
                    refine lv_istore (lv' := [(12, .int 1), (11, .int (nI ((C.2.1 (a * 8 + i)) + (C.2.1 (b * 8 + i))))), (10, .int (nI i)), (9, .int (nI ((C.1 a) + (C.1 b)))), (8, .int (gb (k = 2 ∨ k = 3 ∨ k = 4 ∨ k = 8 ∨ k = 9 ∨ k = 11))), (7, .int (gb (2 ≤ k))), (6, .int (nI (if 7 ≤ k ∧ k ≤ 9 then 2 else 1))), (0, .ref o), (1, .int (nI n)), (2, .int (nI k)), (3, .int (nI a)), (4, .int (nI b)), (5, .int (nI d))]) hx hb dK_addExpression_147 hl (by decide) rfl (fun ls hl => ?_)
                    refine lv_aload_n hx hb dK_addExpression_149 rfl (lv_at hl 7 rfl) ?_
                    refine va_get (D := D) (ci := 1) (v := .ref (q 1)) (C := R_K) (T := F_K) (N := 5) hx hb ht i_K hown hK hP 0 rfl rfl 1 (by decide) (ht _ m_114) (fun _ h9 => h9) rfl dK_addExpression_150 ?_
                    refine lv_iload_n hx hb dK_addExpression_153 rfl (lv_at hl 8 rfl) ?_
                    refine lv_bipush (v := 8) hx hb dK_addExpression_154 (by decide) ?_
                    refine lv_imul hx hb dK_addExpression_156 ?_
                    refine lv_topi (fun v156 e156 => ?_)
                    have n156 : v156 = nI (n * 8) := by rw [e156]; exact gx_mul (rfl : (nI n) = (nI n)) (rfl : (8 : Int32) = nI 8)
                    subst n156
                    refine lv_iload hx hb dK_addExpression_157 (lv_at hl 2 rfl) ?_
                    refine lv_iadd hx hb dK_addExpression_159 ?_
                    refine lv_topi (fun v159 e159 => ?_)
                    have n159 : v159 = nI ((n * 8) + i) := by rw [e159]; exact gx_add (rfl : (nI (n * 8)) = (nI (n * 8))) (rfl : (nI i) = (nI i))
                    subst n159
                    refine lv_sipush (v := 1000) hx hb dK_addExpression_160 (by decide) ?_
                    refine lv_iload hx hb dK_addExpression_163 (lv_at hl 6 rfl) ?_
                    refine lv_iload hx hb dK_addExpression_165 (lv_at hl 1 rfl) ?_
                    refine lv_imul hx hb dK_addExpression_167 ?_
                    refine lv_topi (fun v167 e167 => ?_)
                    have n167 : v167 = nI ((if 7 ≤ k ∧ k ≤ 9 then 2 else 1) * ((C.2.1 (a * 8 + i)) + (C.2.1 (b * 8 + i)))) := by rw [e167]; exact gx_mul (rfl : (nI (if 7 ≤ k ∧ k ≤ 9 then 2 else 1)) = (nI (if 7 ≤ k ∧ k ≤ 9 then 2 else 1))) (rfl : (nI ((C.2.1 (a * 8 + i)) + (C.2.1 (b * 8 + i)))) = (nI ((C.2.1 (a * 8 + i)) + (C.2.1 (b * 8 + i)))))
                    subst n167
                    refine lv_iload hx hb dK_addExpression_168 (lv_at hl 0 rfl) ?_
                    refine lv_iadd hx hb dK_addExpression_170 ?_
                    refine lv_topi (fun v170 e170 => ?_)
                    have n170 : v170 = nI (((if 7 ≤ k ∧ k ≤ 9 then 2 else 1) * ((C.2.1 (a * 8 + i)) + (C.2.1 (b * 8 + i)))) + 1) := by rw [e170]; exact gx_add (rfl : (nI ((if 7 ≤ k ∧ k ≤ 9 then 2 else 1) * ((C.2.1 (a * 8 + i)) + (C.2.1 (b * 8 + i))))) = (nI ((if 7 ≤ k ∧ k ≤ 9 then 2 else 1) * ((C.2.1 (a * 8 + i)) + (C.2.1 (b * 8 + i)))))) (rfl : (1 : Int32) = nI 1)
                    subst n170
                    have hm9 : (if 7 ≤ k ∧ k ≤ 9 then 2 else 1) * (C.2.1 (a * 8 + i) + C.2.1 (b * 8 + i)) ≤ 3 * (C.2.1 (a * 8 + i) + C.2.1 (b * 8 + i)) := Nat.mul_le_mul_right _ hf9
                    refine va_mmin hx hb (by rw [hml]; exact hl.1.symm) hown (ht _ m_202) (ht _ m_203) (ht _ m_7) (ht _ mh_min) (Nat.le_of_ble_eq_true rfl) (Nat.le_of_ble_eq_true rfl) (Nat.zero_le _) (Nat.zero_le _) dK_addExpression_171 ?_
                    refine lv_topi (fun v171 e171 => ?_)
                    have n171 : v171 = nI (min 1000 (((if 7 ≤ k ∧ k ≤ 9 then 2 else 1) * ((C.2.1 (a * 8 + i)) + (C.2.1 (b * 8 + i)))) + 1)) := by rw [e171]; exact gx_min (rfl : (1000 : Int32) = nI 1000) (rfl : (nI (((if 7 ≤ k ∧ k ≤ 9 then 2 else 1) * ((C.2.1 (a * 8 + i)) + (C.2.1 (b * 8 + i)))) + 1)) = (nI (((if 7 ≤ k ∧ k ≤ 9 then 2 else 1) * ((C.2.1 (a * 8 + i)) + (C.2.1 (b * 8 + i)))) + 1))) (by decide) (by omega)
                    subst n171
                    have i174 : vp_in (nI ((n * 8) + i)) 640 := gx_in (rfl : (nI ((n * 8) + i)) = (nI ((n * 8) + i))) (by omega) (by decide)
                    have k174 : ((nI ((n * 8) + i)) : Int32).toNatClampNeg = ((n * 8) + i) := gx_cl (rfl : (nI ((n * 8) + i)) = (nI ((n * 8) + i))) (by omega)
                    refine va_iast hx hb hK hP hD hS 2 0 rfl rfl i174 dK_addExpression_174 (fun H locs hP hD hS => ?_)
                    rw [k174] at hP hD
                    have hP : va_P D vwCl [(o, .inr (1, [.ref (q 0), .ref (q 1), .ref (q 2), .ref (q 3), .ref (q 4)])), ((q 0), .inl (cI, 80, .inl (fun z9 => nI ((va_up C.1 n (min 1000 (1 + (if 7 ≤ k ∧ k ≤ 9 then 2 else 1) * (C.1 a + C.1 b)))) z9)))), ((q 1), .inl (cI, 640, .inl (upd (fun z9 => nI ((kf_up C.2.1 n (fun i => min 1000 ((if 7 ≤ k ∧ k ≤ 9 then 2 else 1) * (C.2.1 (a * 8 + i) + C.2.1 (b * 8 + i)) + (if i = d then 1 else 0))) i) z9)) ((n * 8) + i) (nI (min 1000 (((if 7 ≤ k ∧ k ≤ 9 then 2 else 1) * ((C.2.1 (a * 8 + i)) + (C.2.1 (b * 8 + i)))) + 1)))))), ((q 2), .inl (cI, 64, .inl (fun z9 => nI (C.2.2.1 z9)))), ((q 3), .inl (cI, 8, .inl (fun z9 => nI (C.2.2.2.1 z9)))), ((q 4), .inl (cI, 8, .inl (fun z9 => nI (C.2.2.2.2 z9))))] H := hP
                    have hD : va_D A [(o, .inr (1, [.ref (q 0), .ref (q 1), .ref (q 2), .ref (q 3), .ref (q 4)])), ((q 0), .inl (cI, 80, .inl (fun z9 => nI ((va_up C.1 n (min 1000 (1 + (if 7 ≤ k ∧ k ≤ 9 then 2 else 1) * (C.1 a + C.1 b)))) z9)))), ((q 1), .inl (cI, 640, .inl (upd (fun z9 => nI ((kf_up C.2.1 n (fun i => min 1000 ((if 7 ≤ k ∧ k ≤ 9 then 2 else 1) * (C.2.1 (a * 8 + i) + C.2.1 (b * 8 + i)) + (if i = d then 1 else 0))) i) z9)) ((n * 8) + i) (nI (min 1000 (((if 7 ≤ k ∧ k ≤ 9 then 2 else 1) * ((C.2.1 (a * 8 + i)) + (C.2.1 (b * 8 + i)))) + 1)))))), ((q 2), .inl (cI, 64, .inl (fun z9 => nI (C.2.2.1 z9)))), ((q 3), .inl (cI, 8, .inl (fun z9 => nI (C.2.2.2.1 z9)))), ((q 4), .inl (cI, 8, .inl (fun z9 => nI (C.2.2.2.2 z9))))] := hD
                    rw [gx_upd] at hP hD
                    have hz : min 1000 ((if 7 ≤ k ∧ k ≤ 9 then 2 else 1) * (C.2.1 (a * 8 + i) + C.2.1 (b * 8 + i)) + 1) = (fun i => min 1000 ((if 7 ≤ k ∧ k ≤ 9 then 2 else 1) * (C.2.1 (a * 8 + i) + C.2.1 (b * 8 + i)) + (if i = d then 1 else 0))) i := by show _ = min 1000 ((if 7 ≤ k ∧ k ≤ 9 then 2 else 1) * (C.2.1 (a * 8 + i) + C.2.1 (b * 8 + i)) + (if i = d then 1 else 0)); rw [if_pos g139]
                    rw [hz, kf_up_s] at hP hD
                    have hP : va_P D vwCl [(o, .inr (1, [.ref (q 0), .ref (q 1), .ref (q 2), .ref (q 3), .ref (q 4)])), ((q 0), .inl (cI, 80, .inl (fun z9 => nI ((va_up C.1 n (min 1000 (1 + (if 7 ≤ k ∧ k ≤ 9 then 2 else 1) * (C.1 a + C.1 b)))) z9)))), ((q 1), .inl (cI, 640, .inl (fun z9 => nI ((kf_up C.2.1 n (fun i => min 1000 ((if 7 ≤ k ∧ k ≤ 9 then 2 else 1) * (C.2.1 (a * 8 + i) + C.2.1 (b * 8 + i)) + (if i = d then 1 else 0))) (i + 1)) z9)))), ((q 2), .inl (cI, 64, .inl (fun z9 => nI (C.2.2.1 z9)))), ((q 3), .inl (cI, 8, .inl (fun z9 => nI (C.2.2.2.1 z9)))), ((q 4), .inl (cI, 8, .inl (fun z9 => nI (C.2.2.2.2 z9))))] H := hP
                    have hD : va_D A [(o, .inr (1, [.ref (q 0), .ref (q 1), .ref (q 2), .ref (q 3), .ref (q 4)])), ((q 0), .inl (cI, 80, .inl (fun z9 => nI ((va_up C.1 n (min 1000 (1 + (if 7 ≤ k ∧ k ≤ 9 then 2 else 1) * (C.1 a + C.1 b)))) z9)))), ((q 1), .inl (cI, 640, .inl (fun z9 => nI ((kf_up C.2.1 n (fun i => min 1000 ((if 7 ≤ k ∧ k ≤ 9 then 2 else 1) * (C.2.1 (a * 8 + i) + C.2.1 (b * 8 + i)) + (if i = d then 1 else 0))) (i + 1)) z9)))), ((q 2), .inl (cI, 64, .inl (fun z9 => nI (C.2.2.1 z9)))), ((q 3), .inl (cI, 8, .inl (fun z9 => nI (C.2.2.2.1 z9)))), ((q 4), .inl (cI, 8, .inl (fun z9 => nI (C.2.2.2.2 z9))))] := hD
                    refine lv_iinc (v := (nI (i + 1))) (lv' := [(10, .int (nI (i + 1))), (12, .int 1), (11, .int (nI ((C.2.1 (a * 8 + i)) + (C.2.1 (b * 8 + i))))), (9, .int (nI ((C.1 a) + (C.1 b)))), (8, .int (gb (k = 2 ∨ k = 3 ∨ k = 4 ∨ k = 8 ∨ k = 9 ∨ k = 11))), (7, .int (gb (2 ≤ k))), (6, .int (nI (if 7 ≤ k ∧ k ≤ 9 then 2 else 1))), (0, .ref o), (1, .int (nI n)), (2, .int (nI k)), (3, .int (nI a)), (4, .int (nI b)), (5, .int (nI d))]) hx hb dK_addExpression_175 hl (k := 2) rfl (gx_inc (rfl : (nI i) = (nI i))) (by decide) rfl (fun ls hl => ?_)
                    refine lv_goto (tgt := 76) hx hb dK_addExpression_178 (by decide) ?_
                    exact ih76 (i + 1) (by omega) (by omega) _ _ _ hP hD hS (lv_sub hl [0, 3, 4, 5, 6, 7, 8, 9, 10, 11, 12] rfl)
      exact lp76 (8 - (0) + 1) 0 (by omega) (by omega) _ _ _ hP hD hS (lv_sub hl [0, 1, 2, 3, 4, 5, 6, 7, 8, 9, 10] rfl)

