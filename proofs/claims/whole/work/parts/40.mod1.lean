theorem gm_nout {F : Nat} {x : Int32} (hF : F < 2 ^ 30) : (x < 0 ∨ nI F - 1 < x) ↔ ¬ mk F x := by
  have e1 : (nI F - 1).toInt = (F : Int) - 1 := pk_sub_toInt (b := 1) hF (by decide)
  have e2 : (nI F).toInt = (F : Int) := nI_toInt (by omega)
  unfold mk
  rw [Int32.lt_iff_toInt_lt, Int32.lt_iff_toInt_lt, Int32.le_iff_toInt_le, Int32.lt_iff_toInt_lt, e1, e2]
  show (x.toInt < 0 ∨ (F : Int) - 1 < x.toInt) ↔ ¬ (0 ≤ x.toInt ∧ x.toInt < F)
  omega
theorem gm_outk {x : Int32} {k : Nat} (hk : k < 2 ^ 30) : (x < 0 ∨ nI k < x) ↔ ¬ mk (k + 1) x := by
  have := gm_nout (F := k + 1) (x := x)
  by_cases h : k + 1 < 2 ^ 30
  · rw [← this h, show nI (k + 1) - 1 = nI k from nI_pred k]
  · have e2 : (nI (k + 1)).toInt = ((k + 1 : Nat) : Int) := nI_toInt (by omega)
    have e3 : (nI k).toInt = (k : Int) := nI_toInt (by omega)
    unfold mk
    rw [Int32.lt_iff_toInt_lt, Int32.lt_iff_toInt_lt, Int32.le_iff_toInt_le, Int32.lt_iff_toInt_lt, e3, e2]
    show (x.toInt < 0 ∨ (k : Int) < x.toInt) ↔ ¬ (0 ≤ x.toInt ∧ x.toInt < ((k + 1 : Nat) : Int))
    omega
/-- openers -/
def opn (k : Nat) : Prop := k = 2 ∨ k = 4
def kat (sk sz : Nat → Nat) (f k : Nat) : Nat := if k < sz f then sk (12 * f + k) else 5
/-- the opener that a place is within: looked for below j, so many ENDs passed -/
noncomputable def wi (K : Nat → Nat) : Nat → Nat → Option Nat
  | 0, _ => none
  | j + 1, d => @ite _ (opn (K j)) (Classical.propDecidable _) (if d = 0 then some j else wi K j (d - 1)) (wi K j (if K j = 5 then d + 1 else d))
noncomputable def cls (K : Nat → Nat) (oe : Prop) : Nat → Nat → Nat → Nat
  | 0, j, _ => j
  | n + 1, j, d => @ite _ (d = 0 ∧ (K j = 5 ∨ (K j = 3 ∧ oe))) (Classical.propDecidable _) j (cls K oe n (j + 1) (@ite _ (opn (K j)) (Classical.propDecidable _) (d + 1) (if K j = 5 then d - 1 else d)))
noncomputable def lk (K : Nat → Nat) : Nat → Int32
  | 0 => 0
  | k + 1 => lk K k + (@ite _ (opn (K k)) (Classical.propDecidable _) 1 (if K k = 5 then -1 else 0))
def oN (o : Option Nat) : Int32 := match o with | none => -1 | some j => nI j
set_option maxHeartbeats 4000000 in
set_option maxRecDepth 100000 in
theorem c_M_out (l : Launch) (D : va_G) (cI cJ cB cZ : ClassId) (x y : Int32)  : ct_I l y_M_out w_M_out ({ frames := 0, cells := 0, slots := 0, locals := 0 }) D (gk_T cI cJ cB cZ) [.int x, .int y] ([] : va_W) (0) (0) (fun r w => r = gb (x < 0 ∨ y < x) ∧ w = []) := by
  intro sz
  refine Met.ofW (cc := b_M_out) (maxL := 2) (ret := (some .boolean)) (by decide) rfl ?_
  intro p ev9 s m args below meth c s₁ B9 hml hv
  obtain ⟨rfl, hsz, hP, hK, hN, hD0⟩ := hv
  have hx := B9.exec
  have hb := B9.bytes
  have hr := B9.returns
  have hts := atoms_spec (ws := w_M_out) B9.pre
  have ht : ∀ w ∈ gk_big, w.before _ s = true := fun w h => hts w (List.mem_cons_of_mem _ h)
  have hown : s.vm.findClass R_M = some m.cls := findClass_of_methodNamed B9.named
  have hlocks := B9.notSynchronized
  subst hsz
  have hD := hD0.self (sz := s.heap.size)
  generalize hAe : va_A ([] : va_W) s.heap.size = A at hD ⊢
  have hA : ∀ q : Nat, s.heap.size ≤ q → A q := fun q h => by rw [← hAe]; exact Or.inr h
  generalize hHe : s.heap = H at hP ⊢
  have hS : va_S A s.heap H [] := by rw [← hHe]; exact va_S.rf
  have hP : va_P D vwCl [] H := hP
  have hD : va_D A [] := hD
  have hl := lv_entry ([.int x, .int y]) (n := 2) (Nat.le_of_ble_eq_true rfl)
  rw [lg_entry_eq]
  generalize (lg_sl ([.int x, .int y]) ++ List.replicate (2 - (lg_sl ([.int x, .int y])).length) Slot.unset).toArray = ls at hl ⊢
  have hl : lv_has ls 2 [(0, .int x), (1, .int y)] := hl
  refine lv_iload_n hx hb dM_out_0 rfl (lv_at hl 0 rfl) ?_
  refine lv_if_lt (tgt := 9) hx hb dM_out_1 (by decide) (fun c1 => ?_) (fun c1 => ?_)
  · refine lv_iconst (v := 1) hx hb dM_out_9 (by decide) ?_
    refine lv_goto (tgt := 14) hx hb dM_out_10 (by decide) ?_
    exact W.zret (v := 1) hx hb hr (by decide) (fun t9 ht9 hW => ⟨⟨1, _, rfl, ⟨gb_t (Or.inl c1), rfl⟩, by rw [ht9]; exact hP, hD⟩, hS.F ht9⟩) hS.2.2 dM_out_14
  · refine lv_iload_n hx hb dM_out_4 rfl (lv_at hl 0 rfl) ?_
    refine lv_iload_n hx hb dM_out_5 rfl (lv_at hl 1 rfl) ?_
    refine lv_icmp_le (tgt := 13) hx hb dM_out_6 (by decide) (fun c6 => ?_) (fun c6 => ?_)
    · refine lv_iconst (v := 0) hx hb dM_out_13 (by decide) ?_
      exact W.zret (v := 0) hx hb hr (by decide) (fun t9 ht9 hW => ⟨⟨0, _, rfl, ⟨gb_f (fun z => by rcases z with z | z; exact c1 z; exact absurd z (Int32.not_lt.mpr c6)), rfl⟩, by rw [ht9]; exact hP, hD⟩, hS.F ht9⟩) hS.2.2 dM_out_14
    · refine lv_iconst (v := 1) hx hb dM_out_9 (by decide) ?_
      refine lv_goto (tgt := 14) hx hb dM_out_10 (by decide) ?_
      exact W.zret (v := 1) hx hb hr (by decide) (fun t9 ht9 hW => ⟨⟨1, _, rfl, ⟨gb_t (Or.inr (Int32.not_le.mp c6)), rfl⟩, by rw [ht9]; exact hP, hD⟩, hS.F ht9⟩) hS.2.2 dM_out_14

set_option maxHeartbeats 4000000 in
set_option maxRecDepth 100000 in
theorem c_M_noExpression (l : Launch) (D : va_G) (cI cJ cB cZ : ClassId) (mo : Nat) (mq : Nat → Nat) (n F dp : Nat) (x : Int32) (hn : n ≤ 80) : ct_I l y_M_noExpression w_M_noExpression ({ frames := 1, cells := 0, slots := 0, locals := 21 }) D (gk_T cI cJ cB cZ) [.ref mo, .int x] [(mo, .inr (6, [.ref (mq 0), .ref (mq 1), .ref (mq 2), .ref (mq 3), .int (nI n), .ref (mq 5), .ref (mq 6), .int (nI F), .ref (mq 8), .ref (mq 9), .ref (mq 10), .ref (mq 11), .ref (mq 12), .ref (mq 13), .ref (mq 14), .ref (mq 15), .ref (mq 16), .ref (mq 17), .ref (mq 18), .ref (mq 19), .ref (mq 20), .ref (mq 21), .ref (mq 22), .int (nI dp)]))] (0) (0) (fun r w => r = gb (¬ mk n x) ∧ w = [(mo, .inr (6, [.ref (mq 0), .ref (mq 1), .ref (mq 2), .ref (mq 3), .int (nI n), .ref (mq 5), .ref (mq 6), .int (nI F), .ref (mq 8), .ref (mq 9), .ref (mq 10), .ref (mq 11), .ref (mq 12), .ref (mq 13), .ref (mq 14), .ref (mq 15), .ref (mq 16), .ref (mq 17), .ref (mq 18), .ref (mq 19), .ref (mq 20), .ref (mq 21), .ref (mq 22), .int (nI dp)]))]) := by
  intro sz
  refine Met.ofW (cc := b_M_noExpression) (maxL := 2) (ret := (some .boolean)) (by decide) rfl ?_
  intro p ev9 s m args below meth c s₁ B9 hml hv
  obtain ⟨rfl, hsz, hP, hK, hN, hD0⟩ := hv
  have hx := B9.exec
  have hb := B9.bytes
  have hr := B9.returns
  have hts := atoms_spec (ws := w_M_noExpression) B9.pre
  have ht : ∀ w ∈ gk_big, w.before _ s = true := fun w h => hts w (List.mem_cons_of_mem _ h)
  have hown : s.vm.findClass R_M = some m.cls := findClass_of_methodNamed B9.named
  have hlocks := B9.notSynchronized
  subst hsz
  have hD := hD0.self (sz := s.heap.size)
  generalize hAe : va_A [(mo, .inr (6, [.ref (mq 0), .ref (mq 1), .ref (mq 2), .ref (mq 3), .int (nI n), .ref (mq 5), .ref (mq 6), .int (nI F), .ref (mq 8), .ref (mq 9), .ref (mq 10), .ref (mq 11), .ref (mq 12), .ref (mq 13), .ref (mq 14), .ref (mq 15), .ref (mq 16), .ref (mq 17), .ref (mq 18), .ref (mq 19), .ref (mq 20), .ref (mq 21), .ref (mq 22), .int (nI dp)]))] s.heap.size = A at hD ⊢
  have hA : ∀ q : Nat, s.heap.size ≤ q → A q := fun q h => by rw [← hAe]; exact Or.inr h
  generalize hHe : s.heap = H at hP ⊢
  have hS : va_S A s.heap H [] := by rw [← hHe]; exact va_S.rf
  have hP : va_P D vwCl [(mo, .inr (6, [.ref (mq 0), .ref (mq 1), .ref (mq 2), .ref (mq 3), .int (nI n), .ref (mq 5), .ref (mq 6), .int (nI F), .ref (mq 8), .ref (mq 9), .ref (mq 10), .ref (mq 11), .ref (mq 12), .ref (mq 13), .ref (mq 14), .ref (mq 15), .ref (mq 16), .ref (mq 17), .ref (mq 18), .ref (mq 19), .ref (mq 20), .ref (mq 21), .ref (mq 22), .int (nI dp)]))] H := hP
  have hD : va_D A [(mo, .inr (6, [.ref (mq 0), .ref (mq 1), .ref (mq 2), .ref (mq 3), .int (nI n), .ref (mq 5), .ref (mq 6), .int (nI F), .ref (mq 8), .ref (mq 9), .ref (mq 10), .ref (mq 11), .ref (mq 12), .ref (mq 13), .ref (mq 14), .ref (mq 15), .ref (mq 16), .ref (mq 17), .ref (mq 18), .ref (mq 19), .ref (mq 20), .ref (mq 21), .ref (mq 22), .int (nI dp)]))] := hD
  have hl := lv_entry ([.ref mo, .int x]) (n := 2) (Nat.le_of_ble_eq_true rfl)
  rw [lg_entry_eq]
  generalize (lg_sl ([.ref mo, .int x]) ++ List.replicate (2 - (lg_sl ([.ref mo, .int x])).length) Slot.unset).toArray = ls at hl ⊢
  have hl : lv_has ls 2 [(0, .ref mo), (1, .int x)] := hl
  refine lv_iload_n hx hb dM_noExpression_0 rfl (lv_at hl 1 rfl) ?_
  refine lv_aload_n hx hb dM_noExpression_1 rfl (lv_at hl 0 rfl) ?_
  refine va_get (D := D) (ci := 6) (v := .int (nI n)) (C := R_M) (T := F_M) (N := 24) hx hb ht i_M hown hK hP 0 rfl rfl 4 (by decide) (ht _ m_458) (fun _ h9 => h9) rfl dM_noExpression_2 ?_
  refine lv_iconst (v := 1) hx hb dM_noExpression_5 (by decide) ?_
  refine lv_isub hx hb dM_noExpression_6 ?_
  refine lv_topi (fun v6 e6 => ?_)
  refine gc_i (va_runS (As := [.int x, .int v6]) (rest := []) ⟨hx, hb, hml, hown, ht⟩ (c_M_out l D cI cJ cB cZ x v6 H.size) (va_cwS 2 ht (gw_S m_532 m_533 m_6 m_534) rfl rfl rfl (by decide +kernel) ⟨Nat.le_of_ble_eq_true rfl, Nat.le_of_ble_eq_true rfl⟩) (gp_S hK hN (hP.sub (ws' := ([] : va_W)) [] rfl) (hD.sub (ws' := ([] : va_W)) [] (by decide) rfl)) rfl rfl hl.1 rfl (lv_room (Nat.le_of_ble_eq_true rfl)) dM_noExpression_7 ⟨Nat.le_of_ble_eq_true rfl, Nat.le_of_ble_eq_true rfl⟩) hP hD hS hA [] rfl (by decide) (fun r w h => by obtain ⟨_, rfl⟩ := h; rfl) (fun r7 w7 H locs p7 hP hD hS => ?_)
  obtain ⟨h7x, rfl⟩ := p7
  have h7y : r7 = gb (¬ mk n x) := by rw [h7x, e6]; exact gb_e (gm_nout (by omega))
  subst h7y
  have hP : va_P D vwCl [(mo, .inr (6, [.ref (mq 0), .ref (mq 1), .ref (mq 2), .ref (mq 3), .int (nI n), .ref (mq 5), .ref (mq 6), .int (nI F), .ref (mq 8), .ref (mq 9), .ref (mq 10), .ref (mq 11), .ref (mq 12), .ref (mq 13), .ref (mq 14), .ref (mq 15), .ref (mq 16), .ref (mq 17), .ref (mq 18), .ref (mq 19), .ref (mq 20), .ref (mq 21), .ref (mq 22), .int (nI dp)]))] H := hP
  have hD : va_D A [(mo, .inr (6, [.ref (mq 0), .ref (mq 1), .ref (mq 2), .ref (mq 3), .int (nI n), .ref (mq 5), .ref (mq 6), .int (nI F), .ref (mq 8), .ref (mq 9), .ref (mq 10), .ref (mq 11), .ref (mq 12), .ref (mq 13), .ref (mq 14), .ref (mq 15), .ref (mq 16), .ref (mq 17), .ref (mq 18), .ref (mq 19), .ref (mq 20), .ref (mq 21), .ref (mq 22), .int (nI dp)]))] := hD
  exact W.zret (v := (gb (¬ mk n x))) hx hb hr (by exact gb_n) (fun t9 ht9 hW => ⟨⟨(gb (¬ mk n x)), _, rfl, ⟨rfl, rfl⟩, by rw [ht9]; exact hP, hD⟩, hS.F ht9⟩) hS.2.2 dM_noExpression_10

set_option maxHeartbeats 4000000 in
set_option maxRecDepth 100000 in
theorem c_M_noOwn (l : Launch) (D : va_G) (cI cJ cB cZ : ClassId) (mo : Nat) (mq : Nat → Nat) (n F dp : Nat) (of9 : Nat → Int32) (x : Int32) (hF : F ≤ 8) : ct_I l y_M_noOwn w_M_noOwn ({ frames := 1, cells := 0, slots := 0, locals := 21 }) D (gk_T cI cJ cB cZ) [.ref mo, .int x] [(mo, .inr (6, [.ref (mq 0), .ref (mq 1), .ref (mq 2), .ref (mq 3), .int (nI n), .ref (mq 5), .ref (mq 6), .int (nI F), .ref (mq 8), .ref (mq 9), .ref (mq 10), .ref (mq 11), .ref (mq 12), .ref (mq 13), .ref (mq 14), .ref (mq 15), .ref (mq 16), .ref (mq 17), .ref (mq 18), .ref (mq 19), .ref (mq 20), .ref (mq 21), .ref (mq 22), .int (nI dp)])), ((mq 5), .inl (cI, 8, .inl of9))] (0) (0) (fun r w => r = gb (¬ mk F x ∨ 0 ≤ of9 (cn x)) ∧ w = [(mo, .inr (6, [.ref (mq 0), .ref (mq 1), .ref (mq 2), .ref (mq 3), .int (nI n), .ref (mq 5), .ref (mq 6), .int (nI F), .ref (mq 8), .ref (mq 9), .ref (mq 10), .ref (mq 11), .ref (mq 12), .ref (mq 13), .ref (mq 14), .ref (mq 15), .ref (mq 16), .ref (mq 17), .ref (mq 18), .ref (mq 19), .ref (mq 20), .ref (mq 21), .ref (mq 22), .int (nI dp)])), ((mq 5), .inl (cI, 8, .inl of9))]) := by
  intro sz
  refine Met.ofW (cc := b_M_noOwn) (maxL := 2) (ret := (some .boolean)) (by decide) rfl ?_
  intro p ev9 s m args below meth c s₁ B9 hml hv
  obtain ⟨rfl, hsz, hP, hK, hN, hD0⟩ := hv
  have hx := B9.exec
  have hb := B9.bytes
  have hr := B9.returns
  have hts := atoms_spec (ws := w_M_noOwn) B9.pre
  have ht : ∀ w ∈ gk_big, w.before _ s = true := fun w h => hts w (List.mem_cons_of_mem _ h)
  have hown : s.vm.findClass R_M = some m.cls := findClass_of_methodNamed B9.named
  have hlocks := B9.notSynchronized
  subst hsz
  have hD := hD0.self (sz := s.heap.size)
  generalize hAe : va_A [(mo, .inr (6, [.ref (mq 0), .ref (mq 1), .ref (mq 2), .ref (mq 3), .int (nI n), .ref (mq 5), .ref (mq 6), .int (nI F), .ref (mq 8), .ref (mq 9), .ref (mq 10), .ref (mq 11), .ref (mq 12), .ref (mq 13), .ref (mq 14), .ref (mq 15), .ref (mq 16), .ref (mq 17), .ref (mq 18), .ref (mq 19), .ref (mq 20), .ref (mq 21), .ref (mq 22), .int (nI dp)])), ((mq 5), .inl (cI, 8, .inl of9))] s.heap.size = A at hD ⊢
  have hA : ∀ q : Nat, s.heap.size ≤ q → A q := fun q h => by rw [← hAe]; exact Or.inr h
  generalize hHe : s.heap = H at hP ⊢
  have hS : va_S A s.heap H [] := by rw [← hHe]; exact va_S.rf
  have hP : va_P D vwCl [(mo, .inr (6, [.ref (mq 0), .ref (mq 1), .ref (mq 2), .ref (mq 3), .int (nI n), .ref (mq 5), .ref (mq 6), .int (nI F), .ref (mq 8), .ref (mq 9), .ref (mq 10), .ref (mq 11), .ref (mq 12), .ref (mq 13), .ref (mq 14), .ref (mq 15), .ref (mq 16), .ref (mq 17), .ref (mq 18), .ref (mq 19), .ref (mq 20), .ref (mq 21), .ref (mq 22), .int (nI dp)])), ((mq 5), .inl (cI, 8, .inl of9))] H := hP
  have hD : va_D A [(mo, .inr (6, [.ref (mq 0), .ref (mq 1), .ref (mq 2), .ref (mq 3), .int (nI n), .ref (mq 5), .ref (mq 6), .int (nI F), .ref (mq 8), .ref (mq 9), .ref (mq 10), .ref (mq 11), .ref (mq 12), .ref (mq 13), .ref (mq 14), .ref (mq 15), .ref (mq 16), .ref (mq 17), .ref (mq 18), .ref (mq 19), .ref (mq 20), .ref (mq 21), .ref (mq 22), .int (nI dp)])), ((mq 5), .inl (cI, 8, .inl of9))] := hD
  have hl := lv_entry ([.ref mo, .int x]) (n := 2) (Nat.le_of_ble_eq_true rfl)
  rw [lg_entry_eq]
  generalize (lg_sl ([.ref mo, .int x]) ++ List.replicate (2 - (lg_sl ([.ref mo, .int x])).length) Slot.unset).toArray = ls at hl ⊢
  have hl : lv_has ls 2 [(0, .ref mo), (1, .int x)] := hl
  refine lv_iload_n hx hb dM_noOwn_0 rfl (lv_at hl 1 rfl) ?_
  refine lv_aload_n hx hb dM_noOwn_1 rfl (lv_at hl 0 rfl) ?_
  refine va_get (D := D) (ci := 6) (v := .int (nI F)) (C := R_M) (T := F_M) (N := 24) hx hb ht i_M hown hK hP 0 rfl rfl 7 (by decide) (ht _ m_461) (fun _ h9 => h9) rfl dM_noOwn_2 ?_
  refine lv_iconst (v := 1) hx hb dM_noOwn_5 (by decide) ?_
  refine lv_isub hx hb dM_noOwn_6 ?_
  refine lv_topi (fun v6 e6 => ?_)
  refine gc_i (va_runS (As := [.int x, .int v6]) (rest := []) ⟨hx, hb, hml, hown, ht⟩ (c_M_out l D cI cJ cB cZ x v6 H.size) (va_cwS 2 ht (gw_S m_532 m_533 m_6 m_534) rfl rfl rfl (by decide +kernel) ⟨Nat.le_of_ble_eq_true rfl, Nat.le_of_ble_eq_true rfl⟩) (gp_S hK hN (hP.sub (ws' := ([] : va_W)) [] rfl) (hD.sub (ws' := ([] : va_W)) [] (by decide) rfl)) rfl rfl hl.1 rfl (lv_room (Nat.le_of_ble_eq_true rfl)) dM_noOwn_7 ⟨Nat.le_of_ble_eq_true rfl, Nat.le_of_ble_eq_true rfl⟩) hP hD hS hA [] rfl (by decide) (fun r w h => by obtain ⟨_, rfl⟩ := h; rfl) (fun r7 w7 H locs p7 hP hD hS => ?_)
  obtain ⟨h7x, rfl⟩ := p7
  have h7y : r7 = gb (¬ mk F x) := by rw [h7x, e6]; exact gb_e (gm_nout (by omega))
  subst h7y
  have hP : va_P D vwCl [(mo, .inr (6, [.ref (mq 0), .ref (mq 1), .ref (mq 2), .ref (mq 3), .int (nI n), .ref (mq 5), .ref (mq 6), .int (nI F), .ref (mq 8), .ref (mq 9), .ref (mq 10), .ref (mq 11), .ref (mq 12), .ref (mq 13), .ref (mq 14), .ref (mq 15), .ref (mq 16), .ref (mq 17), .ref (mq 18), .ref (mq 19), .ref (mq 20), .ref (mq 21), .ref (mq 22), .int (nI dp)])), ((mq 5), .inl (cI, 8, .inl of9))] H := hP
  have hD : va_D A [(mo, .inr (6, [.ref (mq 0), .ref (mq 1), .ref (mq 2), .ref (mq 3), .int (nI n), .ref (mq 5), .ref (mq 6), .int (nI F), .ref (mq 8), .ref (mq 9), .ref (mq 10), .ref (mq 11), .ref (mq 12), .ref (mq 13), .ref (mq 14), .ref (mq 15), .ref (mq 16), .ref (mq 17), .ref (mq 18), .ref (mq 19), .ref (mq 20), .ref (mq 21), .ref (mq 22), .int (nI dp)])), ((mq 5), .inl (cI, 8, .inl of9))] := hD
  refine lv_if_ne (tgt := 22) hx hb dM_noOwn_10 (by decide) (fun c10 => ?_) (fun c10 => ?_)
  · refine lv_iconst (v := 1) hx hb dM_noOwn_22 (by decide) ?_
    refine lv_goto (tgt := 27) hx hb dM_noOwn_23 (by decide) ?_
    exact W.zret (v := 1) hx hb hr (by decide) (fun t9 ht9 hW => ⟨⟨1, _, rfl, ⟨gb_t (Or.inl (gb_0 c10)), rfl⟩, by rw [ht9]; exact hP, hD⟩, hS.F ht9⟩) hS.2.2 dM_noOwn_27
  · have hm := Classical.not_not.mp (gb_1.mp c10)
    obtain ⟨j, hj, rfl⟩ := mk_nat (F := F) (by omega) (Classical.not_not.mp (gb_1.mp c10))
    have hcj : cn (nI j) = j := cn_nI (by omega)
    refine lv_aload_n hx hb dM_noOwn_13 rfl (lv_at hl 0 rfl) ?_
    refine va_get (D := D) (ci := 6) (v := .ref (mq 5)) (C := R_M) (T := F_M) (N := 24) hx hb ht i_M hown hK hP 0 rfl rfl 5 (by decide) (ht _ m_459) (fun _ h9 => h9) rfl dM_noOwn_14 ?_
    refine lv_iload_n hx hb dM_noOwn_17 rfl (lv_at hl 1 rfl) ?_
    have i18 : vp_in (nI j) 8 := gx_in (rfl : (nI j) = (nI j)) (by omega) (by decide)
    have k18 : ((nI j) : Int32).toNatClampNeg = j := gx_cl (rfl : (nI j) = (nI j)) (by omega)
    refine va_iald hx hb hK hP 1 0 rfl rfl i18 dM_noOwn_18 ?_
    rw [k18]
    refine lv_topi (fun v18 e18 => ?_)
    refine lv_if_lt (tgt := 26) hx hb dM_noOwn_19 (by decide) (fun c19 => ?_) (fun c19 => ?_)
    · refine lv_iconst (v := 0) hx hb dM_noOwn_26 (by decide) ?_
      exact W.zret (v := 0) hx hb hr (by decide) (fun t9 ht9 hW => ⟨⟨0, _, rfl, ⟨gb_f (fun z => by rcases z with z | z; (exact z hm); (rw [hcj, ← e18] at z; exact absurd c19 (Int32.not_lt.mpr z))), rfl⟩, by rw [ht9]; exact hP, hD⟩, hS.F ht9⟩) hS.2.2 dM_noOwn_27
    · refine lv_iconst (v := 1) hx hb dM_noOwn_22 (by decide) ?_
      refine lv_goto (tgt := 27) hx hb dM_noOwn_23 (by decide) ?_
      exact W.zret (v := 1) hx hb hr (by decide) (fun t9 ht9 hW => ⟨⟨1, _, rfl, ⟨gb_t (Or.inr (by rw [hcj, ← e18]; exact Int32.not_lt.mp c19)), rfl⟩, by rw [ht9]; exact hP, hD⟩, hS.F ht9⟩) hS.2.2 dM_noOwn_27

theorem gm_sec (x : Int32) : ((2 ≤ x ∧ x ≤ 4) ∨ x = 8 ∨ x = 9 ∨ x = 11) ↔ (x = 2 ∨ x = 3 ∨ x = 4 ∨ x = 8 ∨ x = 9 ∨ x = 11) := by
  constructor
  · rintro (⟨h1, h2⟩ | h)
    · obtain ⟨j, hj, rfl⟩ := mk_nat (F := 5) (by decide) ⟨Int32.le_trans (by decide) h1, Int32.lt_of_le_of_lt h2 (by decide)⟩
      have e2 : (2 : Int32) ≤ nI j ↔ 2 ≤ j := gx_le rfl rfl (by decide) (by omega)
      rcases (show j = 2 ∨ j = 3 ∨ j = 4 by have := e2.mp h1; omega) with rfl | rfl | rfl
      · exact Or.inl rfl
      · exact Or.inr (Or.inl rfl)
      · exact Or.inr (Or.inr (Or.inl rfl))
    · exact Or.inr (Or.inr (Or.inr h))
  · rintro (rfl | rfl | rfl | h)
    · exact Or.inl (by decide)
    · exact Or.inl (by decide)
    · exact Or.inl (by decide)
    · exact Or.inr h
set_option maxHeartbeats 4000000 in
set_option maxRecDepth 100000 in
theorem c_M_hasSecond (l : Launch) (D : va_G) (cI cJ cB cZ : ClassId) (x : Int32)  : ct_I l y_M_hasSecond w_M_hasSecond ({ frames := 0, cells := 0, slots := 0, locals := 0 }) D (gk_T cI cJ cB cZ) [.int x] ([] : va_W) (0) (0) (fun r w => r = gb (x = 2 ∨ x = 3 ∨ x = 4 ∨ x = 8 ∨ x = 9 ∨ x = 11) ∧ w = []) := by
  intro sz
  refine Met.ofW (cc := b_M_hasSecond) (maxL := 1) (ret := (some .boolean)) (by decide) rfl ?_
  intro p ev9 s m args below meth c s₁ B9 hml hv
  obtain ⟨rfl, hsz, hP, hK, hN, hD0⟩ := hv
  have hx := B9.exec
  have hb := B9.bytes
  have hr := B9.returns
  have hts := atoms_spec (ws := w_M_hasSecond) B9.pre
  have ht : ∀ w ∈ gk_big, w.before _ s = true := fun w h => hts w (List.mem_cons_of_mem _ h)
  have hown : s.vm.findClass R_M = some m.cls := findClass_of_methodNamed B9.named
  have hlocks := B9.notSynchronized
  subst hsz
  have hD := hD0.self (sz := s.heap.size)
  generalize hAe : va_A ([] : va_W) s.heap.size = A at hD ⊢
  have hA : ∀ q : Nat, s.heap.size ≤ q → A q := fun q h => by rw [← hAe]; exact Or.inr h
  generalize hHe : s.heap = H at hP ⊢
  have hS : va_S A s.heap H [] := by rw [← hHe]; exact va_S.rf
  have hP : va_P D vwCl [] H := hP
  have hD : va_D A [] := hD
  have hl := lv_entry ([.int x]) (n := 1) (Nat.le_of_ble_eq_true rfl)
  rw [lg_entry_eq]
  generalize (lg_sl ([.int x]) ++ List.replicate (1 - (lg_sl ([.int x])).length) Slot.unset).toArray = ls at hl ⊢
  have hl : lv_has ls 1 [(0, .int x)] := hl
  refine lv_iload_n hx hb dM_hasSecond_0 rfl (lv_at hl 0 rfl) ?_
  refine lv_iconst (v := 2) hx hb dM_hasSecond_1 (by decide) ?_
  refine lv_icmp_lt (tgt := 10) hx hb dM_hasSecond_2 (by decide) (fun c2 => ?_) (fun c2 => ?_)
  · refine lv_iload_n hx hb dM_hasSecond_10 rfl (lv_at hl 0 rfl) ?_
    refine lv_bipush (v := 8) hx hb dM_hasSecond_11 (by decide) ?_
    refine lv_icmp_eq (tgt := 28) hx hb dM_hasSecond_13 (by decide) (fun c13 => ?_) (fun c13 => ?_)
    · refine lv_iconst (v := 1) hx hb dM_hasSecond_28 (by decide) ?_
      refine lv_goto (tgt := 33) hx hb dM_hasSecond_29 (by decide) ?_
      exact W.zret (v := 1) hx hb hr (by decide) (fun t9 ht9 hW => ⟨⟨1, _, rfl, ⟨gb_t ((gm_sec x).mp (Or.inr (Or.inl c13))), rfl⟩, by rw [ht9]; exact hP, hD⟩, hS.F ht9⟩) hS.2.2 dM_hasSecond_33
    · refine lv_iload_n hx hb dM_hasSecond_16 rfl (lv_at hl 0 rfl) ?_
      refine lv_bipush (v := 9) hx hb dM_hasSecond_17 (by decide) ?_
      refine lv_icmp_eq (tgt := 28) hx hb dM_hasSecond_19 (by decide) (fun c19 => ?_) (fun c19 => ?_)
      · refine lv_iconst (v := 1) hx hb dM_hasSecond_28 (by decide) ?_
        refine lv_goto (tgt := 33) hx hb dM_hasSecond_29 (by decide) ?_
        exact W.zret (v := 1) hx hb hr (by decide) (fun t9 ht9 hW => ⟨⟨1, _, rfl, ⟨gb_t ((gm_sec x).mp (Or.inr (Or.inr (Or.inl c19)))), rfl⟩, by rw [ht9]; exact hP, hD⟩, hS.F ht9⟩) hS.2.2 dM_hasSecond_33
      · refine lv_iload_n hx hb dM_hasSecond_22 rfl (lv_at hl 0 rfl) ?_
        refine lv_bipush (v := 11) hx hb dM_hasSecond_23 (by decide) ?_
        refine lv_icmp_ne (tgt := 32) hx hb dM_hasSecond_25 (by decide) (fun c25 => ?_) (fun c25 => ?_)
        · refine lv_iconst (v := 0) hx hb dM_hasSecond_32 (by decide) ?_
          exact W.zret (v := 0) hx hb hr (by decide) (fun t9 ht9 hW => ⟨⟨0, _, rfl, ⟨gb_f (fun y => by rcases (gm_sec x).mpr y with z | z | z | z; exact absurd z.1 (Int32.not_le.mpr c2); exact c13 z; exact c19 z; exact c25 z), rfl⟩, by rw [ht9]; exact hP, hD⟩, hS.F ht9⟩) hS.2.2 dM_hasSecond_33
        · refine lv_iconst (v := 1) hx hb dM_hasSecond_28 (by decide) ?_
          refine lv_goto (tgt := 33) hx hb dM_hasSecond_29 (by decide) ?_
          exact W.zret (v := 1) hx hb hr (by decide) (fun t9 ht9 hW => ⟨⟨1, _, rfl, ⟨gb_t ((gm_sec x).mp (Or.inr (Or.inr (Or.inr c25)))), rfl⟩, by rw [ht9]; exact hP, hD⟩, hS.F ht9⟩) hS.2.2 dM_hasSecond_33
  · refine lv_iload_n hx hb dM_hasSecond_5 rfl (lv_at hl 0 rfl) ?_
    refine lv_iconst (v := 4) hx hb dM_hasSecond_6 (by decide) ?_
    refine lv_icmp_le (tgt := 28) hx hb dM_hasSecond_7 (by decide) (fun c7 => ?_) (fun c7 => ?_)
    · refine lv_iconst (v := 1) hx hb dM_hasSecond_28 (by decide) ?_
      refine lv_goto (tgt := 33) hx hb dM_hasSecond_29 (by decide) ?_
      exact W.zret (v := 1) hx hb hr (by decide) (fun t9 ht9 hW => ⟨⟨1, _, rfl, ⟨gb_t ((gm_sec x).mp (Or.inl ⟨Int32.not_lt.mp c2, c7⟩)), rfl⟩, by rw [ht9]; exact hP, hD⟩, hS.F ht9⟩) hS.2.2 dM_hasSecond_33
    · refine lv_iload_n hx hb dM_hasSecond_10 rfl (lv_at hl 0 rfl) ?_
      refine lv_bipush (v := 8) hx hb dM_hasSecond_11 (by decide) ?_
      refine lv_icmp_eq (tgt := 28) hx hb dM_hasSecond_13 (by decide) (fun c13 => ?_) (fun c13 => ?_)
      · refine lv_iconst (v := 1) hx hb dM_hasSecond_28 (by decide) ?_
        refine lv_goto (tgt := 33) hx hb dM_hasSecond_29 (by decide) ?_
        exact W.zret (v := 1) hx hb hr (by decide) (fun t9 ht9 hW => ⟨⟨1, _, rfl, ⟨gb_t ((gm_sec x).mp (Or.inr (Or.inl c13))), rfl⟩, by rw [ht9]; exact hP, hD⟩, hS.F ht9⟩) hS.2.2 dM_hasSecond_33
      · refine lv_iload_n hx hb dM_hasSecond_16 rfl (lv_at hl 0 rfl) ?_
        refine lv_bipush (v := 9) hx hb dM_hasSecond_17 (by decide) ?_
        refine lv_icmp_eq (tgt := 28) hx hb dM_hasSecond_19 (by decide) (fun c19 => ?_) (fun c19 => ?_)
        · refine lv_iconst (v := 1) hx hb dM_hasSecond_28 (by decide) ?_
          refine lv_goto (tgt := 33) hx hb dM_hasSecond_29 (by decide) ?_
          exact W.zret (v := 1) hx hb hr (by decide) (fun t9 ht9 hW => ⟨⟨1, _, rfl, ⟨gb_t ((gm_sec x).mp (Or.inr (Or.inr (Or.inl c19)))), rfl⟩, by rw [ht9]; exact hP, hD⟩, hS.F ht9⟩) hS.2.2 dM_hasSecond_33
        · refine lv_iload_n hx hb dM_hasSecond_22 rfl (lv_at hl 0 rfl) ?_
          refine lv_bipush (v := 11) hx hb dM_hasSecond_23 (by decide) ?_
          refine lv_icmp_ne (tgt := 32) hx hb dM_hasSecond_25 (by decide) (fun c25 => ?_) (fun c25 => ?_)
          · refine lv_iconst (v := 0) hx hb dM_hasSecond_32 (by decide) ?_
            exact W.zret (v := 0) hx hb hr (by decide) (fun t9 ht9 hW => ⟨⟨0, _, rfl, ⟨gb_f (fun y => by rcases (gm_sec x).mpr y with z | z | z | z; exact c7 z.2; exact c13 z; exact c19 z; exact c25 z), rfl⟩, by rw [ht9]; exact hP, hD⟩, hS.F ht9⟩) hS.2.2 dM_hasSecond_33
          · refine lv_iconst (v := 1) hx hb dM_hasSecond_28 (by decide) ?_
            refine lv_goto (tgt := 33) hx hb dM_hasSecond_29 (by decide) ?_
            exact W.zret (v := 1) hx hb hr (by decide) (fun t9 ht9 hW => ⟨⟨1, _, rfl, ⟨gb_t ((gm_sec x).mp (Or.inr (Or.inr (Or.inr c25)))), rfl⟩, by rw [ht9]; exact hP, hD⟩, hS.F ht9⟩) hS.2.2 dM_hasSecond_33

set_option maxHeartbeats 4000000 in
set_option maxRecDepth 100000 in
theorem c_M_kindAt (l : Launch) (D : va_G) (cI cJ cB cZ : ClassId) (mo : Nat) (mq : Nat → Nat) (n F dp : Nat) (sk sz : Nat → Nat) (f k : Nat) (hf : f < 8) (hk : k < 2 ^ 30) (hsz : ∀ i, sz i ≤ 12) : ct_I l y_M_kindAt w_M_kindAt ({ frames := 0, cells := 0, slots := 0, locals := 0 }) D (gk_T cI cJ cB cZ) [.ref mo, .int (nI f), .int (nI k)] [(mo, .inr (6, [.ref (mq 0), .ref (mq 1), .ref (mq 2), .ref (mq 3), .int (nI n), .ref (mq 5), .ref (mq 6), .int (nI F), .ref (mq 8), .ref (mq 9), .ref (mq 10), .ref (mq 11), .ref (mq 12), .ref (mq 13), .ref (mq 14), .ref (mq 15), .ref (mq 16), .ref (mq 17), .ref (mq 18), .ref (mq 19), .ref (mq 20), .ref (mq 21), .ref (mq 22), .int (nI dp)])), ((mq 8), .inl (cI, 96, .inl (fun z9 => nI (sk z9)))), ((mq 11), .inl (cI, 8, .inl (fun z9 => nI (sz z9))))] (0) (0) (fun r w => r = nI (kat sk sz f k) ∧ w = [(mo, .inr (6, [.ref (mq 0), .ref (mq 1), .ref (mq 2), .ref (mq 3), .int (nI n), .ref (mq 5), .ref (mq 6), .int (nI F), .ref (mq 8), .ref (mq 9), .ref (mq 10), .ref (mq 11), .ref (mq 12), .ref (mq 13), .ref (mq 14), .ref (mq 15), .ref (mq 16), .ref (mq 17), .ref (mq 18), .ref (mq 19), .ref (mq 20), .ref (mq 21), .ref (mq 22), .int (nI dp)])), ((mq 8), .inl (cI, 96, .inl (fun z9 => nI (sk z9)))), ((mq 11), .inl (cI, 8, .inl (fun z9 => nI (sz z9))))]) := by
  intro sz
  refine Met.ofW (cc := b_M_kindAt) (maxL := 3) (ret := (some .int)) (by decide) rfl ?_
  intro p ev9 s m args below meth c s₁ B9 hml hv
  obtain ⟨rfl, hsz, hP, hK, hN, hD0⟩ := hv
  have hx := B9.exec
  have hb := B9.bytes
  have hr := B9.returns
  have hts := atoms_spec (ws := w_M_kindAt) B9.pre
  have ht : ∀ w ∈ gk_big, w.before _ s = true := fun w h => hts w (List.mem_cons_of_mem _ h)
  have hown : s.vm.findClass R_M = some m.cls := findClass_of_methodNamed B9.named
  have hlocks := B9.notSynchronized
  subst hsz
  have hD := hD0.self (sz := s.heap.size)
  generalize hAe : va_A [(mo, .inr (6, [.ref (mq 0), .ref (mq 1), .ref (mq 2), .ref (mq 3), .int (nI n), .ref (mq 5), .ref (mq 6), .int (nI F), .ref (mq 8), .ref (mq 9), .ref (mq 10), .ref (mq 11), .ref (mq 12), .ref (mq 13), .ref (mq 14), .ref (mq 15), .ref (mq 16), .ref (mq 17), .ref (mq 18), .ref (mq 19), .ref (mq 20), .ref (mq 21), .ref (mq 22), .int (nI dp)])), ((mq 8), .inl (cI, 96, .inl (fun z9 => nI (sk z9)))), ((mq 11), .inl (cI, 8, .inl (fun z9 => nI (sz z9))))] s.heap.size = A at hD ⊢
  have hA : ∀ q : Nat, s.heap.size ≤ q → A q := fun q h => by rw [← hAe]; exact Or.inr h
  generalize hHe : s.heap = H at hP ⊢
  have hS : va_S A s.heap H [] := by rw [← hHe]; exact va_S.rf
  have hP : va_P D vwCl [(mo, .inr (6, [.ref (mq 0), .ref (mq 1), .ref (mq 2), .ref (mq 3), .int (nI n), .ref (mq 5), .ref (mq 6), .int (nI F), .ref (mq 8), .ref (mq 9), .ref (mq 10), .ref (mq 11), .ref (mq 12), .ref (mq 13), .ref (mq 14), .ref (mq 15), .ref (mq 16), .ref (mq 17), .ref (mq 18), .ref (mq 19), .ref (mq 20), .ref (mq 21), .ref (mq 22), .int (nI dp)])), ((mq 8), .inl (cI, 96, .inl (fun z9 => nI (sk z9)))), ((mq 11), .inl (cI, 8, .inl (fun z9 => nI (sz z9))))] H := hP
  have hD : va_D A [(mo, .inr (6, [.ref (mq 0), .ref (mq 1), .ref (mq 2), .ref (mq 3), .int (nI n), .ref (mq 5), .ref (mq 6), .int (nI F), .ref (mq 8), .ref (mq 9), .ref (mq 10), .ref (mq 11), .ref (mq 12), .ref (mq 13), .ref (mq 14), .ref (mq 15), .ref (mq 16), .ref (mq 17), .ref (mq 18), .ref (mq 19), .ref (mq 20), .ref (mq 21), .ref (mq 22), .int (nI dp)])), ((mq 8), .inl (cI, 96, .inl (fun z9 => nI (sk z9)))), ((mq 11), .inl (cI, 8, .inl (fun z9 => nI (sz z9))))] := hD
  have hl := lv_entry ([.ref mo, .int (nI f), .int (nI k)]) (n := 3) (Nat.le_of_ble_eq_true rfl)
  rw [lg_entry_eq]
  generalize (lg_sl ([.ref mo, .int (nI f), .int (nI k)]) ++ List.replicate (3 - (lg_sl ([.ref mo, .int (nI f), .int (nI k)])).length) Slot.unset).toArray = ls at hl ⊢
  have hl : lv_has ls 3 [(0, .ref mo), (1, .int (nI f)), (2, .int (nI k))] := hl
  have hszf := hsz f
  refine lv_iload_n hx hb dM_kindAt_0 rfl (lv_at hl 2 rfl) ?_
  refine lv_aload_n hx hb dM_kindAt_1 rfl (lv_at hl 0 rfl) ?_
  refine va_get (D := D) (ci := 6) (v := .ref (mq 11)) (C := R_M) (T := F_M) (N := 24) hx hb ht i_M hown hK hP 0 rfl rfl 11 (by decide) (ht _ m_465) (fun _ h9 => h9) rfl dM_kindAt_2 ?_
  refine lv_iload_n hx hb dM_kindAt_5 rfl (lv_at hl 1 rfl) ?_
  have i6 : vp_in (nI f) 8 := gx_in (rfl : (nI f) = (nI f)) (by omega) (by decide)
  have k6 : ((nI f) : Int32).toNatClampNeg = f := gx_cl (rfl : (nI f) = (nI f)) (by omega)
  refine va_iald hx hb hK hP 2 0 rfl rfl i6 dM_kindAt_6 ?_
  rw [k6]
  refine lv_topi (fun v6 e6 => ?_)
  have n6 : v6 = nI (sz f) := e6
  subst n6
  refine lv_icmp_ge (tgt := 24) hx hb dM_kindAt_7 (by decide) (fun c7 => ?_) (fun c7 => ?_)
  · have g7 : (sz f) ≤ k := (gx_le (rfl : (nI (sz f)) = (nI (sz f))) (rfl : (nI k) = (nI k)) (by omega) (by omega)).mp c7
    refine lv_iconst (v := 5) hx hb dM_kindAt_24 (by decide) ?_
    exact W.iret (v := 5) hx hb hr (fun t9 ht9 hW => ⟨⟨5, _, rfl, ⟨by rw [show kat sk sz f k = 5 from if_neg (by omega)]; rfl, rfl⟩, by rw [ht9]; exact hP, hD⟩, hS.F ht9⟩) hS.2.2 dM_kindAt_25
  · have g7 : ¬ ((sz f) ≤ k) := fun z => c7 ((gx_le (rfl : (nI (sz f)) = (nI (sz f))) (rfl : (nI k) = (nI k)) (by omega) (by omega)).mpr z)
    refine lv_aload_n hx hb dM_kindAt_10 rfl (lv_at hl 0 rfl) ?_
    refine va_get (D := D) (ci := 6) (v := .ref (mq 8)) (C := R_M) (T := F_M) (N := 24) hx hb ht i_M hown hK hP 0 rfl rfl 8 (by decide) (ht _ m_462) (fun _ h9 => h9) rfl dM_kindAt_11 ?_
    refine lv_bipush (v := 12) hx hb dM_kindAt_14 (by decide) ?_
    refine lv_iload_n hx hb dM_kindAt_16 rfl (lv_at hl 1 rfl) ?_
    refine lv_imul hx hb dM_kindAt_17 ?_
    refine lv_topi (fun v17 e17 => ?_)
    have n17 : v17 = nI (12 * f) := by rw [e17]; exact gx_mul (rfl : (12 : Int32) = nI 12) (rfl : (nI f) = (nI f))
    subst n17
    refine lv_iload_n hx hb dM_kindAt_18 rfl (lv_at hl 2 rfl) ?_
    refine lv_iadd hx hb dM_kindAt_19 ?_
    refine lv_topi (fun v19 e19 => ?_)
    have n19 : v19 = nI ((12 * f) + k) := by rw [e19]; exact gx_add (rfl : (nI (12 * f)) = (nI (12 * f))) (rfl : (nI k) = (nI k))
    subst n19
    have i20 : vp_in (nI ((12 * f) + k)) 96 := gx_in (rfl : (nI ((12 * f) + k)) = (nI ((12 * f) + k))) (by omega) (by decide)
    have k20 : ((nI ((12 * f) + k)) : Int32).toNatClampNeg = ((12 * f) + k) := gx_cl (rfl : (nI ((12 * f) + k)) = (nI ((12 * f) + k))) (by omega)
    refine va_iald hx hb hK hP 1 0 rfl rfl i20 dM_kindAt_20 ?_
    rw [k20]
    refine lv_topi (fun v20 e20 => ?_)
    have n20 : v20 = nI (sk ((12 * f) + k)) := e20
    subst n20
    refine lv_goto (tgt := 25) hx hb dM_kindAt_21 (by decide) ?_
    exact W.iret (v := (nI (sk ((12 * f) + k)))) hx hb hr (fun t9 ht9 hW => ⟨⟨(nI (sk ((12 * f) + k))), _, rfl, ⟨by rw [show kat sk sz f k = (sk ((12 * f) + k)) from if_pos (by omega)], rfl⟩, by rw [ht9]; exact hP, hD⟩, hS.F ht9⟩) hS.2.2 dM_kindAt_25

set_option maxHeartbeats 4000000 in
set_option maxRecDepth 100000 in
theorem c_M_opens (l : Launch) (D : va_G) (cI cJ cB cZ : ClassId) (k : Nat) (hk : k < 2 ^ 31) : ct_I l y_M_opens w_M_opens ({ frames := 0, cells := 0, slots := 0, locals := 0 }) D (gk_T cI cJ cB cZ) [.int (nI k)] ([] : va_W) (0) (0) (fun r w => r = gb (opn k) ∧ w = []) := by
  intro sz
  refine Met.ofW (cc := b_M_opens) (maxL := 1) (ret := (some .boolean)) (by decide) rfl ?_
  intro p ev9 s m args below meth c s₁ B9 hml hv
  obtain ⟨rfl, hsz, hP, hK, hN, hD0⟩ := hv
  have hx := B9.exec
  have hb := B9.bytes
  have hr := B9.returns
  have hts := atoms_spec (ws := w_M_opens) B9.pre
  have ht : ∀ w ∈ gk_big, w.before _ s = true := fun w h => hts w (List.mem_cons_of_mem _ h)
  have hown : s.vm.findClass R_M = some m.cls := findClass_of_methodNamed B9.named
  have hlocks := B9.notSynchronized
  subst hsz
  have hD := hD0.self (sz := s.heap.size)
  generalize hAe : va_A ([] : va_W) s.heap.size = A at hD ⊢
  have hA : ∀ q : Nat, s.heap.size ≤ q → A q := fun q h => by rw [← hAe]; exact Or.inr h
  generalize hHe : s.heap = H at hP ⊢
  have hS : va_S A s.heap H [] := by rw [← hHe]; exact va_S.rf
  have hP : va_P D vwCl [] H := hP
  have hD : va_D A [] := hD
  have hl := lv_entry ([.int (nI k)]) (n := 1) (Nat.le_of_ble_eq_true rfl)
  rw [lg_entry_eq]
  generalize (lg_sl ([.int (nI k)]) ++ List.replicate (1 - (lg_sl ([.int (nI k)])).length) Slot.unset).toArray = ls at hl ⊢
  have hl : lv_has ls 1 [(0, .int (nI k))] := hl
  refine lv_iload_n hx hb dM_opens_0 rfl (lv_at hl 0 rfl) ?_
  refine lv_iconst (v := 2) hx hb dM_opens_1 (by decide) ?_
  refine lv_icmp_eq (tgt := 10) hx hb dM_opens_2 (by decide) (fun c2 => ?_) (fun c2 => ?_)
  · have g2 : k = 2 := (gx_eq (rfl : (nI k) = (nI k)) (rfl : (2 : Int32) = nI 2) (by omega) (by decide)).mp c2
    refine lv_iconst (v := 1) hx hb dM_opens_10 (by decide) ?_
    refine lv_goto (tgt := 15) hx hb dM_opens_11 (by decide) ?_
    exact W.zret (v := 1) hx hb hr (by decide) (fun t9 ht9 hW => ⟨⟨1, _, rfl, ⟨gb_t (Or.inl g2), rfl⟩, by rw [ht9]; exact hP, hD⟩, hS.F ht9⟩) hS.2.2 dM_opens_15
  · have g2 : ¬ (k = 2) := fun z => c2 ((gx_eq (rfl : (nI k) = (nI k)) (rfl : (2 : Int32) = nI 2) (by omega) (by decide)).mpr z)
    refine lv_iload_n hx hb dM_opens_5 rfl (lv_at hl 0 rfl) ?_
    refine lv_iconst (v := 4) hx hb dM_opens_6 (by decide) ?_
    refine lv_icmp_ne (tgt := 14) hx hb dM_opens_7 (by decide) (fun c7 => ?_) (fun c7 => ?_)
    · have g7 : ¬ (k = 4) := fun z => c7 ((gx_eq (rfl : (nI k) = (nI k)) (rfl : (4 : Int32) = nI 4) (by omega) (by decide)).mpr z)
      refine lv_iconst (v := 0) hx hb dM_opens_14 (by decide) ?_
      exact W.zret (v := 0) hx hb hr (by decide) (fun t9 ht9 hW => ⟨⟨0, _, rfl, ⟨gb_f (fun z => by rcases z with z | z; exact g2 z; exact g7 z), rfl⟩, by rw [ht9]; exact hP, hD⟩, hS.F ht9⟩) hS.2.2 dM_opens_15
    · have g7 : k = 4 := (gx_eq (rfl : (nI k) = (nI k)) (rfl : (4 : Int32) = nI 4) (by omega) (by decide)).mp c7
      refine lv_iconst (v := 1) hx hb dM_opens_10 (by decide) ?_
      refine lv_goto (tgt := 15) hx hb dM_opens_11 (by decide) ?_
      exact W.zret (v := 1) hx hb hr (by decide) (fun t9 ht9 hW => ⟨⟨1, _, rfl, ⟨gb_t (Or.inr g7), rfl⟩, by rw [ht9]; exact hP, hD⟩, hS.F ht9⟩) hS.2.2 dM_opens_15

set_option maxHeartbeats 4000000 in
set_option maxRecDepth 100000 in
theorem c_M_uses (l : Launch) (D : va_G) (cI cJ cB cZ : ClassId) (k : Nat) (hk : k < 2 ^ 31) : ct_I l y_M_uses w_M_uses ({ frames := 0, cells := 0, slots := 0, locals := 0 }) D (gk_T cI cJ cB cZ) [.int (nI k)] ([] : va_W) (0) (0) (fun r w => r = gb (k ≤ 2) ∧ w = []) := by
  intro sz
  refine Met.ofW (cc := b_M_uses) (maxL := 1) (ret := (some .boolean)) (by decide) rfl ?_
  intro p ev9 s m args below meth c s₁ B9 hml hv
  obtain ⟨rfl, hsz, hP, hK, hN, hD0⟩ := hv
  have hx := B9.exec
  have hb := B9.bytes
  have hr := B9.returns
  have hts := atoms_spec (ws := w_M_uses) B9.pre
  have ht : ∀ w ∈ gk_big, w.before _ s = true := fun w h => hts w (List.mem_cons_of_mem _ h)
  have hown : s.vm.findClass R_M = some m.cls := findClass_of_methodNamed B9.named
  have hlocks := B9.notSynchronized
  subst hsz
  have hD := hD0.self (sz := s.heap.size)
  generalize hAe : va_A ([] : va_W) s.heap.size = A at hD ⊢
  have hA : ∀ q : Nat, s.heap.size ≤ q → A q := fun q h => by rw [← hAe]; exact Or.inr h
  generalize hHe : s.heap = H at hP ⊢
  have hS : va_S A s.heap H [] := by rw [← hHe]; exact va_S.rf
  have hP : va_P D vwCl [] H := hP
  have hD : va_D A [] := hD
  have hl := lv_entry ([.int (nI k)]) (n := 1) (Nat.le_of_ble_eq_true rfl)
  rw [lg_entry_eq]
  generalize (lg_sl ([.int (nI k)]) ++ List.replicate (1 - (lg_sl ([.int (nI k)])).length) Slot.unset).toArray = ls at hl ⊢
  have hl : lv_has ls 1 [(0, .int (nI k))] := hl
  refine lv_iload_n hx hb dM_uses_0 rfl (lv_at hl 0 rfl) ?_
  refine lv_iconst (v := 2) hx hb dM_uses_1 (by decide) ?_
  refine lv_icmp_gt (tgt := 9) hx hb dM_uses_2 (by decide) (fun c2 => ?_) (fun c2 => ?_)
  · have g2 : 2 < k := (gx_lt (rfl : (2 : Int32) = nI 2) (rfl : (nI k) = (nI k)) (by decide) (by omega)).mp c2
    refine lv_iconst (v := 0) hx hb dM_uses_9 (by decide) ?_
    exact W.zret (v := 0) hx hb hr (by decide) (fun t9 ht9 hW => ⟨⟨0, _, rfl, ⟨gb_f (by omega), rfl⟩, by rw [ht9]; exact hP, hD⟩, hS.F ht9⟩) hS.2.2 dM_uses_10
  · have g2 : ¬ (2 < k) := fun z => c2 ((gx_lt (rfl : (2 : Int32) = nI 2) (rfl : (nI k) = (nI k)) (by decide) (by omega)).mpr z)
    refine lv_iconst (v := 1) hx hb dM_uses_5 (by decide) ?_
    refine lv_goto (tgt := 10) hx hb dM_uses_6 (by decide) ?_
    exact W.zret (v := 1) hx hb hr (by decide) (fun t9 ht9 hW => ⟨⟨1, _, rfl, ⟨gb_t (by omega), rfl⟩, by rw [ht9]; exact hP, hD⟩, hS.F ht9⟩) hS.2.2 dM_uses_10

set_option maxHeartbeats 4000000 in
set_option maxRecDepth 100000 in
theorem c_M_cap (l : Launch) (D : va_G) (cI cJ cB cZ : ClassId) (x : Nat) (hk : x < 2 ^ 31) : ct_I l y_M_cap w_M_cap ({ frames := 0, cells := 0, slots := 0, locals := 0 }) D (gk_T cI cJ cB cZ) [.int (nI x)] ([] : va_W) (0) (0) (fun r w => r = nI (min 1000 x) ∧ w = []) := by
  intro sz
  refine Met.ofW (cc := b_M_cap) (maxL := 1) (ret := (some .int)) (by decide) rfl ?_
  intro p ev9 s m args below meth c s₁ B9 hml hv
  obtain ⟨rfl, hsz, hP, hK, hN, hD0⟩ := hv
  have hx := B9.exec
  have hb := B9.bytes
  have hr := B9.returns
  have hts := atoms_spec (ws := w_M_cap) B9.pre
  have ht : ∀ w ∈ gk_big, w.before _ s = true := fun w h => hts w (List.mem_cons_of_mem _ h)
  have hown : s.vm.findClass R_M = some m.cls := findClass_of_methodNamed B9.named
  have hlocks := B9.notSynchronized
  subst hsz
  have hD := hD0.self (sz := s.heap.size)
  generalize hAe : va_A ([] : va_W) s.heap.size = A at hD ⊢
  have hA : ∀ q : Nat, s.heap.size ≤ q → A q := fun q h => by rw [← hAe]; exact Or.inr h
  generalize hHe : s.heap = H at hP ⊢
  have hS : va_S A s.heap H [] := by rw [← hHe]; exact va_S.rf
  have hP : va_P D vwCl [] H := hP
  have hD : va_D A [] := hD
  have hl := lv_entry ([.int (nI x)]) (n := 1) (Nat.le_of_ble_eq_true rfl)
  rw [lg_entry_eq]
  generalize (lg_sl ([.int (nI x)]) ++ List.replicate (1 - (lg_sl ([.int (nI x)])).length) Slot.unset).toArray = ls at hl ⊢
  have hl : lv_has ls 1 [(0, .int (nI x))] := hl
  refine lv_iload_n hx hb dM_cap_0 rfl (lv_at hl 0 rfl) ?_
  refine lv_sipush (v := 1000) hx hb dM_cap_1 (by decide) ?_
  refine lv_icmp_le (tgt := 13) hx hb dM_cap_4 (by decide) (fun c4 => ?_) (fun c4 => ?_)
  · have g4 : x ≤ 1000 := (gx_le (rfl : (nI x) = (nI x)) (rfl : (1000 : Int32) = nI 1000) (by omega) (by decide)).mp c4
    refine lv_iload_n hx hb dM_cap_13 rfl (lv_at hl 0 rfl) ?_
    exact W.iret (v := (nI x)) hx hb hr (fun t9 ht9 hW => ⟨⟨(nI x), _, rfl, ⟨by rw [show min 1000 x = x by omega], rfl⟩, by rw [ht9]; exact hP, hD⟩, hS.F ht9⟩) hS.2.2 dM_cap_14
  · have g4 : ¬ (x ≤ 1000) := fun z => c4 ((gx_le (rfl : (nI x) = (nI x)) (rfl : (1000 : Int32) = nI 1000) (by omega) (by decide)).mpr z)
    refine lv_sipush (v := 1000) hx hb dM_cap_7 (by decide) ?_
    refine lv_goto (tgt := 14) hx hb dM_cap_10 (by decide) ?_
    exact W.iret (v := 1000) hx hb hr (fun t9 ht9 hW => ⟨⟨1000, _, rfl, ⟨by rw [show min 1000 x = 1000 by omega]; rfl, rfl⟩, by rw [ht9]; exact hP, hD⟩, hS.F ht9⟩) hS.2.2 dM_cap_14

set_option maxHeartbeats 4000000 in
set_option maxRecDepth 100000 in
theorem c_M_base (l : Launch) (D : va_G) (cI cJ cB cZ : ClassId) (mo : Nat) (mq : Nat → Nat) (n F dp : Nat) (e : Nat) (hd : 1 ≤ dp) : ct_I l y_M_base w_M_base ({ frames := 0, cells := 0, slots := 0, locals := 0 }) D (gk_T cI cJ cB cZ) [.ref mo, .int (nI e)] [(mo, .inr (6, [.ref (mq 0), .ref (mq 1), .ref (mq 2), .ref (mq 3), .int (nI n), .ref (mq 5), .ref (mq 6), .int (nI F), .ref (mq 8), .ref (mq 9), .ref (mq 10), .ref (mq 11), .ref (mq 12), .ref (mq 13), .ref (mq 14), .ref (mq 15), .ref (mq 16), .ref (mq 17), .ref (mq 18), .ref (mq 19), .ref (mq 20), .ref (mq 21), .ref (mq 22), .int (nI dp)]))] (0) (0) (fun r w => r = nI (320 * (dp - 1) + 4 * e) ∧ w = [(mo, .inr (6, [.ref (mq 0), .ref (mq 1), .ref (mq 2), .ref (mq 3), .int (nI n), .ref (mq 5), .ref (mq 6), .int (nI F), .ref (mq 8), .ref (mq 9), .ref (mq 10), .ref (mq 11), .ref (mq 12), .ref (mq 13), .ref (mq 14), .ref (mq 15), .ref (mq 16), .ref (mq 17), .ref (mq 18), .ref (mq 19), .ref (mq 20), .ref (mq 21), .ref (mq 22), .int (nI dp)]))]) := by
  intro sz
  refine Met.ofW (cc := b_M_base) (maxL := 2) (ret := (some .int)) (by decide) rfl ?_
  intro p ev9 s m args below meth c s₁ B9 hml hv
  obtain ⟨rfl, hsz, hP, hK, hN, hD0⟩ := hv
  have hx := B9.exec
  have hb := B9.bytes
  have hr := B9.returns
  have hts := atoms_spec (ws := w_M_base) B9.pre
  have ht : ∀ w ∈ gk_big, w.before _ s = true := fun w h => hts w (List.mem_cons_of_mem _ h)
  have hown : s.vm.findClass R_M = some m.cls := findClass_of_methodNamed B9.named
  have hlocks := B9.notSynchronized
  subst hsz
  have hD := hD0.self (sz := s.heap.size)
  generalize hAe : va_A [(mo, .inr (6, [.ref (mq 0), .ref (mq 1), .ref (mq 2), .ref (mq 3), .int (nI n), .ref (mq 5), .ref (mq 6), .int (nI F), .ref (mq 8), .ref (mq 9), .ref (mq 10), .ref (mq 11), .ref (mq 12), .ref (mq 13), .ref (mq 14), .ref (mq 15), .ref (mq 16), .ref (mq 17), .ref (mq 18), .ref (mq 19), .ref (mq 20), .ref (mq 21), .ref (mq 22), .int (nI dp)]))] s.heap.size = A at hD ⊢
  have hA : ∀ q : Nat, s.heap.size ≤ q → A q := fun q h => by rw [← hAe]; exact Or.inr h
  generalize hHe : s.heap = H at hP ⊢
  have hS : va_S A s.heap H [] := by rw [← hHe]; exact va_S.rf
  have hP : va_P D vwCl [(mo, .inr (6, [.ref (mq 0), .ref (mq 1), .ref (mq 2), .ref (mq 3), .int (nI n), .ref (mq 5), .ref (mq 6), .int (nI F), .ref (mq 8), .ref (mq 9), .ref (mq 10), .ref (mq 11), .ref (mq 12), .ref (mq 13), .ref (mq 14), .ref (mq 15), .ref (mq 16), .ref (mq 17), .ref (mq 18), .ref (mq 19), .ref (mq 20), .ref (mq 21), .ref (mq 22), .int (nI dp)]))] H := hP
  have hD : va_D A [(mo, .inr (6, [.ref (mq 0), .ref (mq 1), .ref (mq 2), .ref (mq 3), .int (nI n), .ref (mq 5), .ref (mq 6), .int (nI F), .ref (mq 8), .ref (mq 9), .ref (mq 10), .ref (mq 11), .ref (mq 12), .ref (mq 13), .ref (mq 14), .ref (mq 15), .ref (mq 16), .ref (mq 17), .ref (mq 18), .ref (mq 19), .ref (mq 20), .ref (mq 21), .ref (mq 22), .int (nI dp)]))] := hD
  have hl := lv_entry ([.ref mo, .int (nI e)]) (n := 2) (Nat.le_of_ble_eq_true rfl)
  rw [lg_entry_eq]
  generalize (lg_sl ([.ref mo, .int (nI e)]) ++ List.replicate (2 - (lg_sl ([.ref mo, .int (nI e)])).length) Slot.unset).toArray = ls at hl ⊢
  have hl : lv_has ls 2 [(0, .ref mo), (1, .int (nI e))] := hl
  refine lv_sipush (v := 320) hx hb dM_base_0 (by decide) ?_
  refine lv_aload_n hx hb dM_base_3 rfl (lv_at hl 0 rfl) ?_
  refine va_get (D := D) (ci := 6) (v := .int (nI dp)) (C := R_M) (T := F_M) (N := 24) hx hb ht i_M hown hK hP 0 rfl rfl 23 (by decide) (ht _ m_477) (fun _ h9 => h9) rfl dM_base_4 ?_
  refine lv_iconst (v := 1) hx hb dM_base_7 (by decide) ?_
  refine lv_isub hx hb dM_base_8 ?_
  refine lv_topi (fun v8 e8 => ?_)
  have n8 : v8 = nI (dp - 1) := by rw [e8]; exact gx_sub (rfl : (nI dp) = (nI dp)) (rfl : (1 : Int32) = nI 1) (by omega)
  subst n8
  refine lv_imul hx hb dM_base_9 ?_
  refine lv_topi (fun v9 e9 => ?_)
  have n9 : v9 = nI (320 * (dp - 1)) := by rw [e9]; exact gx_mul (rfl : (320 : Int32) = nI 320) (rfl : (nI (dp - 1)) = (nI (dp - 1)))
  subst n9
  refine lv_iconst (v := 4) hx hb dM_base_10 (by decide) ?_
  refine lv_iload_n hx hb dM_base_11 rfl (lv_at hl 1 rfl) ?_
  refine lv_imul hx hb dM_base_12 ?_
  refine lv_topi (fun v12 e12 => ?_)
  have n12 : v12 = nI (4 * e) := by rw [e12]; exact gx_mul (rfl : (4 : Int32) = nI 4) (rfl : (nI e) = (nI e))
  subst n12
  refine lv_iadd hx hb dM_base_13 ?_
  refine lv_topi (fun v13 e13 => ?_)
  have n13 : v13 = nI ((320 * (dp - 1)) + (4 * e)) := by rw [e13]; exact gx_add (rfl : (nI (320 * (dp - 1))) = (nI (320 * (dp - 1)))) (rfl : (nI (4 * e)) = (nI (4 * e)))
  subst n13
  exact W.iret (v := (nI ((320 * (dp - 1)) + (4 * e)))) hx hb hr (fun t9 ht9 hW => ⟨⟨(nI ((320 * (dp - 1)) + (4 * e))), _, rfl, ⟨rfl, rfl⟩, by rw [ht9]; exact hP, hD⟩, hS.F ht9⟩) hS.2.2 dM_base_14

set_option maxHeartbeats 4000000 in
set_option maxRecDepth 100000 in
theorem c_M_slot (l : Launch) (D : va_G) (cI cJ cB cZ : ClassId) (mo : Nat) (mq : Nat → Nat) (n F dp : Nat) (e : Nat) (hd : 1 ≤ dp) : ct_I l y_M_slot w_M_slot ({ frames := 0, cells := 0, slots := 0, locals := 0 }) D (gk_T cI cJ cB cZ) [.ref mo, .int (nI e)] [(mo, .inr (6, [.ref (mq 0), .ref (mq 1), .ref (mq 2), .ref (mq 3), .int (nI n), .ref (mq 5), .ref (mq 6), .int (nI F), .ref (mq 8), .ref (mq 9), .ref (mq 10), .ref (mq 11), .ref (mq 12), .ref (mq 13), .ref (mq 14), .ref (mq 15), .ref (mq 16), .ref (mq 17), .ref (mq 18), .ref (mq 19), .ref (mq 20), .ref (mq 21), .ref (mq 22), .int (nI dp)]))] (0) (0) (fun r w => r = nI (56 * (dp - 1) + 4 * e) ∧ w = [(mo, .inr (6, [.ref (mq 0), .ref (mq 1), .ref (mq 2), .ref (mq 3), .int (nI n), .ref (mq 5), .ref (mq 6), .int (nI F), .ref (mq 8), .ref (mq 9), .ref (mq 10), .ref (mq 11), .ref (mq 12), .ref (mq 13), .ref (mq 14), .ref (mq 15), .ref (mq 16), .ref (mq 17), .ref (mq 18), .ref (mq 19), .ref (mq 20), .ref (mq 21), .ref (mq 22), .int (nI dp)]))]) := by
  intro sz
  refine Met.ofW (cc := b_M_slot) (maxL := 2) (ret := (some .int)) (by decide) rfl ?_
  intro p ev9 s m args below meth c s₁ B9 hml hv
  obtain ⟨rfl, hsz, hP, hK, hN, hD0⟩ := hv
  have hx := B9.exec
  have hb := B9.bytes
  have hr := B9.returns
  have hts := atoms_spec (ws := w_M_slot) B9.pre
  have ht : ∀ w ∈ gk_big, w.before _ s = true := fun w h => hts w (List.mem_cons_of_mem _ h)
  have hown : s.vm.findClass R_M = some m.cls := findClass_of_methodNamed B9.named
  have hlocks := B9.notSynchronized
  subst hsz
  have hD := hD0.self (sz := s.heap.size)
  generalize hAe : va_A [(mo, .inr (6, [.ref (mq 0), .ref (mq 1), .ref (mq 2), .ref (mq 3), .int (nI n), .ref (mq 5), .ref (mq 6), .int (nI F), .ref (mq 8), .ref (mq 9), .ref (mq 10), .ref (mq 11), .ref (mq 12), .ref (mq 13), .ref (mq 14), .ref (mq 15), .ref (mq 16), .ref (mq 17), .ref (mq 18), .ref (mq 19), .ref (mq 20), .ref (mq 21), .ref (mq 22), .int (nI dp)]))] s.heap.size = A at hD ⊢
  have hA : ∀ q : Nat, s.heap.size ≤ q → A q := fun q h => by rw [← hAe]; exact Or.inr h
  generalize hHe : s.heap = H at hP ⊢
  have hS : va_S A s.heap H [] := by rw [← hHe]; exact va_S.rf
  have hP : va_P D vwCl [(mo, .inr (6, [.ref (mq 0), .ref (mq 1), .ref (mq 2), .ref (mq 3), .int (nI n), .ref (mq 5), .ref (mq 6), .int (nI F), .ref (mq 8), .ref (mq 9), .ref (mq 10), .ref (mq 11), .ref (mq 12), .ref (mq 13), .ref (mq 14), .ref (mq 15), .ref (mq 16), .ref (mq 17), .ref (mq 18), .ref (mq 19), .ref (mq 20), .ref (mq 21), .ref (mq 22), .int (nI dp)]))] H := hP
  have hD : va_D A [(mo, .inr (6, [.ref (mq 0), .ref (mq 1), .ref (mq 2), .ref (mq 3), .int (nI n), .ref (mq 5), .ref (mq 6), .int (nI F), .ref (mq 8), .ref (mq 9), .ref (mq 10), .ref (mq 11), .ref (mq 12), .ref (mq 13), .ref (mq 14), .ref (mq 15), .ref (mq 16), .ref (mq 17), .ref (mq 18), .ref (mq 19), .ref (mq 20), .ref (mq 21), .ref (mq 22), .int (nI dp)]))] := hD
  have hl := lv_entry ([.ref mo, .int (nI e)]) (n := 2) (Nat.le_of_ble_eq_true rfl)
  rw [lg_entry_eq]
  generalize (lg_sl ([.ref mo, .int (nI e)]) ++ List.replicate (2 - (lg_sl ([.ref mo, .int (nI e)])).length) Slot.unset).toArray = ls at hl ⊢
  have hl : lv_has ls 2 [(0, .ref mo), (1, .int (nI e))] := hl
  refine lv_bipush (v := 56) hx hb dM_slot_0 (by decide) ?_
  refine lv_aload_n hx hb dM_slot_2 rfl (lv_at hl 0 rfl) ?_
  refine va_get (D := D) (ci := 6) (v := .int (nI dp)) (C := R_M) (T := F_M) (N := 24) hx hb ht i_M hown hK hP 0 rfl rfl 23 (by decide) (ht _ m_477) (fun _ h9 => h9) rfl dM_slot_3 ?_
  refine lv_iconst (v := 1) hx hb dM_slot_6 (by decide) ?_
  refine lv_isub hx hb dM_slot_7 ?_
  refine lv_topi (fun v7 e7 => ?_)
  have n7 : v7 = nI (dp - 1) := by rw [e7]; exact gx_sub (rfl : (nI dp) = (nI dp)) (rfl : (1 : Int32) = nI 1) (by omega)
  subst n7
  refine lv_imul hx hb dM_slot_8 ?_
  refine lv_topi (fun v8 e8 => ?_)
  have n8 : v8 = nI (56 * (dp - 1)) := by rw [e8]; exact gx_mul (rfl : (56 : Int32) = nI 56) (rfl : (nI (dp - 1)) = (nI (dp - 1)))
  subst n8
  refine lv_iconst (v := 4) hx hb dM_slot_9 (by decide) ?_
  refine lv_iload_n hx hb dM_slot_10 rfl (lv_at hl 1 rfl) ?_
  refine lv_imul hx hb dM_slot_11 ?_
  refine lv_topi (fun v11 e11 => ?_)
  have n11 : v11 = nI (4 * e) := by rw [e11]; exact gx_mul (rfl : (4 : Int32) = nI 4) (rfl : (nI e) = (nI e))
  subst n11
  refine lv_iadd hx hb dM_slot_12 ?_
  refine lv_topi (fun v12 e12 => ?_)
  have n12 : v12 = nI ((56 * (dp - 1)) + (4 * e)) := by rw [e12]; exact gx_add (rfl : (nI (56 * (dp - 1))) = (nI (56 * (dp - 1)))) (rfl : (nI (4 * e)) = (nI (4 * e)))
  subst n12
  exact W.iret (v := (nI ((56 * (dp - 1)) + (4 * e)))) hx hb hr (fun t9 ht9 hW => ⟨⟨(nI ((56 * (dp - 1)) + (4 * e))), _, rfl, ⟨rfl, rfl⟩, by rw [ht9]; exact hP, hD⟩, hS.F ht9⟩) hS.2.2 dM_slot_13

