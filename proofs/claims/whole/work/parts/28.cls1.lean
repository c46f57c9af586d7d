noncomputable def gi (p : Prop) (a b : Int32) : Int32 := @ite Int32 p (Classical.propDecidable p) a b
theorem gi_t {p : Prop} {a b : Int32} (h : p) : a = gi p a b := by unfold gi; rw [if_pos h]
theorem gi_f {p : Prop} {a b : Int32} (h : ¬ p) : b = gi p a b := by unfold gi; rw [if_neg h]
theorem gb_0 {p : Prop} (h : ¬ gb p = 0) : p := by
  by_cases hp : p
  · exact hp
  · exact absurd (gb_1.mpr hp) h
def mk (F : Nat) (x : Int32) : Prop := 0 ≤ x ∧ x < nI F
theorem mk_nat {F : Nat} {x : Int32} (hF : F < 2 ^ 31) (h : mk F x) : ∃ j, j < F ∧ x = nI j := by
  obtain ⟨j, hj, rfl⟩ := nI_of (Int32.not_lt.mpr h.1)
  exact ⟨j, (nI_ltI hj hF).mp h.2, rfl⟩
theorem mk_of {F j : Nat} (hF : F < 2 ^ 31) (h : j < F) : mk F (nI j) := ⟨nI_pos' (by omega), nI_lt h hF⟩
def own (F : Nat) (od : Nat → Nat) (x : Int32) : Prop := mk F x ∧ od (cn x) = 0
set_option maxHeartbeats 4000000 in
set_option maxRecDepth 100000 in
theorem c_C_isMade (l : Launch) (D : va_G) (cI cJ cB cZ : ClassId) (h g ko : Nat) (hq : Nat → Nat) (F : Nat) (x : Int32)  : ct_I l y_C_isMade w_C_isMade ({ frames := 1, cells := 0, slots := 0, locals := 21 }) D (gk_T cI cJ cB cZ) [.ref h, .int x] [(h, .inr (5, [.ref g, .ref ko, .ref (hq 0), .ref (hq 1), .ref (hq 2), .ref (hq 3), .int (nI F)]))] (0) (0) (fun r w => r = gb (mk F x) ∧ w = [(h, .inr (5, [.ref g, .ref ko, .ref (hq 0), .ref (hq 1), .ref (hq 2), .ref (hq 3), .int (nI F)]))]) := by
  intro sz
  refine Met.ofW (cc := b_C_isMade) (maxL := 2) (ret := (some .boolean)) (by decide) rfl ?_
  intro p ev9 s m args below meth c s₁ B9 hml hv
  obtain ⟨rfl, hsz, hP, hK, hN, hD0⟩ := hv
  have hx := B9.exec
  have hb := B9.bytes
  have hr := B9.returns
  have hts := atoms_spec (ws := w_C_isMade) B9.pre
  have ht : ∀ w ∈ gk_big, w.before _ s = true := fun w h => hts w (List.mem_cons_of_mem _ h)
  have hown : s.vm.findClass R_C = some m.cls := findClass_of_methodNamed B9.named
  have hlocks := B9.notSynchronized
  subst hsz
  have hD := hD0.self (sz := s.heap.size)
  generalize hAe : va_A [(h, .inr (5, [.ref g, .ref ko, .ref (hq 0), .ref (hq 1), .ref (hq 2), .ref (hq 3), .int (nI F)]))] s.heap.size = A at hD ⊢
  have hA : ∀ q : Nat, s.heap.size ≤ q → A q := fun q h => by rw [← hAe]; exact Or.inr h
  generalize hHe : s.heap = H at hP ⊢
  have hS : va_S A s.heap H [] := by rw [← hHe]; exact va_S.rf
  have hP : va_P D vwCl [(h, .inr (5, [.ref g, .ref ko, .ref (hq 0), .ref (hq 1), .ref (hq 2), .ref (hq 3), .int (nI F)]))] H := hP
  have hD : va_D A [(h, .inr (5, [.ref g, .ref ko, .ref (hq 0), .ref (hq 1), .ref (hq 2), .ref (hq 3), .int (nI F)]))] := hD
  have hl := lv_entry ([.ref h, .int x]) (n := 2) (Nat.le_of_ble_eq_true rfl)
  rw [lg_entry_eq]
  generalize (lg_sl ([.ref h, .int x]) ++ List.replicate (2 - (lg_sl ([.ref h, .int x])).length) Slot.unset).toArray = ls at hl ⊢
  have hl : lv_has ls 2 [(0, .ref h), (1, .int x)] := hl
  refine lv_iload_n hx hb dC_isMade_0 rfl (lv_at hl 1 rfl) ?_
  refine lv_aload_n hx hb dC_isMade_1 rfl (lv_at hl 0 rfl) ?_
  refine va_get (D := D) (ci := 5) (v := .int (nI F)) (C := R_C) (T := F_C) (N := 7) hx hb ht i_C hown hK hP 0 rfl rfl 6 (by decide) (ht _ m_136) (fun _ h9 => h9) rfl dC_isMade_2 ?_
  refine gc_i (va_runS (As := [.int x, .int (nI F)]) (rest := []) ⟨hx, hb, hml, hown, ht⟩ (c_C_isBelow l D cI cJ cB cZ x (nI F) H.size) (va_cwS 2 ht (gw_S m_177 m_172 m_1 m_173) rfl rfl rfl (by decide +kernel) ⟨Nat.le_of_ble_eq_true rfl, Nat.le_of_ble_eq_true rfl⟩) (gp_S hK hN (hP.sub (ws' := ([] : va_W)) [] rfl) (hD.sub (ws' := ([] : va_W)) [] (by decide) rfl)) rfl rfl hl.1 rfl (lv_room (Nat.le_of_ble_eq_true rfl)) dC_isMade_5 ⟨Nat.le_of_ble_eq_true rfl, Nat.le_of_ble_eq_true rfl⟩) hP hD hS hA [] rfl (by decide) (fun r w h => by obtain ⟨_, rfl⟩ := h; rfl) (fun r5 w5 H locs p5 hP hD hS => ?_)
  obtain ⟨rfl, rfl⟩ := p5
  have hP : va_P D vwCl [(h, .inr (5, [.ref g, .ref ko, .ref (hq 0), .ref (hq 1), .ref (hq 2), .ref (hq 3), .int (nI F)]))] H := hP
  have hD : va_D A [(h, .inr (5, [.ref g, .ref ko, .ref (hq 0), .ref (hq 1), .ref (hq 2), .ref (hq 3), .int (nI F)]))] := hD
  exact W.zret (v := (gb (0 ≤ x ∧ x < (nI F)))) hx hb hr (by exact gb_n) (fun t9 ht9 hW => ⟨⟨(gb (0 ≤ x ∧ x < (nI F))), _, rfl, ⟨rfl, rfl⟩, by rw [ht9]; exact hP, hD⟩, hS.F ht9⟩) hS.2.2 dC_isMade_8

set_option maxHeartbeats 4000000 in
set_option maxRecDepth 100000 in
theorem c_C_isOwn (l : Launch) (D : va_G) (cI cJ cB cZ : ClassId) (h g ko : Nat) (hq : Nat → Nat) (F : Nat) (od : Nat → Nat) (x : Int32) (hF : F ≤ 8) (hod : ∀ i, od i ≤ 2) : ct_I l y_C_isOwn w_C_isOwn ({ frames := 2, cells := 0, slots := 0, locals := 42 }) D (gk_T cI cJ cB cZ) [.ref h, .int x] [(h, .inr (5, [.ref g, .ref ko, .ref (hq 0), .ref (hq 1), .ref (hq 2), .ref (hq 3), .int (nI F)])), ((hq 3), .inl (cI, 8, .inl (fun z9 => nI (od z9))))] (0) (0) (fun r w => r = gb (own F od x) ∧ w = [(h, .inr (5, [.ref g, .ref ko, .ref (hq 0), .ref (hq 1), .ref (hq 2), .ref (hq 3), .int (nI F)])), ((hq 3), .inl (cI, 8, .inl (fun z9 => nI (od z9))))]) := by
  intro sz
  refine Met.ofW (cc := b_C_isOwn) (maxL := 2) (ret := (some .boolean)) (by decide) rfl ?_
  intro p ev9 s m args below meth c s₁ B9 hml hv
  obtain ⟨rfl, hsz, hP, hK, hN, hD0⟩ := hv
  have hx := B9.exec
  have hb := B9.bytes
  have hr := B9.returns
  have hts := atoms_spec (ws := w_C_isOwn) B9.pre
  have ht : ∀ w ∈ gk_big, w.before _ s = true := fun w h => hts w (List.mem_cons_of_mem _ h)
  have hown : s.vm.findClass R_C = some m.cls := findClass_of_methodNamed B9.named
  have hlocks := B9.notSynchronized
  subst hsz
  have hD := hD0.self (sz := s.heap.size)
  generalize hAe : va_A [(h, .inr (5, [.ref g, .ref ko, .ref (hq 0), .ref (hq 1), .ref (hq 2), .ref (hq 3), .int (nI F)])), ((hq 3), .inl (cI, 8, .inl (fun z9 => nI (od z9))))] s.heap.size = A at hD ⊢
  have hA : ∀ q : Nat, s.heap.size ≤ q → A q := fun q h => by rw [← hAe]; exact Or.inr h
  generalize hHe : s.heap = H at hP ⊢
  have hS : va_S A s.heap H [] := by rw [← hHe]; exact va_S.rf
  have hP : va_P D vwCl [(h, .inr (5, [.ref g, .ref ko, .ref (hq 0), .ref (hq 1), .ref (hq 2), .ref (hq 3), .int (nI F)])), ((hq 3), .inl (cI, 8, .inl (fun z9 => nI (od z9))))] H := hP
  have hD : va_D A [(h, .inr (5, [.ref g, .ref ko, .ref (hq 0), .ref (hq 1), .ref (hq 2), .ref (hq 3), .int (nI F)])), ((hq 3), .inl (cI, 8, .inl (fun z9 => nI (od z9))))] := hD
  have hl := lv_entry ([.ref h, .int x]) (n := 2) (Nat.le_of_ble_eq_true rfl)
  rw [lg_entry_eq]
  generalize (lg_sl ([.ref h, .int x]) ++ List.replicate (2 - (lg_sl ([.ref h, .int x])).length) Slot.unset).toArray = ls at hl ⊢
  have hl : lv_has ls 2 [(0, .ref h), (1, .int x)] := hl
  refine lv_aload_n hx hb dC_isOwn_0 rfl (lv_at hl 0 rfl) ?_
  refine lv_iload_n hx hb dC_isOwn_1 rfl (lv_at hl 1 rfl) ?_
  refine gc_i (va_runV (As := [.int x]) (rest := []) ⟨hx, hb, hml, hown, ht⟩ (c_C_isMade l D cI cJ cB cZ h g ko hq F x H.size) (cwV 1 ht (gw_V m_182 m_184 ms_2 m_1 m_185) rfl rfl rfl (by decide +kernel) ⟨Nat.le_of_ble_eq_true rfl, Nat.le_of_ble_eq_true rfl⟩) (gp_V (ci := 5) (q0 := 0) hK hN (hP.sub (ws' := [(h, .inr (5, [.ref g, .ref ko, .ref (hq 0), .ref (hq 1), .ref (hq 2), .ref (hq 3), .int (nI F)]))]) [0] rfl) (hD.sub (ws' := [(h, .inr (5, [.ref g, .ref ko, .ref (hq 0), .ref (hq 1), .ref (hq 2), .ref (hq 3), .int (nI F)]))]) [0] (by decide) rfl) rfl rfl) rfl rfl hl.1 rfl (lv_room (Nat.le_of_ble_eq_true rfl)) dC_isOwn_2 ⟨Nat.le_of_ble_eq_true rfl, Nat.le_of_ble_eq_true rfl⟩) hP hD hS hA [0] rfl (by decide) (fun r w h => by obtain ⟨_, rfl⟩ := h; rfl) (fun r2 w2 H locs p2 hP hD hS => ?_)
  obtain ⟨rfl, rfl⟩ := p2
  have hP : va_P D vwCl [(h, .inr (5, [.ref g, .ref ko, .ref (hq 0), .ref (hq 1), .ref (hq 2), .ref (hq 3), .int (nI F)])), ((hq 3), .inl (cI, 8, .inl (fun z9 => nI (od z9))))] H := hP
  have hD : va_D A [(h, .inr (5, [.ref g, .ref ko, .ref (hq 0), .ref (hq 1), .ref (hq 2), .ref (hq 3), .int (nI F)])), ((hq 3), .inl (cI, 8, .inl (fun z9 => nI (od z9))))] := hD
  refine lv_if_eq (tgt := 21) hx hb dC_isOwn_5 (by decide) (fun c5 => ?_) (fun c5 => ?_)
  · refine lv_iconst (v := 0) hx hb dC_isOwn_21 (by decide) ?_
    exact W.zret (v := 0) hx hb hr (by decide) (fun t9 ht9 hW => ⟨⟨0, _, rfl, ⟨gb_f (fun z => gb_1.mp c5 z.1), rfl⟩, by rw [ht9]; exact hP, hD⟩, hS.F ht9⟩) hS.2.2 dC_isOwn_22
  · have hm := gb_0 c5
    obtain ⟨j, hj, rfl⟩ := mk_nat (F := F) (by omega) (gb_0 c5)
    have hj2 := hod j
    have hcj : cn (nI j) = j := cn_nI (by omega)
    refine lv_aload_n hx hb dC_isOwn_8 rfl (lv_at hl 0 rfl) ?_
    refine va_get (D := D) (ci := 5) (v := .ref (hq 3)) (C := R_C) (T := F_C) (N := 7) hx hb ht i_C hown hK hP 0 rfl rfl 5 (by decide) (ht _ m_135) (fun _ h9 => h9) rfl dC_isOwn_9 ?_
    refine lv_iload_n hx hb dC_isOwn_12 rfl (lv_at hl 1 rfl) ?_
    have i13 : vp_in (nI j) 8 := gx_in (rfl : (nI j) = (nI j)) (by omega) (by decide)
    have k13 : ((nI j) : Int32).toNatClampNeg = j := gx_cl (rfl : (nI j) = (nI j)) (by omega)
    refine va_iald hx hb hK hP 1 0 rfl rfl i13 dC_isOwn_13 ?_
    rw [k13]
    refine lv_topi (fun v13 e13 => ?_)
    have n13 : v13 = nI (od j) := e13
    subst n13
    refine lv_if_ne (tgt := 21) hx hb dC_isOwn_14 (by decide) (fun c14 => ?_) (fun c14 => ?_)
    · have g14 : ¬ ((od j) = 0) := fun z => c14 ((gx_eq (rfl : (nI (od j)) = (nI (od j))) (rfl : (0 : Int32) = nI 0) (by omega) (by decide)).mpr z)
      refine lv_iconst (v := 0) hx hb dC_isOwn_21 (by decide) ?_
      exact W.zret (v := 0) hx hb hr (by decide) (fun t9 ht9 hW => ⟨⟨0, _, rfl, ⟨gb_f (fun z => g14 (by rw [← hcj]; exact z.2)), rfl⟩, by rw [ht9]; exact hP, hD⟩, hS.F ht9⟩) hS.2.2 dC_isOwn_22
    · have g14 : (od j) = 0 := (gx_eq (rfl : (nI (od j)) = (nI (od j))) (rfl : (0 : Int32) = nI 0) (by omega) (by decide)).mp c14
      refine lv_iconst (v := 1) hx hb dC_isOwn_17 (by decide) ?_
      refine lv_goto (tgt := 22) hx hb dC_isOwn_18 (by decide) ?_
      exact W.zret (v := 1) hx hb hr (by decide) (fun t9 ht9 hW => ⟨⟨1, _, rfl, ⟨gb_t ⟨hm, by rw [hcj]; exact g14⟩, rfl⟩, by rw [ht9]; exact hP, hD⟩, hS.F ht9⟩) hS.2.2 dC_isOwn_22

set_option maxHeartbeats 4000000 in
set_option maxRecDepth 100000 in
theorem c_C_order (l : Launch) (D : va_G) (cI cJ cB cZ : ClassId) (h g ko : Nat) (hq : Nat → Nat) (F : Nat) (od : Nat → Nat) (x : Int32) (hF : F ≤ 8) (hod : ∀ i, od i ≤ 2) : ct_I l y_C_order w_C_order ({ frames := 2, cells := 0, slots := 0, locals := 42 }) D (gk_T cI cJ cB cZ) [.ref h, .int x] [(h, .inr (5, [.ref g, .ref ko, .ref (hq 0), .ref (hq 1), .ref (hq 2), .ref (hq 3), .int (nI F)])), ((hq 3), .inl (cI, 8, .inl (fun z9 => nI (od z9))))] (0) (0) (fun r w => r = gi (mk F x) (nI (od (cn x))) (-1) ∧ w = [(h, .inr (5, [.ref g, .ref ko, .ref (hq 0), .ref (hq 1), .ref (hq 2), .ref (hq 3), .int (nI F)])), ((hq 3), .inl (cI, 8, .inl (fun z9 => nI (od z9))))]) := by
  intro sz
  refine Met.ofW (cc := b_C_order) (maxL := 2) (ret := (some .int)) (by decide) rfl ?_
  intro p ev9 s m args below meth c s₁ B9 hml hv
  obtain ⟨rfl, hsz, hP, hK, hN, hD0⟩ := hv
  have hx := B9.exec
  have hb := B9.bytes
  have hr := B9.returns
  have hts := atoms_spec (ws := w_C_order) B9.pre
  have ht : ∀ w ∈ gk_big, w.before _ s = true := fun w h => hts w (List.mem_cons_of_mem _ h)
  have hown : s.vm.findClass R_C = some m.cls := findClass_of_methodNamed B9.named
  have hlocks := B9.notSynchronized
  subst hsz
  have hD := hD0.self (sz := s.heap.size)
  generalize hAe : va_A [(h, .inr (5, [.ref g, .ref ko, .ref (hq 0), .ref (hq 1), .ref (hq 2), .ref (hq 3), .int (nI F)])), ((hq 3), .inl (cI, 8, .inl (fun z9 => nI (od z9))))] s.heap.size = A at hD ⊢
  have hA : ∀ q : Nat, s.heap.size ≤ q → A q := fun q h => by rw [← hAe]; exact Or.inr h
  generalize hHe : s.heap = H at hP ⊢
  have hS : va_S A s.heap H [] := by rw [← hHe]; exact va_S.rf
  have hP : va_P D vwCl [(h, .inr (5, [.ref g, .ref ko, .ref (hq 0), .ref (hq 1), .ref (hq 2), .ref (hq 3), .int (nI F)])), ((hq 3), .inl (cI, 8, .inl (fun z9 => nI (od z9))))] H := hP
  have hD : va_D A [(h, .inr (5, [.ref g, .ref ko, .ref (hq 0), .ref (hq 1), .ref (hq 2), .ref (hq 3), .int (nI F)])), ((hq 3), .inl (cI, 8, .inl (fun z9 => nI (od z9))))] := hD
  have hl := lv_entry ([.ref h, .int x]) (n := 2) (Nat.le_of_ble_eq_true rfl)
  rw [lg_entry_eq]
  generalize (lg_sl ([.ref h, .int x]) ++ List.replicate (2 - (lg_sl ([.ref h, .int x])).length) Slot.unset).toArray = ls at hl ⊢
  have hl : lv_has ls 2 [(0, .ref h), (1, .int x)] := hl
  refine lv_aload_n hx hb dC_order_0 rfl (lv_at hl 0 rfl) ?_
  refine lv_iload_n hx hb dC_order_1 rfl (lv_at hl 1 rfl) ?_
  refine gc_i (va_runV (As := [.int x]) (rest := []) ⟨hx, hb, hml, hown, ht⟩ (c_C_isMade l D cI cJ cB cZ h g ko hq F x H.size) (cwV 1 ht (gw_V m_182 m_184 ms_2 m_1 m_185) rfl rfl rfl (by decide +kernel) ⟨Nat.le_of_ble_eq_true rfl, Nat.le_of_ble_eq_true rfl⟩) (gp_V (ci := 5) (q0 := 0) hK hN (hP.sub (ws' := [(h, .inr (5, [.ref g, .ref ko, .ref (hq 0), .ref (hq 1), .ref (hq 2), .ref (hq 3), .int (nI F)]))]) [0] rfl) (hD.sub (ws' := [(h, .inr (5, [.ref g, .ref ko, .ref (hq 0), .ref (hq 1), .ref (hq 2), .ref (hq 3), .int (nI F)]))]) [0] (by decide) rfl) rfl rfl) rfl rfl hl.1 rfl (lv_room (Nat.le_of_ble_eq_true rfl)) dC_order_2 ⟨Nat.le_of_ble_eq_true rfl, Nat.le_of_ble_eq_true rfl⟩) hP hD hS hA [0] rfl (by decide) (fun r w h => by obtain ⟨_, rfl⟩ := h; rfl) (fun r2 w2 H locs p2 hP hD hS => ?_)
  obtain ⟨rfl, rfl⟩ := p2
  have hP : va_P D vwCl [(h, .inr (5, [.ref g, .ref ko, .ref (hq 0), .ref (hq 1), .ref (hq 2), .ref (hq 3), .int (nI F)])), ((hq 3), .inl (cI, 8, .inl (fun z9 => nI (od z9))))] H := hP
  have hD : va_D A [(h, .inr (5, [.ref g, .ref ko, .ref (hq 0), .ref (hq 1), .ref (hq 2), .ref (hq 3), .int (nI F)])), ((hq 3), .inl (cI, 8, .inl (fun z9 => nI (od z9))))] := hD
  refine lv_if_eq (tgt := 17) hx hb dC_order_5 (by decide) (fun c5 => ?_) (fun c5 => ?_)
  · refine lv_iconst (v := (-1)) hx hb dC_order_17 (by decide) ?_
    exact W.iret (v := (-1)) hx hb hr (fun t9 ht9 hW => ⟨⟨(-1), _, rfl, ⟨gi_f (gb_1.mp c5), rfl⟩, by rw [ht9]; exact hP, hD⟩, hS.F ht9⟩) hS.2.2 dC_order_18
  · have hm := gb_0 c5
    obtain ⟨j, hj, rfl⟩ := mk_nat (F := F) (by omega) (gb_0 c5)
    have hj2 := hod j
    have hcj : cn (nI j) = j := cn_nI (by omega)
    refine lv_aload_n hx hb dC_order_8 rfl (lv_at hl 0 rfl) ?_
    refine va_get (D := D) (ci := 5) (v := .ref (hq 3)) (C := R_C) (T := F_C) (N := 7) hx hb ht i_C hown hK hP 0 rfl rfl 5 (by decide) (ht _ m_135) (fun _ h9 => h9) rfl dC_order_9 ?_
    refine lv_iload_n hx hb dC_order_12 rfl (lv_at hl 1 rfl) ?_
    have i13 : vp_in (nI j) 8 := gx_in (rfl : (nI j) = (nI j)) (by omega) (by decide)
    have k13 : ((nI j) : Int32).toNatClampNeg = j := gx_cl (rfl : (nI j) = (nI j)) (by omega)
    refine va_iald hx hb hK hP 1 0 rfl rfl i13 dC_order_13 ?_
    rw [k13]
    refine lv_topi (fun v13 e13 => ?_)
    have n13 : v13 = nI (od j) := e13
    subst n13
    refine lv_goto (tgt := 18) hx hb dC_order_14 (by decide) ?_
    exact W.iret (v := (nI (od j))) hx hb hr (fun t9 ht9 hW => ⟨⟨(nI (od j)), _, rfl, ⟨by rw [← gi_t hm, hcj], rfl⟩, by rw [ht9]; exact hP, hD⟩, hS.F ht9⟩) hS.2.2 dC_order_18

set_option maxHeartbeats 4000000 in
set_option maxRecDepth 100000 in
theorem c_C_cost (l : Launch) (D : va_G) (cI cJ cB cZ : ClassId) (h g ko : Nat) (hq : Nat → Nat) (F : Nat) (od : Nat → Nat) (kq : Nat → Nat) (C : Cs) (x : Int32) (hF : F ≤ 8) (hod : ∀ i, od i ≤ 2) : ct_I l y_C_cost w_C_cost ({ frames := 3, cells := 0, slots := 0, locals := 63 }) D (gk_T cI cJ cB cZ) [.ref h, .int x] [(h, .inr (5, [.ref g, .ref ko, .ref (hq 0), .ref (hq 1), .ref (hq 2), .ref (hq 3), .int (nI F)])), ((hq 3), .inl (cI, 8, .inl (fun z9 => nI (od z9)))), (ko, .inr (1, [.ref (kq 0), .ref (kq 1), .ref (kq 2), .ref (kq 3), .ref (kq 4)])), ((kq 3), .inl (cI, 8, .inl (fun z9 => nI (C.2.2.2.1 z9))))] (0) (0) (fun r w => r = gi (own F od x) (nI (C.2.2.2.1 (cn x))) (-1) ∧ w = [(h, .inr (5, [.ref g, .ref ko, .ref (hq 0), .ref (hq 1), .ref (hq 2), .ref (hq 3), .int (nI F)])), ((hq 3), .inl (cI, 8, .inl (fun z9 => nI (od z9)))), (ko, .inr (1, [.ref (kq 0), .ref (kq 1), .ref (kq 2), .ref (kq 3), .ref (kq 4)])), ((kq 3), .inl (cI, 8, .inl (fun z9 => nI (C.2.2.2.1 z9))))]) := by
  intro sz
  refine Met.ofW (cc := b_C_cost) (maxL := 2) (ret := (some .int)) (by decide) rfl ?_
  intro p ev9 s m args below meth c s₁ B9 hml hv
  obtain ⟨rfl, hsz, hP, hK, hN, hD0⟩ := hv
  have hx := B9.exec
  have hb := B9.bytes
  have hr := B9.returns
  have hts := atoms_spec (ws := w_C_cost) B9.pre
  have ht : ∀ w ∈ gk_big, w.before _ s = true := fun w h => hts w (List.mem_cons_of_mem _ h)
  have hown : s.vm.findClass R_C = some m.cls := findClass_of_methodNamed B9.named
  have hlocks := B9.notSynchronized
  subst hsz
  have hD := hD0.self (sz := s.heap.size)
  generalize hAe : va_A [(h, .inr (5, [.ref g, .ref ko, .ref (hq 0), .ref (hq 1), .ref (hq 2), .ref (hq 3), .int (nI F)])), ((hq 3), .inl (cI, 8, .inl (fun z9 => nI (od z9)))), (ko, .inr (1, [.ref (kq 0), .ref (kq 1), .ref (kq 2), .ref (kq 3), .ref (kq 4)])), ((kq 3), .inl (cI, 8, .inl (fun z9 => nI (C.2.2.2.1 z9))))] s.heap.size = A at hD ⊢
  have hA : ∀ q : Nat, s.heap.size ≤ q → A q := fun q h => by rw [← hAe]; exact Or.inr h
  generalize hHe : s.heap = H at hP ⊢
  have hS : va_S A s.heap H [] := by rw [← hHe]; exact va_S.rf
  have hP : va_P D vwCl [(h, .inr (5, [.ref g, .ref ko, .ref (hq 0), .ref (hq 1), .ref (hq 2), .ref (hq 3), .int (nI F)])), ((hq 3), .inl (cI, 8, .inl (fun z9 => nI (od z9)))), (ko, .inr (1, [.ref (kq 0), .ref (kq 1), .ref (kq 2), .ref (kq 3), .ref (kq 4)])), ((kq 3), .inl (cI, 8, .inl (fun z9 => nI (C.2.2.2.1 z9))))] H := hP
  have hD : va_D A [(h, .inr (5, [.ref g, .ref ko, .ref (hq 0), .ref (hq 1), .ref (hq 2), .ref (hq 3), .int (nI F)])), ((hq 3), .inl (cI, 8, .inl (fun z9 => nI (od z9)))), (ko, .inr (1, [.ref (kq 0), .ref (kq 1), .ref (kq 2), .ref (kq 3), .ref (kq 4)])), ((kq 3), .inl (cI, 8, .inl (fun z9 => nI (C.2.2.2.1 z9))))] := hD
  have hl := lv_entry ([.ref h, .int x]) (n := 2) (Nat.le_of_ble_eq_true rfl)
  rw [lg_entry_eq]
  generalize (lg_sl ([.ref h, .int x]) ++ List.replicate (2 - (lg_sl ([.ref h, .int x])).length) Slot.unset).toArray = ls at hl ⊢
  have hl : lv_has ls 2 [(0, .ref h), (1, .int x)] := hl
  refine lv_aload_n hx hb dC_cost_0 rfl (lv_at hl 0 rfl) ?_
  refine lv_iload_n hx hb dC_cost_1 rfl (lv_at hl 1 rfl) ?_
  refine gc_i (va_runV (As := [.int x]) (rest := []) ⟨hx, hb, hml, hown, ht⟩ (c_C_isOwn l D cI cJ cB cZ h g ko hq F od x hF hod H.size) (cwV 1 ht (gw_V m_178 m_180 ms_1 m_1 m_181) rfl rfl rfl (by decide +kernel) ⟨Nat.le_of_ble_eq_true rfl, Nat.le_of_ble_eq_true rfl⟩) (gp_V (ci := 5) (q0 := 0) hK hN (hP.sub (ws' := [(h, .inr (5, [.ref g, .ref ko, .ref (hq 0), .ref (hq 1), .ref (hq 2), .ref (hq 3), .int (nI F)])), ((hq 3), .inl (cI, 8, .inl (fun z9 => nI (od z9))))]) [0, 1] rfl) (hD.sub (ws' := [(h, .inr (5, [.ref g, .ref ko, .ref (hq 0), .ref (hq 1), .ref (hq 2), .ref (hq 3), .int (nI F)])), ((hq 3), .inl (cI, 8, .inl (fun z9 => nI (od z9))))]) [0, 1] (by decide) rfl) rfl rfl) rfl rfl hl.1 rfl (lv_room (Nat.le_of_ble_eq_true rfl)) dC_cost_2 ⟨Nat.le_of_ble_eq_true rfl, Nat.le_of_ble_eq_true rfl⟩) hP hD hS hA [0, 1] rfl (by decide) (fun r w h => by obtain ⟨_, rfl⟩ := h; rfl) (fun r2 w2 H locs p2 hP hD hS => ?_)
  obtain ⟨rfl, rfl⟩ := p2
  have hP : va_P D vwCl [(h, .inr (5, [.ref g, .ref ko, .ref (hq 0), .ref (hq 1), .ref (hq 2), .ref (hq 3), .int (nI F)])), ((hq 3), .inl (cI, 8, .inl (fun z9 => nI (od z9)))), (ko, .inr (1, [.ref (kq 0), .ref (kq 1), .ref (kq 2), .ref (kq 3), .ref (kq 4)])), ((kq 3), .inl (cI, 8, .inl (fun z9 => nI (C.2.2.2.1 z9))))] H := hP
  have hD : va_D A [(h, .inr (5, [.ref g, .ref ko, .ref (hq 0), .ref (hq 1), .ref (hq 2), .ref (hq 3), .int (nI F)])), ((hq 3), .inl (cI, 8, .inl (fun z9 => nI (od z9)))), (ko, .inr (1, [.ref (kq 0), .ref (kq 1), .ref (kq 2), .ref (kq 3), .ref (kq 4)])), ((kq 3), .inl (cI, 8, .inl (fun z9 => nI (C.2.2.2.1 z9))))] := hD
  refine lv_if_eq (tgt := 20) hx hb dC_cost_5 (by decide) (fun c5 => ?_) (fun c5 => ?_)
  · refine lv_iconst (v := (-1)) hx hb dC_cost_20 (by decide) ?_
    exact W.iret (v := (-1)) hx hb hr (fun t9 ht9 hW => ⟨⟨(-1), _, rfl, ⟨gi_f (gb_1.mp c5), rfl⟩, by rw [ht9]; exact hP, hD⟩, hS.F ht9⟩) hS.2.2 dC_cost_21
  · have hm := gb_0 c5
    obtain ⟨j, hj, rfl⟩ := mk_nat (F := F) (by omega) ((gb_0 c5).1)
    have hcj : cn (nI j) = j := cn_nI (by omega)
    refine lv_aload_n hx hb dC_cost_8 rfl (lv_at hl 0 rfl) ?_
    refine va_get (D := D) (ci := 5) (v := .ref ko) (C := R_C) (T := F_C) (N := 7) hx hb ht i_C hown hK hP 0 rfl rfl 1 (by decide) (ht _ m_131) (fun _ h9 => h9) rfl dC_cost_9 ?_
    refine va_getN (D := D) (ci := 1) (v := .ref (kq 3)) (C := R_K) (T := F_K) (N := 5) hx hb ht i_K hown hK hP 2 rfl rfl 3 (by decide) (va_Nw.use rfl (hN _ mn_15)) (fun _ h9 => h9) rfl dC_cost_12 ?_
    refine lv_iload_n hx hb dC_cost_15 rfl (lv_at hl 1 rfl) ?_
    have i16 : vp_in (nI j) 8 := gx_in (rfl : (nI j) = (nI j)) (by omega) (by decide)
    have k16 : ((nI j) : Int32).toNatClampNeg = j := gx_cl (rfl : (nI j) = (nI j)) (by omega)
    refine va_iald hx hb hK hP 3 0 rfl rfl i16 dC_cost_16 ?_
    rw [k16]
    refine lv_topi (fun v16 e16 => ?_)
    have n16 : v16 = nI (C.2.2.2.1 j) := e16
    subst n16
    refine lv_goto (tgt := 21) hx hb dC_cost_17 (by decide) ?_
    exact W.iret (v := (nI (C.2.2.2.1 j))) hx hb hr (fun t9 ht9 hW => ⟨⟨(nI (C.2.2.2.1 j)), _, rfl, ⟨by rw [← gi_t hm, hcj], rfl⟩, by rw [ht9]; exact hP, hD⟩, hS.F ht9⟩) hS.2.2 dC_cost_21

set_option maxHeartbeats 4000000 in
set_option maxRecDepth 100000 in
theorem c_C_calls (l : Launch) (D : va_G) (cI cJ cB cZ : ClassId) (h g ko : Nat) (hq : Nat → Nat) (F : Nat) (ro : Nat → Nat) (kq : Nat → Nat) (C : Cs) (x y : Int32) (hF : F ≤ 8) (hro : ∀ i, ro i < 8) (hcb : ∀ i, C.2.2.1 i < 2 ^ 31) : ct_I l y_C_calls w_C_calls ({ frames := 2, cells := 0, slots := 0, locals := 42 }) D (gk_T cI cJ cB cZ) [.ref h, .int x, .int y] [(h, .inr (5, [.ref g, .ref ko, .ref (hq 0), .ref (hq 1), .ref (hq 2), .ref (hq 3), .int (nI F)])), ((hq 0), .inl (cI, 8, .inl (fun z9 => nI (ro z9)))), (ko, .inr (1, [.ref (kq 0), .ref (kq 1), .ref (kq 2), .ref (kq 3), .ref (kq 4)])), ((kq 0), .inl (cI, 80, .inl (fun z9 => nI (C.1 z9)))), ((kq 1), .inl (cI, 640, .inl (fun z9 => nI (C.2.1 z9)))), ((kq 2), .inl (cI, 64, .inl (fun z9 => nI (C.2.2.1 z9)))), ((kq 3), .inl (cI, 8, .inl (fun z9 => nI (C.2.2.2.1 z9)))), ((kq 4), .inl (cI, 8, .inl (fun z9 => nI (C.2.2.2.2 z9))))] (0) (0) (fun r w => r = gi (mk F x ∧ mk F y) (gb (¬ ro (cn x) = cn y ∧ 0 < C.2.2.1 (ro (cn x) * 8 + cn y))) (-1) ∧ w = [(h, .inr (5, [.ref g, .ref ko, .ref (hq 0), .ref (hq 1), .ref (hq 2), .ref (hq 3), .int (nI F)])), ((hq 0), .inl (cI, 8, .inl (fun z9 => nI (ro z9)))), (ko, .inr (1, [.ref (kq 0), .ref (kq 1), .ref (kq 2), .ref (kq 3), .ref (kq 4)])), ((kq 0), .inl (cI, 80, .inl (fun z9 => nI (C.1 z9)))), ((kq 1), .inl (cI, 640, .inl (fun z9 => nI (C.2.1 z9)))), ((kq 2), .inl (cI, 64, .inl (fun z9 => nI (C.2.2.1 z9)))), ((kq 3), .inl (cI, 8, .inl (fun z9 => nI (C.2.2.2.1 z9)))), ((kq 4), .inl (cI, 8, .inl (fun z9 => nI (C.2.2.2.2 z9))))]) := by
  intro sz
  refine Met.ofW (cc := b_C_calls) (maxL := 3) (ret := (some .int)) (by decide) rfl ?_
  intro p ev9 s m args below meth c s₁ B9 hml hv
  obtain ⟨rfl, hsz, hP, hK, hN, hD0⟩ := hv
  have hx := B9.exec
  have hb := B9.bytes
  have hr := B9.returns
  have hts := atoms_spec (ws := w_C_calls) B9.pre
  have ht : ∀ w ∈ gk_big, w.before _ s = true := fun w h => hts w (List.mem_cons_of_mem _ h)
  have hown : s.vm.findClass R_C = some m.cls := findClass_of_methodNamed B9.named
  have hlocks := B9.notSynchronized
  subst hsz
  have hD := hD0.self (sz := s.heap.size)
  generalize hAe : va_A [(h, .inr (5, [.ref g, .ref ko, .ref (hq 0), .ref (hq 1), .ref (hq 2), .ref (hq 3), .int (nI F)])), ((hq 0), .inl (cI, 8, .inl (fun z9 => nI (ro z9)))), (ko, .inr (1, [.ref (kq 0), .ref (kq 1), .ref (kq 2), .ref (kq 3), .ref (kq 4)])), ((kq 0), .inl (cI, 80, .inl (fun z9 => nI (C.1 z9)))), ((kq 1), .inl (cI, 640, .inl (fun z9 => nI (C.2.1 z9)))), ((kq 2), .inl (cI, 64, .inl (fun z9 => nI (C.2.2.1 z9)))), ((kq 3), .inl (cI, 8, .inl (fun z9 => nI (C.2.2.2.1 z9)))), ((kq 4), .inl (cI, 8, .inl (fun z9 => nI (C.2.2.2.2 z9))))] s.heap.size = A at hD ⊢
  have hA : ∀ q : Nat, s.heap.size ≤ q → A q := fun q h => by rw [← hAe]; exact Or.inr h
  generalize hHe : s.heap = H at hP ⊢
  have hS : va_S A s.heap H [] := by rw [← hHe]; exact va_S.rf
  have hP : va_P D vwCl [(h, .inr (5, [.ref g, .ref ko, .ref (hq 0), .ref (hq 1), .ref (hq 2), .ref (hq 3), .int (nI F)])), ((hq 0), .inl (cI, 8, .inl (fun z9 => nI (ro z9)))), (ko, .inr (1, [.ref (kq 0), .ref (kq 1), .ref (kq 2), .ref (kq 3), .ref (kq 4)])), ((kq 0), .inl (cI, 80, .inl (fun z9 => nI (C.1 z9)))), ((kq 1), .inl (cI, 640, .inl (fun z9 => nI (C.2.1 z9)))), ((kq 2), .inl (cI, 64, .inl (fun z9 => nI (C.2.2.1 z9)))), ((kq 3), .inl (cI, 8, .inl (fun z9 => nI (C.2.2.2.1 z9)))), ((kq 4), .inl (cI, 8, .inl (fun z9 => nI (C.2.2.2.2 z9))))] H := hP
  have hD : va_D A [(h, .inr (5, [.ref g, .ref ko, .ref (hq 0), .ref (hq 1), .ref (hq 2), .ref (hq 3), .int (nI F)])), ((hq 0), .inl (cI, 8, .inl (fun z9 => nI (ro z9)))), (ko, .inr (1, [.ref (kq 0), .ref (kq 1), .ref (kq 2), .ref (kq 3), .ref (kq 4)])), ((kq 0), .inl (cI, 80, .inl (fun z9 => nI (C.1 z9)))), ((kq 1), .inl (cI, 640, .inl (fun z9 => nI (C.2.1 z9)))), ((kq 2), .inl (cI, 64, .inl (fun z9 => nI (C.2.2.1 z9)))), ((kq 3), .inl (cI, 8, .inl (fun z9 => nI (C.2.2.2.1 z9)))), ((kq 4), .inl (cI, 8, .inl (fun z9 => nI (C.2.2.2.2 z9))))] := hD
  have hl := lv_entry ([.ref h, .int x, .int y]) (n := 3) (Nat.le_of_ble_eq_true rfl)
  rw [lg_entry_eq]
  generalize (lg_sl ([.ref h, .int x, .int y]) ++ List.replicate (3 - (lg_sl ([.ref h, .int x, .int y])).length) Slot.unset).toArray = ls at hl ⊢
  have hl : lv_has ls 3 [(0, .ref h), (1, .int x), (2, .int y)] := hl
  refine lv_aload_n hx hb dC_calls_0 rfl (lv_at hl 0 rfl) ?_
  refine lv_iload_n hx hb dC_calls_1 rfl (lv_at hl 1 rfl) ?_
  refine gc_i (va_runV (As := [.int x]) (rest := []) ⟨hx, hb, hml, hown, ht⟩ (c_C_isMade l D cI cJ cB cZ h g ko hq F x H.size) (cwV 1 ht (gw_V m_182 m_184 ms_2 m_1 m_185) rfl rfl rfl (by decide +kernel) ⟨Nat.le_of_ble_eq_true rfl, Nat.le_of_ble_eq_true rfl⟩) (gp_V (ci := 5) (q0 := 0) hK hN (hP.sub (ws' := [(h, .inr (5, [.ref g, .ref ko, .ref (hq 0), .ref (hq 1), .ref (hq 2), .ref (hq 3), .int (nI F)]))]) [0] rfl) (hD.sub (ws' := [(h, .inr (5, [.ref g, .ref ko, .ref (hq 0), .ref (hq 1), .ref (hq 2), .ref (hq 3), .int (nI F)]))]) [0] (by decide) rfl) rfl rfl) rfl rfl hl.1 rfl (lv_room (Nat.le_of_ble_eq_true rfl)) dC_calls_2 ⟨Nat.le_of_ble_eq_true rfl, Nat.le_of_ble_eq_true rfl⟩) hP hD hS hA [0] rfl (by decide) (fun r w h => by obtain ⟨_, rfl⟩ := h; rfl) (fun r2 w2 H locs p2 hP hD hS => ?_)
  obtain ⟨rfl, rfl⟩ := p2
  have hP : va_P D vwCl [(h, .inr (5, [.ref g, .ref ko, .ref (hq 0), .ref (hq 1), .ref (hq 2), .ref (hq 3), .int (nI F)])), ((hq 0), .inl (cI, 8, .inl (fun z9 => nI (ro z9)))), (ko, .inr (1, [.ref (kq 0), .ref (kq 1), .ref (kq 2), .ref (kq 3), .ref (kq 4)])), ((kq 0), .inl (cI, 80, .inl (fun z9 => nI (C.1 z9)))), ((kq 1), .inl (cI, 640, .inl (fun z9 => nI (C.2.1 z9)))), ((kq 2), .inl (cI, 64, .inl (fun z9 => nI (C.2.2.1 z9)))), ((kq 3), .inl (cI, 8, .inl (fun z9 => nI (C.2.2.2.1 z9)))), ((kq 4), .inl (cI, 8, .inl (fun z9 => nI (C.2.2.2.2 z9))))] H := hP
  have hD : va_D A [(h, .inr (5, [.ref g, .ref ko, .ref (hq 0), .ref (hq 1), .ref (hq 2), .ref (hq 3), .int (nI F)])), ((hq 0), .inl (cI, 8, .inl (fun z9 => nI (ro z9)))), (ko, .inr (1, [.ref (kq 0), .ref (kq 1), .ref (kq 2), .ref (kq 3), .ref (kq 4)])), ((kq 0), .inl (cI, 80, .inl (fun z9 => nI (C.1 z9)))), ((kq 1), .inl (cI, 640, .inl (fun z9 => nI (C.2.1 z9)))), ((kq 2), .inl (cI, 64, .inl (fun z9 => nI (C.2.2.1 z9)))), ((kq 3), .inl (cI, 8, .inl (fun z9 => nI (C.2.2.2.1 z9)))), ((kq 4), .inl (cI, 8, .inl (fun z9 => nI (C.2.2.2.2 z9))))] := hD
  refine lv_if_eq (tgt := 16) hx hb dC_calls_5 (by decide) (fun c5 => ?_) (fun c5 => ?_)
  · refine lv_iconst (v := (-1)) hx hb dC_calls_16 (by decide) ?_
    exact W.iret (v := (-1)) hx hb hr (fun t9 ht9 hW => ⟨⟨(-1), _, rfl, ⟨gi_f (fun z => gb_1.mp c5 z.1), rfl⟩, by rw [ht9]; exact hP, hD⟩, hS.F ht9⟩) hS.2.2 dC_calls_17
  · have hm := gb_0 c5
    obtain ⟨j, hj, rfl⟩ := mk_nat (F := F) (by omega) (gb_0 c5)
    have hcj : cn (nI j) = j := cn_nI (by omega)
    have hrj := hro j
    refine lv_aload_n hx hb dC_calls_8 rfl (lv_at hl 0 rfl) ?_
    refine lv_iload_n hx hb dC_calls_9 rfl (lv_at hl 2 rfl) ?_
    refine gc_i (va_runV (As := [.int y]) (rest := []) ⟨hx, hb, hml, hown, ht⟩ (c_C_isMade l D cI cJ cB cZ h g ko hq F y H.size) (cwV 1 ht (gw_V m_182 m_184 ms_2 m_1 m_185) rfl rfl rfl (by decide +kernel) ⟨Nat.le_of_ble_eq_true rfl, Nat.le_of_ble_eq_true rfl⟩) (gp_V (ci := 5) (q0 := 0) hK hN (hP.sub (ws' := [(h, .inr (5, [.ref g, .ref ko, .ref (hq 0), .ref (hq 1), .ref (hq 2), .ref (hq 3), .int (nI F)]))]) [0] rfl) (hD.sub (ws' := [(h, .inr (5, [.ref g, .ref ko, .ref (hq 0), .ref (hq 1), .ref (hq 2), .ref (hq 3), .int (nI F)]))]) [0] (by decide) rfl) rfl rfl) rfl rfl hl.1 rfl (lv_room (Nat.le_of_ble_eq_true rfl)) dC_calls_10 ⟨Nat.le_of_ble_eq_true rfl, Nat.le_of_ble_eq_true rfl⟩) hP hD hS hA [0] rfl (by decide) (fun r w h => by obtain ⟨_, rfl⟩ := h; rfl) (fun r10 w10 H locs p10 hP hD hS => ?_)
    obtain ⟨rfl, rfl⟩ := p10
    have hP : va_P D vwCl [(h, .inr (5, [.ref g, .ref ko, .ref (hq 0), .ref (hq 1), .ref (hq 2), .ref (hq 3), .int (nI F)])), ((hq 0), .inl (cI, 8, .inl (fun z9 => nI (ro z9)))), (ko, .inr (1, [.ref (kq 0), .ref (kq 1), .ref (kq 2), .ref (kq 3), .ref (kq 4)])), ((kq 0), .inl (cI, 80, .inl (fun z9 => nI (C.1 z9)))), ((kq 1), .inl (cI, 640, .inl (fun z9 => nI (C.2.1 z9)))), ((kq 2), .inl (cI, 64, .inl (fun z9 => nI (C.2.2.1 z9)))), ((kq 3), .inl (cI, 8, .inl (fun z9 => nI (C.2.2.2.1 z9)))), ((kq 4), .inl (cI, 8, .inl (fun z9 => nI (C.2.2.2.2 z9))))] H := hP
    have hD : va_D A [(h, .inr (5, [.ref g, .ref ko, .ref (hq 0), .ref (hq 1), .ref (hq 2), .ref (hq 3), .int (nI F)])), ((hq 0), .inl (cI, 8, .inl (fun z9 => nI (ro z9)))), (ko, .inr (1, [.ref (kq 0), .ref (kq 1), .ref (kq 2), .ref (kq 3), .ref (kq 4)])), ((kq 0), .inl (cI, 80, .inl (fun z9 => nI (C.1 z9)))), ((kq 1), .inl (cI, 640, .inl (fun z9 => nI (C.2.1 z9)))), ((kq 2), .inl (cI, 64, .inl (fun z9 => nI (C.2.2.1 z9)))), ((kq 3), .inl (cI, 8, .inl (fun z9 => nI (C.2.2.2.1 z9)))), ((kq 4), .inl (cI, 8, .inl (fun z9 => nI (C.2.2.2.2 z9))))] := hD
    refine lv_if_ne (tgt := 18) hx hb dC_calls_13 (by decide) (fun c13 => ?_) (fun c13 => ?_)
    · have hm2 := gb_0 c13
      obtain ⟨i, hi, rfl⟩ := mk_nat (F := F) (by omega) (gb_0 c13)
      have hci : cn (nI i) = i := cn_nI (by omega)
      refine lv_aload_n hx hb dC_calls_18 rfl (lv_at hl 0 rfl) ?_
      refine va_get (D := D) (ci := 5) (v := .ref ko) (C := R_C) (T := F_C) (N := 7) hx hb ht i_C hown hK hP 0 rfl rfl 1 (by decide) (ht _ m_131) (fun _ h9 => h9) rfl dC_calls_19 ?_
      refine lv_aload_n hx hb dC_calls_22 rfl (lv_at hl 0 rfl) ?_
      refine va_get (D := D) (ci := 5) (v := .ref (hq 0)) (C := R_C) (T := F_C) (N := 7) hx hb ht i_C hown hK hP 0 rfl rfl 2 (by decide) (ht _ m_132) (fun _ h9 => h9) rfl dC_calls_23 ?_
      refine lv_iload_n hx hb dC_calls_26 rfl (lv_at hl 1 rfl) ?_
      have i27 : vp_in (nI j) 8 := gx_in (rfl : (nI j) = (nI j)) (by omega) (by decide)
      have k27 : ((nI j) : Int32).toNatClampNeg = j := gx_cl (rfl : (nI j) = (nI j)) (by omega)
      refine va_iald hx hb hK hP 1 0 rfl rfl i27 dC_calls_27 ?_
      rw [k27]
      refine lv_topi (fun v27 e27 => ?_)
      have n27 : v27 = nI (ro j) := e27
      subst n27
      refine lv_iload_n hx hb dC_calls_28 rfl (lv_at hl 2 rfl) ?_
      refine gc_i (va_runV (As := [.int (nI (ro j)), .int (nI i)]) (rest := []) ⟨hx, hb, hml, hown, ht⟩ (c_K_doesCall l D cI cJ cB cZ ko kq C (ro j) i (by omega) (by omega) (hcb _) H.size) (cwV 2 ht (gw_V m_432 m_433 m_434 m_5 m_435) rfl rfl rfl (by decide +kernel) ⟨Nat.le_of_ble_eq_true rfl, Nat.le_of_ble_eq_true rfl⟩) (gp_V (ci := 1) (q0 := 0) hK hN (hP.sub (ws' := (wK cI ko kq C)) [2, 3, 4, 5, 6, 7] rfl) (hD.sub (ws' := (wK cI ko kq C)) [2, 3, 4, 5, 6, 7] (by decide) rfl) rfl rfl) rfl rfl hl.1 rfl (lv_room (Nat.le_of_ble_eq_true rfl)) dC_calls_29 ⟨Nat.le_of_ble_eq_true rfl, Nat.le_of_ble_eq_true rfl⟩) hP hD hS hA [2, 3, 4, 5, 6, 7] rfl (by decide) (fun r w h => by obtain ⟨_, rfl⟩ := h; rfl) (fun r29 w29 H locs p29 hP hD hS => ?_)
      obtain ⟨rfl, rfl⟩ := p29
      have hP : va_P D vwCl [(h, .inr (5, [.ref g, .ref ko, .ref (hq 0), .ref (hq 1), .ref (hq 2), .ref (hq 3), .int (nI F)])), ((hq 0), .inl (cI, 8, .inl (fun z9 => nI (ro z9)))), (ko, .inr (1, [.ref (kq 0), .ref (kq 1), .ref (kq 2), .ref (kq 3), .ref (kq 4)])), ((kq 0), .inl (cI, 80, .inl (fun z9 => nI (C.1 z9)))), ((kq 1), .inl (cI, 640, .inl (fun z9 => nI (C.2.1 z9)))), ((kq 2), .inl (cI, 64, .inl (fun z9 => nI (C.2.2.1 z9)))), ((kq 3), .inl (cI, 8, .inl (fun z9 => nI (C.2.2.2.1 z9)))), ((kq 4), .inl (cI, 8, .inl (fun z9 => nI (C.2.2.2.2 z9))))] H := hP
      have hD : va_D A [(h, .inr (5, [.ref g, .ref ko, .ref (hq 0), .ref (hq 1), .ref (hq 2), .ref (hq 3), .int (nI F)])), ((hq 0), .inl (cI, 8, .inl (fun z9 => nI (ro z9)))), (ko, .inr (1, [.ref (kq 0), .ref (kq 1), .ref (kq 2), .ref (kq 3), .ref (kq 4)])), ((kq 0), .inl (cI, 80, .inl (fun z9 => nI (C.1 z9)))), ((kq 1), .inl (cI, 640, .inl (fun z9 => nI (C.2.1 z9)))), ((kq 2), .inl (cI, 64, .inl (fun z9 => nI (C.2.2.1 z9)))), ((kq 3), .inl (cI, 8, .inl (fun z9 => nI (C.2.2.2.1 z9)))), ((kq 4), .inl (cI, 8, .inl (fun z9 => nI (C.2.2.2.2 z9))))] := hD
      refine lv_if_eq (tgt := 39) hx hb dC_calls_32 (by decide) (fun c32 => ?_) (fun c32 => ?_)
      · refine lv_iconst (v := 0) hx hb dC_calls_39 (by decide) ?_
        exact W.iret (v := 0) hx hb hr (fun t9 ht9 hW => ⟨⟨0, _, rfl, ⟨by rw [← gi_t ⟨hm, hm2⟩, hcj, hci]; exact c32.symm, rfl⟩, by rw [ht9]; exact hP, hD⟩, hS.F ht9⟩) hS.2.2 dC_calls_40
      · refine lv_iconst (v := 1) hx hb dC_calls_35 (by decide) ?_
        refine lv_goto (tgt := 40) hx hb dC_calls_36 (by decide) ?_
        exact W.iret (v := 1) hx hb hr (fun t9 ht9 hW => ⟨⟨1, _, rfl, ⟨by rw [← gi_t ⟨hm, hm2⟩, hcj, hci]; exact gb_t (gb_0 c32), rfl⟩, by rw [ht9]; exact hP, hD⟩, hS.F ht9⟩) hS.2.2 dC_calls_40
    · refine lv_iconst (v := (-1)) hx hb dC_calls_16 (by decide) ?_
      exact W.iret (v := (-1)) hx hb hr (fun t9 ht9 hW => ⟨⟨(-1), _, rfl, ⟨gi_f (fun z => gb_1.mp c13 z.2), rfl⟩, by rw [ht9]; exact hP, hD⟩, hS.F ht9⟩) hS.2.2 dC_calls_17

set_option maxHeartbeats 4000000 in
set_option maxRecDepth 100000 in
theorem c_C_derive (l : Launch) (D : va_G) (cI cJ cB cZ : ClassId) (h g ko : Nat) (hq : Nat → Nat) (F : Nat) (ro so di od : Nat → Nat) (x y : Int32) (hF : F ≤ 8) (hod : ∀ i, od i ≤ 2) : ct_I l y_C_derive w_C_derive ({ frames := 2, cells := 0, slots := 0, locals := 42 }) D (gk_T cI cJ cB cZ) [.ref h, .int x, .int y] [(h, .inr (5, [.ref g, .ref ko, .ref (hq 0), .ref (hq 1), .ref (hq 2), .ref (hq 3), .int (nI F)])), ((hq 0), .inl (cI, 8, .inl (fun z9 => nI (ro z9)))), ((hq 1), .inl (cI, 8, .inl (fun z9 => nI (so z9)))), ((hq 2), .inl (cI, 8, .inl (fun z9 => nI (di z9)))), ((hq 3), .inl (cI, 8, .inl (fun z9 => nI (od z9))))] (0) (0) (fun r w => ((mk F x ∧ mk 2 y ∧ od (cn x) < 2 ∧ F < 8) → r = nI F ∧ w = [(h, .inr (5, [.ref g, .ref ko, .ref (hq 0), .ref (hq 1), .ref (hq 2), .ref (hq 3), .int (nI (F + 1))])), ((hq 0), .inl (cI, 8, .inl (fun z9 => nI ((va_up ro F (ro (cn x))) z9)))), ((hq 1), .inl (cI, 8, .inl (fun z9 => nI ((va_up so F (cn x)) z9)))), ((hq 2), .inl (cI, 8, .inl (fun z9 => nI ((va_up di F (cn y)) z9)))), ((hq 3), .inl (cI, 8, .inl (fun z9 => nI ((va_up od F (od (cn x) + 1)) z9))))]) ∧ (¬ (mk F x ∧ mk 2 y ∧ od (cn x) < 2 ∧ F < 8) → r = -1 ∧ w = [(h, .inr (5, [.ref g, .ref ko, .ref (hq 0), .ref (hq 1), .ref (hq 2), .ref (hq 3), .int (nI F)])), ((hq 0), .inl (cI, 8, .inl (fun z9 => nI (ro z9)))), ((hq 1), .inl (cI, 8, .inl (fun z9 => nI (so z9)))), ((hq 2), .inl (cI, 8, .inl (fun z9 => nI (di z9)))), ((hq 3), .inl (cI, 8, .inl (fun z9 => nI (od z9))))])) := by
  intro sz
  refine Met.ofW (cc := b_C_derive) (maxL := 4) (ret := (some .int)) (by decide) rfl ?_
  intro p ev9 s m args below meth c s₁ B9 hml hv
  obtain ⟨rfl, hsz, hP, hK, hN, hD0⟩ := hv
  have hx := B9.exec
  have hb := B9.bytes
  have hr := B9.returns
  have hts := atoms_spec (ws := w_C_derive) B9.pre
  have ht : ∀ w ∈ gk_big, w.before _ s = true := fun w h => hts w (List.mem_cons_of_mem _ h)
  have hown : s.vm.findClass R_C = some m.cls := findClass_of_methodNamed B9.named
  have hlocks := B9.notSynchronized
  subst hsz
  have hD := hD0.self (sz := s.heap.size)
  generalize hAe : va_A [(h, .inr (5, [.ref g, .ref ko, .ref (hq 0), .ref (hq 1), .ref (hq 2), .ref (hq 3), .int (nI F)])), ((hq 0), .inl (cI, 8, .inl (fun z9 => nI (ro z9)))), ((hq 1), .inl (cI, 8, .inl (fun z9 => nI (so z9)))), ((hq 2), .inl (cI, 8, .inl (fun z9 => nI (di z9)))), ((hq 3), .inl (cI, 8, .inl (fun z9 => nI (od z9))))] s.heap.size = A at hD ⊢
  have hA : ∀ q : Nat, s.heap.size ≤ q → A q := fun q h => by rw [← hAe]; exact Or.inr h
  generalize hHe : s.heap = H at hP ⊢
  have hS : va_S A s.heap H [] := by rw [← hHe]; exact va_S.rf
  have hP : va_P D vwCl [(h, .inr (5, [.ref g, .ref ko, .ref (hq 0), .ref (hq 1), .ref (hq 2), .ref (hq 3), .int (nI F)])), ((hq 0), .inl (cI, 8, .inl (fun z9 => nI (ro z9)))), ((hq 1), .inl (cI, 8, .inl (fun z9 => nI (so z9)))), ((hq 2), .inl (cI, 8, .inl (fun z9 => nI (di z9)))), ((hq 3), .inl (cI, 8, .inl (fun z9 => nI (od z9))))] H := hP
  have hD : va_D A [(h, .inr (5, [.ref g, .ref ko, .ref (hq 0), .ref (hq 1), .ref (hq 2), .ref (hq 3), .int (nI F)])), ((hq 0), .inl (cI, 8, .inl (fun z9 => nI (ro z9)))), ((hq 1), .inl (cI, 8, .inl (fun z9 => nI (so z9)))), ((hq 2), .inl (cI, 8, .inl (fun z9 => nI (di z9)))), ((hq 3), .inl (cI, 8, .inl (fun z9 => nI (od z9))))] := hD
  have hl := lv_entry ([.ref h, .int x, .int y]) (n := 4) (Nat.le_of_ble_eq_true rfl)
  rw [lg_entry_eq]
  generalize (lg_sl ([.ref h, .int x, .int y]) ++ List.replicate (4 - (lg_sl ([.ref h, .int x, .int y])).length) Slot.unset).toArray = ls at hl ⊢
  have hl : lv_has ls 4 [(0, .ref h), (1, .int x), (2, .int y)] := hl
  refine lv_aload_n hx hb dC_derive_0 rfl (lv_at hl 0 rfl) ?_
  refine lv_iload_n hx hb dC_derive_1 rfl (lv_at hl 1 rfl) ?_
  refine gc_i (va_runV (As := [.int x]) (rest := []) ⟨hx, hb, hml, hown, ht⟩ (c_C_isMade l D cI cJ cB cZ h g ko hq F x H.size) (cwV 1 ht (gw_V m_182 m_184 ms_2 m_1 m_185) rfl rfl rfl (by decide +kernel) ⟨Nat.le_of_ble_eq_true rfl, Nat.le_of_ble_eq_true rfl⟩) (gp_V (ci := 5) (q0 := 0) hK hN (hP.sub (ws' := [(h, .inr (5, [.ref g, .ref ko, .ref (hq 0), .ref (hq 1), .ref (hq 2), .ref (hq 3), .int (nI F)]))]) [0] rfl) (hD.sub (ws' := [(h, .inr (5, [.ref g, .ref ko, .ref (hq 0), .ref (hq 1), .ref (hq 2), .ref (hq 3), .int (nI F)]))]) [0] (by decide) rfl) rfl rfl) rfl rfl hl.1 rfl (lv_room (Nat.le_of_ble_eq_true rfl)) dC_derive_2 ⟨Nat.le_of_ble_eq_true rfl, Nat.le_of_ble_eq_true rfl⟩) hP hD hS hA [0] rfl (by decide) (fun r w h => by obtain ⟨_, rfl⟩ := h; rfl) (fun r2 w2 H locs p2 hP hD hS => ?_)
  obtain ⟨rfl, rfl⟩ := p2
  have hP : va_P D vwCl [(h, .inr (5, [.ref g, .ref ko, .ref (hq 0), .ref (hq 1), .ref (hq 2), .ref (hq 3), .int (nI F)])), ((hq 0), .inl (cI, 8, .inl (fun z9 => nI (ro z9)))), ((hq 1), .inl (cI, 8, .inl (fun z9 => nI (so z9)))), ((hq 2), .inl (cI, 8, .inl (fun z9 => nI (di z9)))), ((hq 3), .inl (cI, 8, .inl (fun z9 => nI (od z9))))] H := hP
  have hD : va_D A [(h, .inr (5, [.ref g, .ref ko, .ref (hq 0), .ref (hq 1), .ref (hq 2), .ref (hq 3), .int (nI F)])), ((hq 0), .inl (cI, 8, .inl (fun z9 => nI (ro z9)))), ((hq 1), .inl (cI, 8, .inl (fun z9 => nI (so z9)))), ((hq 2), .inl (cI, 8, .inl (fun z9 => nI (di z9)))), ((hq 3), .inl (cI, 8, .inl (fun z9 => nI (od z9))))] := hD
  refine lv_if_eq (tgt := 16) hx hb dC_derive_5 (by decide) (fun c5 => ?_) (fun c5 => ?_)
  · refine lv_iconst (v := (-1)) hx hb dC_derive_16 (by decide) ?_
    exact W.iret (v := (-1)) hx hb hr (fun t9 ht9 hW => ⟨⟨(-1), _, rfl, ⟨fun z => absurd z (fun z => gb_1.mp c5 z.1), fun _ => ⟨rfl, rfl⟩⟩, by rw [ht9]; exact hP, hD⟩, hS.F ht9⟩) hS.2.2 dC_derive_17
  · have hm := gb_0 c5
    obtain ⟨j, hj, rfl⟩ := mk_nat (F := F) (by omega) (gb_0 c5)
    have hcj : cn (nI j) = j := cn_nI (by omega)
    have hj2 := hod j
    refine lv_iload_n hx hb dC_derive_8 rfl (lv_at hl 2 rfl) ?_
    refine lv_iconst (v := 2) hx hb dC_derive_9 (by decide) ?_
    refine gc_i (va_runS (As := [.int y, .int 2]) (rest := []) ⟨hx, hb, hml, hown, ht⟩ (c_C_isBelow l D cI cJ cB cZ y 2 H.size) (va_cwS 2 ht (gw_S m_177 m_172 m_1 m_173) rfl rfl rfl (by decide +kernel) ⟨Nat.le_of_ble_eq_true rfl, Nat.le_of_ble_eq_true rfl⟩) (gp_S hK hN (hP.sub (ws' := ([] : va_W)) [] rfl) (hD.sub (ws' := ([] : va_W)) [] (by decide) rfl)) rfl rfl hl.1 rfl (lv_room (Nat.le_of_ble_eq_true rfl)) dC_derive_10 ⟨Nat.le_of_ble_eq_true rfl, Nat.le_of_ble_eq_true rfl⟩) hP hD hS hA [] rfl (by decide) (fun r w h => by obtain ⟨_, rfl⟩ := h; rfl) (fun r10 w10 H locs p10 hP hD hS => ?_)
    obtain ⟨rfl, rfl⟩ := p10
    have hP : va_P D vwCl [(h, .inr (5, [.ref g, .ref ko, .ref (hq 0), .ref (hq 1), .ref (hq 2), .ref (hq 3), .int (nI F)])), ((hq 0), .inl (cI, 8, .inl (fun z9 => nI (ro z9)))), ((hq 1), .inl (cI, 8, .inl (fun z9 => nI (so z9)))), ((hq 2), .inl (cI, 8, .inl (fun z9 => nI (di z9)))), ((hq 3), .inl (cI, 8, .inl (fun z9 => nI (od z9))))] H := hP
    have hD : va_D A [(h, .inr (5, [.ref g, .ref ko, .ref (hq 0), .ref (hq 1), .ref (hq 2), .ref (hq 3), .int (nI F)])), ((hq 0), .inl (cI, 8, .inl (fun z9 => nI (ro z9)))), ((hq 1), .inl (cI, 8, .inl (fun z9 => nI (so z9)))), ((hq 2), .inl (cI, 8, .inl (fun z9 => nI (di z9)))), ((hq 3), .inl (cI, 8, .inl (fun z9 => nI (od z9))))] := hD
    refine lv_if_ne (tgt := 18) hx hb dC_derive_13 (by decide) (fun c13 => ?_) (fun c13 => ?_)
    · have hm2 := gb_0 c13
      obtain ⟨i, hi, rfl⟩ := mk_nat (F := 2) (by decide) (gb_0 c13)
      have hci : cn (nI i) = i := cn_nI (by omega)
      refine lv_aload_n hx hb dC_derive_18 rfl (lv_at hl 0 rfl) ?_
      refine va_get (D := D) (ci := 5) (v := .ref (hq 3)) (C := R_C) (T := F_C) (N := 7) hx hb ht i_C hown hK hP 0 rfl rfl 5 (by decide) (ht _ m_135) (fun _ h9 => h9) rfl dC_derive_19 ?_
      refine lv_iload_n hx hb dC_derive_22 rfl (lv_at hl 1 rfl) ?_
      have i23 : vp_in (nI j) 8 := gx_in (rfl : (nI j) = (nI j)) (by omega) (by decide)
      have k23 : ((nI j) : Int32).toNatClampNeg = j := gx_cl (rfl : (nI j) = (nI j)) (by omega)
      refine va_iald hx hb hK hP 4 0 rfl rfl i23 dC_derive_23 ?_
      rw [k23]
      refine lv_topi (fun v23 e23 => ?_)
      have n23 : v23 = nI (od j) := e23
      subst n23
      refine lv_iconst (v := 2) hx hb dC_derive_24 (by decide) ?_
      refine lv_icmp_ge (tgt := 37) hx hb dC_derive_25 (by decide) (fun c25 => ?_) (fun c25 => ?_)
      · have g25 : 2 ≤ (od j) := (gx_le (rfl : (2 : Int32) = nI 2) (rfl : (nI (od j)) = (nI (od j))) (by decide) (by omega)).mp c25
        refine lv_iconst (v := (-1)) hx hb dC_derive_37 (by decide) ?_
        exact W.iret (v := (-1)) hx hb hr (fun t9 ht9 hW => ⟨⟨(-1), _, rfl, ⟨fun z => absurd z (fun z => absurd z.2.2.1 (by rw [hcj]; omega)), fun _ => ⟨rfl, rfl⟩⟩, by rw [ht9]; exact hP, hD⟩, hS.F ht9⟩) hS.2.2 dC_derive_38
      · have g25 : ¬ (2 ≤ (od j)) := fun z => c25 ((gx_le (rfl : (2 : Int32) = nI 2) (rfl : (nI (od j)) = (nI (od j))) (by decide) (by omega)).mpr z)
        refine lv_aload_n hx hb dC_derive_28 rfl (lv_at hl 0 rfl) ?_
        refine va_get (D := D) (ci := 5) (v := .int (nI F)) (C := R_C) (T := F_C) (N := 7) hx hb ht i_C hown hK hP 0 rfl rfl 6 (by decide) (ht _ m_136) (fun _ h9 => h9) rfl dC_derive_29 ?_
        refine lv_bipush (v := 8) hx hb dC_derive_32 (by decide) ?_
        refine lv_icmp_lt (tgt := 39) hx hb dC_derive_34 (by decide) (fun c34 => ?_) (fun c34 => ?_)
        · have g34 : F < 8 := (gx_lt (rfl : (nI F) = (nI F)) (rfl : (8 : Int32) = nI 8) (by omega) (by decide)).mp c34
          refine lv_aload_n hx hb dC_derive_39 rfl (lv_at hl 0 rfl) ?_
          refine va_get (D := D) (ci := 5) (v := .int (nI F)) (C := R_C) (T := F_C) (N := 7) hx hb ht i_C hown hK hP 0 rfl rfl 6 (by decide) (ht _ m_136) (fun _ h9 => h9) rfl dC_derive_40 ?_
          refine lv_istore_n (lv' := [(3, .int (nI F)), (0, .ref h), (1, .int (nI j)), (2, .int (nI i))]) hx hb dC_derive_43 rfl hl (by decide) rfl (fun ls hl => ?_)
          refine lv_aload_n hx hb dC_derive_44 rfl (lv_at hl 1 rfl) ?_
          refine lv_dup hx hb dC_derive_45 rfl ?_
          refine va_get (D := D) (ci := 5) (v := .int (nI F)) (C := R_C) (T := F_C) (N := 7) hx hb ht i_C hown hK hP 0 rfl rfl 6 (by decide) (ht _ m_136) (fun _ h9 => h9) rfl dC_derive_46 ?_
          refine lv_iconst (v := 1) hx hb dC_derive_49 (by decide) ?_
          refine lv_iadd hx hb dC_derive_50 ?_
          refine lv_topi (fun v50 e50 => ?_)
          have n50 : v50 = nI (F + 1) := by rw [e50]; exact gx_add (rfl : (nI F) = (nI F)) (rfl : (1 : Int32) = nI 1)
          subst n50
          refine va_put (D := D) (ci := 5) (v := .int (nI (F + 1))) (ty := .int) (C := R_C) (T := F_C) (N := 7) hx hb ht i_C ft_C ft_C_ok fn_C hown hK hP hD hS 0 rfl rfl 6 (by decide) (ht _ m_136) (fun _ h9 => h9) rfl (by decide +kernel) rfl rfl (Nat.le_of_ble_eq_true rfl) dC_derive_51 (fun H locs hP hD hS => ?_)
          have hP : va_P D vwCl [(h, .inr (5, [.ref g, .ref ko, .ref (hq 0), .ref (hq 1), .ref (hq 2), .ref (hq 3), .int (nI (F + 1))])), ((hq 0), .inl (cI, 8, .inl (fun z9 => nI (ro z9)))), ((hq 1), .inl (cI, 8, .inl (fun z9 => nI (so z9)))), ((hq 2), .inl (cI, 8, .inl (fun z9 => nI (di z9)))), ((hq 3), .inl (cI, 8, .inl (fun z9 => nI (od z9))))] H := hP
          have hD : va_D A [(h, .inr (5, [.ref g, .ref ko, .ref (hq 0), .ref (hq 1), .ref (hq 2), .ref (hq 3), .int (nI (F + 1))])), ((hq 0), .inl (cI, 8, .inl (fun z9 => nI (ro z9)))), ((hq 1), .inl (cI, 8, .inl (fun z9 => nI (so z9)))), ((hq 2), .inl (cI, 8, .inl (fun z9 => nI (di z9)))), ((hq 3), .inl (cI, 8, .inl (fun z9 => nI (od z9))))] := hD
          refine lv_aload_n hx hb dC_derive_54 rfl (lv_at hl 1 rfl) ?_
          refine va_get (D := D) (ci := 5) (v := .ref (hq 0)) (C := R_C) (T := F_C) (N := 7) hx hb ht i_C hown hK hP 0 rfl rfl 2 (by decide) (ht _ m_132) (fun _ h9 => h9) rfl dC_derive_55 ?_
          refine lv_iload_n hx hb dC_derive_58 rfl (lv_at hl 0 rfl) ?_
          refine lv_aload_n hx hb dC_derive_59 rfl (lv_at hl 1 rfl) ?_
          refine va_get (D := D) (ci := 5) (v := .ref (hq 0)) (C := R_C) (T := F_C) (N := 7) hx hb ht i_C hown hK hP 0 rfl rfl 2 (by decide) (ht _ m_132) (fun _ h9 => h9) rfl dC_derive_60 ?_
          refine lv_iload_n hx hb dC_derive_63 rfl (lv_at hl 2 rfl) ?_
          have i64 : vp_in (nI j) 8 := gx_in (rfl : (nI j) = (nI j)) (by omega) (by decide)
          have k64 : ((nI j) : Int32).toNatClampNeg = j := gx_cl (rfl : (nI j) = (nI j)) (by omega)
          refine va_iald hx hb hK hP 1 0 rfl rfl i64 dC_derive_64 ?_
          rw [k64]
          refine lv_topi (fun v64 e64 => ?_)
          have n64 : v64 = nI (ro j) := e64
          subst n64
          have i65 : vp_in (nI F) 8 := gx_in (rfl : (nI F) = (nI F)) (by omega) (by decide)
          have k65 : ((nI F) : Int32).toNatClampNeg = F := gx_cl (rfl : (nI F) = (nI F)) (by omega)
          refine va_iast hx hb hK hP hD hS 1 0 rfl rfl i65 dC_derive_65 (fun H locs hP hD hS => ?_)
          rw [k65] at hP hD
          have hP : va_P D vwCl [(h, .inr (5, [.ref g, .ref ko, .ref (hq 0), .ref (hq 1), .ref (hq 2), .ref (hq 3), .int (nI (F + 1))])), ((hq 0), .inl (cI, 8, .inl (upd (fun z9 => nI (ro z9)) F (nI (ro j))))), ((hq 1), .inl (cI, 8, .inl (fun z9 => nI (so z9)))), ((hq 2), .inl (cI, 8, .inl (fun z9 => nI (di z9)))), ((hq 3), .inl (cI, 8, .inl (fun z9 => nI (od z9))))] H := hP
          have hD : va_D A [(h, .inr (5, [.ref g, .ref ko, .ref (hq 0), .ref (hq 1), .ref (hq 2), .ref (hq 3), .int (nI (F + 1))])), ((hq 0), .inl (cI, 8, .inl (upd (fun z9 => nI (ro z9)) F (nI (ro j))))), ((hq 1), .inl (cI, 8, .inl (fun z9 => nI (so z9)))), ((hq 2), .inl (cI, 8, .inl (fun z9 => nI (di z9)))), ((hq 3), .inl (cI, 8, .inl (fun z9 => nI (od z9))))] := hD
          rw [gx_upd] at hP hD
          refine lv_aload_n hx hb dC_derive_66 rfl (lv_at hl 1 rfl) ?_
          refine va_get (D := D) (ci := 5) (v := .ref (hq 1)) (C := R_C) (T := F_C) (N := 7) hx hb ht i_C hown hK hP 0 rfl rfl 3 (by decide) (ht _ m_133) (fun _ h9 => h9) rfl dC_derive_67 ?_
          refine lv_iload_n hx hb dC_derive_70 rfl (lv_at hl 0 rfl) ?_
          refine lv_iload_n hx hb dC_derive_71 rfl (lv_at hl 2 rfl) ?_
          have i72 : vp_in (nI F) 8 := gx_in (rfl : (nI F) = (nI F)) (by omega) (by decide)
          have k72 : ((nI F) : Int32).toNatClampNeg = F := gx_cl (rfl : (nI F) = (nI F)) (by omega)
          refine va_iast hx hb hK hP hD hS 2 0 rfl rfl i72 dC_derive_72 (fun H locs hP hD hS => ?_)
          rw [k72] at hP hD
          have hP : va_P D vwCl [(h, .inr (5, [.ref g, .ref ko, .ref (hq 0), .ref (hq 1), .ref (hq 2), .ref (hq 3), .int (nI (F + 1))])), ((hq 0), .inl (cI, 8, .inl (fun z9 => nI ((va_up ro F (ro j)) z9)))), ((hq 1), .inl (cI, 8, .inl (upd (fun z9 => nI (so z9)) F (nI j)))), ((hq 2), .inl (cI, 8, .inl (fun z9 => nI (di z9)))), ((hq 3), .inl (cI, 8, .inl (fun z9 => nI (od z9))))] H := hP
          have hD : va_D A [(h, .inr (5, [.ref g, .ref ko, .ref (hq 0), .ref (hq 1), .ref (hq 2), .ref (hq 3), .int (nI (F + 1))])), ((hq 0), .inl (cI, 8, .inl (fun z9 => nI ((va_up ro F (ro j)) z9)))), ((hq 1), .inl (cI, 8, .inl (upd (fun z9 => nI (so z9)) F (nI j)))), ((hq 2), .inl (cI, 8, .inl (fun z9 => nI (di z9)))), ((hq 3), .inl (cI, 8, .inl (fun z9 => nI (od z9))))] := hD
          rw [gx_upd] at hP hD
          refine lv_aload_n hx hb dC_derive_73 rfl (lv_at hl 1 rfl) ?_
          refine va_get (D := D) (ci := 5) (v := .ref (hq 2)) (C := R_C) (T := F_C) (N := 7) hx hb ht i_C hown hK hP 0 rfl rfl 4 (by decide) (ht _ m_134) (fun _ h9 => h9) rfl dC_derive_74 ?_
          refine lv_iload_n hx hb dC_derive_77 rfl (lv_at hl 0 rfl) ?_
          refine lv_iload_n hx hb dC_derive_78 rfl (lv_at hl 3 rfl) ?_
          have i79 : vp_in (nI F) 8 := gx_in (rfl : (nI F) = (nI F)) (by omega) (by decide)
          have k79 : ((nI F) : Int32).toNatClampNeg = F := gx_cl (rfl : (nI F) = (nI F)) (by omega)
          refine va_iast hx hb hK hP hD hS 3 0 rfl rfl i79 dC_derive_79 (fun H locs hP hD hS => ?_)
          rw [k79] at hP hD
          have hP : va_P D vwCl [(h, .inr (5, [.ref g, .ref ko, .ref (hq 0), .ref (hq 1), .ref (hq 2), .ref (hq 3), .int (nI (F + 1))])), ((hq 0), .inl (cI, 8, .inl (fun z9 => nI ((va_up ro F (ro j)) z9)))), ((hq 1), .inl (cI, 8, .inl (fun z9 => nI ((va_up so F j) z9)))), ((hq 2), .inl (cI, 8, .inl (upd (fun z9 => nI (di z9)) F (nI i)))), ((hq 3), .inl (cI, 8, .inl (fun z9 => nI (od z9))))] H := hP
          have hD : va_D A [(h, .inr (5, [.ref g, .ref ko, .ref (hq 0), .ref (hq 1), .ref (hq 2), .ref (hq 3), .int (nI (F + 1))])), ((hq 0), .inl (cI, 8, .inl (fun z9 => nI ((va_up ro F (ro j)) z9)))), ((hq 1), .inl (cI, 8, .inl (fun z9 => nI ((va_up so F j) z9)))), ((hq 2), .inl (cI, 8, .inl (upd (fun z9 => nI (di z9)) F (nI i)))), ((hq 3), .inl (cI, 8, .inl (fun z9 => nI (od z9))))] := hD
          rw [gx_upd] at hP hD
          refine lv_aload_n hx hb dC_derive_80 rfl (lv_at hl 1 rfl) ?_
          refine va_get (D := D) (ci := 5) (v := .ref (hq 3)) (C := R_C) (T := F_C) (N := 7) hx hb ht i_C hown hK hP 0 rfl rfl 5 (by decide) (ht _ m_135) (fun _ h9 => h9) rfl dC_derive_81 ?_
          refine lv_iload_n hx hb dC_derive_84 rfl (lv_at hl 0 rfl) ?_
          refine lv_aload_n hx hb dC_derive_85 rfl (lv_at hl 1 rfl) ?_
          refine va_get (D := D) (ci := 5) (v := .ref (hq 3)) (C := R_C) (T := F_C) (N := 7) hx hb ht i_C hown hK hP 0 rfl rfl 5 (by decide) (ht _ m_135) (fun _ h9 => h9) rfl dC_derive_86 ?_
          refine lv_iload_n hx hb dC_derive_89 rfl (lv_at hl 2 rfl) ?_
          have i90 : vp_in (nI j) 8 := gx_in (rfl : (nI j) = (nI j)) (by omega) (by decide)
          have k90 : ((nI j) : Int32).toNatClampNeg = j := gx_cl (rfl : (nI j) = (nI j)) (by omega)
          refine va_iald hx hb hK hP 4 0 rfl rfl i90 dC_derive_90 ?_
          rw [k90]
          refine lv_topi (fun v90 e90 => ?_)
          have n90 : v90 = nI (od j) := e90
          subst n90
          refine lv_iconst (v := 1) hx hb dC_derive_91 (by decide) ?_
          refine lv_iadd hx hb dC_derive_92 ?_
          refine lv_topi (fun v92 e92 => ?_)
          have n92 : v92 = nI ((od j) + 1) := by rw [e92]; exact gx_add (rfl : (nI (od j)) = (nI (od j))) (rfl : (1 : Int32) = nI 1)
          subst n92
          have i93 : vp_in (nI F) 8 := gx_in (rfl : (nI F) = (nI F)) (by omega) (by decide)
          have k93 : ((nI F) : Int32).toNatClampNeg = F := gx_cl (rfl : (nI F) = (nI F)) (by omega)
          refine va_iast hx hb hK hP hD hS 4 0 rfl rfl i93 dC_derive_93 (fun H locs hP hD hS => ?_)
          rw [k93] at hP hD
          have hP : va_P D vwCl [(h, .inr (5, [.ref g, .ref ko, .ref (hq 0), .ref (hq 1), .ref (hq 2), .ref (hq 3), .int (nI (F + 1))])), ((hq 0), .inl (cI, 8, .inl (fun z9 => nI ((va_up ro F (ro j)) z9)))), ((hq 1), .inl (cI, 8, .inl (fun z9 => nI ((va_up so F j) z9)))), ((hq 2), .inl (cI, 8, .inl (fun z9 => nI ((va_up di F i) z9)))), ((hq 3), .inl (cI, 8, .inl (upd (fun z9 => nI (od z9)) F (nI ((od j) + 1)))))] H := hP
          have hD : va_D A [(h, .inr (5, [.ref g, .ref ko, .ref (hq 0), .ref (hq 1), .ref (hq 2), .ref (hq 3), .int (nI (F + 1))])), ((hq 0), .inl (cI, 8, .inl (fun z9 => nI ((va_up ro F (ro j)) z9)))), ((hq 1), .inl (cI, 8, .inl (fun z9 => nI ((va_up so F j) z9)))), ((hq 2), .inl (cI, 8, .inl (fun z9 => nI ((va_up di F i) z9)))), ((hq 3), .inl (cI, 8, .inl (upd (fun z9 => nI (od z9)) F (nI ((od j) + 1)))))] := hD
          rw [gx_upd] at hP hD
          refine lv_iload_n hx hb dC_derive_94 rfl (lv_at hl 0 rfl) ?_
          exact W.iret (v := (nI F)) hx hb hr (fun t9 ht9 hW => ⟨⟨(nI F), _, rfl, ⟨fun _ => ⟨rfl, by rw [hcj, hci]⟩, fun z => absurd ⟨hm, hm2, by rw [hcj]; omega, g34⟩ z⟩, by rw [ht9]; exact hP, hD⟩, hS.F ht9⟩) hS.2.2 dC_derive_95
        · have g34 : ¬ (F < 8) := fun z => c34 ((gx_lt (rfl : (nI F) = (nI F)) (rfl : (8 : Int32) = nI 8) (by omega) (by decide)).mpr z)
          refine lv_iconst (v := (-1)) hx hb dC_derive_37 (by decide) ?_
          exact W.iret (v := (-1)) hx hb hr (fun t9 ht9 hW => ⟨⟨(-1), _, rfl, ⟨fun z => absurd z (fun z => g34 z.2.2.2), fun _ => ⟨rfl, rfl⟩⟩, by rw [ht9]; exact hP, hD⟩, hS.F ht9⟩) hS.2.2 dC_derive_38
    · refine lv_iconst (v := (-1)) hx hb dC_derive_16 (by decide) ?_
      exact W.iret (v := (-1)) hx hb hr (fun t9 ht9 hW => ⟨⟨(-1), _, rfl, ⟨fun z => absurd z (fun z => gb_1.mp c13 z.2.1), fun _ => ⟨rfl, rfl⟩⟩, by rw [ht9]; exact hP, hD⟩, hS.F ht9⟩) hS.2.2 dC_derive_17

