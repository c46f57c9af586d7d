def bd_close (B : Bd) (i : Nat) : Nat := min (B.2.2.2.1 i) B.2.2.2.2.2.2.1
def bd_end (B : Bd) (i : Nat) : Nat := if bd_close B i < B.2.2.2.2.2.2.1 ∧ B.1 (bd_close B i) = 3 then bd_close B (bd_close B i) else bd_close B i
set_option maxHeartbeats 4000000 in
set_option maxRecDepth 100000 in
theorem c_B_endOfIf (l : Launch) (D : va_G) (cI cJ cB cZ : ClassId) (o : Nat) (q : Nat → Nat) (B : Bd) (i : Nat) (hi : i < 12) (hc : B.2.2.2.1 i ≤ 12) (hc9 : bd_close B i < B.2.2.2.2.2.2.1 → B.1 (bd_close B i) = 3 → B.2.2.2.1 (bd_close B i) ≤ 12) (hs : B.2.2.2.2.2.2.1 ≤ 12) (hkk : ∀ x, B.1 x ≤ 5) : ct_I l y_B_endOfIf w_B_endOfIf ({ frames := 2, cells := 0, slots := 0, locals := 51 }) D (gk_T cI cJ cB cZ) [.ref o, .int (nI i)] (wB cI o q B) (0) (0) (fun r w => r = nI (bd_end B i) ∧ w = wB cI o q B) := by
  intro sz
  refine Met.ofW (cc := b_B_endOfIf) (maxL := 3) (ret := (some .int)) (by decide) rfl ?_
  intro p ev9 s m args below meth c s₁ B9 hml hv
  obtain ⟨rfl, hsz, hP, hK, hN, hD0⟩ := hv
  have hx := B9.exec
  have hb := B9.bytes
  have hr := B9.returns
  have hts := atoms_spec (ws := w_B_endOfIf) B9.pre
  have ht : ∀ w ∈ gk_big, w.before _ s = true := fun w h => hts w (List.mem_cons_of_mem _ h)
  have hown : s.vm.findClass R_B = some m.cls := findClass_of_methodNamed B9.named
  have hlocks := B9.notSynchronized
  subst hsz
  have hD := hD0.self (sz := s.heap.size)
  generalize hAe : va_A (wB cI o q B) s.heap.size = A at hD ⊢
  have hA : ∀ q : Nat, s.heap.size ≤ q → A q := fun q h => by rw [← hAe]; exact Or.inr h
  generalize hHe : s.heap = H at hP ⊢
  have hS : va_S A s.heap H [] := by rw [← hHe]; exact va_S.rf
  have hP : va_P D vwCl [(o, .inr (0, [.ref (q 0), .ref (q 1), .ref (q 2), .ref (q 3), .ref (q 4), .ref (q 5), .int (nI B.2.2.2.2.2.2.1), .int (nI B.2.2.2.2.2.2.2)])), ((q 0), .inl (cI, 12, .inl (fun z9 => nI (B.1 z9)))), ((q 1), .inl (cI, 12, .inl B.2.1)), ((q 2), .inl (cI, 12, .inl B.2.2.1)), ((q 3), .inl (cI, 12, .inl (fun z9 => nI (B.2.2.2.1 z9)))), ((q 4), .inl (cI, 12, .inl (fun z9 => nI (B.2.2.2.2.1 z9)))), ((q 5), .inl (cI, 13, .inl (fun z9 => nI (B.2.2.2.2.2.1 z9))))] H := hP
  have hD : va_D A [(o, .inr (0, [.ref (q 0), .ref (q 1), .ref (q 2), .ref (q 3), .ref (q 4), .ref (q 5), .int (nI B.2.2.2.2.2.2.1), .int (nI B.2.2.2.2.2.2.2)])), ((q 0), .inl (cI, 12, .inl (fun z9 => nI (B.1 z9)))), ((q 1), .inl (cI, 12, .inl B.2.1)), ((q 2), .inl (cI, 12, .inl B.2.2.1)), ((q 3), .inl (cI, 12, .inl (fun z9 => nI (B.2.2.2.1 z9)))), ((q 4), .inl (cI, 12, .inl (fun z9 => nI (B.2.2.2.2.1 z9)))), ((q 5), .inl (cI, 13, .inl (fun z9 => nI (B.2.2.2.2.2.1 z9))))] := hD
  have hl := lv_entry ([.ref o, .int (nI i)]) (n := 3) (Nat.le_of_ble_eq_true rfl)
  rw [lg_entry_eq]
  generalize (lg_sl ([.ref o, .int (nI i)]) ++ List.replicate (3 - (lg_sl ([.ref o, .int (nI i)])).length) Slot.unset).toArray = ls at hl ⊢
  have hl : lv_has ls 3 [(0, .ref o), (1, .int (nI i))] := hl
  refine lv_aload_n hx hb dB_endOfIf_0 rfl (lv_at hl 0 rfl) ?_
  refine lv_iload_n hx hb dB_endOfIf_1 rfl (lv_at hl 1 rfl) ?_
  refine gc_i (va_runV (As := [.int (nI i)]) (rest := []) ⟨hx, hb, hml, hown, ht⟩ (c_B_closeOf l D cI cJ cB cZ o q B i (by omega) hc (by omega) H.size) (cwV 1 ht (gw_V m_392 m_384 m_385 m_8 m_386) rfl rfl rfl (by decide +kernel) ⟨Nat.le_of_ble_eq_true rfl, Nat.le_of_ble_eq_true rfl⟩) (gp_V (ci := 0) (q0 := 0) hK hN (hP.sub (ws' := (wB cI o q B)) [0, 1, 2, 3, 4, 5, 6] rfl) (hD.sub (ws' := (wB cI o q B)) [0, 1, 2, 3, 4, 5, 6] (by decide) rfl) rfl rfl) rfl rfl hl.1 rfl (lv_room (Nat.le_of_ble_eq_true rfl)) dB_endOfIf_2 ⟨Nat.le_of_ble_eq_true rfl, Nat.le_of_ble_eq_true rfl⟩) hP hD hS hA [0, 1, 2, 3, 4, 5, 6] rfl (by decide) (fun r w h => by obtain ⟨_, rfl⟩ := h; rfl) (fun r2 w2 H locs p2 hP hD hS => ?_)
  obtain ⟨rfl, rfl⟩ := p2
  have hP : va_P D vwCl [(o, .inr (0, [.ref (q 0), .ref (q 1), .ref (q 2), .ref (q 3), .ref (q 4), .ref (q 5), .int (nI B.2.2.2.2.2.2.1), .int (nI B.2.2.2.2.2.2.2)])), ((q 0), .inl (cI, 12, .inl (fun z9 => nI (B.1 z9)))), ((q 1), .inl (cI, 12, .inl B.2.1)), ((q 2), .inl (cI, 12, .inl B.2.2.1)), ((q 3), .inl (cI, 12, .inl (fun z9 => nI (B.2.2.2.1 z9)))), ((q 4), .inl (cI, 12, .inl (fun z9 => nI (B.2.2.2.2.1 z9)))), ((q 5), .inl (cI, 13, .inl (fun z9 => nI (B.2.2.2.2.2.1 z9))))] H := hP
  have hD : va_D A [(o, .inr (0, [.ref (q 0), .ref (q 1), .ref (q 2), .ref (q 3), .ref (q 4), .ref (q 5), .int (nI B.2.2.2.2.2.2.1), .int (nI B.2.2.2.2.2.2.2)])), ((q 0), .inl (cI, 12, .inl (fun z9 => nI (B.1 z9)))), ((q 1), .inl (cI, 12, .inl B.2.1)), ((q 2), .inl (cI, 12, .inl B.2.2.1)), ((q 3), .inl (cI, 12, .inl (fun z9 => nI (B.2.2.2.1 z9)))), ((q 4), .inl (cI, 12, .inl (fun z9 => nI (B.2.2.2.2.1 z9)))), ((q 5), .inl (cI, 13, .inl (fun z9 => nI (B.2.2.2.2.2.1 z9))))] := hD
  refine lv_istore_n (lv' := [(2, .int (nI (min (B.2.2.2.1 i) B.2.2.2.2.2.2.1))), (0, .ref o), (1, .int (nI i))]) hx hb dB_endOfIf_5 rfl hl (by decide) rfl (fun ls hl => ?_)
  refine lv_iload_n hx hb dB_endOfIf_6 rfl (lv_at hl 0 rfl) ?_
  refine lv_aload_n hx hb dB_endOfIf_7 rfl (lv_at hl 1 rfl) ?_
  refine va_get (D := D) (ci := 0) (v := .int (nI B.2.2.2.2.2.2.1)) (C := R_B) (T := F_B) (N := 8) hx hb ht i_B hown hK hP 0 rfl rfl 6 (by decide) (ht _ m_224) (fun _ h9 => h9) rfl dB_endOfIf_8 ?_
  refine lv_icmp_ge (tgt := 32) hx hb dB_endOfIf_11 (by decide) (fun c11 => ?_) (fun c11 => ?_)
  · have g11 : B.2.2.2.2.2.2.1 ≤ (min (B.2.2.2.1 i) B.2.2.2.2.2.2.1) := (gx_le (rfl : (nI B.2.2.2.2.2.2.1) = (nI B.2.2.2.2.2.2.1)) (rfl : (nI (min (B.2.2.2.1 i) B.2.2.2.2.2.2.1)) = (nI (min (B.2.2.2.1 i) B.2.2.2.2.2.2.1))) (by omega) (by omega)).mp c11
    refine lv_iload_n hx hb dB_endOfIf_32 rfl (lv_at hl 0 rfl) ?_
    have hz : bd_end B i = bd_close B i := if_neg (fun z => absurd z.1 (Nat.not_lt.mpr g11))
    exact W.iret (v := (nI (min (B.2.2.2.1 i) B.2.2.2.2.2.2.1))) hx hb hr (fun t9 ht9 hW => ⟨⟨(nI (min (B.2.2.2.1 i) B.2.2.2.2.2.2.1)), _, rfl, ⟨by rw [hz]; rfl, rfl⟩, by rw [ht9]; exact hP, hD⟩, hS.F ht9⟩) hS.2.2 dB_endOfIf_33
  · have g11 : ¬ (B.2.2.2.2.2.2.1 ≤ (min (B.2.2.2.1 i) B.2.2.2.2.2.2.1)) := fun z => c11 ((gx_le (rfl : (nI B.2.2.2.2.2.2.1) = (nI B.2.2.2.2.2.2.1)) (rfl : (nI (min (B.2.2.2.1 i) B.2.2.2.2.2.2.1)) = (nI (min (B.2.2.2.1 i) B.2.2.2.2.2.2.1))) (by omega) (by omega)).mpr z)
    have g11x : bd_close B i < B.2.2.2.2.2.2.1 := Nat.not_le.mp g11
    refine lv_aload_n hx hb dB_endOfIf_14 rfl (lv_at hl 1 rfl) ?_
    refine va_get (D := D) (ci := 0) (v := .ref (q 0)) (C := R_B) (T := F_B) (N := 8) hx hb ht i_B hown hK hP 0 rfl rfl 0 (by decide) (ht _ m_215) (fun _ h9 => h9) rfl dB_endOfIf_15 ?_
    refine lv_iload_n hx hb dB_endOfIf_18 rfl (lv_at hl 0 rfl) ?_
    have hkk9 := hkk (min (B.2.2.2.1 i) B.2.2.2.2.2.2.1)
    have i19 : vp_in (nI (min (B.2.2.2.1 i) B.2.2.2.2.2.2.1)) 12 := gx_in (rfl : (nI (min (B.2.2.2.1 i) B.2.2.2.2.2.2.1)) = (nI (min (B.2.2.2.1 i) B.2.2.2.2.2.2.1))) (by omega) (by decide)
    have k19 : ((nI (min (B.2.2.2.1 i) B.2.2.2.2.2.2.1)) : Int32).toNatClampNeg = (min (B.2.2.2.1 i) B.2.2.2.2.2.2.1) := gx_cl (rfl : (nI (min (B.2.2.2.1 i) B.2.2.2.2.2.2.1)) = (nI (min (B.2.2.2.1 i) B.2.2.2.2.2.2.1))) (by omega)
    refine va_iald hx hb hK hP 1 0 rfl rfl i19 dB_endOfIf_19 ?_
    rw [k19]
    refine lv_topi (fun v19 e19 => ?_)
    have n19 : v19 = nI (B.1 (min (B.2.2.2.1 i) B.2.2.2.2.2.2.1)) := e19
    subst n19
    refine lv_iconst (v := 3) hx hb dB_endOfIf_20 (by decide) ?_
    refine lv_icmp_ne (tgt := 32) hx hb dB_endOfIf_21 (by decide) (fun c21 => ?_) (fun c21 => ?_)
    · have g21 : ¬ ((B.1 (min (B.2.2.2.1 i) B.2.2.2.2.2.2.1)) = 3) := fun z => c21 ((gx_eq (rfl : (nI (B.1 (min (B.2.2.2.1 i) B.2.2.2.2.2.2.1))) = (nI (B.1 (min (B.2.2.2.1 i) B.2.2.2.2.2.2.1)))) (rfl : (3 : Int32) = nI 3) (by omega) (by decide)).mpr z)
      refine lv_iload_n hx hb dB_endOfIf_32 rfl (lv_at hl 0 rfl) ?_
      have hz : bd_end B i = bd_close B i := if_neg (fun z => g21 z.2)
      exact W.iret (v := (nI (min (B.2.2.2.1 i) B.2.2.2.2.2.2.1))) hx hb hr (fun t9 ht9 hW => ⟨⟨(nI (min (B.2.2.2.1 i) B.2.2.2.2.2.2.1)), _, rfl, ⟨by rw [hz]; rfl, rfl⟩, by rw [ht9]; exact hP, hD⟩, hS.F ht9⟩) hS.2.2 dB_endOfIf_33
    · have g21 : (B.1 (min (B.2.2.2.1 i) B.2.2.2.2.2.2.1)) = 3 := (gx_eq (rfl : (nI (B.1 (min (B.2.2.2.1 i) B.2.2.2.2.2.2.1))) = (nI (B.1 (min (B.2.2.2.1 i) B.2.2.2.2.2.2.1)))) (rfl : (3 : Int32) = nI 3) (by omega) (by decide)).mp c21
      refine lv_aload_n hx hb dB_endOfIf_24 rfl (lv_at hl 1 rfl) ?_
      refine lv_iload_n hx hb dB_endOfIf_25 rfl (lv_at hl 0 rfl) ?_
      have hc2 := hc9 g11x g21
      refine gc_i (va_runV (As := [.int (nI (min (B.2.2.2.1 i) B.2.2.2.2.2.2.1))]) (rest := []) ⟨hx, hb, hml, hown, ht⟩ (c_B_closeOf l D cI cJ cB cZ o q B (min (B.2.2.2.1 i) B.2.2.2.2.2.2.1) (by omega) hc2 (by omega) H.size) (cwV 1 ht (gw_V m_392 m_384 m_385 m_8 m_386) rfl rfl rfl (by decide +kernel) ⟨Nat.le_of_ble_eq_true rfl, Nat.le_of_ble_eq_true rfl⟩) (gp_V (ci := 0) (q0 := 0) hK hN (hP.sub (ws' := (wB cI o q B)) [0, 1, 2, 3, 4, 5, 6] rfl) (hD.sub (ws' := (wB cI o q B)) [0, 1, 2, 3, 4, 5, 6] (by decide) rfl) rfl rfl) rfl rfl hl.1 rfl (lv_room (Nat.le_of_ble_eq_true rfl)) dB_endOfIf_26 ⟨Nat.le_of_ble_eq_true rfl, Nat.le_of_ble_eq_true rfl⟩) hP hD hS hA [0, 1, 2, 3, 4, 5, 6] rfl (by decide) (fun r w h => by obtain ⟨_, rfl⟩ := h; rfl) (fun r26 w26 H locs p26 hP hD hS => ?_)
      obtain ⟨rfl, rfl⟩ := p26
      have hP : va_P D vwCl [(o, .inr (0, [.ref (q 0), .ref (q 1), .ref (q 2), .ref (q 3), .ref (q 4), .ref (q 5), .int (nI B.2.2.2.2.2.2.1), .int (nI B.2.2.2.2.2.2.2)])), ((q 0), .inl (cI, 12, .inl (fun z9 => nI (B.1 z9)))), ((q 1), .inl (cI, 12, .inl B.2.1)), ((q 2), .inl (cI, 12, .inl B.2.2.1)), ((q 3), .inl (cI, 12, .inl (fun z9 => nI (B.2.2.2.1 z9)))), ((q 4), .inl (cI, 12, .inl (fun z9 => nI (B.2.2.2.2.1 z9)))), ((q 5), .inl (cI, 13, .inl (fun z9 => nI (B.2.2.2.2.2.1 z9))))] H := hP
      have hD : va_D A [(o, .inr (0, [.ref (q 0), .ref (q 1), .ref (q 2), .ref (q 3), .ref (q 4), .ref (q 5), .int (nI B.2.2.2.2.2.2.1), .int (nI B.2.2.2.2.2.2.2)])), ((q 0), .inl (cI, 12, .inl (fun z9 => nI (B.1 z9)))), ((q 1), .inl (cI, 12, .inl B.2.1)), ((q 2), .inl (cI, 12, .inl B.2.2.1)), ((q 3), .inl (cI, 12, .inl (fun z9 => nI (B.2.2.2.1 z9)))), ((q 4), .inl (cI, 12, .inl (fun z9 => nI (B.2.2.2.2.1 z9)))), ((q 5), .inl (cI, 13, .inl (fun z9 => nI (B.2.2.2.2.2.1 z9))))] := hD
      refine lv_goto (tgt := 33) hx hb dB_endOfIf_29 (by decide) ?_
      have hz : bd_end B i = bd_close B (bd_close B i) := if_pos ⟨g11x, g21⟩
      exact W.iret (v := (nI (min (B.2.2.2.1 (min (B.2.2.2.1 i) B.2.2.2.2.2.2.1)) B.2.2.2.2.2.2.1))) hx hb hr (fun t9 ht9 hW => ⟨⟨(nI (min (B.2.2.2.1 (min (B.2.2.2.1 i) B.2.2.2.2.2.2.1)) B.2.2.2.2.2.2.1)), _, rfl, ⟨by rw [hz]; rfl, rfl⟩, by rw [ht9]; exact hP, hD⟩, hS.F ht9⟩) hS.2.2 dB_endOfIf_33

