def tr_0 : Tr := (fun _ => 0, fun _ => 0, fun _ => 0, fun _ => 0, 0)
set_option maxHeartbeats 4000000 in
set_option maxRecDepth 100000 in
theorem c_T_init (l : Launch) (D : va_G) (cI cJ cB cZ : ClassId) (t : Nat)  : ct_V l y_T_init w_T_init ({ frames := 1, cells := 8, slots := 512, locals := 20 }) D (gk_T cI cJ cB cZ) [.ref t] [(t, .inr (4, [.null, .null, .null, .null, .null, .null, .null, .null, .int (nI 0)]))] (8) (512) (fun w => ∃ q : Nat → Nat, w = wTr cI cJ t q tr_0 (fun _ => 0) (fun _ => 0) (fun _ => 0) (fun _ => 0)) := by
  intro sz
  refine Met.ofW (cc := b_T_init) (maxL := 1) (ret := none) (by decide) rfl ?_
  intro p ev9 s m args below meth c s₁ B9 hml hv
  obtain ⟨rfl, hsz, hP, hK, hN, hD0⟩ := hv
  have hx := B9.exec
  have hb := B9.bytes
  have hr := B9.returns
  have hts := atoms_spec (ws := w_T_init) B9.pre
  have ht : ∀ w ∈ gk_big, w.before _ s = true := fun w h => hts w (List.mem_cons_of_mem _ h)
  have hown : s.vm.findClass R_T = some m.cls := findClass_of_methodNamed B9.named
  have hlocks := B9.notSynchronized
  have hin : meth.name = "<init>" := (name_of_methodNamed B9.named B9.method).1
  subst hsz
  have hD := hD0.self (sz := s.heap.size)
  generalize hAe : va_A [(t, .inr (4, [.null, .null, .null, .null, .null, .null, .null, .null, .int (nI 0)]))] s.heap.size = A at hD ⊢
  have hA : ∀ q : Nat, s.heap.size ≤ q → A q := fun q h => by rw [← hAe]; exact Or.inr h
  generalize hHe : s.heap = H at hP ⊢
  have hS : va_S A s.heap H [] := by rw [← hHe]; exact va_S.rf
  have hP : va_P D vwCl [(t, .inr (4, [.null, .null, .null, .null, .null, .null, .null, .null, .int (nI 0)]))] H := hP
  have hD : va_D A [(t, .inr (4, [.null, .null, .null, .null, .null, .null, .null, .null, .int (nI 0)]))] := hD
  have hl := lv_entry ([.ref t]) (n := 1) (Nat.le_of_ble_eq_true rfl)
  rw [lg_entry_eq]
  generalize (lg_sl ([.ref t]) ++ List.replicate (1 - (lg_sl ([.ref t])).length) Slot.unset).toArray = ls at hl ⊢
  have hl : lv_has ls 1 [(0, .ref t)] := hl
  refine lv_aload_n hx hb dT_init_0 rfl (lv_at hl 0 rfl) ?_
  refine W.objInit hx hb hown (ht _ m_59) (ht _ m_16) (ht _ m_17) rfl (by rw [hml]; exact hl.1) rfl dT_init_1 (Nat.le_of_ble_eq_true rfl) (Nat.le_of_ble_eq_true rfl) ?_
  refine W.eq (g2 := F0 m 4 ls []) rfl ?_
  refine lv_aload_n hx hb dT_init_4 rfl (lv_at hl 0 rfl) ?_
  refine lv_bipush (v := 64) hx hb dT_init_5 (by decide) ?_
  refine gn_I (N := 64) hx hb (ht _ m_51) hK hP hD hS hA (by decide) (by decide) (by decide) (Nat.le_of_ble_eq_true rfl) (Nat.le_of_ble_eq_true rfl) dT_init_7 (fun q7 H hP hD hS => ?_)
  refine W.widen (k := 1) (n := 64) (by decide) (by decide) ?_
  have hP : va_P D vwCl [(t, .inr (4, [.null, .null, .null, .null, .null, .null, .null, .null, .int (nI 0)])), (q7, .inl (cI, 64, .inl (fun z9 => nI ((fun _ => 0) z9))))] H := hP
  have hD : va_D A [(t, .inr (4, [.null, .null, .null, .null, .null, .null, .null, .null, .int (nI 0)])), (q7, .inl (cI, 64, .inl (fun z9 => nI ((fun _ => 0) z9))))] := hD
  refine va_putF (D := D) (ci := 4) (v := .ref q7) (ty := .array .int) (C := R_T) (T := F_T) (N := 9) hx hb ht i_T ft_T ft_T_ok fn_T hown hK hP hD hS 0 rfl rfl 0 (by decide) (ht _ m_60) (fun _ h9 => h9) rfl hin rfl (by decide +kernel) rfl rfl (Nat.le_of_ble_eq_true rfl) dT_init_9 (fun H locs hP hD hS => ?_)
  have hP : va_P D vwCl [(t, .inr (4, [.ref q7, .null, .null, .null, .null, .null, .null, .null, .int (nI 0)])), (q7, .inl (cI, 64, .inl (fun z9 => nI ((fun _ => 0) z9))))] H := hP
  have hD : va_D A [(t, .inr (4, [.ref q7, .null, .null, .null, .null, .null, .null, .null, .int (nI 0)])), (q7, .inl (cI, 64, .inl (fun z9 => nI ((fun _ => 0) z9))))] := hD
  refine lv_aload_n hx hb dT_init_12 rfl (lv_at hl 0 rfl) ?_
  refine lv_bipush (v := 64) hx hb dT_init_13 (by decide) ?_
  refine gn_I (N := 64) hx hb (ht _ m_51) hK hP hD hS hA (by decide) (by decide) (by decide) (Nat.le_of_ble_eq_true rfl) (Nat.le_of_ble_eq_true rfl) dT_init_15 (fun q15 H hP hD hS => ?_)
  refine W.widen (k := 2) (n := 128) (by decide) (by decide) ?_
  have hP : va_P D vwCl [(t, .inr (4, [.ref q7, .null, .null, .null, .null, .null, .null, .null, .int (nI 0)])), (q7, .inl (cI, 64, .inl (fun z9 => nI ((fun _ => 0) z9)))), (q15, .inl (cI, 64, .inl (fun z9 => nI ((fun _ => 0) z9))))] H := hP
  have hD : va_D A [(t, .inr (4, [.ref q7, .null, .null, .null, .null, .null, .null, .null, .int (nI 0)])), (q7, .inl (cI, 64, .inl (fun z9 => nI ((fun _ => 0) z9)))), (q15, .inl (cI, 64, .inl (fun z9 => nI ((fun _ => 0) z9))))] := hD
  refine va_putF (D := D) (ci := 4) (v := .ref q15) (ty := .array .int) (C := R_T) (T := F_T) (N := 9) hx hb ht i_T ft_T ft_T_ok fn_T hown hK hP hD hS 0 rfl rfl 1 (by decide) (ht _ m_61) (fun _ h9 => h9) rfl hin rfl (by decide +kernel) rfl rfl (Nat.le_of_ble_eq_true rfl) dT_init_17 (fun H locs hP hD hS => ?_)
  have hP : va_P D vwCl [(t, .inr (4, [.ref q7, .ref q15, .null, .null, .null, .null, .null, .null, .int (nI 0)])), (q7, .inl (cI, 64, .inl (fun z9 => nI ((fun _ => 0) z9)))), (q15, .inl (cI, 64, .inl (fun z9 => nI ((fun _ => 0) z9))))] H := hP
  have hD : va_D A [(t, .inr (4, [.ref q7, .ref q15, .null, .null, .null, .null, .null, .null, .int (nI 0)])), (q7, .inl (cI, 64, .inl (fun z9 => nI ((fun _ => 0) z9)))), (q15, .inl (cI, 64, .inl (fun z9 => nI ((fun _ => 0) z9))))] := hD
  refine lv_aload_n hx hb dT_init_20 rfl (lv_at hl 0 rfl) ?_
  refine lv_bipush (v := 64) hx hb dT_init_21 (by decide) ?_
  refine gn_I (N := 64) hx hb (ht _ m_51) hK hP hD hS hA (by decide) (by decide) (by decide) (Nat.le_of_ble_eq_true rfl) (Nat.le_of_ble_eq_true rfl) dT_init_23 (fun q23 H hP hD hS => ?_)
  refine W.widen (k := 3) (n := 192) (by decide) (by decide) ?_
  have hP : va_P D vwCl [(t, .inr (4, [.ref q7, .ref q15, .null, .null, .null, .null, .null, .null, .int (nI 0)])), (q7, .inl (cI, 64, .inl (fun z9 => nI ((fun _ => 0) z9)))), (q15, .inl (cI, 64, .inl (fun z9 => nI ((fun _ => 0) z9)))), (q23, .inl (cI, 64, .inl (fun z9 => nI ((fun _ => 0) z9))))] H := hP
  have hD : va_D A [(t, .inr (4, [.ref q7, .ref q15, .null, .null, .null, .null, .null, .null, .int (nI 0)])), (q7, .inl (cI, 64, .inl (fun z9 => nI ((fun _ => 0) z9)))), (q15, .inl (cI, 64, .inl (fun z9 => nI ((fun _ => 0) z9)))), (q23, .inl (cI, 64, .inl (fun z9 => nI ((fun _ => 0) z9))))] := hD
  refine va_putF (D := D) (ci := 4) (v := .ref q23) (ty := .array .int) (C := R_T) (T := F_T) (N := 9) hx hb ht i_T ft_T ft_T_ok fn_T hown hK hP hD hS 0 rfl rfl 2 (by decide) (ht _ m_62) (fun _ h9 => h9) rfl hin rfl (by decide +kernel) rfl rfl (Nat.le_of_ble_eq_true rfl) dT_init_25 (fun H locs hP hD hS => ?_)
  have hP : va_P D vwCl [(t, .inr (4, [.ref q7, .ref q15, .ref q23, .null, .null, .null, .null, .null, .int (nI 0)])), (q7, .inl (cI, 64, .inl (fun z9 => nI ((fun _ => 0) z9)))), (q15, .inl (cI, 64, .inl (fun z9 => nI ((fun _ => 0) z9)))), (q23, .inl (cI, 64, .inl (fun z9 => nI ((fun _ => 0) z9))))] H := hP
  have hD : va_D A [(t, .inr (4, [.ref q7, .ref q15, .ref q23, .null, .null, .null, .null, .null, .int (nI 0)])), (q7, .inl (cI, 64, .inl (fun z9 => nI ((fun _ => 0) z9)))), (q15, .inl (cI, 64, .inl (fun z9 => nI ((fun _ => 0) z9)))), (q23, .inl (cI, 64, .inl (fun z9 => nI ((fun _ => 0) z9))))] := hD
  refine lv_aload_n hx hb dT_init_28 rfl (lv_at hl 0 rfl) ?_
  refine lv_bipush (v := 64) hx hb dT_init_29 (by decide) ?_
  refine gn_J (N := 64) hx hb (ht _ m_90) hK hP hD hS hA (by decide) (by decide) (by decide) (Nat.le_of_ble_eq_true rfl) (Nat.le_of_ble_eq_true rfl) dT_init_31 (fun q31 H hP hD hS => ?_)
  refine W.widen (k := 4) (n := 256) (by decide) (by decide) ?_
  have hP : va_P D vwCl [(t, .inr (4, [.ref q7, .ref q15, .ref q23, .null, .null, .null, .null, .null, .int (nI 0)])), (q7, .inl (cI, 64, .inl (fun z9 => nI ((fun _ => 0) z9)))), (q15, .inl (cI, 64, .inl (fun z9 => nI ((fun _ => 0) z9)))), (q23, .inl (cI, 64, .inl (fun z9 => nI ((fun _ => 0) z9)))), (q31, .inl (cJ, 64, .inr (.inl (fun _ => 0))))] H := hP
  have hD : va_D A [(t, .inr (4, [.ref q7, .ref q15, .ref q23, .null, .null, .null, .null, .null, .int (nI 0)])), (q7, .inl (cI, 64, .inl (fun z9 => nI ((fun _ => 0) z9)))), (q15, .inl (cI, 64, .inl (fun z9 => nI ((fun _ => 0) z9)))), (q23, .inl (cI, 64, .inl (fun z9 => nI ((fun _ => 0) z9)))), (q31, .inl (cJ, 64, .inr (.inl (fun _ => 0))))] := hD
  refine va_putF (D := D) (ci := 4) (v := .ref q31) (ty := .array .long) (C := R_T) (T := F_T) (N := 9) hx hb ht i_T ft_T ft_T_ok fn_T hown hK hP hD hS 0 rfl rfl 3 (by decide) (ht _ m_63) (fun _ h9 => h9) rfl hin rfl (by decide +kernel) rfl rfl (Nat.le_of_ble_eq_true rfl) dT_init_33 (fun H locs hP hD hS => ?_)
  have hP : va_P D vwCl [(t, .inr (4, [.ref q7, .ref q15, .ref q23, .ref q31, .null, .null, .null, .null, .int (nI 0)])), (q7, .inl (cI, 64, .inl (fun z9 => nI ((fun _ => 0) z9)))), (q15, .inl (cI, 64, .inl (fun z9 => nI ((fun _ => 0) z9)))), (q23, .inl (cI, 64, .inl (fun z9 => nI ((fun _ => 0) z9)))), (q31, .inl (cJ, 64, .inr (.inl (fun _ => 0))))] H := hP
  have hD : va_D A [(t, .inr (4, [.ref q7, .ref q15, .ref q23, .ref q31, .null, .null, .null, .null, .int (nI 0)])), (q7, .inl (cI, 64, .inl (fun z9 => nI ((fun _ => 0) z9)))), (q15, .inl (cI, 64, .inl (fun z9 => nI ((fun _ => 0) z9)))), (q23, .inl (cI, 64, .inl (fun z9 => nI ((fun _ => 0) z9)))), (q31, .inl (cJ, 64, .inr (.inl (fun _ => 0))))] := hD
  refine lv_aload_n hx hb dT_init_36 rfl (lv_at hl 0 rfl) ?_
  refine lv_bipush (v := 64) hx hb dT_init_37 (by decide) ?_
  refine gn_J (N := 64) hx hb (ht _ m_90) hK hP hD hS hA (by decide) (by decide) (by decide) (Nat.le_of_ble_eq_true rfl) (Nat.le_of_ble_eq_true rfl) dT_init_39 (fun q39 H hP hD hS => ?_)
  refine W.widen (k := 5) (n := 320) (by decide) (by decide) ?_
  have hP : va_P D vwCl [(t, .inr (4, [.ref q7, .ref q15, .ref q23, .ref q31, .null, .null, .null, .null, .int (nI 0)])), (q7, .inl (cI, 64, .inl (fun z9 => nI ((fun _ => 0) z9)))), (q15, .inl (cI, 64, .inl (fun z9 => nI ((fun _ => 0) z9)))), (q23, .inl (cI, 64, .inl (fun z9 => nI ((fun _ => 0) z9)))), (q31, .inl (cJ, 64, .inr (.inl (fun _ => 0)))), (q39, .inl (cJ, 64, .inr (.inl (fun _ => 0))))] H := hP
  have hD : va_D A [(t, .inr (4, [.ref q7, .ref q15, .ref q23, .ref q31, .null, .null, .null, .null, .int (nI 0)])), (q7, .inl (cI, 64, .inl (fun z9 => nI ((fun _ => 0) z9)))), (q15, .inl (cI, 64, .inl (fun z9 => nI ((fun _ => 0) z9)))), (q23, .inl (cI, 64, .inl (fun z9 => nI ((fun _ => 0) z9)))), (q31, .inl (cJ, 64, .inr (.inl (fun _ => 0)))), (q39, .inl (cJ, 64, .inr (.inl (fun _ => 0))))] := hD
  refine va_putF (D := D) (ci := 4) (v := .ref q39) (ty := .array .long) (C := R_T) (T := F_T) (N := 9) hx hb ht i_T ft_T ft_T_ok fn_T hown hK hP hD hS 0 rfl rfl 4 (by decide) (ht _ m_66) (fun _ h9 => h9) rfl hin rfl (by decide +kernel) rfl rfl (Nat.le_of_ble_eq_true rfl) dT_init_41 (fun H locs hP hD hS => ?_)
  have hP : va_P D vwCl [(t, .inr (4, [.ref q7, .ref q15, .ref q23, .ref q31, .ref q39, .null, .null, .null, .int (nI 0)])), (q7, .inl (cI, 64, .inl (fun z9 => nI ((fun _ => 0) z9)))), (q15, .inl (cI, 64, .inl (fun z9 => nI ((fun _ => 0) z9)))), (q23, .inl (cI, 64, .inl (fun z9 => nI ((fun _ => 0) z9)))), (q31, .inl (cJ, 64, .inr (.inl (fun _ => 0)))), (q39, .inl (cJ, 64, .inr (.inl (fun _ => 0))))] H := hP
  have hD : va_D A [(t, .inr (4, [.ref q7, .ref q15, .ref q23, .ref q31, .ref q39, .null, .null, .null, .int (nI 0)])), (q7, .inl (cI, 64, .inl (fun z9 => nI ((fun _ => 0) z9)))), (q15, .inl (cI, 64, .inl (fun z9 => nI ((fun _ => 0) z9)))), (q23, .inl (cI, 64, .inl (fun z9 => nI ((fun _ => 0) z9)))), (q31, .inl (cJ, 64, .inr (.inl (fun _ => 0)))), (q39, .inl (cJ, 64, .inr (.inl (fun _ => 0))))] := hD
  refine lv_aload_n hx hb dT_init_44 rfl (lv_at hl 0 rfl) ?_
  refine lv_bipush (v := 64) hx hb dT_init_45 (by decide) ?_
  refine gn_J (N := 64) hx hb (ht _ m_90) hK hP hD hS hA (by decide) (by decide) (by decide) (Nat.le_of_ble_eq_true rfl) (Nat.le_of_ble_eq_true rfl) dT_init_47 (fun q47 H hP hD hS => ?_)
  refine W.widen (k := 6) (n := 384) (by decide) (by decide) ?_
  have hP : va_P D vwCl [(t, .inr (4, [.ref q7, .ref q15, .ref q23, .ref q31, .ref q39, .null, .null, .null, .int (nI 0)])), (q7, .inl (cI, 64, .inl (fun z9 => nI ((fun _ => 0) z9)))), (q15, .inl (cI, 64, .inl (fun z9 => nI ((fun _ => 0) z9)))), (q23, .inl (cI, 64, .inl (fun z9 => nI ((fun _ => 0) z9)))), (q31, .inl (cJ, 64, .inr (.inl (fun _ => 0)))), (q39, .inl (cJ, 64, .inr (.inl (fun _ => 0)))), (q47, .inl (cJ, 64, .inr (.inl (fun _ => 0))))] H := hP
  have hD : va_D A [(t, .inr (4, [.ref q7, .ref q15, .ref q23, .ref q31, .ref q39, .null, .null, .null, .int (nI 0)])), (q7, .inl (cI, 64, .inl (fun z9 => nI ((fun _ => 0) z9)))), (q15, .inl (cI, 64, .inl (fun z9 => nI ((fun _ => 0) z9)))), (q23, .inl (cI, 64, .inl (fun z9 => nI ((fun _ => 0) z9)))), (q31, .inl (cJ, 64, .inr (.inl (fun _ => 0)))), (q39, .inl (cJ, 64, .inr (.inl (fun _ => 0)))), (q47, .inl (cJ, 64, .inr (.inl (fun _ => 0))))] := hD
  refine va_putF (D := D) (ci := 4) (v := .ref q47) (ty := .array .long) (C := R_T) (T := F_T) (N := 9) hx hb ht i_T ft_T ft_T_ok fn_T hown hK hP hD hS 0 rfl rfl 5 (by decide) (ht _ m_67) (fun _ h9 => h9) rfl hin rfl (by decide +kernel) rfl rfl (Nat.le_of_ble_eq_true rfl) dT_init_49 (fun H locs hP hD hS => ?_)
  have hP : va_P D vwCl [(t, .inr (4, [.ref q7, .ref q15, .ref q23, .ref q31, .ref q39, .ref q47, .null, .null, .int (nI 0)])), (q7, .inl (cI, 64, .inl (fun z9 => nI ((fun _ => 0) z9)))), (q15, .inl (cI, 64, .inl (fun z9 => nI ((fun _ => 0) z9)))), (q23, .inl (cI, 64, .inl (fun z9 => nI ((fun _ => 0) z9)))), (q31, .inl (cJ, 64, .inr (.inl (fun _ => 0)))), (q39, .inl (cJ, 64, .inr (.inl (fun _ => 0)))), (q47, .inl (cJ, 64, .inr (.inl (fun _ => 0))))] H := hP
  have hD : va_D A [(t, .inr (4, [.ref q7, .ref q15, .ref q23, .ref q31, .ref q39, .ref q47, .null, .null, .int (nI 0)])), (q7, .inl (cI, 64, .inl (fun z9 => nI ((fun _ => 0) z9)))), (q15, .inl (cI, 64, .inl (fun z9 => nI ((fun _ => 0) z9)))), (q23, .inl (cI, 64, .inl (fun z9 => nI ((fun _ => 0) z9)))), (q31, .inl (cJ, 64, .inr (.inl (fun _ => 0)))), (q39, .inl (cJ, 64, .inr (.inl (fun _ => 0)))), (q47, .inl (cJ, 64, .inr (.inl (fun _ => 0))))] := hD
  refine lv_aload_n hx hb dT_init_52 rfl (lv_at hl 0 rfl) ?_
  refine lv_bipush (v := 64) hx hb dT_init_53 (by decide) ?_
  refine gn_J (N := 64) hx hb (ht _ m_90) hK hP hD hS hA (by decide) (by decide) (by decide) (Nat.le_of_ble_eq_true rfl) (Nat.le_of_ble_eq_true rfl) dT_init_55 (fun q55 H hP hD hS => ?_)
  refine W.widen (k := 7) (n := 448) (by decide) (by decide) ?_
  have hP : va_P D vwCl [(t, .inr (4, [.ref q7, .ref q15, .ref q23, .ref q31, .ref q39, .ref q47, .null, .null, .int (nI 0)])), (q7, .inl (cI, 64, .inl (fun z9 => nI ((fun _ => 0) z9)))), (q15, .inl (cI, 64, .inl (fun z9 => nI ((fun _ => 0) z9)))), (q23, .inl (cI, 64, .inl (fun z9 => nI ((fun _ => 0) z9)))), (q31, .inl (cJ, 64, .inr (.inl (fun _ => 0)))), (q39, .inl (cJ, 64, .inr (.inl (fun _ => 0)))), (q47, .inl (cJ, 64, .inr (.inl (fun _ => 0)))), (q55, .inl (cJ, 64, .inr (.inl (fun _ => 0))))] H := hP
  have hD : va_D A [(t, .inr (4, [.ref q7, .ref q15, .ref q23, .ref q31, .ref q39, .ref q47, .null, .null, .int (nI 0)])), (q7, .inl (cI, 64, .inl (fun z9 => nI ((fun _ => 0) z9)))), (q15, .inl (cI, 64, .inl (fun z9 => nI ((fun _ => 0) z9)))), (q23, .inl (cI, 64, .inl (fun z9 => nI ((fun _ => 0) z9)))), (q31, .inl (cJ, 64, .inr (.inl (fun _ => 0)))), (q39, .inl (cJ, 64, .inr (.inl (fun _ => 0)))), (q47, .inl (cJ, 64, .inr (.inl (fun _ => 0)))), (q55, .inl (cJ, 64, .inr (.inl (fun _ => 0))))] := hD
  refine va_putF (D := D) (ci := 4) (v := .ref q55) (ty := .array .long) (C := R_T) (T := F_T) (N := 9) hx hb ht i_T ft_T ft_T_ok fn_T hown hK hP hD hS 0 rfl rfl 6 (by decide) (ht _ m_68) (fun _ h9 => h9) rfl hin rfl (by decide +kernel) rfl rfl (Nat.le_of_ble_eq_true rfl) dT_init_57 (fun H locs hP hD hS => ?_)
  have hP : va_P D vwCl [(t, .inr (4, [.ref q7, .ref q15, .ref q23, .ref q31, .ref q39, .ref q47, .ref q55, .null, .int (nI 0)])), (q7, .inl (cI, 64, .inl (fun z9 => nI ((fun _ => 0) z9)))), (q15, .inl (cI, 64, .inl (fun z9 => nI ((fun _ => 0) z9)))), (q23, .inl (cI, 64, .inl (fun z9 => nI ((fun _ => 0) z9)))), (q31, .inl (cJ, 64, .inr (.inl (fun _ => 0)))), (q39, .inl (cJ, 64, .inr (.inl (fun _ => 0)))), (q47, .inl (cJ, 64, .inr (.inl (fun _ => 0)))), (q55, .inl (cJ, 64, .inr (.inl (fun _ => 0))))] H := hP
  have hD : va_D A [(t, .inr (4, [.ref q7, .ref q15, .ref q23, .ref q31, .ref q39, .ref q47, .ref q55, .null, .int (nI 0)])), (q7, .inl (cI, 64, .inl (fun z9 => nI ((fun _ => 0) z9)))), (q15, .inl (cI, 64, .inl (fun z9 => nI ((fun _ => 0) z9)))), (q23, .inl (cI, 64, .inl (fun z9 => nI ((fun _ => 0) z9)))), (q31, .inl (cJ, 64, .inr (.inl (fun _ => 0)))), (q39, .inl (cJ, 64, .inr (.inl (fun _ => 0)))), (q47, .inl (cJ, 64, .inr (.inl (fun _ => 0)))), (q55, .inl (cJ, 64, .inr (.inl (fun _ => 0))))] := hD
  refine lv_aload_n hx hb dT_init_60 rfl (lv_at hl 0 rfl) ?_
  refine lv_bipush (v := 64) hx hb dT_init_61 (by decide) ?_
  refine gn_J (N := 64) hx hb (ht _ m_90) hK hP hD hS hA (by decide) (by decide) (by decide) (Nat.le_of_ble_eq_true rfl) (Nat.le_of_ble_eq_true rfl) dT_init_63 (fun q63 H hP hD hS => ?_)
  refine W.widen (k := 8) (n := 512) (by decide) (by decide) ?_
  have hP : va_P D vwCl [(t, .inr (4, [.ref q7, .ref q15, .ref q23, .ref q31, .ref q39, .ref q47, .ref q55, .null, .int (nI 0)])), (q7, .inl (cI, 64, .inl (fun z9 => nI ((fun _ => 0) z9)))), (q15, .inl (cI, 64, .inl (fun z9 => nI ((fun _ => 0) z9)))), (q23, .inl (cI, 64, .inl (fun z9 => nI ((fun _ => 0) z9)))), (q31, .inl (cJ, 64, .inr (.inl (fun _ => 0)))), (q39, .inl (cJ, 64, .inr (.inl (fun _ => 0)))), (q47, .inl (cJ, 64, .inr (.inl (fun _ => 0)))), (q55, .inl (cJ, 64, .inr (.inl (fun _ => 0)))), (q63, .inl (cJ, 64, .inr (.inl (fun _ => 0))))] H := hP
  have hD : va_D A [(t, .inr (4, [.ref q7, .ref q15, .ref q23, .ref q31, .ref q39, .ref q47, .ref q55, .null, .int (nI 0)])), (q7, .inl (cI, 64, .inl (fun z9 => nI ((fun _ => 0) z9)))), (q15, .inl (cI, 64, .inl (fun z9 => nI ((fun _ => 0) z9)))), (q23, .inl (cI, 64, .inl (fun z9 => nI ((fun _ => 0) z9)))), (q31, .inl (cJ, 64, .inr (.inl (fun _ => 0)))), (q39, .inl (cJ, 64, .inr (.inl (fun _ => 0)))), (q47, .inl (cJ, 64, .inr (.inl (fun _ => 0)))), (q55, .inl (cJ, 64, .inr (.inl (fun _ => 0)))), (q63, .inl (cJ, 64, .inr (.inl (fun _ => 0))))] := hD
  refine va_putF (D := D) (ci := 4) (v := .ref q63) (ty := .array .long) (C := R_T) (T := F_T) (N := 9) hx hb ht i_T ft_T ft_T_ok fn_T hown hK hP hD hS 0 rfl rfl 7 (by decide) (ht _ m_69) (fun _ h9 => h9) rfl hin rfl (by decide +kernel) rfl rfl (Nat.le_of_ble_eq_true rfl) dT_init_65 (fun H locs hP hD hS => ?_)
  have hP : va_P D vwCl [(t, .inr (4, [.ref q7, .ref q15, .ref q23, .ref q31, .ref q39, .ref q47, .ref q55, .ref q63, .int (nI 0)])), (q7, .inl (cI, 64, .inl (fun z9 => nI ((fun _ => 0) z9)))), (q15, .inl (cI, 64, .inl (fun z9 => nI ((fun _ => 0) z9)))), (q23, .inl (cI, 64, .inl (fun z9 => nI ((fun _ => 0) z9)))), (q31, .inl (cJ, 64, .inr (.inl (fun _ => 0)))), (q39, .inl (cJ, 64, .inr (.inl (fun _ => 0)))), (q47, .inl (cJ, 64, .inr (.inl (fun _ => 0)))), (q55, .inl (cJ, 64, .inr (.inl (fun _ => 0)))), (q63, .inl (cJ, 64, .inr (.inl (fun _ => 0))))] H := hP
  have hD : va_D A [(t, .inr (4, [.ref q7, .ref q15, .ref q23, .ref q31, .ref q39, .ref q47, .ref q55, .ref q63, .int (nI 0)])), (q7, .inl (cI, 64, .inl (fun z9 => nI ((fun _ => 0) z9)))), (q15, .inl (cI, 64, .inl (fun z9 => nI ((fun _ => 0) z9)))), (q23, .inl (cI, 64, .inl (fun z9 => nI ((fun _ => 0) z9)))), (q31, .inl (cJ, 64, .inr (.inl (fun _ => 0)))), (q39, .inl (cJ, 64, .inr (.inl (fun _ => 0)))), (q47, .inl (cJ, 64, .inr (.inl (fun _ => 0)))), (q55, .inl (cJ, 64, .inr (.inl (fun _ => 0)))), (q63, .inl (cJ, 64, .inr (.inl (fun _ => 0))))] := hD
  exact W.vret hx hb hr (fun t9 ht9 hW => ⟨⟨_, rfl, ⟨(fun k => match k with | 0 => q7 | 1 => q15 | 2 => q23 | 3 => q31 | 4 => q39 | 5 => q47 | 6 => q55 | _ => q63), rfl⟩, by rw [ht9]; exact hP, hD⟩, hS.F ht9⟩) hS.2.2 dT_init_68

noncomputable def gb (p : Prop) : Int32 := @ite Int32 p (Classical.propDecidable p) 1 0
theorem gb_t {p : Prop} (h : p) : (1 : Int32) = gb p := by unfold gb; rw [if_pos h]
theorem gb_f {p : Prop} (h : ¬ p) : (0 : Int32) = gb p := by unfold gb; rw [if_neg h]
theorem gb_1 {p : Prop} : gb p = 0 ↔ ¬ p := by
  by_cases h : p
  · rw [← gb_t h]; exact ⟨fun z => absurd z (by decide), fun z => absurd h z⟩
  · rw [← gb_f h]; exact ⟨fun _ => h, fun _ => rfl⟩
theorem gb_n {p : Prop} : narrow .boolean (.int (gb p)) = .int (gb p) := by
  by_cases h : p
  · rw [← gb_t h]; rfl
  · rw [← gb_f h]; rfl
theorem gb_e {p q : Prop} (h : p ↔ q) : gb p = gb q := by rw [propext h]
set_option maxHeartbeats 4000000 in
set_option maxRecDepth 100000 in
theorem c_C_isBelow (l : Launch) (D : va_G) (cI cJ cB cZ : ClassId) (x y : Int32)  : ct_I l y_C_isBelow w_C_isBelow ({ frames := 0, cells := 0, slots := 0, locals := 0 }) D (gk_T cI cJ cB cZ) [.int x, .int y] ([] : va_W) (0) (0) (fun r w => r = gb (0 ≤ x ∧ x < y) ∧ w = []) := by
  intro sz
  refine Met.ofW (cc := b_C_isBelow) (maxL := 2) (ret := (some .boolean)) (by decide) rfl ?_
  intro p ev9 s m args below meth c s₁ B9 hml hv
  obtain ⟨rfl, hsz, hP, hK, hN, hD0⟩ := hv
  have hx := B9.exec
  have hb := B9.bytes
  have hr := B9.returns
  have hts := atoms_spec (ws := w_C_isBelow) B9.pre
  have ht : ∀ w ∈ gk_big, w.before _ s = true := fun w h => hts w (List.mem_cons_of_mem _ h)
  have hown : s.vm.findClass R_C = some m.cls := findClass_of_methodNamed B9.named
  have hlocks := B9.notSynchronized
  subst hsz
  have hD := hD0.self (sz := s.heap.size)
  generalize hAe : va_A ([] : va_W) s.heap.size = A at hD ⊢
  have hA : ∀ q : Nat, s.heap.size ≤ q → A q := fun q h => by rw [← hAe]; exact Or.inr h
  generalize hHe : s.heap = H at hP ⊢
  have hS : va_S A s.heap H [] := by rw [← hHe]; exact va_S.rf
  have hP : va_P D vwCl [] H := hP
  have hD : va_D A [] := hD
  have hl := lv_entry ([.int x, .int y]) (n := 2) (Nat.le_of_ble_eq_true rfl)
  rw [lg_entry_eq]
  generalize (lg_sl ([.int x, .int y]) ++ List.replicate (2 - (lg_sl ([.int x, .int y])).length) Slot.unset).toArray = ls at hl ⊢
  have hl : lv_has ls 2 [(0, .int x), (1, .int y)] := hl
  refine lv_iload_n hx hb dC_isBelow_0 rfl (lv_at hl 0 rfl) ?_
  refine lv_if_lt (tgt := 13) hx hb dC_isBelow_1 (by decide) (fun c1 => ?_) (fun c1 => ?_)
  · refine lv_iconst (v := 0) hx hb dC_isBelow_13 (by decide) ?_
    exact W.zret (v := 0) hx hb hr (by decide) (fun t9 ht9 hW => ⟨⟨0, _, rfl, ⟨gb_f (fun z => absurd z.1 (Int32.not_le.mpr c1)), rfl⟩, by rw [ht9]; exact hP, hD⟩, hS.F ht9⟩) hS.2.2 dC_isBelow_14
  · refine lv_iload_n hx hb dC_isBelow_4 rfl (lv_at hl 0 rfl) ?_
    refine lv_iload_n hx hb dC_isBelow_5 rfl (lv_at hl 1 rfl) ?_
    refine lv_icmp_ge (tgt := 13) hx hb dC_isBelow_6 (by decide) (fun c6 => ?_) (fun c6 => ?_)
    · refine lv_iconst (v := 0) hx hb dC_isBelow_13 (by decide) ?_
      exact W.zret (v := 0) hx hb hr (by decide) (fun t9 ht9 hW => ⟨⟨0, _, rfl, ⟨gb_f (fun z => absurd z.2 (Int32.not_lt.mpr c6)), rfl⟩, by rw [ht9]; exact hP, hD⟩, hS.F ht9⟩) hS.2.2 dC_isBelow_14
    · refine lv_iconst (v := 1) hx hb dC_isBelow_9 (by decide) ?_
      refine lv_goto (tgt := 14) hx hb dC_isBelow_10 (by decide) ?_
      exact W.zret (v := 1) hx hb hr (by decide) (fun t9 ht9 hW => ⟨⟨1, _, rfl, ⟨gb_t ⟨Int32.not_lt.mp c1, Int32.not_le.mp c6⟩, rfl⟩, by rw [ht9]; exact hP, hD⟩, hS.F ht9⟩) hS.2.2 dC_isBelow_14

/-- the expressions: kinds, lefts, rights, callees, how many -/
abbrev Ex : Type := (Nat → Int32) × (Nat → Int32) × (Nat → Int32) × (Nat → Int32) × Nat
abbrev wE (cI : ClassId) (o : Nat) (q : Nat → Nat) (X : Ex) : va_W := [(o, .inr (2, [.ref (q 0), .ref (q 1), .ref (q 2), .ref (q 3), .int (nI X.2.2.2.2)])), ((q 0), .inl (cI, 80, .inl X.1)), ((q 1), .inl (cI, 80, .inl X.2.1)), ((q 2), .inl (cI, 80, .inl X.2.2.1)), ((q 3), .inl (cI, 80, .inl X.2.2.2.1))]
def ex_add (X : Ex) (k a b c : Int32) : Ex := (upd X.1 X.2.2.2.2 k, upd X.2.1 X.2.2.2.2 a, upd X.2.2.1 X.2.2.2.2 b, upd X.2.2.2.1 X.2.2.2.2 c, X.2.2.2.2 + 1)
def ex_0 : Ex := (fun _ => 0, fun _ => 0, fun _ => 0, fun _ => 0, 0)
set_option maxHeartbeats 4000000 in
set_option maxRecDepth 100000 in
theorem c_E_hasLeft (l : Launch) (D : va_G) (cI cJ cB cZ : ClassId) (x : Int32)  : ct_I l y_E_hasLeft w_E_hasLeft ({ frames := 0, cells := 0, slots := 0, locals := 0 }) D (gk_T cI cJ cB cZ) [.int x] ([] : va_W) (0) (0) (fun r w => r = gb (2 ≤ x ∧ x ≤ 11) ∧ w = []) := by
  intro sz
  refine Met.ofW (cc := b_E_hasLeft) (maxL := 1) (ret := (some .boolean)) (by decide) rfl ?_
  intro p ev9 s m args below meth c s₁ B9 hml hv
  obtain ⟨rfl, hsz, hP, hK, hN, hD0⟩ := hv
  have hx := B9.exec
  have hb := B9.bytes
  have hr := B9.returns
  have hts := atoms_spec (ws := w_E_hasLeft) B9.pre
  have ht : ∀ w ∈ gk_big, w.before _ s = true := fun w h => hts w (List.mem_cons_of_mem _ h)
  have hown : s.vm.findClass R_E = some m.cls := findClass_of_methodNamed B9.named
  have hlocks := B9.notSynchronized
  subst hsz
  have hD := hD0.self (sz := s.heap.size)
  generalize hAe : va_A ([] : va_W) s.heap.size = A at hD ⊢
  have hA : ∀ q : Nat, s.heap.size ≤ q → A q := fun q h => by rw [← hAe]; exact Or.inr h
  generalize hHe : s.heap = H at hP ⊢
  have hS : va_S A s.heap H [] := by rw [← hHe]; exact va_S.rf
  have hP : va_P D vwCl [] H := hP
  have hD : va_D A [] := hD
  have hl := lv_entry ([.int x]) (n := 1) (Nat.le_of_ble_eq_true rfl)
  rw [lg_entry_eq]
  generalize (lg_sl ([.int x]) ++ List.replicate (1 - (lg_sl ([.int x])).length) Slot.unset).toArray = ls at hl ⊢
  have hl : lv_has ls 1 [(0, .int x)] := hl
  refine lv_iload_n hx hb dE_hasLeft_0 rfl (lv_at hl 0 rfl) ?_
  refine lv_iconst (v := 2) hx hb dE_hasLeft_1 (by decide) ?_
  refine lv_icmp_lt (tgt := 15) hx hb dE_hasLeft_2 (by decide) (fun c2 => ?_) (fun c2 => ?_)
  · refine lv_iconst (v := 0) hx hb dE_hasLeft_15 (by decide) ?_
    exact W.zret (v := 0) hx hb hr (by decide) (fun t9 ht9 hW => ⟨⟨0, _, rfl, ⟨gb_f (fun z => absurd z.1 (Int32.not_le.mpr c2)), rfl⟩, by rw [ht9]; exact hP, hD⟩, hS.F ht9⟩) hS.2.2 dE_hasLeft_16
  · refine lv_iload_n hx hb dE_hasLeft_5 rfl (lv_at hl 0 rfl) ?_
    refine lv_bipush (v := 11) hx hb dE_hasLeft_6 (by decide) ?_
    refine lv_icmp_gt (tgt := 15) hx hb dE_hasLeft_8 (by decide) (fun c8 => ?_) (fun c8 => ?_)
    · refine lv_iconst (v := 0) hx hb dE_hasLeft_15 (by decide) ?_
      exact W.zret (v := 0) hx hb hr (by decide) (fun t9 ht9 hW => ⟨⟨0, _, rfl, ⟨gb_f (fun z => absurd z.2 (Int32.not_le.mpr c8)), rfl⟩, by rw [ht9]; exact hP, hD⟩, hS.F ht9⟩) hS.2.2 dE_hasLeft_16
    · refine lv_iconst (v := 1) hx hb dE_hasLeft_11 (by decide) ?_
      refine lv_goto (tgt := 16) hx hb dE_hasLeft_12 (by decide) ?_
      exact W.zret (v := 1) hx hb hr (by decide) (fun t9 ht9 hW => ⟨⟨1, _, rfl, ⟨gb_t ⟨Int32.not_lt.mp c2, Int32.not_lt.mp c8⟩, rfl⟩, by rw [ht9]; exact hP, hD⟩, hS.F ht9⟩) hS.2.2 dE_hasLeft_16

set_option maxHeartbeats 4000000 in
set_option maxRecDepth 100000 in
theorem c_E_hasRight (l : Launch) (D : va_G) (cI cJ cB cZ : ClassId) (x : Int32)  : ct_I l y_E_hasRight w_E_hasRight ({ frames := 0, cells := 0, slots := 0, locals := 0 }) D (gk_T cI cJ cB cZ) [.int x] ([] : va_W) (0) (0) (fun r w => r = gb (x = 2 ∨ x = 3 ∨ x = 4 ∨ x = 8 ∨ x = 9 ∨ x = 11) ∧ w = []) := by
  intro sz
  refine Met.ofW (cc := b_E_hasRight) (maxL := 1) (ret := (some .boolean)) (by decide) rfl ?_
  intro p ev9 s m args below meth c s₁ B9 hml hv
  obtain ⟨rfl, hsz, hP, hK, hN, hD0⟩ := hv
  have hx := B9.exec
  have hb := B9.bytes
  have hr := B9.returns
  have hts := atoms_spec (ws := w_E_hasRight) B9.pre
  have ht : ∀ w ∈ gk_big, w.before _ s = true := fun w h => hts w (List.mem_cons_of_mem _ h)
  have hown : s.vm.findClass R_E = some m.cls := findClass_of_methodNamed B9.named
  have hlocks := B9.notSynchronized
  subst hsz
  have hD := hD0.self (sz := s.heap.size)
  generalize hAe : va_A ([] : va_W) s.heap.size = A at hD ⊢
  have hA : ∀ q : Nat, s.heap.size ≤ q → A q := fun q h => by rw [← hAe]; exact Or.inr h
  generalize hHe : s.heap = H at hP ⊢
  have hS : va_S A s.heap H [] := by rw [← hHe]; exact va_S.rf
  have hP : va_P D vwCl [] H := hP
  have hD : va_D A [] := hD
  have hl := lv_entry ([.int x]) (n := 1) (Nat.le_of_ble_eq_true rfl)
  rw [lg_entry_eq]
  generalize (lg_sl ([.int x]) ++ List.replicate (1 - (lg_sl ([.int x])).length) Slot.unset).toArray = ls at hl ⊢
  have hl : lv_has ls 1 [(0, .int x)] := hl
  refine lv_iload_n hx hb dE_hasRight_0 rfl (lv_at hl 0 rfl) ?_
  by_cases s1_0 : x = 2
  · refine lv_tableIn (tgt := 56) hx hb dE_hasRight_1 (by rw [s1_0]; decide) (by rw [s1_0]; decide) (by rw [s1_0] <;> rfl) (by decide) ?_
    refine lv_iconst (v := 1) hx hb dE_hasRight_56 (by decide) ?_
    exact W.zret (v := 1) hx hb hr (by decide) (fun t9 ht9 hW => ⟨⟨1, _, rfl, ⟨gb_t (by rw [s1_0]; decide), rfl⟩, by rw [ht9]; exact hP, hD⟩, hS.F ht9⟩) hS.2.2 dE_hasRight_57
  by_cases s1_1 : x = 3
  · refine lv_tableIn (tgt := 56) hx hb dE_hasRight_1 (by rw [s1_1]; decide) (by rw [s1_1]; decide) (by rw [s1_1] <;> rfl) (by decide) ?_
    refine lv_iconst (v := 1) hx hb dE_hasRight_56 (by decide) ?_
    exact W.zret (v := 1) hx hb hr (by decide) (fun t9 ht9 hW => ⟨⟨1, _, rfl, ⟨gb_t (by rw [s1_1]; decide), rfl⟩, by rw [ht9]; exact hP, hD⟩, hS.F ht9⟩) hS.2.2 dE_hasRight_57
  by_cases s1_2 : x = 4
  · refine lv_tableIn (tgt := 56) hx hb dE_hasRight_1 (by rw [s1_2]; decide) (by rw [s1_2]; decide) (by rw [s1_2] <;> rfl) (by decide) ?_
    refine lv_iconst (v := 1) hx hb dE_hasRight_56 (by decide) ?_
    exact W.zret (v := 1) hx hb hr (by decide) (fun t9 ht9 hW => ⟨⟨1, _, rfl, ⟨gb_t (by rw [s1_2]; decide), rfl⟩, by rw [ht9]; exact hP, hD⟩, hS.F ht9⟩) hS.2.2 dE_hasRight_57
  by_cases s1_3 : x = 5
  · refine lv_tableIn (tgt := 58) hx hb dE_hasRight_1 (by rw [s1_3]; decide) (by rw [s1_3]; decide) (by rw [s1_3] <;> rfl) (by decide) ?_
    refine lv_iconst (v := 0) hx hb dE_hasRight_58 (by decide) ?_
    exact W.zret (v := 0) hx hb hr (by decide) (fun t9 ht9 hW => ⟨⟨0, _, rfl, ⟨gb_f (by rw [s1_3]; decide), rfl⟩, by rw [ht9]; exact hP, hD⟩, hS.F ht9⟩) hS.2.2 dE_hasRight_59
  by_cases s1_4 : x = 6
  · refine lv_tableIn (tgt := 58) hx hb dE_hasRight_1 (by rw [s1_4]; decide) (by rw [s1_4]; decide) (by rw [s1_4] <;> rfl) (by decide) ?_
    refine lv_iconst (v := 0) hx hb dE_hasRight_58 (by decide) ?_
    exact W.zret (v := 0) hx hb hr (by decide) (fun t9 ht9 hW => ⟨⟨0, _, rfl, ⟨gb_f (by rw [s1_4]; decide), rfl⟩, by rw [ht9]; exact hP, hD⟩, hS.F ht9⟩) hS.2.2 dE_hasRight_59
  by_cases s1_5 : x = 7
  · refine lv_tableIn (tgt := 58) hx hb dE_hasRight_1 (by rw [s1_5]; decide) (by rw [s1_5]; decide) (by rw [s1_5] <;> rfl) (by decide) ?_
    refine lv_iconst (v := 0) hx hb dE_hasRight_58 (by decide) ?_
    exact W.zret (v := 0) hx hb hr (by decide) (fun t9 ht9 hW => ⟨⟨0, _, rfl, ⟨gb_f (by rw [s1_5]; decide), rfl⟩, by rw [ht9]; exact hP, hD⟩, hS.F ht9⟩) hS.2.2 dE_hasRight_59
  by_cases s1_6 : x = 8
  · refine lv_tableIn (tgt := 56) hx hb dE_hasRight_1 (by rw [s1_6]; decide) (by rw [s1_6]; decide) (by rw [s1_6] <;> rfl) (by decide) ?_
    refine lv_iconst (v := 1) hx hb dE_hasRight_56 (by decide) ?_
    exact W.zret (v := 1) hx hb hr (by decide) (fun t9 ht9 hW => ⟨⟨1, _, rfl, ⟨gb_t (by rw [s1_6]; decide), rfl⟩, by rw [ht9]; exact hP, hD⟩, hS.F ht9⟩) hS.2.2 dE_hasRight_57
  by_cases s1_7 : x = 9
  · refine lv_tableIn (tgt := 56) hx hb dE_hasRight_1 (by rw [s1_7]; decide) (by rw [s1_7]; decide) (by rw [s1_7] <;> rfl) (by decide) ?_
    refine lv_iconst (v := 1) hx hb dE_hasRight_56 (by decide) ?_
    exact W.zret (v := 1) hx hb hr (by decide) (fun t9 ht9 hW => ⟨⟨1, _, rfl, ⟨gb_t (by rw [s1_7]; decide), rfl⟩, by rw [ht9]; exact hP, hD⟩, hS.F ht9⟩) hS.2.2 dE_hasRight_57
  by_cases s1_8 : x = 10
  · refine lv_tableIn (tgt := 58) hx hb dE_hasRight_1 (by rw [s1_8]; decide) (by rw [s1_8]; decide) (by rw [s1_8] <;> rfl) (by decide) ?_
    refine lv_iconst (v := 0) hx hb dE_hasRight_58 (by decide) ?_
    exact W.zret (v := 0) hx hb hr (by decide) (fun t9 ht9 hW => ⟨⟨0, _, rfl, ⟨gb_f (by rw [s1_8]; decide), rfl⟩, by rw [ht9]; exact hP, hD⟩, hS.F ht9⟩) hS.2.2 dE_hasRight_59
  by_cases s1_9 : x = 11
  · refine lv_tableIn (tgt := 56) hx hb dE_hasRight_1 (by rw [s1_9]; decide) (by rw [s1_9]; decide) (by rw [s1_9] <;> rfl) (by decide) ?_
    refine lv_iconst (v := 1) hx hb dE_hasRight_56 (by decide) ?_
    exact W.zret (v := 1) hx hb hr (by decide) (fun t9 ht9 hW => ⟨⟨1, _, rfl, ⟨gb_t (by rw [s1_9]; decide), rfl⟩, by rw [ht9]; exact hP, hD⟩, hS.F ht9⟩) hS.2.2 dE_hasRight_57
  have o1 : (x : Int32).toInt < 2 ∨ 11 < (x : Int32).toInt := gx_out (by intro k h1 h2 h3; have hk : k = 2 ∨ k = 3 ∨ k = 4 ∨ k = 5 ∨ k = 6 ∨ k = 7 ∨ k = 8 ∨ k = 9 ∨ k = 10 ∨ k = 11 := (by omega); rcases hk with rfl | rfl | rfl | rfl | rfl | rfl | rfl | rfl | rfl | rfl; exact s1_0 (Int32.toInt_inj.mp (by rw [h3]; rfl)); exact s1_1 (Int32.toInt_inj.mp (by rw [h3]; rfl)); exact s1_2 (Int32.toInt_inj.mp (by rw [h3]; rfl)); exact s1_3 (Int32.toInt_inj.mp (by rw [h3]; rfl)); exact s1_4 (Int32.toInt_inj.mp (by rw [h3]; rfl)); exact s1_5 (Int32.toInt_inj.mp (by rw [h3]; rfl)); exact s1_6 (Int32.toInt_inj.mp (by rw [h3]; rfl)); exact s1_7 (Int32.toInt_inj.mp (by rw [h3]; rfl)); exact s1_8 (Int32.toInt_inj.mp (by rw [h3]; rfl)); exact s1_9 (Int32.toInt_inj.mp (by rw [h3]; rfl)))
  refine lv_tableOut (tgt := 58) hx hb dE_hasRight_1 o1 (by decide) ?_
  refine lv_iconst (v := 0) hx hb dE_hasRight_58 (by decide) ?_
  exact W.zret (v := 0) hx hb hr (by decide) (fun t9 ht9 hW => ⟨⟨0, _, rfl, ⟨gb_f (by simp [s1_0, s1_1, s1_2, s1_3, s1_4, s1_5, s1_6, s1_7, s1_8, s1_9]), rfl⟩, by rw [ht9]; exact hP, hD⟩, hS.F ht9⟩) hS.2.2 dE_hasRight_59

set_option maxHeartbeats 4000000 in
set_option maxRecDepth 100000 in
theorem c_E_has (l : Launch) (D : va_G) (cI cJ cB cZ : ClassId) (o : Nat) (q : Nat → Nat) (X : Ex) (x : Int32)  : ct_I l y_E_has w_E_has ({ frames := 1, cells := 0, slots := 0, locals := 21 }) D (gk_T cI cJ cB cZ) [.ref o, .int x] (wE cI o q X) (0) (0) (fun r w => r = gb (0 ≤ x ∧ x < nI X.2.2.2.2) ∧ w = wE cI o q X) := by
  intro sz
  refine Met.ofW (cc := b_E_has) (maxL := 2) (ret := (some .boolean)) (by decide) rfl ?_
  intro p ev9 s m args below meth c s₁ B9 hml hv
  obtain ⟨rfl, hsz, hP, hK, hN, hD0⟩ := hv
  have hx := B9.exec
  have hb := B9.bytes
  have hr := B9.returns
  have hts := atoms_spec (ws := w_E_has) B9.pre
  have ht : ∀ w ∈ gk_big, w.before _ s = true := fun w h => hts w (List.mem_cons_of_mem _ h)
  have hown : s.vm.findClass R_E = some m.cls := findClass_of_methodNamed B9.named
  have hlocks := B9.notSynchronized
  subst hsz
  have hD := hD0.self (sz := s.heap.size)
  generalize hAe : va_A (wE cI o q X) s.heap.size = A at hD ⊢
  have hA : ∀ q : Nat, s.heap.size ≤ q → A q := fun q h => by rw [← hAe]; exact Or.inr h
  generalize hHe : s.heap = H at hP ⊢
  have hS : va_S A s.heap H [] := by rw [← hHe]; exact va_S.rf
  have hP : va_P D vwCl [(o, .inr (2, [.ref (q 0), .ref (q 1), .ref (q 2), .ref (q 3), .int (nI X.2.2.2.2)])), ((q 0), .inl (cI, 80, .inl X.1)), ((q 1), .inl (cI, 80, .inl X.2.1)), ((q 2), .inl (cI, 80, .inl X.2.2.1)), ((q 3), .inl (cI, 80, .inl X.2.2.2.1))] H := hP
  have hD : va_D A [(o, .inr (2, [.ref (q 0), .ref (q 1), .ref (q 2), .ref (q 3), .int (nI X.2.2.2.2)])), ((q 0), .inl (cI, 80, .inl X.1)), ((q 1), .inl (cI, 80, .inl X.2.1)), ((q 2), .inl (cI, 80, .inl X.2.2.1)), ((q 3), .inl (cI, 80, .inl X.2.2.2.1))] := hD
  have hl := lv_entry ([.ref o, .int x]) (n := 2) (Nat.le_of_ble_eq_true rfl)
  rw [lg_entry_eq]
  generalize (lg_sl ([.ref o, .int x]) ++ List.replicate (2 - (lg_sl ([.ref o, .int x])).length) Slot.unset).toArray = ls at hl ⊢
  have hl : lv_has ls 2 [(0, .ref o), (1, .int x)] := hl
  refine lv_iload_n hx hb dE_has_0 rfl (lv_at hl 1 rfl) ?_
  refine lv_aload_n hx hb dE_has_1 rfl (lv_at hl 0 rfl) ?_
  refine va_get (D := D) (ci := 2) (v := .int (nI X.2.2.2.2)) (C := R_E) (T := F_E) (N := 5) hx hb ht i_E hown hK hP 0 rfl rfl 4 (by decide) (ht _ m_38) (fun _ h9 => h9) rfl dE_has_2 ?_
  refine gc_i (va_runSN (As := [.int x, .int (nI X.2.2.2.2)]) (rest := []) ⟨hx, hb, hml, hown, ht⟩ (c_C_isBelow l D cI cJ cB cZ x (nI X.2.2.2.2) H.size) ⟨va_cnB 2 ht (gw_I m_173) rfl rfl rfl (hN _ mn_16) (ht _ m_1) (by decide +kernel) ⟨Nat.le_of_ble_eq_true rfl, Nat.le_of_ble_eq_true rfl⟩, ht _ m_172, trivial⟩ (gp_S hK hN (hP.sub (ws' := ([] : va_W)) [] rfl) (hD.sub (ws' := ([] : va_W)) [] (by decide) rfl)) rfl rfl hl.1 rfl (lv_room (Nat.le_of_ble_eq_true rfl)) dE_has_5 ⟨Nat.le_of_ble_eq_true rfl, Nat.le_of_ble_eq_true rfl⟩) hP hD hS hA [] rfl (by decide) (fun r w h => by obtain ⟨_, rfl⟩ := h; rfl) (fun r5 w5 H locs p5 hP hD hS => ?_)
  obtain ⟨rfl, rfl⟩ := p5
  have hP : va_P D vwCl [(o, .inr (2, [.ref (q 0), .ref (q 1), .ref (q 2), .ref (q 3), .int (nI X.2.2.2.2)])), ((q 0), .inl (cI, 80, .inl X.1)), ((q 1), .inl (cI, 80, .inl X.2.1)), ((q 2), .inl (cI, 80, .inl X.2.2.1)), ((q 3), .inl (cI, 80, .inl X.2.2.2.1))] H := hP
  have hD : va_D A [(o, .inr (2, [.ref (q 0), .ref (q 1), .ref (q 2), .ref (q 3), .int (nI X.2.2.2.2)])), ((q 0), .inl (cI, 80, .inl X.1)), ((q 1), .inl (cI, 80, .inl X.2.1)), ((q 2), .inl (cI, 80, .inl X.2.2.1)), ((q 3), .inl (cI, 80, .inl X.2.2.2.1))] := hD
  exact W.zret (v := (gb (0 ≤ x ∧ x < (nI X.2.2.2.2)))) hx hb hr (by exact gb_n) (fun t9 ht9 hW => ⟨⟨(gb (0 ≤ x ∧ x < (nI X.2.2.2.2))), _, rfl, ⟨rfl, rfl⟩, by rw [ht9]; exact hP, hD⟩, hS.F ht9⟩) hS.2.2 dE_has_8

set_option maxHeartbeats 4000000 in
set_option maxRecDepth 100000 in
theorem c_E_isFull (l : Launch) (D : va_G) (cI cJ cB cZ : ClassId) (o : Nat) (q : Nat → Nat) (X : Ex) (hn : X.2.2.2.2 ≤ 80) : ct_I l y_E_isFull w_E_isFull ({ frames := 0, cells := 0, slots := 0, locals := 0 }) D (gk_T cI cJ cB cZ) [.ref o] (wE cI o q X) (0) (0) (fun r w => r = gb (80 ≤ X.2.2.2.2) ∧ w = wE cI o q X) := by
  intro sz
  refine Met.ofW (cc := b_E_isFull) (maxL := 1) (ret := (some .boolean)) (by decide) rfl ?_
  intro p ev9 s m args below meth c s₁ B9 hml hv
  obtain ⟨rfl, hsz, hP, hK, hN, hD0⟩ := hv
  have hx := B9.exec
  have hb := B9.bytes
  have hr := B9.returns
  have hts := atoms_spec (ws := w_E_isFull) B9.pre
  have ht : ∀ w ∈ gk_big, w.before _ s = true := fun w h => hts w (List.mem_cons_of_mem _ h)
  have hown : s.vm.findClass R_E = some m.cls := findClass_of_methodNamed B9.named
  have hlocks := B9.notSynchronized
  subst hsz
  have hD := hD0.self (sz := s.heap.size)
  generalize hAe : va_A (wE cI o q X) s.heap.size = A at hD ⊢
  have hA : ∀ q : Nat, s.heap.size ≤ q → A q := fun q h => by rw [← hAe]; exact Or.inr h
  generalize hHe : s.heap = H at hP ⊢
  have hS : va_S A s.heap H [] := by rw [← hHe]; exact va_S.rf
  have hP : va_P D vwCl [(o, .inr (2, [.ref (q 0), .ref (q 1), .ref (q 2), .ref (q 3), .int (nI X.2.2.2.2)])), ((q 0), .inl (cI, 80, .inl X.1)), ((q 1), .inl (cI, 80, .inl X.2.1)), ((q 2), .inl (cI, 80, .inl X.2.2.1)), ((q 3), .inl (cI, 80, .inl X.2.2.2.1))] H := hP
  have hD : va_D A [(o, .inr (2, [.ref (q 0), .ref (q 1), .ref (q 2), .ref (q 3), .int (nI X.2.2.2.2)])), ((q 0), .inl (cI, 80, .inl X.1)), ((q 1), .inl (cI, 80, .inl X.2.1)), ((q 2), .inl (cI, 80, .inl X.2.2.1)), ((q 3), .inl (cI, 80, .inl X.2.2.2.1))] := hD
  have hl := lv_entry ([.ref o]) (n := 1) (Nat.le_of_ble_eq_true rfl)
  rw [lg_entry_eq]
  generalize (lg_sl ([.ref o]) ++ List.replicate (1 - (lg_sl ([.ref o])).length) Slot.unset).toArray = ls at hl ⊢
  have hl : lv_has ls 1 [(0, .ref o)] := hl
  refine lv_aload_n hx hb dE_isFull_0 rfl (lv_at hl 0 rfl) ?_
  refine va_get (D := D) (ci := 2) (v := .int (nI X.2.2.2.2)) (C := R_E) (T := F_E) (N := 5) hx hb ht i_E hown hK hP 0 rfl rfl 4 (by decide) (ht _ m_38) (fun _ h9 => h9) rfl dE_isFull_1 ?_
  refine lv_bipush (v := 80) hx hb dE_isFull_4 (by decide) ?_
  refine lv_icmp_lt (tgt := 13) hx hb dE_isFull_6 (by decide) (fun c6 => ?_) (fun c6 => ?_)
  · have g6 : X.2.2.2.2 < 80 := (gx_lt (rfl : (nI X.2.2.2.2) = (nI X.2.2.2.2)) (rfl : (80 : Int32) = nI 80) (by omega) (by decide)).mp c6
    refine lv_iconst (v := 0) hx hb dE_isFull_13 (by decide) ?_
    exact W.zret (v := 0) hx hb hr (by decide) (fun t9 ht9 hW => ⟨⟨0, _, rfl, ⟨gb_f (by omega), rfl⟩, by rw [ht9]; exact hP, hD⟩, hS.F ht9⟩) hS.2.2 dE_isFull_14
  · have g6 : ¬ (X.2.2.2.2 < 80) := fun z => c6 ((gx_lt (rfl : (nI X.2.2.2.2) = (nI X.2.2.2.2)) (rfl : (80 : Int32) = nI 80) (by omega) (by decide)).mpr z)
    refine lv_iconst (v := 1) hx hb dE_isFull_9 (by decide) ?_
    refine lv_goto (tgt := 14) hx hb dE_isFull_10 (by decide) ?_
    exact W.zret (v := 1) hx hb hr (by decide) (fun t9 ht9 hW => ⟨⟨1, _, rfl, ⟨gb_t (by omega), rfl⟩, by rw [ht9]; exact hP, hD⟩, hS.F ht9⟩) hS.2.2 dE_isFull_14

set_option maxHeartbeats 4000000 in
set_option maxRecDepth 100000 in
theorem c_E_add (l : Launch) (D : va_G) (cI cJ cB cZ : ClassId) (o : Nat) (q : Nat → Nat) (X : Ex) (k a b d : Int32) (hn : X.2.2.2.2 < 80) : ct_I l y_E_add w_E_add ({ frames := 0, cells := 0, slots := 0, locals := 0 }) D (gk_T cI cJ cB cZ) [.ref o, .int k, .int a, .int b, .int d] (wE cI o q X) (0) (0) (fun r w => r = nI X.2.2.2.2 ∧ w = wE cI o q (ex_add X k a b d)) := by
  intro sz
  refine Met.ofW (cc := b_E_add) (maxL := 6) (ret := (some .int)) (by decide) rfl ?_
  intro p ev9 s m args below meth c s₁ B9 hml hv
  obtain ⟨rfl, hsz, hP, hK, hN, hD0⟩ := hv
  have hx := B9.exec
  have hb := B9.bytes
  have hr := B9.returns
  have hts := atoms_spec (ws := w_E_add) B9.pre
  have ht : ∀ w ∈ gk_big, w.before _ s = true := fun w h => hts w (List.mem_cons_of_mem _ h)
  have hown : s.vm.findClass R_E = some m.cls := findClass_of_methodNamed B9.named
  have hlocks := B9.notSynchronized
  subst hsz
  have hD := hD0.self (sz := s.heap.size)
  generalize hAe : va_A (wE cI o q X) s.heap.size = A at hD ⊢
  have hA : ∀ q : Nat, s.heap.size ≤ q → A q := fun q h => by rw [← hAe]; exact Or.inr h
  generalize hHe : s.heap = H at hP ⊢
  have hS : va_S A s.heap H [] := by rw [← hHe]; exact va_S.rf
  have hP : va_P D vwCl [(o, .inr (2, [.ref (q 0), .ref (q 1), .ref (q 2), .ref (q 3), .int (nI X.2.2.2.2)])), ((q 0), .inl (cI, 80, .inl X.1)), ((q 1), .inl (cI, 80, .inl X.2.1)), ((q 2), .inl (cI, 80, .inl X.2.2.1)), ((q 3), .inl (cI, 80, .inl X.2.2.2.1))] H := hP
  have hD : va_D A [(o, .inr (2, [.ref (q 0), .ref (q 1), .ref (q 2), .ref (q 3), .int (nI X.2.2.2.2)])), ((q 0), .inl (cI, 80, .inl X.1)), ((q 1), .inl (cI, 80, .inl X.2.1)), ((q 2), .inl (cI, 80, .inl X.2.2.1)), ((q 3), .inl (cI, 80, .inl X.2.2.2.1))] := hD
  have hl := lv_entry ([.ref o, .int k, .int a, .int b, .int d]) (n := 6) (Nat.le_of_ble_eq_true rfl)
  rw [lg_entry_eq]
  generalize (lg_sl ([.ref o, .int k, .int a, .int b, .int d]) ++ List.replicate (6 - (lg_sl ([.ref o, .int k, .int a, .int b, .int d])).length) Slot.unset).toArray = ls at hl ⊢
  have hl : lv_has ls 6 [(0, .ref o), (1, .int k), (2, .int a), (3, .int b), (4, .int d)] := hl
  refine lv_aload_n hx hb dE_add_0 rfl (lv_at hl 0 rfl) ?_
  refine va_get (D := D) (ci := 2) (v := .int (nI X.2.2.2.2)) (C := R_E) (T := F_E) (N := 5) hx hb ht i_E hown hK hP 0 rfl rfl 4 (by decide) (ht _ m_38) (fun _ h9 => h9) rfl dE_add_1 ?_
  refine lv_istore (lv' := [(5, .int (nI X.2.2.2.2)), (0, .ref o), (1, .int k), (2, .int a), (3, .int b), (4, .int d)]) hx hb dE_add_4 hl (by decide) rfl (fun ls hl => ?_)
  refine lv_aload_n hx hb dE_add_6 rfl (lv_at hl 1 rfl) ?_
  refine va_get (D := D) (ci := 2) (v := .ref (q 0)) (C := R_E) (T := F_E) (N := 5) hx hb ht i_E hown hK hP 0 rfl rfl 0 (by decide) (ht _ m_30) (fun _ h9 => h9) rfl dE_add_7 ?_
  refine lv_iload hx hb dE_add_10 (lv_at hl 0 rfl) ?_
  refine lv_iload_n hx hb dE_add_12 rfl (lv_at hl 2 rfl) ?_
  have i13 : vp_in (nI X.2.2.2.2) 80 := gx_in (rfl : (nI X.2.2.2.2) = (nI X.2.2.2.2)) (by omega) (by decide)
  have k13 : ((nI X.2.2.2.2) : Int32).toNatClampNeg = X.2.2.2.2 := gx_cl (rfl : (nI X.2.2.2.2) = (nI X.2.2.2.2)) (by omega)
  refine va_iast hx hb hK hP hD hS 1 0 rfl rfl i13 dE_add_13 (fun H locs hP hD hS => ?_)
  rw [k13] at hP hD
  have hP : va_P D vwCl [(o, .inr (2, [.ref (q 0), .ref (q 1), .ref (q 2), .ref (q 3), .int (nI X.2.2.2.2)])), ((q 0), .inl (cI, 80, .inl (upd X.1 X.2.2.2.2 k))), ((q 1), .inl (cI, 80, .inl X.2.1)), ((q 2), .inl (cI, 80, .inl X.2.2.1)), ((q 3), .inl (cI, 80, .inl X.2.2.2.1))] H := hP
  have hD : va_D A [(o, .inr (2, [.ref (q 0), .ref (q 1), .ref (q 2), .ref (q 3), .int (nI X.2.2.2.2)])), ((q 0), .inl (cI, 80, .inl (upd X.1 X.2.2.2.2 k))), ((q 1), .inl (cI, 80, .inl X.2.1)), ((q 2), .inl (cI, 80, .inl X.2.2.1)), ((q 3), .inl (cI, 80, .inl X.2.2.2.1))] := hD
  refine lv_aload_n hx hb dE_add_14 rfl (lv_at hl 1 rfl) ?_
  refine va_get (D := D) (ci := 2) (v := .ref (q 1)) (C := R_E) (T := F_E) (N := 5) hx hb ht i_E hown hK hP 0 rfl rfl 1 (by decide) (ht _ m_32) (fun _ h9 => h9) rfl dE_add_15 ?_
  refine lv_iload hx hb dE_add_18 (lv_at hl 0 rfl) ?_
  refine lv_iload_n hx hb dE_add_20 rfl (lv_at hl 3 rfl) ?_
  have i21 : vp_in (nI X.2.2.2.2) 80 := gx_in (rfl : (nI X.2.2.2.2) = (nI X.2.2.2.2)) (by omega) (by decide)
  have k21 : ((nI X.2.2.2.2) : Int32).toNatClampNeg = X.2.2.2.2 := gx_cl (rfl : (nI X.2.2.2.2) = (nI X.2.2.2.2)) (by omega)
  refine va_iast hx hb hK hP hD hS 2 0 rfl rfl i21 dE_add_21 (fun H locs hP hD hS => ?_)
  rw [k21] at hP hD
  have hP : va_P D vwCl [(o, .inr (2, [.ref (q 0), .ref (q 1), .ref (q 2), .ref (q 3), .int (nI X.2.2.2.2)])), ((q 0), .inl (cI, 80, .inl (upd X.1 X.2.2.2.2 k))), ((q 1), .inl (cI, 80, .inl (upd X.2.1 X.2.2.2.2 a))), ((q 2), .inl (cI, 80, .inl X.2.2.1)), ((q 3), .inl (cI, 80, .inl X.2.2.2.1))] H := hP
  have hD : va_D A [(o, .inr (2, [.ref (q 0), .ref (q 1), .ref (q 2), .ref (q 3), .int (nI X.2.2.2.2)])), ((q 0), .inl (cI, 80, .inl (upd X.1 X.2.2.2.2 k))), ((q 1), .inl (cI, 80, .inl (upd X.2.1 X.2.2.2.2 a))), ((q 2), .inl (cI, 80, .inl X.2.2.1)), ((q 3), .inl (cI, 80, .inl X.2.2.2.1))] := hD
  refine lv_aload_n hx hb dE_add_22 rfl (lv_at hl 1 rfl) ?_
  refine va_get (D := D) (ci := 2) (v := .ref (q 2)) (C := R_E) (T := F_E) (N := 5) hx hb ht i_E hown hK hP 0 rfl rfl 2 (by decide) (ht _ m_34) (fun _ h9 => h9) rfl dE_add_23 ?_
  refine lv_iload hx hb dE_add_26 (lv_at hl 0 rfl) ?_
  refine lv_iload_n hx hb dE_add_28 rfl (lv_at hl 4 rfl) ?_
  have i29 : vp_in (nI X.2.2.2.2) 80 := gx_in (rfl : (nI X.2.2.2.2) = (nI X.2.2.2.2)) (by omega) (by decide)
  have k29 : ((nI X.2.2.2.2) : Int32).toNatClampNeg = X.2.2.2.2 := gx_cl (rfl : (nI X.2.2.2.2) = (nI X.2.2.2.2)) (by omega)
  refine va_iast hx hb hK hP hD hS 3 0 rfl rfl i29 dE_add_29 (fun H locs hP hD hS => ?_)
  rw [k29] at hP hD
  have hP : va_P D vwCl [(o, .inr (2, [.ref (q 0), .ref (q 1), .ref (q 2), .ref (q 3), .int (nI X.2.2.2.2)])), ((q 0), .inl (cI, 80, .inl (upd X.1 X.2.2.2.2 k))), ((q 1), .inl (cI, 80, .inl (upd X.2.1 X.2.2.2.2 a))), ((q 2), .inl (cI, 80, .inl (upd X.2.2.1 X.2.2.2.2 b))), ((q 3), .inl (cI, 80, .inl X.2.2.2.1))] H := hP
  have hD : va_D A [(o, .inr (2, [.ref (q 0), .ref (q 1), .ref (q 2), .ref (q 3), .int (nI X.2.2.2.2)])), ((q 0), .inl (cI, 80, .inl (upd X.1 X.2.2.2.2 k))), ((q 1), .inl (cI, 80, .inl (upd X.2.1 X.2.2.2.2 a))), ((q 2), .inl (cI, 80, .inl (upd X.2.2.1 X.2.2.2.2 b))), ((q 3), .inl (cI, 80, .inl X.2.2.2.1))] := hD
  refine lv_aload_n hx hb dE_add_30 rfl (lv_at hl 1 rfl) ?_
  refine va_get (D := D) (ci := 2) (v := .ref (q 3)) (C := R_E) (T := F_E) (N := 5) hx hb ht i_E hown hK hP 0 rfl rfl 3 (by decide) (ht _ m_36) (fun _ h9 => h9) rfl dE_add_31 ?_
  refine lv_iload hx hb dE_add_34 (lv_at hl 0 rfl) ?_
  refine lv_iload hx hb dE_add_36 (lv_at hl 5 rfl) ?_
  have i38 : vp_in (nI X.2.2.2.2) 80 := gx_in (rfl : (nI X.2.2.2.2) = (nI X.2.2.2.2)) (by omega) (by decide)
  have k38 : ((nI X.2.2.2.2) : Int32).toNatClampNeg = X.2.2.2.2 := gx_cl (rfl : (nI X.2.2.2.2) = (nI X.2.2.2.2)) (by omega)
  refine va_iast hx hb hK hP hD hS 4 0 rfl rfl i38 dE_add_38 (fun H locs hP hD hS => ?_)
  rw [k38] at hP hD
  have hP : va_P D vwCl [(o, .inr (2, [.ref (q 0), .ref (q 1), .ref (q 2), .ref (q 3), .int (nI X.2.2.2.2)])), ((q 0), .inl (cI, 80, .inl (upd X.1 X.2.2.2.2 k))), ((q 1), .inl (cI, 80, .inl (upd X.2.1 X.2.2.2.2 a))), ((q 2), .inl (cI, 80, .inl (upd X.2.2.1 X.2.2.2.2 b))), ((q 3), .inl (cI, 80, .inl (upd X.2.2.2.1 X.2.2.2.2 d)))] H := hP
  have hD : va_D A [(o, .inr (2, [.ref (q 0), .ref (q 1), .ref (q 2), .ref (q 3), .int (nI X.2.2.2.2)])), ((q 0), .inl (cI, 80, .inl (upd X.1 X.2.2.2.2 k))), ((q 1), .inl (cI, 80, .inl (upd X.2.1 X.2.2.2.2 a))), ((q 2), .inl (cI, 80, .inl (upd X.2.2.1 X.2.2.2.2 b))), ((q 3), .inl (cI, 80, .inl (upd X.2.2.2.1 X.2.2.2.2 d)))] := hD
  refine lv_aload_n hx hb dE_add_39 rfl (lv_at hl 1 rfl) ?_
  refine lv_dup hx hb dE_add_40 rfl ?_
  refine va_get (D := D) (ci := 2) (v := .int (nI X.2.2.2.2)) (C := R_E) (T := F_E) (N := 5) hx hb ht i_E hown hK hP 0 rfl rfl 4 (by decide) (ht _ m_38) (fun _ h9 => h9) rfl dE_add_41 ?_
  refine lv_iconst (v := 1) hx hb dE_add_44 (by decide) ?_
  refine lv_iadd hx hb dE_add_45 ?_
  refine lv_topi (fun v45 e45 => ?_)
  have n45 : v45 = nI (X.2.2.2.2 + 1) := by rw [e45]; exact gx_add (rfl : (nI X.2.2.2.2) = (nI X.2.2.2.2)) (rfl : (1 : Int32) = nI 1)
  subst n45
  refine va_put (D := D) (ci := 2) (v := .int (nI (X.2.2.2.2 + 1))) (ty := .int) (C := R_E) (T := F_E) (N := 5) hx hb ht i_E ft_E ft_E_ok fn_E hown hK hP hD hS 0 rfl rfl 4 (by decide) (ht _ m_38) (fun _ h9 => h9) rfl (by decide +kernel) rfl rfl (Nat.le_of_ble_eq_true rfl) dE_add_46 (fun H locs hP hD hS => ?_)
  have hP : va_P D vwCl [(o, .inr (2, [.ref (q 0), .ref (q 1), .ref (q 2), .ref (q 3), .int (nI (X.2.2.2.2 + 1))])), ((q 0), .inl (cI, 80, .inl (upd X.1 X.2.2.2.2 k))), ((q 1), .inl (cI, 80, .inl (upd X.2.1 X.2.2.2.2 a))), ((q 2), .inl (cI, 80, .inl (upd X.2.2.1 X.2.2.2.2 b))), ((q 3), .inl (cI, 80, .inl (upd X.2.2.2.1 X.2.2.2.2 d)))] H := hP
  have hD : va_D A [(o, .inr (2, [.ref (q 0), .ref (q 1), .ref (q 2), .ref (q 3), .int (nI (X.2.2.2.2 + 1))])), ((q 0), .inl (cI, 80, .inl (upd X.1 X.2.2.2.2 k))), ((q 1), .inl (cI, 80, .inl (upd X.2.1 X.2.2.2.2 a))), ((q 2), .inl (cI, 80, .inl (upd X.2.2.1 X.2.2.2.2 b))), ((q 3), .inl (cI, 80, .inl (upd X.2.2.2.1 X.2.2.2.2 d)))] := hD
  refine lv_iload hx hb dE_add_49 (lv_at hl 0 rfl) ?_
  have hP : va_P D vwCl (wE cI o q (ex_add X k a b d)) _ := hP
  have hD : va_D A (wE cI o q (ex_add X k a b d)) := hD
  exact W.iret (v := (nI X.2.2.2.2)) hx hb hr (fun t9 ht9 hW => ⟨⟨(nI X.2.2.2.2), _, rfl, ⟨rfl, rfl⟩, by rw [ht9]; exact hP, hD⟩, hS.F ht9⟩) hS.2.2 dE_add_51

set_option maxHeartbeats 4000000 in
set_option maxRecDepth 100000 in
theorem c_E_init (l : Launch) (D : va_G) (cI cJ cB cZ : ClassId) (o : Nat)  : ct_V l y_E_init w_E_init ({ frames := 1, cells := 4, slots := 320, locals := 20 }) D (gk_T cI cJ cB cZ) [.ref o] [(o, .inr (2, [.null, .null, .null, .null, .int (nI 0)]))] (4) (320) (fun w => ∃ q : Nat → Nat, w = wE cI o q ex_0) := by
  intro sz
  refine Met.ofW (cc := b_E_init) (maxL := 1) (ret := none) (by decide) rfl ?_
  intro p ev9 s m args below meth c s₁ B9 hml hv
  obtain ⟨rfl, hsz, hP, hK, hN, hD0⟩ := hv
  have hx := B9.exec
  have hb := B9.bytes
  have hr := B9.returns
  have hts := atoms_spec (ws := w_E_init) B9.pre
  have ht : ∀ w ∈ gk_big, w.before _ s = true := fun w h => hts w (List.mem_cons_of_mem _ h)
  have hown : s.vm.findClass R_E = some m.cls := findClass_of_methodNamed B9.named
  have hlocks := B9.notSynchronized
  have hin : meth.name = "<init>" := (name_of_methodNamed B9.named B9.method).1
  subst hsz
  have hD := hD0.self (sz := s.heap.size)
  generalize hAe : va_A [(o, .inr (2, [.null, .null, .null, .null, .int (nI 0)]))] s.heap.size = A at hD ⊢
  have hA : ∀ q : Nat, s.heap.size ≤ q → A q := fun q h => by rw [← hAe]; exact Or.inr h
  generalize hHe : s.heap = H at hP ⊢
  have hS : va_S A s.heap H [] := by rw [← hHe]; exact va_S.rf
  have hP : va_P D vwCl [(o, .inr (2, [.null, .null, .null, .null, .int (nI 0)]))] H := hP
  have hD : va_D A [(o, .inr (2, [.null, .null, .null, .null, .int (nI 0)]))] := hD
  have hl := lv_entry ([.ref o]) (n := 1) (Nat.le_of_ble_eq_true rfl)
  rw [lg_entry_eq]
  generalize (lg_sl ([.ref o]) ++ List.replicate (1 - (lg_sl ([.ref o])).length) Slot.unset).toArray = ls at hl ⊢
  have hl : lv_has ls 1 [(0, .ref o)] := hl
  refine lv_aload_n hx hb dE_init_0 rfl (lv_at hl 0 rfl) ?_
  refine W.objInit hx hb hown (ht _ m_29) (ht _ m_16) (ht _ m_17) rfl (by rw [hml]; exact hl.1) rfl dE_init_1 (Nat.le_of_ble_eq_true rfl) (Nat.le_of_ble_eq_true rfl) ?_
  refine W.eq (g2 := F0 m 4 ls []) rfl ?_
  refine lv_aload_n hx hb dE_init_4 rfl (lv_at hl 0 rfl) ?_
  refine lv_bipush (v := 80) hx hb dE_init_5 (by decide) ?_
  refine gn_I (N := 80) hx hb (ht _ m_51) hK hP hD hS hA (by decide) (by decide) (by decide) (Nat.le_of_ble_eq_true rfl) (Nat.le_of_ble_eq_true rfl) dE_init_7 (fun q7 H hP hD hS => ?_)
  refine W.widen (k := 1) (n := 80) (by decide) (by decide) ?_
  have hP : va_P D vwCl [(o, .inr (2, [.null, .null, .null, .null, .int (nI 0)])), (q7, .inl (cI, 80, .inl (fun _ => 0)))] H := hP
  have hD : va_D A [(o, .inr (2, [.null, .null, .null, .null, .int (nI 0)])), (q7, .inl (cI, 80, .inl (fun _ => 0)))] := hD
  refine va_putF (D := D) (ci := 2) (v := .ref q7) (ty := .array .int) (C := R_E) (T := F_E) (N := 5) hx hb ht i_E ft_E ft_E_ok fn_E hown hK hP hD hS 0 rfl rfl 0 (by decide) (ht _ m_30) (fun _ h9 => h9) rfl hin rfl (by decide +kernel) rfl rfl (Nat.le_of_ble_eq_true rfl) dE_init_9 (fun H locs hP hD hS => ?_)
  have hP : va_P D vwCl [(o, .inr (2, [.ref q7, .null, .null, .null, .int (nI 0)])), (q7, .inl (cI, 80, .inl (fun _ => 0)))] H := hP
  have hD : va_D A [(o, .inr (2, [.ref q7, .null, .null, .null, .int (nI 0)])), (q7, .inl (cI, 80, .inl (fun _ => 0)))] := hD
  refine lv_aload_n hx hb dE_init_12 rfl (lv_at hl 0 rfl) ?_
  refine lv_bipush (v := 80) hx hb dE_init_13 (by decide) ?_
  refine gn_I (N := 80) hx hb (ht _ m_51) hK hP hD hS hA (by decide) (by decide) (by decide) (Nat.le_of_ble_eq_true rfl) (Nat.le_of_ble_eq_true rfl) dE_init_15 (fun q15 H hP hD hS => ?_)
  refine W.widen (k := 2) (n := 160) (by decide) (by decide) ?_
  have hP : va_P D vwCl [(o, .inr (2, [.ref q7, .null, .null, .null, .int (nI 0)])), (q7, .inl (cI, 80, .inl (fun _ => 0))), (q15, .inl (cI, 80, .inl (fun _ => 0)))] H := hP
  have hD : va_D A [(o, .inr (2, [.ref q7, .null, .null, .null, .int (nI 0)])), (q7, .inl (cI, 80, .inl (fun _ => 0))), (q15, .inl (cI, 80, .inl (fun _ => 0)))] := hD
  refine va_putF (D := D) (ci := 2) (v := .ref q15) (ty := .array .int) (C := R_E) (T := F_E) (N := 5) hx hb ht i_E ft_E ft_E_ok fn_E hown hK hP hD hS 0 rfl rfl 1 (by decide) (ht _ m_32) (fun _ h9 => h9) rfl hin rfl (by decide +kernel) rfl rfl (Nat.le_of_ble_eq_true rfl) dE_init_17 (fun H locs hP hD hS => ?_)
  have hP : va_P D vwCl [(o, .inr (2, [.ref q7, .ref q15, .null, .null, .int (nI 0)])), (q7, .inl (cI, 80, .inl (fun _ => 0))), (q15, .inl (cI, 80, .inl (fun _ => 0)))] H := hP
  have hD : va_D A [(o, .inr (2, [.ref q7, .ref q15, .null, .null, .int (nI 0)])), (q7, .inl (cI, 80, .inl (fun _ => 0))), (q15, .inl (cI, 80, .inl (fun _ => 0)))] := hD
  refine lv_aload_n hx hb dE_init_20 rfl (lv_at hl 0 rfl) ?_
  refine lv_bipush (v := 80) hx hb dE_init_21 (by decide) ?_
  refine gn_I (N := 80) hx hb (ht _ m_51) hK hP hD hS hA (by decide) (by decide) (by decide) (Nat.le_of_ble_eq_true rfl) (Nat.le_of_ble_eq_true rfl) dE_init_23 (fun q23 H hP hD hS => ?_)
  refine W.widen (k := 3) (n := 240) (by decide) (by decide) ?_
  have hP : va_P D vwCl [(o, .inr (2, [.ref q7, .ref q15, .null, .null, .int (nI 0)])), (q7, .inl (cI, 80, .inl (fun _ => 0))), (q15, .inl (cI, 80, .inl (fun _ => 0))), (q23, .inl (cI, 80, .inl (fun _ => 0)))] H := hP
  have hD : va_D A [(o, .inr (2, [.ref q7, .ref q15, .null, .null, .int (nI 0)])), (q7, .inl (cI, 80, .inl (fun _ => 0))), (q15, .inl (cI, 80, .inl (fun _ => 0))), (q23, .inl (cI, 80, .inl (fun _ => 0)))] := hD
  refine va_putF (D := D) (ci := 2) (v := .ref q23) (ty := .array .int) (C := R_E) (T := F_E) (N := 5) hx hb ht i_E ft_E ft_E_ok fn_E hown hK hP hD hS 0 rfl rfl 2 (by decide) (ht _ m_34) (fun _ h9 => h9) rfl hin rfl (by decide +kernel) rfl rfl (Nat.le_of_ble_eq_true rfl) dE_init_25 (fun H locs hP hD hS => ?_)
  have hP : va_P D vwCl [(o, .inr (2, [.ref q7, .ref q15, .ref q23, .null, .int (nI 0)])), (q7, .inl (cI, 80, .inl (fun _ => 0))), (q15, .inl (cI, 80, .inl (fun _ => 0))), (q23, .inl (cI, 80, .inl (fun _ => 0)))] H := hP
  have hD : va_D A [(o, .inr (2, [.ref q7, .ref q15, .ref q23, .null, .int (nI 0)])), (q7, .inl (cI, 80, .inl (fun _ => 0))), (q15, .inl (cI, 80, .inl (fun _ => 0))), (q23, .inl (cI, 80, .inl (fun _ => 0)))] := hD
  refine lv_aload_n hx hb dE_init_28 rfl (lv_at hl 0 rfl) ?_
  refine lv_bipush (v := 80) hx hb dE_init_29 (by decide) ?_
  refine gn_I (N := 80) hx hb (ht _ m_51) hK hP hD hS hA (by decide) (by decide) (by decide) (Nat.le_of_ble_eq_true rfl) (Nat.le_of_ble_eq_true rfl) dE_init_31 (fun q31 H hP hD hS => ?_)
  refine W.widen (k := 4) (n := 320) (by decide) (by decide) ?_
  have hP : va_P D vwCl [(o, .inr (2, [.ref q7, .ref q15, .ref q23, .null, .int (nI 0)])), (q7, .inl (cI, 80, .inl (fun _ => 0))), (q15, .inl (cI, 80, .inl (fun _ => 0))), (q23, .inl (cI, 80, .inl (fun _ => 0))), (q31, .inl (cI, 80, .inl (fun _ => 0)))] H := hP
  have hD : va_D A [(o, .inr (2, [.ref q7, .ref q15, .ref q23, .null, .int (nI 0)])), (q7, .inl (cI, 80, .inl (fun _ => 0))), (q15, .inl (cI, 80, .inl (fun _ => 0))), (q23, .inl (cI, 80, .inl (fun _ => 0))), (q31, .inl (cI, 80, .inl (fun _ => 0)))] := hD
  refine va_putF (D := D) (ci := 2) (v := .ref q31) (ty := .array .int) (C := R_E) (T := F_E) (N := 5) hx hb ht i_E ft_E ft_E_ok fn_E hown hK hP hD hS 0 rfl rfl 3 (by decide) (ht _ m_36) (fun _ h9 => h9) rfl hin rfl (by decide +kernel) rfl rfl (Nat.le_of_ble_eq_true rfl) dE_init_33 (fun H locs hP hD hS => ?_)
  have hP : va_P D vwCl [(o, .inr (2, [.ref q7, .ref q15, .ref q23, .ref q31, .int (nI 0)])), (q7, .inl (cI, 80, .inl (fun _ => 0))), (q15, .inl (cI, 80, .inl (fun _ => 0))), (q23, .inl (cI, 80, .inl (fun _ => 0))), (q31, .inl (cI, 80, .inl (fun _ => 0)))] H := hP
  have hD : va_D A [(o, .inr (2, [.ref q7, .ref q15, .ref q23, .ref q31, .int (nI 0)])), (q7, .inl (cI, 80, .inl (fun _ => 0))), (q15, .inl (cI, 80, .inl (fun _ => 0))), (q23, .inl (cI, 80, .inl (fun _ => 0))), (q31, .inl (cI, 80, .inl (fun _ => 0)))] := hD
  exact W.vret hx hb hr (fun t9 ht9 hW => ⟨⟨_, rfl, ⟨(fun k => match k with | 0 => q7 | 1 => q15 | 2 => q23 | _ => q31), rfl⟩, by rw [ht9]; exact hP, hD⟩, hS.F ht9⟩) hS.2.2 dE_init_36

