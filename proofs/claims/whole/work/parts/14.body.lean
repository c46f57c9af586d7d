set_option maxRecDepth 20000 in
theorem mh_min : Cond.code Lib.Math.min.name Lib.Math.min.code 2 (some .int) ∈ gk_big := gk_in (i := 204) (by decide +kernel) rfl
set_option maxRecDepth 20000 in
theorem mh_max : Cond.code Lib.Math.max.name Lib.Math.max.code 2 (some .int) ∈ gk_big := gk_in (i := 199) (by decide +kernel) rfl
theorem gx_min {x y : Int32} {a b : Nat} (hx : x = nI a) (hy : y = nI b) (ha : a < 2 ^ 31) (hb : b < 2 ^ 31) : (if y < x then y else x) = nI (min a b) := by
  by_cases h : y < x
  · rw [if_pos h, hy]; have := (gx_lt hy hx hb ha).mp h; rw [Nat.min_eq_right (by omega)]
  · rw [if_neg h, hx]; have : ¬ b < a := fun z => h ((gx_lt hy hx hb ha).mpr z); rw [Nat.min_eq_left (by omega)]
theorem gx_max {x y : Int32} {a b : Nat} (hx : x = nI a) (hy : y = nI b) (ha : a < 2 ^ 31) (hb : b < 2 ^ 31) : (if x < y then y else x) = nI (max a b) := by
  by_cases h : x < y
  · rw [if_pos h, hy]; have := (gx_lt hx hy ha hb).mp h; rw [Nat.max_eq_right (by omega)]
  · rw [if_neg h, hx]; have : ¬ a < b := fun z => h ((gx_lt hx hy ha hb).mpr z); rw [Nat.max_eq_left (by omega)]
/-- a body: kinds, targets, operands, closes, opens, times, size, depth -/
abbrev Bd : Type := (Nat → Nat) × (Nat → Int32) × (Nat → Int32) × (Nat → Nat) × (Nat → Nat) × (Nat → Nat) × Nat × Nat
def bd_d1 (B : Bd) (k : Nat) : Nat := if k = 3 ∨ k = 5 then B.2.2.2.2.2.2.2 - 1 else B.2.2.2.2.2.2.2
def bd_add (B : Bd) (k : Nat) (t o : Int32) : Bd := (va_up B.1 B.2.2.2.2.2.2.1 k, upd B.2.1 B.2.2.2.2.2.2.1 t, upd B.2.2.1 B.2.2.2.2.2.2.1 o,
  (if k = 3 ∨ k = 5 then va_up (va_up B.2.2.2.1 B.2.2.2.2.2.2.1 12) (B.2.2.2.2.1 (B.2.2.2.2.2.2.2 - 1)) B.2.2.2.2.2.2.1 else va_up B.2.2.2.1 B.2.2.2.2.2.2.1 12),
  (if k = 2 ∨ k = 3 ∨ k = 4 then va_up B.2.2.2.2.1 (bd_d1 B k) B.2.2.2.2.2.2.1 else B.2.2.2.2.1),
  (if k = 2 ∨ k = 3 ∨ k = 4 then va_up B.2.2.2.2.2.1 (bd_d1 B k + 1) (B.2.2.2.2.2.1 (bd_d1 B k) * (if k = 4 then o.toNatClampNeg else 1)) else B.2.2.2.2.2.1),
  B.2.2.2.2.2.2.1 + 1, (if k = 2 ∨ k = 3 ∨ k = 4 then bd_d1 B k + 1 else bd_d1 B k))
def bd_0 : Bd := (fun _ => 0, fun _ => 0, fun _ => 0, fun _ => 0, fun _ => 0, va_up (fun _ => 0) 0 1, 0, 0)
abbrev wB (cI : ClassId) (o : Nat) (q : Nat → Nat) (B : Bd) : va_W := [(o, .inr (0, [.ref (q 0), .ref (q 1), .ref (q 2), .ref (q 3), .ref (q 4), .ref (q 5), .int (nI B.2.2.2.2.2.2.1), .int (nI B.2.2.2.2.2.2.2)])), ((q 0), .inl (cI, 12, .inl (fun z9 => nI (B.1 z9)))), ((q 1), .inl (cI, 12, .inl B.2.1)), ((q 2), .inl (cI, 12, .inl B.2.2.1)), ((q 3), .inl (cI, 12, .inl (fun z9 => nI (B.2.2.2.1 z9)))), ((q 4), .inl (cI, 12, .inl (fun z9 => nI (B.2.2.2.2.1 z9)))), ((q 5), .inl (cI, 13, .inl (fun z9 => nI (B.2.2.2.2.2.1 z9))))]
set_option maxHeartbeats 4000000 in
set_option maxRecDepth 100000 in
theorem c_B_init (l : Launch) (D : va_G) (cI cJ cB cZ : ClassId) (o : Nat)  : ct_V l y_B_init w_B_init ({ frames := 1, cells := 6, slots := 73, locals := 20 }) D (gk_T cI cJ cB cZ) [.ref o] [(o, .inr (0, [.null, .null, .null, .null, .null, .null, .int (nI 0), .int (nI 0)]))] (6) (73) (fun w => ∃ q : Nat → Nat, w = wB cI o q bd_0) := by
  intro sz
  refine Met.ofW (cc := b_B_init) (maxL := 1) (ret := none) (by decide) rfl ?_
  intro p ev9 s m args below meth c s₁ B9 hml hv
  obtain ⟨rfl, hsz, hP, hK, hN, hD0⟩ := hv
  have hx := B9.exec
  have hb := B9.bytes
  have hr := B9.returns
  have hts := atoms_spec (ws := w_B_init) B9.pre
  have ht : ∀ w ∈ gk_big, w.before _ s = true := fun w h => hts w (List.mem_cons_of_mem _ h)
  have hown : s.vm.findClass R_B = some m.cls := findClass_of_methodNamed B9.named
  have hlocks := B9.notSynchronized
  have hin : meth.name = "<init>" := (name_of_methodNamed B9.named B9.method).1
  subst hsz
  have hD := hD0.self (sz := s.heap.size)
  generalize hAe : va_A [(o, .inr (0, [.null, .null, .null, .null, .null, .null, .int (nI 0), .int (nI 0)]))] s.heap.size = A at hD ⊢
  have hA : ∀ q : Nat, s.heap.size ≤ q → A q := fun q h => by rw [← hAe]; exact Or.inr h
  generalize hHe : s.heap = H at hP ⊢
  have hS : va_S A s.heap H [] := by rw [← hHe]; exact va_S.rf
  have hP : va_P D vwCl [(o, .inr (0, [.null, .null, .null, .null, .null, .null, .int (nI 0), .int (nI 0)]))] H := hP
  have hD : va_D A [(o, .inr (0, [.null, .null, .null, .null, .null, .null, .int (nI 0), .int (nI 0)]))] := hD
  have hl := lv_entry ([.ref o]) (n := 1) (Nat.le_of_ble_eq_true rfl)
  rw [lg_entry_eq]
  generalize (lg_sl ([.ref o]) ++ List.replicate (1 - (lg_sl ([.ref o])).length) Slot.unset).toArray = ls at hl ⊢
  have hl : lv_has ls 1 [(0, .ref o)] := hl
  refine lv_aload_n hx hb dB_init_0 rfl (lv_at hl 0 rfl) ?_
  refine W.objInit hx hb hown (ht _ m_214) (ht _ m_16) (ht _ m_17) rfl (by rw [hml]; exact hl.1) rfl dB_init_1 (Nat.le_of_ble_eq_true rfl) (Nat.le_of_ble_eq_true rfl) ?_
  refine W.eq (g2 := F0 m 4 ls []) rfl ?_
  refine lv_aload_n hx hb dB_init_4 rfl (lv_at hl 0 rfl) ?_
  refine lv_bipush (v := 12) hx hb dB_init_5 (by decide) ?_
  refine gn_I (N := 12) hx hb (ht _ m_51) hK hP hD hS hA (by decide) (by decide) (by decide) (Nat.le_of_ble_eq_true rfl) (Nat.le_of_ble_eq_true rfl) dB_init_7 (fun q7 H hP hD hS => ?_)
  refine W.widen (k := 1) (n := 12) (by decide) (by decide) ?_
  have hP : va_P D vwCl [(o, .inr (0, [.null, .null, .null, .null, .null, .null, .int (nI 0), .int (nI 0)])), (q7, .inl (cI, 12, .inl (fun z9 => nI ((fun _ => 0) z9))))] H := hP
  have hD : va_D A [(o, .inr (0, [.null, .null, .null, .null, .null, .null, .int (nI 0), .int (nI 0)])), (q7, .inl (cI, 12, .inl (fun z9 => nI ((fun _ => 0) z9))))] := hD
  refine va_putF (D := D) (ci := 0) (v := .ref q7) (ty := .array .int) (C := R_B) (T := F_B) (N := 8) hx hb ht i_B ft_B ft_B_ok fn_B hown hK hP hD hS 0 rfl rfl 0 (by decide) (ht _ m_215) (fun _ h9 => h9) rfl hin rfl (by decide +kernel) rfl rfl (Nat.le_of_ble_eq_true rfl) dB_init_9 (fun H locs hP hD hS => ?_)
  have hP : va_P D vwCl [(o, .inr (0, [.ref q7, .null, .null, .null, .null, .null, .int (nI 0), .int (nI 0)])), (q7, .inl (cI, 12, .inl (fun z9 => nI ((fun _ => 0) z9))))] H := hP
  have hD : va_D A [(o, .inr (0, [.ref q7, .null, .null, .null, .null, .null, .int (nI 0), .int (nI 0)])), (q7, .inl (cI, 12, .inl (fun z9 => nI ((fun _ => 0) z9))))] := hD
  refine lv_aload_n hx hb dB_init_12 rfl (lv_at hl 0 rfl) ?_
  refine lv_bipush (v := 12) hx hb dB_init_13 (by decide) ?_
  refine gn_I (N := 12) hx hb (ht _ m_51) hK hP hD hS hA (by decide) (by decide) (by decide) (Nat.le_of_ble_eq_true rfl) (Nat.le_of_ble_eq_true rfl) dB_init_15 (fun q15 H hP hD hS => ?_)
  refine W.widen (k := 2) (n := 24) (by decide) (by decide) ?_
  have hP : va_P D vwCl [(o, .inr (0, [.ref q7, .null, .null, .null, .null, .null, .int (nI 0), .int (nI 0)])), (q7, .inl (cI, 12, .inl (fun z9 => nI ((fun _ => 0) z9)))), (q15, .inl (cI, 12, .inl (fun _ => 0)))] H := hP
  have hD : va_D A [(o, .inr (0, [.ref q7, .null, .null, .null, .null, .null, .int (nI 0), .int (nI 0)])), (q7, .inl (cI, 12, .inl (fun z9 => nI ((fun _ => 0) z9)))), (q15, .inl (cI, 12, .inl (fun _ => 0)))] := hD
  refine va_putF (D := D) (ci := 0) (v := .ref q15) (ty := .array .int) (C := R_B) (T := F_B) (N := 8) hx hb ht i_B ft_B ft_B_ok fn_B hown hK hP hD hS 0 rfl rfl 1 (by decide) (ht _ m_217) (fun _ h9 => h9) rfl hin rfl (by decide +kernel) rfl rfl (Nat.le_of_ble_eq_true rfl) dB_init_17 (fun H locs hP hD hS => ?_)
  have hP : va_P D vwCl [(o, .inr (0, [.ref q7, .ref q15, .null, .null, .null, .null, .int (nI 0), .int (nI 0)])), (q7, .inl (cI, 12, .inl (fun z9 => nI ((fun _ => 0) z9)))), (q15, .inl (cI, 12, .inl (fun _ => 0)))] H := hP
  have hD : va_D A [(o, .inr (0, [.ref q7, .ref q15, .null, .null, .null, .null, .int (nI 0), .int (nI 0)])), (q7, .inl (cI, 12, .inl (fun z9 => nI ((fun _ => 0) z9)))), (q15, .inl (cI, 12, .inl (fun _ => 0)))] := hD
  refine lv_aload_n hx hb dB_init_20 rfl (lv_at hl 0 rfl) ?_
  refine lv_bipush (v := 12) hx hb dB_init_21 (by decide) ?_
  refine gn_I (N := 12) hx hb (ht _ m_51) hK hP hD hS hA (by decide) (by decide) (by decide) (Nat.le_of_ble_eq_true rfl) (Nat.le_of_ble_eq_true rfl) dB_init_23 (fun q23 H hP hD hS => ?_)
  refine W.widen (k := 3) (n := 36) (by decide) (by decide) ?_
  have hP : va_P D vwCl [(o, .inr (0, [.ref q7, .ref q15, .null, .null, .null, .null, .int (nI 0), .int (nI 0)])), (q7, .inl (cI, 12, .inl (fun z9 => nI ((fun _ => 0) z9)))), (q15, .inl (cI, 12, .inl (fun _ => 0))), (q23, .inl (cI, 12, .inl (fun _ => 0)))] H := hP
  have hD : va_D A [(o, .inr (0, [.ref q7, .ref q15, .null, .null, .null, .null, .int (nI 0), .int (nI 0)])), (q7, .inl (cI, 12, .inl (fun z9 => nI ((fun _ => 0) z9)))), (q15, .inl (cI, 12, .inl (fun _ => 0))), (q23, .inl (cI, 12, .inl (fun _ => 0)))] := hD
  refine va_putF (D := D) (ci := 0) (v := .ref q23) (ty := .array .int) (C := R_B) (T := F_B) (N := 8) hx hb ht i_B ft_B ft_B_ok fn_B hown hK hP hD hS 0 rfl rfl 2 (by decide) (ht _ m_219) (fun _ h9 => h9) rfl hin rfl (by decide +kernel) rfl rfl (Nat.le_of_ble_eq_true rfl) dB_init_25 (fun H locs hP hD hS => ?_)
  have hP : va_P D vwCl [(o, .inr (0, [.ref q7, .ref q15, .ref q23, .null, .null, .null, .int (nI 0), .int (nI 0)])), (q7, .inl (cI, 12, .inl (fun z9 => nI ((fun _ => 0) z9)))), (q15, .inl (cI, 12, .inl (fun _ => 0))), (q23, .inl (cI, 12, .inl (fun _ => 0)))] H := hP
  have hD : va_D A [(o, .inr (0, [.ref q7, .ref q15, .ref q23, .null, .null, .null, .int (nI 0), .int (nI 0)])), (q7, .inl (cI, 12, .inl (fun z9 => nI ((fun _ => 0) z9)))), (q15, .inl (cI, 12, .inl (fun _ => 0))), (q23, .inl (cI, 12, .inl (fun _ => 0)))] := hD
  refine lv_aload_n hx hb dB_init_28 rfl (lv_at hl 0 rfl) ?_
  refine lv_bipush (v := 12) hx hb dB_init_29 (by decide) ?_
  refine gn_I (N := 12) hx hb (ht _ m_51) hK hP hD hS hA (by decide) (by decide) (by decide) (Nat.le_of_ble_eq_true rfl) (Nat.le_of_ble_eq_true rfl) dB_init_31 (fun q31 H hP hD hS => ?_)
  refine W.widen (k := 4) (n := 48) (by decide) (by decide) ?_
  have hP : va_P D vwCl [(o, .inr (0, [.ref q7, .ref q15, .ref q23, .null, .null, .null, .int (nI 0), .int (nI 0)])), (q7, .inl (cI, 12, .inl (fun z9 => nI ((fun _ => 0) z9)))), (q15, .inl (cI, 12, .inl (fun _ => 0))), (q23, .inl (cI, 12, .inl (fun _ => 0))), (q31, .inl (cI, 12, .inl (fun z9 => nI ((fun _ => 0) z9))))] H := hP
  have hD : va_D A [(o, .inr (0, [.ref q7, .ref q15, .ref q23, .null, .null, .null, .int (nI 0), .int (nI 0)])), (q7, .inl (cI, 12, .inl (fun z9 => nI ((fun _ => 0) z9)))), (q15, .inl (cI, 12, .inl (fun _ => 0))), (q23, .inl (cI, 12, .inl (fun _ => 0))), (q31, .inl (cI, 12, .inl (fun z9 => nI ((fun _ => 0) z9))))] := hD
  refine va_putF (D := D) (ci := 0) (v := .ref q31) (ty := .array .int) (C := R_B) (T := F_B) (N := 8) hx hb ht i_B ft_B ft_B_ok fn_B hown hK hP hD hS 0 rfl rfl 3 (by decide) (ht _ m_221) (fun _ h9 => h9) rfl hin rfl (by decide +kernel) rfl rfl (Nat.le_of_ble_eq_true rfl) dB_init_33 (fun H locs hP hD hS => ?_)
  have hP : va_P D vwCl [(o, .inr (0, [.ref q7, .ref q15, .ref q23, .ref q31, .null, .null, .int (nI 0), .int (nI 0)])), (q7, .inl (cI, 12, .inl (fun z9 => nI ((fun _ => 0) z9)))), (q15, .inl (cI, 12, .inl (fun _ => 0))), (q23, .inl (cI, 12, .inl (fun _ => 0))), (q31, .inl (cI, 12, .inl (fun z9 => nI ((fun _ => 0) z9))))] H := hP
  have hD : va_D A [(o, .inr (0, [.ref q7, .ref q15, .ref q23, .ref q31, .null, .null, .int (nI 0), .int (nI 0)])), (q7, .inl (cI, 12, .inl (fun z9 => nI ((fun _ => 0) z9)))), (q15, .inl (cI, 12, .inl (fun _ => 0))), (q23, .inl (cI, 12, .inl (fun _ => 0))), (q31, .inl (cI, 12, .inl (fun z9 => nI ((fun _ => 0) z9))))] := hD
  refine lv_aload_n hx hb dB_init_36 rfl (lv_at hl 0 rfl) ?_
  refine lv_bipush (v := 12) hx hb dB_init_37 (by decide) ?_
  refine gn_I (N := 12) hx hb (ht _ m_51) hK hP hD hS hA (by decide) (by decide) (by decide) (Nat.le_of_ble_eq_true rfl) (Nat.le_of_ble_eq_true rfl) dB_init_39 (fun q39 H hP hD hS => ?_)
  refine W.widen (k := 5) (n := 60) (by decide) (by decide) ?_
  have hP : va_P D vwCl [(o, .inr (0, [.ref q7, .ref q15, .ref q23, .ref q31, .null, .null, .int (nI 0), .int (nI 0)])), (q7, .inl (cI, 12, .inl (fun z9 => nI ((fun _ => 0) z9)))), (q15, .inl (cI, 12, .inl (fun _ => 0))), (q23, .inl (cI, 12, .inl (fun _ => 0))), (q31, .inl (cI, 12, .inl (fun z9 => nI ((fun _ => 0) z9)))), (q39, .inl (cI, 12, .inl (fun z9 => nI ((fun _ => 0) z9))))] H := hP
  have hD : va_D A [(o, .inr (0, [.ref q7, .ref q15, .ref q23, .ref q31, .null, .null, .int (nI 0), .int (nI 0)])), (q7, .inl (cI, 12, .inl (fun z9 => nI ((fun _ => 0) z9)))), (q15, .inl (cI, 12, .inl (fun _ => 0))), (q23, .inl (cI, 12, .inl (fun _ => 0))), (q31, .inl (cI, 12, .inl (fun z9 => nI ((fun _ => 0) z9)))), (q39, .inl (cI, 12, .inl (fun z9 => nI ((fun _ => 0) z9))))] := hD
  refine va_putF (D := D) (ci := 0) (v := .ref q39) (ty := .array .int) (C := R_B) (T := F_B) (N := 8) hx hb ht i_B ft_B ft_B_ok fn_B hown hK hP hD hS 0 rfl rfl 4 (by decide) (ht _ m_222) (fun _ h9 => h9) rfl hin rfl (by decide +kernel) rfl rfl (Nat.le_of_ble_eq_true rfl) dB_init_41 (fun H locs hP hD hS => ?_)
  have hP : va_P D vwCl [(o, .inr (0, [.ref q7, .ref q15, .ref q23, .ref q31, .ref q39, .null, .int (nI 0), .int (nI 0)])), (q7, .inl (cI, 12, .inl (fun z9 => nI ((fun _ => 0) z9)))), (q15, .inl (cI, 12, .inl (fun _ => 0))), (q23, .inl (cI, 12, .inl (fun _ => 0))), (q31, .inl (cI, 12, .inl (fun z9 => nI ((fun _ => 0) z9)))), (q39, .inl (cI, 12, .inl (fun z9 => nI ((fun _ => 0) z9))))] H := hP
  have hD : va_D A [(o, .inr (0, [.ref q7, .ref q15, .ref q23, .ref q31, .ref q39, .null, .int (nI 0), .int (nI 0)])), (q7, .inl (cI, 12, .inl (fun z9 => nI ((fun _ => 0) z9)))), (q15, .inl (cI, 12, .inl (fun _ => 0))), (q23, .inl (cI, 12, .inl (fun _ => 0))), (q31, .inl (cI, 12, .inl (fun z9 => nI ((fun _ => 0) z9)))), (q39, .inl (cI, 12, .inl (fun z9 => nI ((fun _ => 0) z9))))] := hD
  refine lv_aload_n hx hb dB_init_44 rfl (lv_at hl 0 rfl) ?_
  refine lv_bipush (v := 13) hx hb dB_init_45 (by decide) ?_
  refine gn_I (N := 13) hx hb (ht _ m_51) hK hP hD hS hA (by decide) (by decide) (by decide) (Nat.le_of_ble_eq_true rfl) (Nat.le_of_ble_eq_true rfl) dB_init_47 (fun q47 H hP hD hS => ?_)
  refine W.widen (k := 6) (n := 73) (by decide) (by decide) ?_
  have hP : va_P D vwCl [(o, .inr (0, [.ref q7, .ref q15, .ref q23, .ref q31, .ref q39, .null, .int (nI 0), .int (nI 0)])), (q7, .inl (cI, 12, .inl (fun z9 => nI ((fun _ => 0) z9)))), (q15, .inl (cI, 12, .inl (fun _ => 0))), (q23, .inl (cI, 12, .inl (fun _ => 0))), (q31, .inl (cI, 12, .inl (fun z9 => nI ((fun _ => 0) z9)))), (q39, .inl (cI, 12, .inl (fun z9 => nI ((fun _ => 0) z9)))), (q47, .inl (cI, 13, .inl (fun z9 => nI ((fun _ => 0) z9))))] H := hP
  have hD : va_D A [(o, .inr (0, [.ref q7, .ref q15, .ref q23, .ref q31, .ref q39, .null, .int (nI 0), .int (nI 0)])), (q7, .inl (cI, 12, .inl (fun z9 => nI ((fun _ => 0) z9)))), (q15, .inl (cI, 12, .inl (fun _ => 0))), (q23, .inl (cI, 12, .inl (fun _ => 0))), (q31, .inl (cI, 12, .inl (fun z9 => nI ((fun _ => 0) z9)))), (q39, .inl (cI, 12, .inl (fun z9 => nI ((fun _ => 0) z9)))), (q47, .inl (cI, 13, .inl (fun z9 => nI ((fun _ => 0) z9))))] := hD
  refine va_putF (D := D) (ci := 0) (v := .ref q47) (ty := .array .int) (C := R_B) (T := F_B) (N := 8) hx hb ht i_B ft_B ft_B_ok fn_B hown hK hP hD hS 0 rfl rfl 5 (by decide) (ht _ m_223) (fun _ h9 => h9) rfl hin rfl (by decide +kernel) rfl rfl (Nat.le_of_ble_eq_true rfl) dB_init_49 (fun H locs hP hD hS => ?_)
  have hP : va_P D vwCl [(o, .inr (0, [.ref q7, .ref q15, .ref q23, .ref q31, .ref q39, .ref q47, .int (nI 0), .int (nI 0)])), (q7, .inl (cI, 12, .inl (fun z9 => nI ((fun _ => 0) z9)))), (q15, .inl (cI, 12, .inl (fun _ => 0))), (q23, .inl (cI, 12, .inl (fun _ => 0))), (q31, .inl (cI, 12, .inl (fun z9 => nI ((fun _ => 0) z9)))), (q39, .inl (cI, 12, .inl (fun z9 => nI ((fun _ => 0) z9)))), (q47, .inl (cI, 13, .inl (fun z9 => nI ((fun _ => 0) z9))))] H := hP
  have hD : va_D A [(o, .inr (0, [.ref q7, .ref q15, .ref q23, .ref q31, .ref q39, .ref q47, .int (nI 0), .int (nI 0)])), (q7, .inl (cI, 12, .inl (fun z9 => nI ((fun _ => 0) z9)))), (q15, .inl (cI, 12, .inl (fun _ => 0))), (q23, .inl (cI, 12, .inl (fun _ => 0))), (q31, .inl (cI, 12, .inl (fun z9 => nI ((fun _ => 0) z9)))), (q39, .inl (cI, 12, .inl (fun z9 => nI ((fun _ => 0) z9)))), (q47, .inl (cI, 13, .inl (fun z9 => nI ((fun _ => 0) z9))))] := hD
  refine lv_aload_n hx hb dB_init_52 rfl (lv_at hl 0 rfl) ?_
  refine va_get (D := D) (ci := 0) (v := .ref q47) (C := R_B) (T := F_B) (N := 8) hx hb ht i_B hown hK hP 0 rfl rfl 5 (by decide) (ht _ m_223) (fun _ h9 => h9) rfl dB_init_53 ?_
  refine lv_iconst (v := 0) hx hb dB_init_56 (by decide) ?_
  refine lv_iconst (v := 1) hx hb dB_init_57 (by decide) ?_
  have i58 : vp_in 0 13 := gx_in (rfl : (0 : Int32) = nI 0) (by decide) (by decide)
  have k58 : (0 : Int32).toNatClampNeg = 0 := gx_cl (rfl : (0 : Int32) = nI 0) (by decide)
  refine va_iast hx hb hK hP hD hS 6 0 rfl rfl i58 dB_init_58 (fun H locs hP hD hS => ?_)
  rw [k58] at hP hD
  have hP : va_P D vwCl [(o, .inr (0, [.ref q7, .ref q15, .ref q23, .ref q31, .ref q39, .ref q47, .int (nI 0), .int (nI 0)])), (q7, .inl (cI, 12, .inl (fun z9 => nI ((fun _ => 0) z9)))), (q15, .inl (cI, 12, .inl (fun _ => 0))), (q23, .inl (cI, 12, .inl (fun _ => 0))), (q31, .inl (cI, 12, .inl (fun z9 => nI ((fun _ => 0) z9)))), (q39, .inl (cI, 12, .inl (fun z9 => nI ((fun _ => 0) z9)))), (q47, .inl (cI, 13, .inl (upd (fun z9 => nI ((fun _ => 0) z9)) 0 (nI 1))))] H := hP
  have hD : va_D A [(o, .inr (0, [.ref q7, .ref q15, .ref q23, .ref q31, .ref q39, .ref q47, .int (nI 0), .int (nI 0)])), (q7, .inl (cI, 12, .inl (fun z9 => nI ((fun _ => 0) z9)))), (q15, .inl (cI, 12, .inl (fun _ => 0))), (q23, .inl (cI, 12, .inl (fun _ => 0))), (q31, .inl (cI, 12, .inl (fun z9 => nI ((fun _ => 0) z9)))), (q39, .inl (cI, 12, .inl (fun z9 => nI ((fun _ => 0) z9)))), (q47, .inl (cI, 13, .inl (upd (fun z9 => nI ((fun _ => 0) z9)) 0 (nI 1))))] := hD
  rw [gx_upd] at hP hD
  exact W.vret hx hb hr (fun t9 ht9 hW => ⟨⟨_, rfl, ⟨(fun k => match k with | 0 => q7 | 1 => q15 | 2 => q23 | 3 => q31 | 4 => q39 | _ => q47), rfl⟩, by rw [ht9]; exact hP, hD⟩, hS.F ht9⟩) hS.2.2 dB_init_59

set_option maxHeartbeats 4000000 in
set_option maxRecDepth 100000 in
theorem c_B_isFull (l : Launch) (D : va_G) (cI cJ cB cZ : ClassId) (o : Nat) (q : Nat → Nat) (B : Bd) (hs : B.2.2.2.2.2.2.1 ≤ 12) : ct_I l y_B_isFull w_B_isFull ({ frames := 0, cells := 0, slots := 0, locals := 0 }) D (gk_T cI cJ cB cZ) [.ref o] (wB cI o q B) (0) (0) (fun r w => r = gb (12 ≤ B.2.2.2.2.2.2.1) ∧ w = wB cI o q B) := by
  intro sz
  refine Met.ofW (cc := b_B_isFull) (maxL := 1) (ret := (some .boolean)) (by decide) rfl ?_
  intro p ev9 s m args below meth c s₁ B9 hml hv
  obtain ⟨rfl, hsz, hP, hK, hN, hD0⟩ := hv
  have hx := B9.exec
  have hb := B9.bytes
  have hr := B9.returns
  have hts := atoms_spec (ws := w_B_isFull) B9.pre
  have ht : ∀ w ∈ gk_big, w.before _ s = true := fun w h => hts w (List.mem_cons_of_mem _ h)
  have hown : s.vm.findClass R_B = some m.cls := findClass_of_methodNamed B9.named
  have hlocks := B9.notSynchronized
  subst hsz
  have hD := hD0.self (sz := s.heap.size)
  generalize hAe : va_A (wB cI o q B) s.heap.size = A at hD ⊢
  have hA : ∀ q : Nat, s.heap.size ≤ q → A q := fun q h => by rw [← hAe]; exact Or.inr h
  generalize hHe : s.heap = H at hP ⊢
  have hS : va_S A s.heap H [] := by rw [← hHe]; exact va_S.rf
  have hP : va_P D vwCl [(o, .inr (0, [.ref (q 0), .ref (q 1), .ref (q 2), .ref (q 3), .ref (q 4), .ref (q 5), .int (nI B.2.2.2.2.2.2.1), .int (nI B.2.2.2.2.2.2.2)])), ((q 0), .inl (cI, 12, .inl (fun z9 => nI (B.1 z9)))), ((q 1), .inl (cI, 12, .inl B.2.1)), ((q 2), .inl (cI, 12, .inl B.2.2.1)), ((q 3), .inl (cI, 12, .inl (fun z9 => nI (B.2.2.2.1 z9)))), ((q 4), .inl (cI, 12, .inl (fun z9 => nI (B.2.2.2.2.1 z9)))), ((q 5), .inl (cI, 13, .inl (fun z9 => nI (B.2.2.2.2.2.1 z9))))] H := hP
  have hD : va_D A [(o, .inr (0, [.ref (q 0), .ref (q 1), .ref (q 2), .ref (q 3), .ref (q 4), .ref (q 5), .int (nI B.2.2.2.2.2.2.1), .int (nI B.2.2.2.2.2.2.2)])), ((q 0), .inl (cI, 12, .inl (fun z9 => nI (B.1 z9)))), ((q 1), .inl (cI, 12, .inl B.2.1)), ((q 2), .inl (cI, 12, .inl B.2.2.1)), ((q 3), .inl (cI, 12, .inl (fun z9 => nI (B.2.2.2.1 z9)))), ((q 4), .inl (cI, 12, .inl (fun z9 => nI (B.2.2.2.2.1 z9)))), ((q 5), .inl (cI, 13, .inl (fun z9 => nI (B.2.2.2.2.2.1 z9))))] := hD
  have hl := lv_entry ([.ref o]) (n := 1) (Nat.le_of_ble_eq_true rfl)
  rw [lg_entry_eq]
  generalize (lg_sl ([.ref o]) ++ List.replicate (1 - (lg_sl ([.ref o])).length) Slot.unset).toArray = ls at hl ⊢
  have hl : lv_has ls 1 [(0, .ref o)] := hl
  refine lv_aload_n hx hb dB_isFull_0 rfl (lv_at hl 0 rfl) ?_
  refine va_get (D := D) (ci := 0) (v := .int (nI B.2.2.2.2.2.2.1)) (C := R_B) (T := F_B) (N := 8) hx hb ht i_B hown hK hP 0 rfl rfl 6 (by decide) (ht _ m_224) (fun _ h9 => h9) rfl dB_isFull_1 ?_
  refine lv_bipush (v := 12) hx hb dB_isFull_4 (by decide) ?_
  refine lv_icmp_lt (tgt := 13) hx hb dB_isFull_6 (by decide) (fun c6 => ?_) (fun c6 => ?_)
  · have g6 : B.2.2.2.2.2.2.1 < 12 := (gx_lt (rfl : (nI B.2.2.2.2.2.2.1) = (nI B.2.2.2.2.2.2.1)) (rfl : (12 : Int32) = nI 12) (by omega) (by decide)).mp c6
    refine lv_iconst (v := 0) hx hb dB_isFull_13 (by decide) ?_
    exact W.zret (v := 0) hx hb hr (by decide) (fun t9 ht9 hW => ⟨⟨0, _, rfl, ⟨gb_f (by omega), rfl⟩, by rw [ht9]; exact hP, hD⟩, hS.F ht9⟩) hS.2.2 dB_isFull_14
  · have g6 : ¬ (B.2.2.2.2.2.2.1 < 12) := fun z => c6 ((gx_lt (rfl : (nI B.2.2.2.2.2.2.1) = (nI B.2.2.2.2.2.2.1)) (rfl : (12 : Int32) = nI 12) (by omega) (by decide)).mpr z)
    refine lv_iconst (v := 1) hx hb dB_isFull_9 (by decide) ?_
    refine lv_goto (tgt := 14) hx hb dB_isFull_10 (by decide) ?_
    exact W.zret (v := 1) hx hb hr (by decide) (fun t9 ht9 hW => ⟨⟨1, _, rfl, ⟨gb_t (by omega), rfl⟩, by rw [ht9]; exact hP, hD⟩, hS.F ht9⟩) hS.2.2 dB_isFull_14

set_option maxHeartbeats 4000000 in
set_option maxRecDepth 100000 in
theorem c_B_timesDone (l : Launch) (D : va_G) (cI cJ cB cZ : ClassId) (o : Nat) (q : Nat → Nat) (B : Bd) (hd : B.2.2.2.2.2.2.2 ≤ 12) : ct_I l y_B_timesDone w_B_timesDone ({ frames := 0, cells := 0, slots := 0, locals := 0 }) D (gk_T cI cJ cB cZ) [.ref o] (wB cI o q B) (0) (0) (fun r w => r = nI (B.2.2.2.2.2.1 B.2.2.2.2.2.2.2) ∧ w = wB cI o q B) := by
  intro sz
  refine Met.ofW (cc := b_B_timesDone) (maxL := 1) (ret := (some .int)) (by decide) rfl ?_
  intro p ev9 s m args below meth c s₁ B9 hml hv
  obtain ⟨rfl, hsz, hP, hK, hN, hD0⟩ := hv
  have hx := B9.exec
  have hb := B9.bytes
  have hr := B9.returns
  have hts := atoms_spec (ws := w_B_timesDone) B9.pre
  have ht : ∀ w ∈ gk_big, w.before _ s = true := fun w h => hts w (List.mem_cons_of_mem _ h)
  have hown : s.vm.findClass R_B = some m.cls := findClass_of_methodNamed B9.named
  have hlocks := B9.notSynchronized
  subst hsz
  have hD := hD0.self (sz := s.heap.size)
  generalize hAe : va_A (wB cI o q B) s.heap.size = A at hD ⊢
  have hA : ∀ q : Nat, s.heap.size ≤ q → A q := fun q h => by rw [← hAe]; exact Or.inr h
  generalize hHe : s.heap = H at hP ⊢
  have hS : va_S A s.heap H [] := by rw [← hHe]; exact va_S.rf
  have hP : va_P D vwCl [(o, .inr (0, [.ref (q 0), .ref (q 1), .ref (q 2), .ref (q 3), .ref (q 4), .ref (q 5), .int (nI B.2.2.2.2.2.2.1), .int (nI B.2.2.2.2.2.2.2)])), ((q 0), .inl (cI, 12, .inl (fun z9 => nI (B.1 z9)))), ((q 1), .inl (cI, 12, .inl B.2.1)), ((q 2), .inl (cI, 12, .inl B.2.2.1)), ((q 3), .inl (cI, 12, .inl (fun z9 => nI (B.2.2.2.1 z9)))), ((q 4), .inl (cI, 12, .inl (fun z9 => nI (B.2.2.2.2.1 z9)))), ((q 5), .inl (cI, 13, .inl (fun z9 => nI (B.2.2.2.2.2.1 z9))))] H := hP
  have hD : va_D A [(o, .inr (0, [.ref (q 0), .ref (q 1), .ref (q 2), .ref (q 3), .ref (q 4), .ref (q 5), .int (nI B.2.2.2.2.2.2.1), .int (nI B.2.2.2.2.2.2.2)])), ((q 0), .inl (cI, 12, .inl (fun z9 => nI (B.1 z9)))), ((q 1), .inl (cI, 12, .inl B.2.1)), ((q 2), .inl (cI, 12, .inl B.2.2.1)), ((q 3), .inl (cI, 12, .inl (fun z9 => nI (B.2.2.2.1 z9)))), ((q 4), .inl (cI, 12, .inl (fun z9 => nI (B.2.2.2.2.1 z9)))), ((q 5), .inl (cI, 13, .inl (fun z9 => nI (B.2.2.2.2.2.1 z9))))] := hD
  have hl := lv_entry ([.ref o]) (n := 1) (Nat.le_of_ble_eq_true rfl)
  rw [lg_entry_eq]
  generalize (lg_sl ([.ref o]) ++ List.replicate (1 - (lg_sl ([.ref o])).length) Slot.unset).toArray = ls at hl ⊢
  have hl : lv_has ls 1 [(0, .ref o)] := hl
  refine lv_aload_n hx hb dB_timesDone_0 rfl (lv_at hl 0 rfl) ?_
  refine va_get (D := D) (ci := 0) (v := .ref (q 5)) (C := R_B) (T := F_B) (N := 8) hx hb ht i_B hown hK hP 0 rfl rfl 5 (by decide) (ht _ m_223) (fun _ h9 => h9) rfl dB_timesDone_1 ?_
  refine lv_aload_n hx hb dB_timesDone_4 rfl (lv_at hl 0 rfl) ?_
  refine va_get (D := D) (ci := 0) (v := .int (nI B.2.2.2.2.2.2.2)) (C := R_B) (T := F_B) (N := 8) hx hb ht i_B hown hK hP 0 rfl rfl 7 (by decide) (ht _ m_227) (fun _ h9 => h9) rfl dB_timesDone_5 ?_
  have i8 : vp_in (nI B.2.2.2.2.2.2.2) 13 := gx_in (rfl : (nI B.2.2.2.2.2.2.2) = (nI B.2.2.2.2.2.2.2)) (by omega) (by decide)
  have k8 : ((nI B.2.2.2.2.2.2.2) : Int32).toNatClampNeg = B.2.2.2.2.2.2.2 := gx_cl (rfl : (nI B.2.2.2.2.2.2.2) = (nI B.2.2.2.2.2.2.2)) (by omega)
  refine va_iald hx hb hK hP 6 0 rfl rfl i8 dB_timesDone_8 ?_
  rw [k8]
  refine lv_topi (fun v8 e8 => ?_)
  have n8 : v8 = nI (B.2.2.2.2.2.1 B.2.2.2.2.2.2.2) := e8
  subst n8
  exact W.iret (v := (nI (B.2.2.2.2.2.1 B.2.2.2.2.2.2.2))) hx hb hr (fun t9 ht9 hW => ⟨⟨(nI (B.2.2.2.2.2.1 B.2.2.2.2.2.2.2)), _, rfl, ⟨rfl, rfl⟩, by rw [ht9]; exact hP, hD⟩, hS.F ht9⟩) hS.2.2 dB_timesDone_9

def bd_room (B : Bd) (k : Nat) : Prop := (k = 3 → 0 < B.2.2.2.2.2.2.2 ∧ B.1 (B.2.2.2.2.1 (B.2.2.2.2.2.2.2 - 1)) = 2) ∧ (k = 5 → 0 < B.2.2.2.2.2.2.2)
set_option maxHeartbeats 4000000 in
set_option maxRecDepth 100000 in
theorem c_B_hasRoomFor (l : Launch) (D : va_G) (cI cJ cB cZ : ClassId) (o : Nat) (q : Nat → Nat) (B : Bd) (k : Nat) (hk : k ≤ 5) (hd : B.2.2.2.2.2.2.2 ≤ 12) (hon : 0 < B.2.2.2.2.2.2.2 → B.2.2.2.2.1 (B.2.2.2.2.2.2.2 - 1) < 12) (hkk : ∀ i, B.1 i ≤ 5) : ct_I l y_B_hasRoomFor w_B_hasRoomFor ({ frames := 0, cells := 0, slots := 0, locals := 0 }) D (gk_T cI cJ cB cZ) [.ref o, .int (nI k)] (wB cI o q B) (0) (0) (fun r w => r = gb (bd_room B k) ∧ w = wB cI o q B) := by
  intro sz
  refine Met.ofW (cc := b_B_hasRoomFor) (maxL := 2) (ret := (some .boolean)) (by decide) rfl ?_
  intro p ev9 s m args below meth c s₁ B9 hml hv
  obtain ⟨rfl, hsz, hP, hK, hN, hD0⟩ := hv
  have hx := B9.exec
  have hb := B9.bytes
  have hr := B9.returns
  have hts := atoms_spec (ws := w_B_hasRoomFor) B9.pre
  have ht : ∀ w ∈ gk_big, w.before _ s = true := fun w h => hts w (List.mem_cons_of_mem _ h)
  have hown : s.vm.findClass R_B = some m.cls := findClass_of_methodNamed B9.named
  have hlocks := B9.notSynchronized
  subst hsz
  have hD := hD0.self (sz := s.heap.size)
  generalize hAe : va_A (wB cI o q B) s.heap.size = A at hD ⊢
  have hA : ∀ q : Nat, s.heap.size ≤ q → A q := fun q h => by rw [← hAe]; exact Or.inr h
  generalize hHe : s.heap = H at hP ⊢
  have hS : va_S A s.heap H [] := by rw [← hHe]; exact va_S.rf
  have hP : va_P D vwCl [(o, .inr (0, [.ref (q 0), .ref (q 1), .ref (q 2), .ref (q 3), .ref (q 4), .ref (q 5), .int (nI B.2.2.2.2.2.2.1), .int (nI B.2.2.2.2.2.2.2)])), ((q 0), .inl (cI, 12, .inl (fun z9 => nI (B.1 z9)))), ((q 1), .inl (cI, 12, .inl B.2.1)), ((q 2), .inl (cI, 12, .inl B.2.2.1)), ((q 3), .inl (cI, 12, .inl (fun z9 => nI (B.2.2.2.1 z9)))), ((q 4), .inl (cI, 12, .inl (fun z9 => nI (B.2.2.2.2.1 z9)))), ((q 5), .inl (cI, 13, .inl (fun z9 => nI (B.2.2.2.2.2.1 z9))))] H := hP
  have hD : va_D A [(o, .inr (0, [.ref (q 0), .ref (q 1), .ref (q 2), .ref (q 3), .ref (q 4), .ref (q 5), .int (nI B.2.2.2.2.2.2.1), .int (nI B.2.2.2.2.2.2.2)])), ((q 0), .inl (cI, 12, .inl (fun z9 => nI (B.1 z9)))), ((q 1), .inl (cI, 12, .inl B.2.1)), ((q 2), .inl (cI, 12, .inl B.2.2.1)), ((q 3), .inl (cI, 12, .inl (fun z9 => nI (B.2.2.2.1 z9)))), ((q 4), .inl (cI, 12, .inl (fun z9 => nI (B.2.2.2.2.1 z9)))), ((q 5), .inl (cI, 13, .inl (fun z9 => nI (B.2.2.2.2.2.1 z9))))] := hD
  have hl := lv_entry ([.ref o, .int (nI k)]) (n := 2) (Nat.le_of_ble_eq_true rfl)
  rw [lg_entry_eq]
  generalize (lg_sl ([.ref o, .int (nI k)]) ++ List.replicate (2 - (lg_sl ([.ref o, .int (nI k)])).length) Slot.unset).toArray = ls at hl ⊢
  have hl : lv_has ls 2 [(0, .ref o), (1, .int (nI k))] := hl
  have hkx := hkk (B.2.2.2.2.1 (B.2.2.2.2.2.2.2 - 1))
  refine lv_iload_n hx hb dB_hasRoomFor_0 rfl (lv_at hl 1 rfl) ?_
  by_cases s1_0 : (nI k) = 3
  · have hk3 : k = 3 := (gx_eq (rfl : (nI k) = (nI k)) (rfl : (3 : Int32) = nI 3) (by omega) (by decide)).mp s1_0
    refine lv_lookup (tgt := 28) (off := 27) hx hb dB_hasRoomFor_1 (by decide) (by rw [s1_0] <;> rfl) (by decide) ?_
    refine lv_aload_n hx hb dB_hasRoomFor_28 rfl (lv_at hl 0 rfl) ?_
    refine va_get (D := D) (ci := 0) (v := .int (nI B.2.2.2.2.2.2.2)) (C := R_B) (T := F_B) (N := 8) hx hb ht i_B hown hK hP 0 rfl rfl 7 (by decide) (ht _ m_227) (fun _ h9 => h9) rfl dB_hasRoomFor_29 ?_
    refine lv_if_le (tgt := 59) hx hb dB_hasRoomFor_32 (by decide) (fun c32 => ?_) (fun c32 => ?_)
    · have g32 : B.2.2.2.2.2.2.2 ≤ 0 := (gx_le (rfl : (nI B.2.2.2.2.2.2.2) = (nI B.2.2.2.2.2.2.2)) (rfl : (0 : Int32) = nI 0) (by omega) (by decide)).mp c32
      refine lv_iconst (v := 0) hx hb dB_hasRoomFor_59 (by decide) ?_
      exact W.zret (v := 0) hx hb hr (by decide) (fun t9 ht9 hW => ⟨⟨0, _, rfl, ⟨gb_f (fun z => absurd (z.1 hk3).1 (by omega)), rfl⟩, by rw [ht9]; exact hP, hD⟩, hS.F ht9⟩) hS.2.2 dB_hasRoomFor_60
    · have g32 : ¬ (B.2.2.2.2.2.2.2 ≤ 0) := fun z => c32 ((gx_le (rfl : (nI B.2.2.2.2.2.2.2) = (nI B.2.2.2.2.2.2.2)) (rfl : (0 : Int32) = nI 0) (by omega) (by decide)).mpr z)
      refine lv_aload_n hx hb dB_hasRoomFor_35 rfl (lv_at hl 0 rfl) ?_
      refine va_get (D := D) (ci := 0) (v := .ref (q 0)) (C := R_B) (T := F_B) (N := 8) hx hb ht i_B hown hK hP 0 rfl rfl 0 (by decide) (ht _ m_215) (fun _ h9 => h9) rfl dB_hasRoomFor_36 ?_
      refine lv_aload_n hx hb dB_hasRoomFor_39 rfl (lv_at hl 0 rfl) ?_
      refine va_get (D := D) (ci := 0) (v := .ref (q 4)) (C := R_B) (T := F_B) (N := 8) hx hb ht i_B hown hK hP 0 rfl rfl 4 (by decide) (ht _ m_222) (fun _ h9 => h9) rfl dB_hasRoomFor_40 ?_
      refine lv_aload_n hx hb dB_hasRoomFor_43 rfl (lv_at hl 0 rfl) ?_
      refine va_get (D := D) (ci := 0) (v := .int (nI B.2.2.2.2.2.2.2)) (C := R_B) (T := F_B) (N := 8) hx hb ht i_B hown hK hP 0 rfl rfl 7 (by decide) (ht _ m_227) (fun _ h9 => h9) rfl dB_hasRoomFor_44 ?_
      refine lv_iconst (v := 1) hx hb dB_hasRoomFor_47 (by decide) ?_
      refine lv_isub hx hb dB_hasRoomFor_48 ?_
      refine lv_topi (fun v48 e48 => ?_)
      have n48 : v48 = nI (B.2.2.2.2.2.2.2 - 1) := by rw [e48]; exact gx_sub (rfl : (nI B.2.2.2.2.2.2.2) = (nI B.2.2.2.2.2.2.2)) (rfl : (1 : Int32) = nI 1) (by omega)
      subst n48
      have hop := hon (by omega)
      have i49 : vp_in (nI (B.2.2.2.2.2.2.2 - 1)) 12 := gx_in (rfl : (nI (B.2.2.2.2.2.2.2 - 1)) = (nI (B.2.2.2.2.2.2.2 - 1))) (by omega) (by decide)
      have k49 : ((nI (B.2.2.2.2.2.2.2 - 1)) : Int32).toNatClampNeg = (B.2.2.2.2.2.2.2 - 1) := gx_cl (rfl : (nI (B.2.2.2.2.2.2.2 - 1)) = (nI (B.2.2.2.2.2.2.2 - 1))) (by omega)
      refine va_iald hx hb hK hP 5 0 rfl rfl i49 dB_hasRoomFor_49 ?_
      rw [k49]
      refine lv_topi (fun v49 e49 => ?_)
      have n49 : v49 = nI (B.2.2.2.2.1 (B.2.2.2.2.2.2.2 - 1)) := e49
      subst n49
      have i50 : vp_in (nI (B.2.2.2.2.1 (B.2.2.2.2.2.2.2 - 1))) 12 := gx_in (rfl : (nI (B.2.2.2.2.1 (B.2.2.2.2.2.2.2 - 1))) = (nI (B.2.2.2.2.1 (B.2.2.2.2.2.2.2 - 1)))) (by omega) (by decide)
      have k50 : ((nI (B.2.2.2.2.1 (B.2.2.2.2.2.2.2 - 1))) : Int32).toNatClampNeg = (B.2.2.2.2.1 (B.2.2.2.2.2.2.2 - 1)) := gx_cl (rfl : (nI (B.2.2.2.2.1 (B.2.2.2.2.2.2.2 - 1))) = (nI (B.2.2.2.2.1 (B.2.2.2.2.2.2.2 - 1)))) (by omega)
      refine va_iald hx hb hK hP 1 0 rfl rfl i50 dB_hasRoomFor_50 ?_
      rw [k50]
      refine lv_topi (fun v50 e50 => ?_)
      have n50 : v50 = nI (B.1 (B.2.2.2.2.1 (B.2.2.2.2.2.2.2 - 1))) := e50
      subst n50
      refine lv_iconst (v := 2) hx hb dB_hasRoomFor_51 (by decide) ?_
      refine lv_icmp_ne (tgt := 59) hx hb dB_hasRoomFor_52 (by decide) (fun c52 => ?_) (fun c52 => ?_)
      · have g52 : ¬ ((B.1 (B.2.2.2.2.1 (B.2.2.2.2.2.2.2 - 1))) = 2) := fun z => c52 ((gx_eq (rfl : (nI (B.1 (B.2.2.2.2.1 (B.2.2.2.2.2.2.2 - 1)))) = (nI (B.1 (B.2.2.2.2.1 (B.2.2.2.2.2.2.2 - 1))))) (rfl : (2 : Int32) = nI 2) (by omega) (by decide)).mpr z)
        refine lv_iconst (v := 0) hx hb dB_hasRoomFor_59 (by decide) ?_
        exact W.zret (v := 0) hx hb hr (by decide) (fun t9 ht9 hW => ⟨⟨0, _, rfl, ⟨gb_f (fun z => g52 (z.1 hk3).2), rfl⟩, by rw [ht9]; exact hP, hD⟩, hS.F ht9⟩) hS.2.2 dB_hasRoomFor_60
      · have g52 : (B.1 (B.2.2.2.2.1 (B.2.2.2.2.2.2.2 - 1))) = 2 := (gx_eq (rfl : (nI (B.1 (B.2.2.2.2.1 (B.2.2.2.2.2.2.2 - 1)))) = (nI (B.1 (B.2.2.2.2.1 (B.2.2.2.2.2.2.2 - 1))))) (rfl : (2 : Int32) = nI 2) (by omega) (by decide)).mp c52
        refine lv_iconst (v := 1) hx hb dB_hasRoomFor_55 (by decide) ?_
        refine lv_goto (tgt := 60) hx hb dB_hasRoomFor_56 (by decide) ?_
        exact W.zret (v := 1) hx hb hr (by decide) (fun t9 ht9 hW => ⟨⟨1, _, rfl, ⟨gb_t (⟨fun _ => ⟨by omega, g52⟩, fun z => absurd z (by omega)⟩), rfl⟩, by rw [ht9]; exact hP, hD⟩, hS.F ht9⟩) hS.2.2 dB_hasRoomFor_60
  by_cases s1_1 : (nI k) = 5
  · have hk5 : k = 5 := (gx_eq (rfl : (nI k) = (nI k)) (rfl : (5 : Int32) = nI 5) (by omega) (by decide)).mp s1_1
    refine lv_lookup (tgt := 61) (off := 60) hx hb dB_hasRoomFor_1 (by decide) (by rw [s1_1] <;> rfl) (by decide) ?_
    refine lv_aload_n hx hb dB_hasRoomFor_61 rfl (lv_at hl 0 rfl) ?_
    refine va_get (D := D) (ci := 0) (v := .int (nI B.2.2.2.2.2.2.2)) (C := R_B) (T := F_B) (N := 8) hx hb ht i_B hown hK hP 0 rfl rfl 7 (by decide) (ht _ m_227) (fun _ h9 => h9) rfl dB_hasRoomFor_62 ?_
    refine lv_if_le (tgt := 72) hx hb dB_hasRoomFor_65 (by decide) (fun c65 => ?_) (fun c65 => ?_)
    · have g65 : B.2.2.2.2.2.2.2 ≤ 0 := (gx_le (rfl : (nI B.2.2.2.2.2.2.2) = (nI B.2.2.2.2.2.2.2)) (rfl : (0 : Int32) = nI 0) (by omega) (by decide)).mp c65
      refine lv_iconst (v := 0) hx hb dB_hasRoomFor_72 (by decide) ?_
      exact W.zret (v := 0) hx hb hr (by decide) (fun t9 ht9 hW => ⟨⟨0, _, rfl, ⟨gb_f (fun z => absurd (z.2 hk5) (by omega)), rfl⟩, by rw [ht9]; exact hP, hD⟩, hS.F ht9⟩) hS.2.2 dB_hasRoomFor_73
    · have g65 : ¬ (B.2.2.2.2.2.2.2 ≤ 0) := fun z => c65 ((gx_le (rfl : (nI B.2.2.2.2.2.2.2) = (nI B.2.2.2.2.2.2.2)) (rfl : (0 : Int32) = nI 0) (by omega) (by decide)).mpr z)
      refine lv_iconst (v := 1) hx hb dB_hasRoomFor_68 (by decide) ?_
      refine lv_goto (tgt := 73) hx hb dB_hasRoomFor_69 (by decide) ?_
      exact W.zret (v := 1) hx hb hr (by decide) (fun t9 ht9 hW => ⟨⟨1, _, rfl, ⟨gb_t (⟨fun z => absurd z (by omega), fun _ => by omega⟩), rfl⟩, by rw [ht9]; exact hP, hD⟩, hS.F ht9⟩) hS.2.2 dB_hasRoomFor_73
  refine lv_lookup (tgt := 74) (off := 73) hx hb dB_hasRoomFor_1 (by decide) (by rw [lv_osw s1_0 (by decide)]; rw [lv_osw s1_1 (by decide)] <;> rfl) (by decide) ?_
  refine lv_iconst (v := 1) hx hb dB_hasRoomFor_74 (by decide) ?_
  have h3 : ¬ k = 3 := fun z => s1_0 ((gx_eq (rfl : (nI k) = (nI k)) (rfl : (3 : Int32) = nI 3) (by omega) (by decide)).mpr z)
  have h5 : ¬ k = 5 := fun z => s1_1 ((gx_eq (rfl : (nI k) = (nI k)) (rfl : (5 : Int32) = nI 5) (by omega) (by decide)).mpr z)
  exact W.zret (v := 1) hx hb hr (by decide) (fun t9 ht9 hW => ⟨⟨1, _, rfl, ⟨gb_t (⟨fun z => absurd z h3, fun z => absurd z h5⟩), rfl⟩, by rw [ht9]; exact hP, hD⟩, hS.F ht9⟩) hS.2.2 dB_hasRoomFor_75

set_option maxHeartbeats 4000000 in
set_option maxRecDepth 100000 in
theorem c_B_add (l : Launch) (D : va_G) (cI cJ cB cZ : ClassId) (o : Nat) (q : Nat → Nat) (B : Bd) (k : Nat) (tv ov : Int32) (hk : k ≤ 5) (hs : B.2.2.2.2.2.2.1 < 12) (hd : B.2.2.2.2.2.2.2 ≤ B.2.2.2.2.2.2.1) (hd0 : k = 3 ∨ k = 5 → 0 < B.2.2.2.2.2.2.2) (hon : 0 < B.2.2.2.2.2.2.2 → B.2.2.2.2.1 (B.2.2.2.2.2.2.2 - 1) < 12) (h4 : k = 4 → ∃ j : Nat, 1 ≤ j ∧ j ≤ 5 ∧ ov = nI j) : ct_V l y_B_add w_B_add ({ frames := 0, cells := 0, slots := 0, locals := 0 }) D (gk_T cI cJ cB cZ) [.ref o, .int (nI k), .int tv, .int ov] (wB cI o q B) (0) (0) (fun w => w = wB cI o q (bd_add B k tv ov)) := by
  intro sz
  refine Met.ofW (cc := b_B_add) (maxL := 5) (ret := none) (by decide) rfl ?_
  intro p ev9 s m args below meth c s₁ B9 hml hv
  obtain ⟨rfl, hsz, hP, hK, hN, hD0⟩ := hv
  have hx := B9.exec
  have hb := B9.bytes
  have hr := B9.returns
  have hts := atoms_spec (ws := w_B_add) B9.pre
  have ht : ∀ w ∈ gk_big, w.before _ s = true := fun w h => hts w (List.mem_cons_of_mem _ h)
  have hown : s.vm.findClass R_B = some m.cls := findClass_of_methodNamed B9.named
  have hlocks := B9.notSynchronized
  subst hsz
  have hD := hD0.self (sz := s.heap.size)
  generalize hAe : va_A (wB cI o q B) s.heap.size = A at hD ⊢
  have hA : ∀ q : Nat, s.heap.size ≤ q → A q := fun q h => by rw [← hAe]; exact Or.inr h
  generalize hHe : s.heap = H at hP ⊢
  have hS : va_S A s.heap H [] := by rw [← hHe]; exact va_S.rf
  have hP : va_P D vwCl [(o, .inr (0, [.ref (q 0), .ref (q 1), .ref (q 2), .ref (q 3), .ref (q 4), .ref (q 5), .int (nI B.2.2.2.2.2.2.1), .int (nI B.2.2.2.2.2.2.2)])), ((q 0), .inl (cI, 12, .inl (fun z9 => nI (B.1 z9)))), ((q 1), .inl (cI, 12, .inl B.2.1)), ((q 2), .inl (cI, 12, .inl B.2.2.1)), ((q 3), .inl (cI, 12, .inl (fun z9 => nI (B.2.2.2.1 z9)))), ((q 4), .inl (cI, 12, .inl (fun z9 => nI (B.2.2.2.2.1 z9)))), ((q 5), .inl (cI, 13, .inl (fun z9 => nI (B.2.2.2.2.2.1 z9))))] H := hP
  have hD : va_D A [(o, .inr (0, [.ref (q 0), .ref (q 1), .ref (q 2), .ref (q 3), .ref (q 4), .ref (q 5), .int (nI B.2.2.2.2.2.2.1), .int (nI B.2.2.2.2.2.2.2)])), ((q 0), .inl (cI, 12, .inl (fun z9 => nI (B.1 z9)))), ((q 1), .inl (cI, 12, .inl B.2.1)), ((q 2), .inl (cI, 12, .inl B.2.2.1)), ((q 3), .inl (cI, 12, .inl (fun z9 => nI (B.2.2.2.1 z9)))), ((q 4), .inl (cI, 12, .inl (fun z9 => nI (B.2.2.2.2.1 z9)))), ((q 5), .inl (cI, 13, .inl (fun z9 => nI (B.2.2.2.2.2.1 z9))))] := hD
  have hl := lv_entry ([.ref o, .int (nI k), .int tv, .int ov]) (n := 5) (Nat.le_of_ble_eq_true rfl)
  rw [lg_entry_eq]
  generalize (lg_sl ([.ref o, .int (nI k), .int tv, .int ov]) ++ List.replicate (5 - (lg_sl ([.ref o, .int (nI k), .int tv, .int ov])).length) Slot.unset).toArray = ls at hl ⊢
  have hl : lv_has ls 5 [(0, .ref o), (1, .int (nI k)), (2, .int tv), (3, .int ov)] := hl
  refine lv_aload_n hx hb dB_add_0 rfl (lv_at hl 0 rfl) ?_
  refine va_get (D := D) (ci := 0) (v := .int (nI B.2.2.2.2.2.2.1)) (C := R_B) (T := F_B) (N := 8) hx hb ht i_B hown hK hP 0 rfl rfl 6 (by decide) (ht _ m_224) (fun _ h9 => h9) rfl dB_add_1 ?_
  refine lv_istore (lv' := [(4, .int (nI B.2.2.2.2.2.2.1)), (0, .ref o), (1, .int (nI k)), (2, .int tv), (3, .int ov)]) hx hb dB_add_4 hl (by decide) rfl (fun ls hl => ?_)
  refine lv_aload_n hx hb dB_add_6 rfl (lv_at hl 1 rfl) ?_
  refine va_get (D := D) (ci := 0) (v := .ref (q 0)) (C := R_B) (T := F_B) (N := 8) hx hb ht i_B hown hK hP 0 rfl rfl 0 (by decide) (ht _ m_215) (fun _ h9 => h9) rfl dB_add_7 ?_
  refine lv_iload hx hb dB_add_10 (lv_at hl 0 rfl) ?_
  refine lv_iload_n hx hb dB_add_12 rfl (lv_at hl 2 rfl) ?_
  have i13 : vp_in (nI B.2.2.2.2.2.2.1) 12 := gx_in (rfl : (nI B.2.2.2.2.2.2.1) = (nI B.2.2.2.2.2.2.1)) (by omega) (by decide)
  have k13 : ((nI B.2.2.2.2.2.2.1) : Int32).toNatClampNeg = B.2.2.2.2.2.2.1 := gx_cl (rfl : (nI B.2.2.2.2.2.2.1) = (nI B.2.2.2.2.2.2.1)) (by omega)
  refine va_iast hx hb hK hP hD hS 1 0 rfl rfl i13 dB_add_13 (fun H locs hP hD hS => ?_)
  rw [k13] at hP hD
  have hP : va_P D vwCl [(o, .inr (0, [.ref (q 0), .ref (q 1), .ref (q 2), .ref (q 3), .ref (q 4), .ref (q 5), .int (nI B.2.2.2.2.2.2.1), .int (nI B.2.2.2.2.2.2.2)])), ((q 0), .inl (cI, 12, .inl (upd (fun z9 => nI (B.1 z9)) B.2.2.2.2.2.2.1 (nI k)))), ((q 1), .inl (cI, 12, .inl B.2.1)), ((q 2), .inl (cI, 12, .inl B.2.2.1)), ((q 3), .inl (cI, 12, .inl (fun z9 => nI (B.2.2.2.1 z9)))), ((q 4), .inl (cI, 12, .inl (fun z9 => nI (B.2.2.2.2.1 z9)))), ((q 5), .inl (cI, 13, .inl (fun z9 => nI (B.2.2.2.2.2.1 z9))))] H := hP
  have hD : va_D A [(o, .inr (0, [.ref (q 0), .ref (q 1), .ref (q 2), .ref (q 3), .ref (q 4), .ref (q 5), .int (nI B.2.2.2.2.2.2.1), .int (nI B.2.2.2.2.2.2.2)])), ((q 0), .inl (cI, 12, .inl (upd (fun z9 => nI (B.1 z9)) B.2.2.2.2.2.2.1 (nI k)))), ((q 1), .inl (cI, 12, .inl B.2.1)), ((q 2), .inl (cI, 12, .inl B.2.2.1)), ((q 3), .inl (cI, 12, .inl (fun z9 => nI (B.2.2.2.1 z9)))), ((q 4), .inl (cI, 12, .inl (fun z9 => nI (B.2.2.2.2.1 z9)))), ((q 5), .inl (cI, 13, .inl (fun z9 => nI (B.2.2.2.2.2.1 z9))))] := hD
  rw [gx_upd] at hP hD
  refine lv_aload_n hx hb dB_add_14 rfl (lv_at hl 1 rfl) ?_
  refine va_get (D := D) (ci := 0) (v := .ref (q 1)) (C := R_B) (T := F_B) (N := 8) hx hb ht i_B hown hK hP 0 rfl rfl 1 (by decide) (ht _ m_217) (fun _ h9 => h9) rfl dB_add_15 ?_
  refine lv_iload hx hb dB_add_18 (lv_at hl 0 rfl) ?_
  refine lv_iload_n hx hb dB_add_20 rfl (lv_at hl 3 rfl) ?_
  have i21 : vp_in (nI B.2.2.2.2.2.2.1) 12 := gx_in (rfl : (nI B.2.2.2.2.2.2.1) = (nI B.2.2.2.2.2.2.1)) (by omega) (by decide)
  have k21 : ((nI B.2.2.2.2.2.2.1) : Int32).toNatClampNeg = B.2.2.2.2.2.2.1 := gx_cl (rfl : (nI B.2.2.2.2.2.2.1) = (nI B.2.2.2.2.2.2.1)) (by omega)
  refine va_iast hx hb hK hP hD hS 2 0 rfl rfl i21 dB_add_21 (fun H locs hP hD hS => ?_)
  rw [k21] at hP hD
  have hP : va_P D vwCl [(o, .inr (0, [.ref (q 0), .ref (q 1), .ref (q 2), .ref (q 3), .ref (q 4), .ref (q 5), .int (nI B.2.2.2.2.2.2.1), .int (nI B.2.2.2.2.2.2.2)])), ((q 0), .inl (cI, 12, .inl (fun z9 => nI ((va_up B.1 B.2.2.2.2.2.2.1 k) z9)))), ((q 1), .inl (cI, 12, .inl (upd B.2.1 B.2.2.2.2.2.2.1 tv))), ((q 2), .inl (cI, 12, .inl B.2.2.1)), ((q 3), .inl (cI, 12, .inl (fun z9 => nI (B.2.2.2.1 z9)))), ((q 4), .inl (cI, 12, .inl (fun z9 => nI (B.2.2.2.2.1 z9)))), ((q 5), .inl (cI, 13, .inl (fun z9 => nI (B.2.2.2.2.2.1 z9))))] H := hP
  have hD : va_D A [(o, .inr (0, [.ref (q 0), .ref (q 1), .ref (q 2), .ref (q 3), .ref (q 4), .ref (q 5), .int (nI B.2.2.2.2.2.2.1), .int (nI B.2.2.2.2.2.2.2)])), ((q 0), .inl (cI, 12, .inl (fun z9 => nI ((va_up B.1 B.2.2.2.2.2.2.1 k) z9)))), ((q 1), .inl (cI, 12, .inl (upd B.2.1 B.2.2.2.2.2.2.1 tv))), ((q 2), .inl (cI, 12, .inl B.2.2.1)), ((q 3), .inl (cI, 12, .inl (fun z9 => nI (B.2.2.2.1 z9)))), ((q 4), .inl (cI, 12, .inl (fun z9 => nI (B.2.2.2.2.1 z9)))), ((q 5), .inl (cI, 13, .inl (fun z9 => nI (B.2.2.2.2.2.1 z9))))] := hD
  refine lv_aload_n hx hb dB_add_22 rfl (lv_at hl 1 rfl) ?_
  refine va_get (D := D) (ci := 0) (v := .ref (q 2)) (C := R_B) (T := F_B) (N := 8) hx hb ht i_B hown hK hP 0 rfl rfl 2 (by decide) (ht _ m_219) (fun _ h9 => h9) rfl dB_add_23 ?_
  refine lv_iload hx hb dB_add_26 (lv_at hl 0 rfl) ?_
  refine lv_iload_n hx hb dB_add_28 rfl (lv_at hl 4 rfl) ?_
  have i29 : vp_in (nI B.2.2.2.2.2.2.1) 12 := gx_in (rfl : (nI B.2.2.2.2.2.2.1) = (nI B.2.2.2.2.2.2.1)) (by omega) (by decide)
  have k29 : ((nI B.2.2.2.2.2.2.1) : Int32).toNatClampNeg = B.2.2.2.2.2.2.1 := gx_cl (rfl : (nI B.2.2.2.2.2.2.1) = (nI B.2.2.2.2.2.2.1)) (by omega)
  refine va_iast hx hb hK hP hD hS 3 0 rfl rfl i29 dB_add_29 (fun H locs hP hD hS => ?_)
  rw [k29] at hP hD
  have hP : va_P D vwCl [(o, .inr (0, [.ref (q 0), .ref (q 1), .ref (q 2), .ref (q 3), .ref (q 4), .ref (q 5), .int (nI B.2.2.2.2.2.2.1), .int (nI B.2.2.2.2.2.2.2)])), ((q 0), .inl (cI, 12, .inl (fun z9 => nI ((va_up B.1 B.2.2.2.2.2.2.1 k) z9)))), ((q 1), .inl (cI, 12, .inl (upd B.2.1 B.2.2.2.2.2.2.1 tv))), ((q 2), .inl (cI, 12, .inl (upd B.2.2.1 B.2.2.2.2.2.2.1 ov))), ((q 3), .inl (cI, 12, .inl (fun z9 => nI (B.2.2.2.1 z9)))), ((q 4), .inl (cI, 12, .inl (fun z9 => nI (B.2.2.2.2.1 z9)))), ((q 5), .inl (cI, 13, .inl (fun z9 => nI (B.2.2.2.2.2.1 z9))))] H := hP
  have hD : va_D A [(o, .inr (0, [.ref (q 0), .ref (q 1), .ref (q 2), .ref (q 3), .ref (q 4), .ref (q 5), .int (nI B.2.2.2.2.2.2.1), .int (nI B.2.2.2.2.2.2.2)])), ((q 0), .inl (cI, 12, .inl (fun z9 => nI ((va_up B.1 B.2.2.2.2.2.2.1 k) z9)))), ((q 1), .inl (cI, 12, .inl (upd B.2.1 B.2.2.2.2.2.2.1 tv))), ((q 2), .inl (cI, 12, .inl (upd B.2.2.1 B.2.2.2.2.2.2.1 ov))), ((q 3), .inl (cI, 12, .inl (fun z9 => nI (B.2.2.2.1 z9)))), ((q 4), .inl (cI, 12, .inl (fun z9 => nI (B.2.2.2.2.1 z9)))), ((q 5), .inl (cI, 13, .inl (fun z9 => nI (B.2.2.2.2.2.1 z9))))] := hD
  refine lv_aload_n hx hb dB_add_30 rfl (lv_at hl 1 rfl) ?_
  refine va_get (D := D) (ci := 0) (v := .ref (q 3)) (C := R_B) (T := F_B) (N := 8) hx hb ht i_B hown hK hP 0 rfl rfl 3 (by decide) (ht _ m_221) (fun _ h9 => h9) rfl dB_add_31 ?_
  refine lv_iload hx hb dB_add_34 (lv_at hl 0 rfl) ?_
  refine lv_bipush (v := 12) hx hb dB_add_36 (by decide) ?_
  have i38 : vp_in (nI B.2.2.2.2.2.2.1) 12 := gx_in (rfl : (nI B.2.2.2.2.2.2.1) = (nI B.2.2.2.2.2.2.1)) (by omega) (by decide)
  have k38 : ((nI B.2.2.2.2.2.2.1) : Int32).toNatClampNeg = B.2.2.2.2.2.2.1 := gx_cl (rfl : (nI B.2.2.2.2.2.2.1) = (nI B.2.2.2.2.2.2.1)) (by omega)
  refine va_iast hx hb hK hP hD hS 4 0 rfl rfl i38 dB_add_38 (fun H locs hP hD hS => ?_)
  rw [k38] at hP hD
  have hP : va_P D vwCl [(o, .inr (0, [.ref (q 0), .ref (q 1), .ref (q 2), .ref (q 3), .ref (q 4), .ref (q 5), .int (nI B.2.2.2.2.2.2.1), .int (nI B.2.2.2.2.2.2.2)])), ((q 0), .inl (cI, 12, .inl (fun z9 => nI ((va_up B.1 B.2.2.2.2.2.2.1 k) z9)))), ((q 1), .inl (cI, 12, .inl (upd B.2.1 B.2.2.2.2.2.2.1 tv))), ((q 2), .inl (cI, 12, .inl (upd B.2.2.1 B.2.2.2.2.2.2.1 ov))), ((q 3), .inl (cI, 12, .inl (upd (fun z9 => nI (B.2.2.2.1 z9)) B.2.2.2.2.2.2.1 (nI 12)))), ((q 4), .inl (cI, 12, .inl (fun z9 => nI (B.2.2.2.2.1 z9)))), ((q 5), .inl (cI, 13, .inl (fun z9 => nI (B.2.2.2.2.2.1 z9))))] H := hP
  have hD : va_D A [(o, .inr (0, [.ref (q 0), .ref (q 1), .ref (q 2), .ref (q 3), .ref (q 4), .ref (q 5), .int (nI B.2.2.2.2.2.2.1), .int (nI B.2.2.2.2.2.2.2)])), ((q 0), .inl (cI, 12, .inl (fun z9 => nI ((va_up B.1 B.2.2.2.2.2.2.1 k) z9)))), ((q 1), .inl (cI, 12, .inl (upd B.2.1 B.2.2.2.2.2.2.1 tv))), ((q 2), .inl (cI, 12, .inl (upd B.2.2.1 B.2.2.2.2.2.2.1 ov))), ((q 3), .inl (cI, 12, .inl (upd (fun z9 => nI (B.2.2.2.1 z9)) B.2.2.2.2.2.2.1 (nI 12)))), ((q 4), .inl (cI, 12, .inl (fun z9 => nI (B.2.2.2.2.1 z9)))), ((q 5), .inl (cI, 13, .inl (fun z9 => nI (B.2.2.2.2.2.1 z9))))] := hD
  rw [gx_upd] at hP hD
  refine lv_aload_n hx hb dB_add_39 rfl (lv_at hl 1 rfl) ?_
  refine lv_dup hx hb dB_add_40 rfl ?_
  refine va_get (D := D) (ci := 0) (v := .int (nI B.2.2.2.2.2.2.1)) (C := R_B) (T := F_B) (N := 8) hx hb ht i_B hown hK hP 0 rfl rfl 6 (by decide) (ht _ m_224) (fun _ h9 => h9) rfl dB_add_41 ?_
  refine lv_iconst (v := 1) hx hb dB_add_44 (by decide) ?_
  refine lv_iadd hx hb dB_add_45 ?_
  refine lv_topi (fun v45 e45 => ?_)
  have n45 : v45 = nI (B.2.2.2.2.2.2.1 + 1) := by rw [e45]; exact gx_add (rfl : (nI B.2.2.2.2.2.2.1) = (nI B.2.2.2.2.2.2.1)) (rfl : (1 : Int32) = nI 1)
  subst n45
  refine va_put (D := D) (ci := 0) (v := .int (nI (B.2.2.2.2.2.2.1 + 1))) (ty := .int) (C := R_B) (T := F_B) (N := 8) hx hb ht i_B ft_B ft_B_ok fn_B hown hK hP hD hS 0 rfl rfl 6 (by decide) (ht _ m_224) (fun _ h9 => h9) rfl (by decide +kernel) rfl rfl (Nat.le_of_ble_eq_true rfl) dB_add_46 (fun H locs hP hD hS => ?_)
  have hP : va_P D vwCl [(o, .inr (0, [.ref (q 0), .ref (q 1), .ref (q 2), .ref (q 3), .ref (q 4), .ref (q 5), .int (nI (B.2.2.2.2.2.2.1 + 1)), .int (nI B.2.2.2.2.2.2.2)])), ((q 0), .inl (cI, 12, .inl (fun z9 => nI ((va_up B.1 B.2.2.2.2.2.2.1 k) z9)))), ((q 1), .inl (cI, 12, .inl (upd B.2.1 B.2.2.2.2.2.2.1 tv))), ((q 2), .inl (cI, 12, .inl (upd B.2.2.1 B.2.2.2.2.2.2.1 ov))), ((q 3), .inl (cI, 12, .inl (fun z9 => nI ((va_up B.2.2.2.1 B.2.2.2.2.2.2.1 12) z9)))), ((q 4), .inl (cI, 12, .inl (fun z9 => nI (B.2.2.2.2.1 z9)))), ((q 5), .inl (cI, 13, .inl (fun z9 => nI (B.2.2.2.2.2.1 z9))))] H := hP
  have hD : va_D A [(o, .inr (0, [.ref (q 0), .ref (q 1), .ref (q 2), .ref (q 3), .ref (q 4), .ref (q 5), .int (nI (B.2.2.2.2.2.2.1 + 1)), .int (nI B.2.2.2.2.2.2.2)])), ((q 0), .inl (cI, 12, .inl (fun z9 => nI ((va_up B.1 B.2.2.2.2.2.2.1 k) z9)))), ((q 1), .inl (cI, 12, .inl (upd B.2.1 B.2.2.2.2.2.2.1 tv))), ((q 2), .inl (cI, 12, .inl (upd B.2.2.1 B.2.2.2.2.2.2.1 ov))), ((q 3), .inl (cI, 12, .inl (fun z9 => nI ((va_up B.2.2.2.1 B.2.2.2.2.2.2.1 12) z9)))), ((q 4), .inl (cI, 12, .inl (fun z9 => nI (B.2.2.2.2.1 z9)))), ((q 5), .inl (cI, 13, .inl (fun z9 => nI (B.2.2.2.2.2.1 z9))))] := hD
  refine lv_iload_n hx hb dB_add_49 rfl (lv_at hl 2 rfl) ?_
  refine lv_iconst (v := 3) hx hb dB_add_50 (by decide) ?_
  refine lv_icmp_eq (tgt := 59) hx hb dB_add_51 (by decide) (fun c51 => ?_) (fun c51 => ?_)
  · have g51 : k = 3 := (gx_eq (rfl : (nI k) = (nI k)) (rfl : (3 : Int32) = nI 3) (by omega) (by decide)).mp c51
    refine lv_aload_n hx hb dB_add_59 rfl (lv_at hl 1 rfl) ?_
    refine lv_dup hx hb dB_add_60 rfl ?_
    refine va_get (D := D) (ci := 0) (v := .int (nI B.2.2.2.2.2.2.2)) (C := R_B) (T := F_B) (N := 8) hx hb ht i_B hown hK hP 0 rfl rfl 7 (by decide) (ht _ m_227) (fun _ h9 => h9) rfl dB_add_61 ?_
    refine lv_iconst (v := 1) hx hb dB_add_64 (by decide) ?_
    refine lv_isub hx hb dB_add_65 ?_
    refine lv_topi (fun v65 e65 => ?_)
    have n65 : v65 = nI (B.2.2.2.2.2.2.2 - 1) := by rw [e65]; exact gx_sub (rfl : (nI B.2.2.2.2.2.2.2) = (nI B.2.2.2.2.2.2.2)) (rfl : (1 : Int32) = nI 1) (by omega)
    subst n65
    refine va_put (D := D) (ci := 0) (v := .int (nI (B.2.2.2.2.2.2.2 - 1))) (ty := .int) (C := R_B) (T := F_B) (N := 8) hx hb ht i_B ft_B ft_B_ok fn_B hown hK hP hD hS 0 rfl rfl 7 (by decide) (ht _ m_227) (fun _ h9 => h9) rfl (by decide +kernel) rfl rfl (Nat.le_of_ble_eq_true rfl) dB_add_66 (fun H locs hP hD hS => ?_)
    have hP : va_P D vwCl [(o, .inr (0, [.ref (q 0), .ref (q 1), .ref (q 2), .ref (q 3), .ref (q 4), .ref (q 5), .int (nI (B.2.2.2.2.2.2.1 + 1)), .int (nI (B.2.2.2.2.2.2.2 - 1))])), ((q 0), .inl (cI, 12, .inl (fun z9 => nI ((va_up B.1 B.2.2.2.2.2.2.1 k) z9)))), ((q 1), .inl (cI, 12, .inl (upd B.2.1 B.2.2.2.2.2.2.1 tv))), ((q 2), .inl (cI, 12, .inl (upd B.2.2.1 B.2.2.2.2.2.2.1 ov))), ((q 3), .inl (cI, 12, .inl (fun z9 => nI ((va_up B.2.2.2.1 B.2.2.2.2.2.2.1 12) z9)))), ((q 4), .inl (cI, 12, .inl (fun z9 => nI (B.2.2.2.2.1 z9)))), ((q 5), .inl (cI, 13, .inl (fun z9 => nI (B.2.2.2.2.2.1 z9))))] H := hP
    have hD : va_D A [(o, .inr (0, [.ref (q 0), .ref (q 1), .ref (q 2), .ref (q 3), .ref (q 4), .ref (q 5), .int (nI (B.2.2.2.2.2.2.1 + 1)), .int (nI (B.2.2.2.2.2.2.2 - 1))])), ((q 0), .inl (cI, 12, .inl (fun z9 => nI ((va_up B.1 B.2.2.2.2.2.2.1 k) z9)))), ((q 1), .inl (cI, 12, .inl (upd B.2.1 B.2.2.2.2.2.2.1 tv))), ((q 2), .inl (cI, 12, .inl (upd B.2.2.1 B.2.2.2.2.2.2.1 ov))), ((q 3), .inl (cI, 12, .inl (fun z9 => nI ((va_up B.2.2.2.1 B.2.2.2.2.2.2.1 12) z9)))), ((q 4), .inl (cI, 12, .inl (fun z9 => nI (B.2.2.2.2.1 z9)))), ((q 5), .inl (cI, 13, .inl (fun z9 => nI (B.2.2.2.2.2.1 z9))))] := hD
    refine lv_aload_n hx hb dB_add_69 rfl (lv_at hl 1 rfl) ?_
    refine va_get (D := D) (ci := 0) (v := .ref (q 3)) (C := R_B) (T := F_B) (N := 8) hx hb ht i_B hown hK hP 0 rfl rfl 3 (by decide) (ht _ m_221) (fun _ h9 => h9) rfl dB_add_70 ?_
    refine lv_aload_n hx hb dB_add_73 rfl (lv_at hl 1 rfl) ?_
    refine va_get (D := D) (ci := 0) (v := .ref (q 4)) (C := R_B) (T := F_B) (N := 8) hx hb ht i_B hown hK hP 0 rfl rfl 4 (by decide) (ht _ m_222) (fun _ h9 => h9) rfl dB_add_74 ?_
    refine lv_aload_n hx hb dB_add_77 rfl (lv_at hl 1 rfl) ?_
    refine va_get (D := D) (ci := 0) (v := .int (nI (B.2.2.2.2.2.2.2 - 1))) (C := R_B) (T := F_B) (N := 8) hx hb ht i_B hown hK hP 0 rfl rfl 7 (by decide) (ht _ m_227) (fun _ h9 => h9) rfl dB_add_78 ?_
    have hop := hon (by omega)
    have i81 : vp_in (nI (B.2.2.2.2.2.2.2 - 1)) 12 := gx_in (rfl : (nI (B.2.2.2.2.2.2.2 - 1)) = (nI (B.2.2.2.2.2.2.2 - 1))) (by omega) (by decide)
    have k81 : ((nI (B.2.2.2.2.2.2.2 - 1)) : Int32).toNatClampNeg = (B.2.2.2.2.2.2.2 - 1) := gx_cl (rfl : (nI (B.2.2.2.2.2.2.2 - 1)) = (nI (B.2.2.2.2.2.2.2 - 1))) (by omega)
    refine va_iald hx hb hK hP 5 0 rfl rfl i81 dB_add_81 ?_
    rw [k81]
    refine lv_topi (fun v81 e81 => ?_)
    have n81 : v81 = nI (B.2.2.2.2.1 (B.2.2.2.2.2.2.2 - 1)) := e81
    subst n81
    refine lv_iload hx hb dB_add_82 (lv_at hl 0 rfl) ?_
    have i84 : vp_in (nI (B.2.2.2.2.1 (B.2.2.2.2.2.2.2 - 1))) 12 := gx_in (rfl : (nI (B.2.2.2.2.1 (B.2.2.2.2.2.2.2 - 1))) = (nI (B.2.2.2.2.1 (B.2.2.2.2.2.2.2 - 1)))) (by omega) (by decide)
    have k84 : ((nI (B.2.2.2.2.1 (B.2.2.2.2.2.2.2 - 1))) : Int32).toNatClampNeg = (B.2.2.2.2.1 (B.2.2.2.2.2.2.2 - 1)) := gx_cl (rfl : (nI (B.2.2.2.2.1 (B.2.2.2.2.2.2.2 - 1))) = (nI (B.2.2.2.2.1 (B.2.2.2.2.2.2.2 - 1)))) (by omega)
    refine va_iast hx hb hK hP hD hS 4 0 rfl rfl i84 dB_add_84 (fun H locs hP hD hS => ?_)
    rw [k84] at hP hD
    have hP : va_P D vwCl [(o, .inr (0, [.ref (q 0), .ref (q 1), .ref (q 2), .ref (q 3), .ref (q 4), .ref (q 5), .int (nI (B.2.2.2.2.2.2.1 + 1)), .int (nI (B.2.2.2.2.2.2.2 - 1))])), ((q 0), .inl (cI, 12, .inl (fun z9 => nI ((va_up B.1 B.2.2.2.2.2.2.1 k) z9)))), ((q 1), .inl (cI, 12, .inl (upd B.2.1 B.2.2.2.2.2.2.1 tv))), ((q 2), .inl (cI, 12, .inl (upd B.2.2.1 B.2.2.2.2.2.2.1 ov))), ((q 3), .inl (cI, 12, .inl (upd (fun z9 => nI ((va_up B.2.2.2.1 B.2.2.2.2.2.2.1 12) z9)) (B.2.2.2.2.1 (B.2.2.2.2.2.2.2 - 1)) (nI B.2.2.2.2.2.2.1)))), ((q 4), .inl (cI, 12, .inl (fun z9 => nI (B.2.2.2.2.1 z9)))), ((q 5), .inl (cI, 13, .inl (fun z9 => nI (B.2.2.2.2.2.1 z9))))] H := hP
    have hD : va_D A [(o, .inr (0, [.ref (q 0), .ref (q 1), .ref (q 2), .ref (q 3), .ref (q 4), .ref (q 5), .int (nI (B.2.2.2.2.2.2.1 + 1)), .int (nI (B.2.2.2.2.2.2.2 - 1))])), ((q 0), .inl (cI, 12, .inl (fun z9 => nI ((va_up B.1 B.2.2.2.2.2.2.1 k) z9)))), ((q 1), .inl (cI, 12, .inl (upd B.2.1 B.2.2.2.2.2.2.1 tv))), ((q 2), .inl (cI, 12, .inl (upd B.2.2.1 B.2.2.2.2.2.2.1 ov))), ((q 3), .inl (cI, 12, .inl (upd (fun z9 => nI ((va_up B.2.2.2.1 B.2.2.2.2.2.2.1 12) z9)) (B.2.2.2.2.1 (B.2.2.2.2.2.2.2 - 1)) (nI B.2.2.2.2.2.2.1)))), ((q 4), .inl (cI, 12, .inl (fun z9 => nI (B.2.2.2.2.1 z9)))), ((q 5), .inl (cI, 13, .inl (fun z9 => nI (B.2.2.2.2.2.1 z9))))] := hD
    rw [gx_upd] at hP hD
    refine lv_iload_n hx hb dB_add_85 rfl (lv_at hl 2 rfl) ?_
    refine lv_iconst (v := 2) hx hb dB_add_86 (by decide) ?_
    refine lv_icmp_eq (tgt := 100) hx hb dB_add_87 (by decide) (fun c87 => ?_) (fun c87 => ?_)
    · have g87 : k = 2 := (gx_eq (rfl : (nI k) = (nI k)) (rfl : (2 : Int32) = nI 2) (by omega) (by decide)).mp c87
      exfalso; omega
    · have g87 : ¬ (k = 2) := fun z => c87 ((gx_eq (rfl : (nI k) = (nI k)) (rfl : (2 : Int32) = nI 2) (by omega) (by decide)).mpr z)
      refine lv_iload_n hx hb dB_add_90 rfl (lv_at hl 2 rfl) ?_
      refine lv_iconst (v := 3) hx hb dB_add_91 (by decide) ?_
      refine lv_icmp_eq (tgt := 100) hx hb dB_add_92 (by decide) (fun c92 => ?_) (fun c92 => ?_)
      · have g92 : k = 3 := (gx_eq (rfl : (nI k) = (nI k)) (rfl : (3 : Int32) = nI 3) (by omega) (by decide)).mp c92
        refine lv_aload_n hx hb dB_add_100 rfl (lv_at hl 1 rfl) ?_
        refine va_get (D := D) (ci := 0) (v := .ref (q 4)) (C := R_B) (T := F_B) (N := 8) hx hb ht i_B hown hK hP 0 rfl rfl 4 (by decide) (ht _ m_222) (fun _ h9 => h9) rfl dB_add_101 ?_
        refine lv_aload_n hx hb dB_add_104 rfl (lv_at hl 1 rfl) ?_
        refine va_get (D := D) (ci := 0) (v := .int (nI (B.2.2.2.2.2.2.2 - 1))) (C := R_B) (T := F_B) (N := 8) hx hb ht i_B hown hK hP 0 rfl rfl 7 (by decide) (ht _ m_227) (fun _ h9 => h9) rfl dB_add_105 ?_
        refine lv_iload hx hb dB_add_108 (lv_at hl 0 rfl) ?_
        have i110 : vp_in (nI (B.2.2.2.2.2.2.2 - 1)) 12 := gx_in (rfl : (nI (B.2.2.2.2.2.2.2 - 1)) = (nI (B.2.2.2.2.2.2.2 - 1))) (by omega) (by decide)
        have k110 : ((nI (B.2.2.2.2.2.2.2 - 1)) : Int32).toNatClampNeg = (B.2.2.2.2.2.2.2 - 1) := gx_cl (rfl : (nI (B.2.2.2.2.2.2.2 - 1)) = (nI (B.2.2.2.2.2.2.2 - 1))) (by omega)
        refine va_iast hx hb hK hP hD hS 5 0 rfl rfl i110 dB_add_110 (fun H locs hP hD hS => ?_)
        rw [k110] at hP hD
        have hP : va_P D vwCl [(o, .inr (0, [.ref (q 0), .ref (q 1), .ref (q 2), .ref (q 3), .ref (q 4), .ref (q 5), .int (nI (B.2.2.2.2.2.2.1 + 1)), .int (nI (B.2.2.2.2.2.2.2 - 1))])), ((q 0), .inl (cI, 12, .inl (fun z9 => nI ((va_up B.1 B.2.2.2.2.2.2.1 k) z9)))), ((q 1), .inl (cI, 12, .inl (upd B.2.1 B.2.2.2.2.2.2.1 tv))), ((q 2), .inl (cI, 12, .inl (upd B.2.2.1 B.2.2.2.2.2.2.1 ov))), ((q 3), .inl (cI, 12, .inl (fun z9 => nI ((va_up (va_up B.2.2.2.1 B.2.2.2.2.2.2.1 12) (B.2.2.2.2.1 (B.2.2.2.2.2.2.2 - 1)) B.2.2.2.2.2.2.1) z9)))), ((q 4), .inl (cI, 12, .inl (upd (fun z9 => nI (B.2.2.2.2.1 z9)) (B.2.2.2.2.2.2.2 - 1) (nI B.2.2.2.2.2.2.1)))), ((q 5), .inl (cI, 13, .inl (fun z9 => nI (B.2.2.2.2.2.1 z9))))] H := hP
        have hD : va_D A [(o, .inr (0, [.ref (q 0), .ref (q 1), .ref (q 2), .ref (q 3), .ref (q 4), .ref (q 5), .int (nI (B.2.2.2.2.2.2.1 + 1)), .int (nI (B.2.2.2.2.2.2.2 - 1))])), ((q 0), .inl (cI, 12, .inl (fun z9 => nI ((va_up B.1 B.2.2.2.2.2.2.1 k) z9)))), ((q 1), .inl (cI, 12, .inl (upd B.2.1 B.2.2.2.2.2.2.1 tv))), ((q 2), .inl (cI, 12, .inl (upd B.2.2.1 B.2.2.2.2.2.2.1 ov))), ((q 3), .inl (cI, 12, .inl (fun z9 => nI ((va_up (va_up B.2.2.2.1 B.2.2.2.2.2.2.1 12) (B.2.2.2.2.1 (B.2.2.2.2.2.2.2 - 1)) B.2.2.2.2.2.2.1) z9)))), ((q 4), .inl (cI, 12, .inl (upd (fun z9 => nI (B.2.2.2.2.1 z9)) (B.2.2.2.2.2.2.2 - 1) (nI B.2.2.2.2.2.2.1)))), ((q 5), .inl (cI, 13, .inl (fun z9 => nI (B.2.2.2.2.2.1 z9))))] := hD
        rw [gx_upd] at hP hD
        refine lv_aload_n hx hb dB_add_111 rfl (lv_at hl 1 rfl) ?_
        refine va_get (D := D) (ci := 0) (v := .ref (q 5)) (C := R_B) (T := F_B) (N := 8) hx hb ht i_B hown hK hP 0 rfl rfl 5 (by decide) (ht _ m_223) (fun _ h9 => h9) rfl dB_add_112 ?_
        refine lv_aload_n hx hb dB_add_115 rfl (lv_at hl 1 rfl) ?_
        refine va_get (D := D) (ci := 0) (v := .int (nI (B.2.2.2.2.2.2.2 - 1))) (C := R_B) (T := F_B) (N := 8) hx hb ht i_B hown hK hP 0 rfl rfl 7 (by decide) (ht _ m_227) (fun _ h9 => h9) rfl dB_add_116 ?_
        refine lv_iconst (v := 1) hx hb dB_add_119 (by decide) ?_
        refine lv_iadd hx hb dB_add_120 ?_
        refine lv_topi (fun v120 e120 => ?_)
        have n120 : v120 = nI ((B.2.2.2.2.2.2.2 - 1) + 1) := by rw [e120]; exact gx_add (rfl : (nI (B.2.2.2.2.2.2.2 - 1)) = (nI (B.2.2.2.2.2.2.2 - 1))) (rfl : (1 : Int32) = nI 1)
        subst n120
        refine lv_aload_n hx hb dB_add_121 rfl (lv_at hl 1 rfl) ?_
        refine va_get (D := D) (ci := 0) (v := .ref (q 5)) (C := R_B) (T := F_B) (N := 8) hx hb ht i_B hown hK hP 0 rfl rfl 5 (by decide) (ht _ m_223) (fun _ h9 => h9) rfl dB_add_122 ?_
        refine lv_aload_n hx hb dB_add_125 rfl (lv_at hl 1 rfl) ?_
        refine va_get (D := D) (ci := 0) (v := .int (nI (B.2.2.2.2.2.2.2 - 1))) (C := R_B) (T := F_B) (N := 8) hx hb ht i_B hown hK hP 0 rfl rfl 7 (by decide) (ht _ m_227) (fun _ h9 => h9) rfl dB_add_126 ?_
        have i129 : vp_in (nI (B.2.2.2.2.2.2.2 - 1)) 13 := gx_in (rfl : (nI (B.2.2.2.2.2.2.2 - 1)) = (nI (B.2.2.2.2.2.2.2 - 1))) (by omega) (by decide)
        have k129 : ((nI (B.2.2.2.2.2.2.2 - 1)) : Int32).toNatClampNeg = (B.2.2.2.2.2.2.2 - 1) := gx_cl (rfl : (nI (B.2.2.2.2.2.2.2 - 1)) = (nI (B.2.2.2.2.2.2.2 - 1))) (by omega)
        refine va_iald hx hb hK hP 6 0 rfl rfl i129 dB_add_129 ?_
        rw [k129]
        refine lv_topi (fun v129 e129 => ?_)
        have n129 : v129 = nI (B.2.2.2.2.2.1 (B.2.2.2.2.2.2.2 - 1)) := e129
        subst n129
        refine lv_iload_n hx hb dB_add_130 rfl (lv_at hl 2 rfl) ?_
        refine lv_iconst (v := 4) hx hb dB_add_131 (by decide) ?_
        refine lv_icmp_ne (tgt := 139) hx hb dB_add_132 (by decide) (fun c132 => ?_) (fun c132 => ?_)
        · have g132 : ¬ (k = 4) := fun z => c132 ((gx_eq (rfl : (nI k) = (nI k)) (rfl : (4 : Int32) = nI 4) (by omega) (by decide)).mpr z)
          refine lv_iconst (v := 1) hx hb dB_add_139 (by decide) ?_
          refine lv_imul hx hb dB_add_140 ?_
          refine lv_topi (fun v140 e140 => ?_)
          have n140 : v140 = nI ((B.2.2.2.2.2.1 (B.2.2.2.2.2.2.2 - 1)) * 1) := by rw [e140]; exact gx_mul (rfl : (nI (B.2.2.2.2.2.1 (B.2.2.2.2.2.2.2 - 1))) = (nI (B.2.2.2.2.2.1 (B.2.2.2.2.2.2.2 - 1)))) (rfl : (1 : Int32) = nI 1)
          subst n140
          have i141 : vp_in (nI ((B.2.2.2.2.2.2.2 - 1) + 1)) 13 := gx_in (rfl : (nI ((B.2.2.2.2.2.2.2 - 1) + 1)) = (nI ((B.2.2.2.2.2.2.2 - 1) + 1))) (by omega) (by decide)
          have k141 : ((nI ((B.2.2.2.2.2.2.2 - 1) + 1)) : Int32).toNatClampNeg = ((B.2.2.2.2.2.2.2 - 1) + 1) := gx_cl (rfl : (nI ((B.2.2.2.2.2.2.2 - 1) + 1)) = (nI ((B.2.2.2.2.2.2.2 - 1) + 1))) (by omega)
          refine va_iast hx hb hK hP hD hS 6 0 rfl rfl i141 dB_add_141 (fun H locs hP hD hS => ?_)
          rw [k141] at hP hD
          have hP : va_P D vwCl [(o, .inr (0, [.ref (q 0), .ref (q 1), .ref (q 2), .ref (q 3), .ref (q 4), .ref (q 5), .int (nI (B.2.2.2.2.2.2.1 + 1)), .int (nI (B.2.2.2.2.2.2.2 - 1))])), ((q 0), .inl (cI, 12, .inl (fun z9 => nI ((va_up B.1 B.2.2.2.2.2.2.1 k) z9)))), ((q 1), .inl (cI, 12, .inl (upd B.2.1 B.2.2.2.2.2.2.1 tv))), ((q 2), .inl (cI, 12, .inl (upd B.2.2.1 B.2.2.2.2.2.2.1 ov))), ((q 3), .inl (cI, 12, .inl (fun z9 => nI ((va_up (va_up B.2.2.2.1 B.2.2.2.2.2.2.1 12) (B.2.2.2.2.1 (B.2.2.2.2.2.2.2 - 1)) B.2.2.2.2.2.2.1) z9)))), ((q 4), .inl (cI, 12, .inl (fun z9 => nI ((va_up B.2.2.2.2.1 (B.2.2.2.2.2.2.2 - 1) B.2.2.2.2.2.2.1) z9)))), ((q 5), .inl (cI, 13, .inl (upd (fun z9 => nI (B.2.2.2.2.2.1 z9)) ((B.2.2.2.2.2.2.2 - 1) + 1) (nI ((B.2.2.2.2.2.1 (B.2.2.2.2.2.2.2 - 1)) * 1)))))] H := hP
          have hD : va_D A [(o, .inr (0, [.ref (q 0), .ref (q 1), .ref (q 2), .ref (q 3), .ref (q 4), .ref (q 5), .int (nI (B.2.2.2.2.2.2.1 + 1)), .int (nI (B.2.2.2.2.2.2.2 - 1))])), ((q 0), .inl (cI, 12, .inl (fun z9 => nI ((va_up B.1 B.2.2.2.2.2.2.1 k) z9)))), ((q 1), .inl (cI, 12, .inl (upd B.2.1 B.2.2.2.2.2.2.1 tv))), ((q 2), .inl (cI, 12, .inl (upd B.2.2.1 B.2.2.2.2.2.2.1 ov))), ((q 3), .inl (cI, 12, .inl (fun z9 => nI ((va_up (va_up B.2.2.2.1 B.2.2.2.2.2.2.1 12) (B.2.2.2.2.1 (B.2.2.2.2.2.2.2 - 1)) B.2.2.2.2.2.2.1) z9)))), ((q 4), .inl (cI, 12, .inl (fun z9 => nI ((va_up B.2.2.2.2.1 (B.2.2.2.2.2.2.2 - 1) B.2.2.2.2.2.2.1) z9)))), ((q 5), .inl (cI, 13, .inl (upd (fun z9 => nI (B.2.2.2.2.2.1 z9)) ((B.2.2.2.2.2.2.2 - 1) + 1) (nI ((B.2.2.2.2.2.1 (B.2.2.2.2.2.2.2 - 1)) * 1)))))] := hD
          rw [gx_upd] at hP hD
          refine lv_aload_n hx hb dB_add_142 rfl (lv_at hl 1 rfl) ?_
          refine lv_dup hx hb dB_add_143 rfl ?_
          refine va_get (D := D) (ci := 0) (v := .int (nI (B.2.2.2.2.2.2.2 - 1))) (C := R_B) (T := F_B) (N := 8) hx hb ht i_B hown hK hP 0 rfl rfl 7 (by decide) (ht _ m_227) (fun _ h9 => h9) rfl dB_add_144 ?_
          refine lv_iconst (v := 1) hx hb dB_add_147 (by decide) ?_
          refine lv_iadd hx hb dB_add_148 ?_
          refine lv_topi (fun v148 e148 => ?_)
          have n148 : v148 = nI ((B.2.2.2.2.2.2.2 - 1) + 1) := by rw [e148]; exact gx_add (rfl : (nI (B.2.2.2.2.2.2.2 - 1)) = (nI (B.2.2.2.2.2.2.2 - 1))) (rfl : (1 : Int32) = nI 1)
          subst n148
          refine va_put (D := D) (ci := 0) (v := .int (nI ((B.2.2.2.2.2.2.2 - 1) + 1))) (ty := .int) (C := R_B) (T := F_B) (N := 8) hx hb ht i_B ft_B ft_B_ok fn_B hown hK hP hD hS 0 rfl rfl 7 (by decide) (ht _ m_227) (fun _ h9 => h9) rfl (by decide +kernel) rfl rfl (Nat.le_of_ble_eq_true rfl) dB_add_149 (fun H locs hP hD hS => ?_)
          have hP : va_P D vwCl [(o, .inr (0, [.ref (q 0), .ref (q 1), .ref (q 2), .ref (q 3), .ref (q 4), .ref (q 5), .int (nI (B.2.2.2.2.2.2.1 + 1)), .int (nI ((B.2.2.2.2.2.2.2 - 1) + 1))])), ((q 0), .inl (cI, 12, .inl (fun z9 => nI ((va_up B.1 B.2.2.2.2.2.2.1 k) z9)))), ((q 1), .inl (cI, 12, .inl (upd B.2.1 B.2.2.2.2.2.2.1 tv))), ((q 2), .inl (cI, 12, .inl (upd B.2.2.1 B.2.2.2.2.2.2.1 ov))), ((q 3), .inl (cI, 12, .inl (fun z9 => nI ((va_up (va_up B.2.2.2.1 B.2.2.2.2.2.2.1 12) (B.2.2.2.2.1 (B.2.2.2.2.2.2.2 - 1)) B.2.2.2.2.2.2.1) z9)))), ((q 4), .inl (cI, 12, .inl (fun z9 => nI ((va_up B.2.2.2.2.1 (B.2.2.2.2.2.2.2 - 1) B.2.2.2.2.2.2.1) z9)))), ((q 5), .inl (cI, 13, .inl (fun z9 => nI ((va_up B.2.2.2.2.2.1 ((B.2.2.2.2.2.2.2 - 1) + 1) ((B.2.2.2.2.2.1 (B.2.2.2.2.2.2.2 - 1)) * 1)) z9))))] H := hP
          have hD : va_D A [(o, .inr (0, [.ref (q 0), .ref (q 1), .ref (q 2), .ref (q 3), .ref (q 4), .ref (q 5), .int (nI (B.2.2.2.2.2.2.1 + 1)), .int (nI ((B.2.2.2.2.2.2.2 - 1) + 1))])), ((q 0), .inl (cI, 12, .inl (fun z9 => nI ((va_up B.1 B.2.2.2.2.2.2.1 k) z9)))), ((q 1), .inl (cI, 12, .inl (upd B.2.1 B.2.2.2.2.2.2.1 tv))), ((q 2), .inl (cI, 12, .inl (upd B.2.2.1 B.2.2.2.2.2.2.1 ov))), ((q 3), .inl (cI, 12, .inl (fun z9 => nI ((va_up (va_up B.2.2.2.1 B.2.2.2.2.2.2.1 12) (B.2.2.2.2.1 (B.2.2.2.2.2.2.2 - 1)) B.2.2.2.2.2.2.1) z9)))), ((q 4), .inl (cI, 12, .inl (fun z9 => nI ((va_up B.2.2.2.2.1 (B.2.2.2.2.2.2.2 - 1) B.2.2.2.2.2.2.1) z9)))), ((q 5), .inl (cI, 13, .inl (fun z9 => nI ((va_up B.2.2.2.2.2.1 ((B.2.2.2.2.2.2.2 - 1) + 1) ((B.2.2.2.2.2.1 (B.2.2.2.2.2.2.2 - 1)) * 1)) z9))))] := hD
          have hz : bd_add B k tv ov = ((va_up B.1 B.2.2.2.2.2.2.1 k), (upd B.2.1 B.2.2.2.2.2.2.1 tv), (upd B.2.2.1 B.2.2.2.2.2.2.1 ov), (va_up (va_up B.2.2.2.1 B.2.2.2.2.2.2.1 12) (B.2.2.2.2.1 (B.2.2.2.2.2.2.2 - 1)) B.2.2.2.2.2.2.1), (va_up B.2.2.2.2.1 (B.2.2.2.2.2.2.2 - 1) B.2.2.2.2.2.2.1), (va_up B.2.2.2.2.2.1 ((B.2.2.2.2.2.2.2 - 1) + 1) ((B.2.2.2.2.2.1 (B.2.2.2.2.2.2.2 - 1)) * 1)), (B.2.2.2.2.2.2.1 + 1), ((B.2.2.2.2.2.2.2 - 1) + 1)) := by
            have hkv : k = 3 := by omega
            subst hkv
            simp [bd_add, bd_d1]
          exact W.vret hx hb hr (fun t9 ht9 hW => ⟨⟨_, rfl, by rw [hz], by rw [ht9]; exact hP, hD⟩, hS.F ht9⟩) hS.2.2 dB_add_152
        · have g132 : k = 4 := (gx_eq (rfl : (nI k) = (nI k)) (rfl : (4 : Int32) = nI 4) (by omega) (by decide)).mp c132
          exfalso; omega
      · have g92 : ¬ (k = 3) := fun z => c92 ((gx_eq (rfl : (nI k) = (nI k)) (rfl : (3 : Int32) = nI 3) (by omega) (by decide)).mpr z)
        exfalso; omega
  · have g51 : ¬ (k = 3) := fun z => c51 ((gx_eq (rfl : (nI k) = (nI k)) (rfl : (3 : Int32) = nI 3) (by omega) (by decide)).mpr z)
    refine lv_iload_n hx hb dB_add_54 rfl (lv_at hl 2 rfl) ?_
    refine lv_iconst (v := 5) hx hb dB_add_55 (by decide) ?_
    refine lv_icmp_ne (tgt := 85) hx hb dB_add_56 (by decide) (fun c56 => ?_) (fun c56 => ?_)
    · have g56 : ¬ (k = 5) := fun z => c56 ((gx_eq (rfl : (nI k) = (nI k)) (rfl : (5 : Int32) = nI 5) (by omega) (by decide)).mpr z)
      refine lv_iload_n hx hb dB_add_85 rfl (lv_at hl 2 rfl) ?_
      refine lv_iconst (v := 2) hx hb dB_add_86 (by decide) ?_
      refine lv_icmp_eq (tgt := 100) hx hb dB_add_87 (by decide) (fun c87 => ?_) (fun c87 => ?_)
      · have g87 : k = 2 := (gx_eq (rfl : (nI k) = (nI k)) (rfl : (2 : Int32) = nI 2) (by omega) (by decide)).mp c87
        refine lv_aload_n hx hb dB_add_100 rfl (lv_at hl 1 rfl) ?_
        refine va_get (D := D) (ci := 0) (v := .ref (q 4)) (C := R_B) (T := F_B) (N := 8) hx hb ht i_B hown hK hP 0 rfl rfl 4 (by decide) (ht _ m_222) (fun _ h9 => h9) rfl dB_add_101 ?_
        refine lv_aload_n hx hb dB_add_104 rfl (lv_at hl 1 rfl) ?_
        refine va_get (D := D) (ci := 0) (v := .int (nI B.2.2.2.2.2.2.2)) (C := R_B) (T := F_B) (N := 8) hx hb ht i_B hown hK hP 0 rfl rfl 7 (by decide) (ht _ m_227) (fun _ h9 => h9) rfl dB_add_105 ?_
        refine lv_iload hx hb dB_add_108 (lv_at hl 0 rfl) ?_
        have i110 : vp_in (nI B.2.2.2.2.2.2.2) 12 := gx_in (rfl : (nI B.2.2.2.2.2.2.2) = (nI B.2.2.2.2.2.2.2)) (by omega) (by decide)
        have k110 : ((nI B.2.2.2.2.2.2.2) : Int32).toNatClampNeg = B.2.2.2.2.2.2.2 := gx_cl (rfl : (nI B.2.2.2.2.2.2.2) = (nI B.2.2.2.2.2.2.2)) (by omega)
        refine va_iast hx hb hK hP hD hS 5 0 rfl rfl i110 dB_add_110 (fun H locs hP hD hS => ?_)
        rw [k110] at hP hD
        have hP : va_P D vwCl [(o, .inr (0, [.ref (q 0), .ref (q 1), .ref (q 2), .ref (q 3), .ref (q 4), .ref (q 5), .int (nI (B.2.2.2.2.2.2.1 + 1)), .int (nI B.2.2.2.2.2.2.2)])), ((q 0), .inl (cI, 12, .inl (fun z9 => nI ((va_up B.1 B.2.2.2.2.2.2.1 k) z9)))), ((q 1), .inl (cI, 12, .inl (upd B.2.1 B.2.2.2.2.2.2.1 tv))), ((q 2), .inl (cI, 12, .inl (upd B.2.2.1 B.2.2.2.2.2.2.1 ov))), ((q 3), .inl (cI, 12, .inl (fun z9 => nI ((va_up B.2.2.2.1 B.2.2.2.2.2.2.1 12) z9)))), ((q 4), .inl (cI, 12, .inl (upd (fun z9 => nI (B.2.2.2.2.1 z9)) B.2.2.2.2.2.2.2 (nI B.2.2.2.2.2.2.1)))), ((q 5), .inl (cI, 13, .inl (fun z9 => nI (B.2.2.2.2.2.1 z9))))] H := hP
        have hD : va_D A [(o, .inr (0, [.ref (q 0), .ref (q 1), .ref (q 2), .ref (q 3), .ref (q 4), .ref (q 5), .int (nI (B.2.2.2.2.2.2.1 + 1)), .int (nI B.2.2.2.2.2.2.2)])), ((q 0), .inl (cI, 12, .inl (fun z9 => nI ((va_up B.1 B.2.2.2.2.2.2.1 k) z9)))), ((q 1), .inl (cI, 12, .inl (upd B.2.1 B.2.2.2.2.2.2.1 tv))), ((q 2), .inl (cI, 12, .inl (upd B.2.2.1 B.2.2.2.2.2.2.1 ov))), ((q 3), .inl (cI, 12, .inl (fun z9 => nI ((va_up B.2.2.2.1 B.2.2.2.2.2.2.1 12) z9)))), ((q 4), .inl (cI, 12, .inl (upd (fun z9 => nI (B.2.2.2.2.1 z9)) B.2.2.2.2.2.2.2 (nI B.2.2.2.2.2.2.1)))), ((q 5), .inl (cI, 13, .inl (fun z9 => nI (B.2.2.2.2.2.1 z9))))] := hD
        rw [gx_upd] at hP hD
        refine lv_aload_n hx hb dB_add_111 rfl (lv_at hl 1 rfl) ?_
        refine va_get (D := D) (ci := 0) (v := .ref (q 5)) (C := R_B) (T := F_B) (N := 8) hx hb ht i_B hown hK hP 0 rfl rfl 5 (by decide) (ht _ m_223) (fun _ h9 => h9) rfl dB_add_112 ?_
        refine lv_aload_n hx hb dB_add_115 rfl (lv_at hl 1 rfl) ?_
        refine va_get (D := D) (ci := 0) (v := .int (nI B.2.2.2.2.2.2.2)) (C := R_B) (T := F_B) (N := 8) hx hb ht i_B hown hK hP 0 rfl rfl 7 (by decide) (ht _ m_227) (fun _ h9 => h9) rfl dB_add_116 ?_
        refine lv_iconst (v := 1) hx hb dB_add_119 (by decide) ?_
        refine lv_iadd hx hb dB_add_120 ?_
        refine lv_topi (fun v120 e120 => ?_)
        have n120 : v120 = nI (B.2.2.2.2.2.2.2 + 1) := by rw [e120]; exact gx_add (rfl : (nI B.2.2.2.2.2.2.2) = (nI B.2.2.2.2.2.2.2)) (rfl : (1 : Int32) = nI 1)
        subst n120
        refine lv_aload_n hx hb dB_add_121 rfl (lv_at hl 1 rfl) ?_
        refine va_get (D := D) (ci := 0) (v := .ref (q 5)) (C := R_B) (T := F_B) (N := 8) hx hb ht i_B hown hK hP 0 rfl rfl 5 (by decide) (ht _ m_223) (fun _ h9 => h9) rfl dB_add_122 ?_
        refine lv_aload_n hx hb dB_add_125 rfl (lv_at hl 1 rfl) ?_
        refine va_get (D := D) (ci := 0) (v := .int (nI B.2.2.2.2.2.2.2)) (C := R_B) (T := F_B) (N := 8) hx hb ht i_B hown hK hP 0 rfl rfl 7 (by decide) (ht _ m_227) (fun _ h9 => h9) rfl dB_add_126 ?_
        have i129 : vp_in (nI B.2.2.2.2.2.2.2) 13 := gx_in (rfl : (nI B.2.2.2.2.2.2.2) = (nI B.2.2.2.2.2.2.2)) (by omega) (by decide)
        have k129 : ((nI B.2.2.2.2.2.2.2) : Int32).toNatClampNeg = B.2.2.2.2.2.2.2 := gx_cl (rfl : (nI B.2.2.2.2.2.2.2) = (nI B.2.2.2.2.2.2.2)) (by omega)
        refine va_iald hx hb hK hP 6 0 rfl rfl i129 dB_add_129 ?_
        rw [k129]
        refine lv_topi (fun v129 e129 => ?_)
        have n129 : v129 = nI (B.2.2.2.2.2.1 B.2.2.2.2.2.2.2) := e129
        subst n129
        refine lv_iload_n hx hb dB_add_130 rfl (lv_at hl 2 rfl) ?_
        refine lv_iconst (v := 4) hx hb dB_add_131 (by decide) ?_
        refine lv_icmp_ne (tgt := 139) hx hb dB_add_132 (by decide) (fun c132 => ?_) (fun c132 => ?_)
        · have g132 : ¬ (k = 4) := fun z => c132 ((gx_eq (rfl : (nI k) = (nI k)) (rfl : (4 : Int32) = nI 4) (by omega) (by decide)).mpr z)
          refine lv_iconst (v := 1) hx hb dB_add_139 (by decide) ?_
          refine lv_imul hx hb dB_add_140 ?_
          refine lv_topi (fun v140 e140 => ?_)
          have n140 : v140 = nI ((B.2.2.2.2.2.1 B.2.2.2.2.2.2.2) * 1) := by rw [e140]; exact gx_mul (rfl : (nI (B.2.2.2.2.2.1 B.2.2.2.2.2.2.2)) = (nI (B.2.2.2.2.2.1 B.2.2.2.2.2.2.2))) (rfl : (1 : Int32) = nI 1)
          subst n140
          have i141 : vp_in (nI (B.2.2.2.2.2.2.2 + 1)) 13 := gx_in (rfl : (nI (B.2.2.2.2.2.2.2 + 1)) = (nI (B.2.2.2.2.2.2.2 + 1))) (by omega) (by decide)
          have k141 : ((nI (B.2.2.2.2.2.2.2 + 1)) : Int32).toNatClampNeg = (B.2.2.2.2.2.2.2 + 1) := gx_cl (rfl : (nI (B.2.2.2.2.2.2.2 + 1)) = (nI (B.2.2.2.2.2.2.2 + 1))) (by omega)
          refine va_iast hx hb hK hP hD hS 6 0 rfl rfl i141 dB_add_141 (fun H locs hP hD hS => ?_)
          rw [k141] at hP hD
          have hP : va_P D vwCl [(o, .inr (0, [.ref (q 0), .ref (q 1), .ref (q 2), .ref (q 3), .ref (q 4), .ref (q 5), .int (nI (B.2.2.2.2.2.2.1 + 1)), .int (nI B.2.2.2.2.2.2.2)])), ((q 0), .inl (cI, 12, .inl (fun z9 => nI ((va_up B.1 B.2.2.2.2.2.2.1 k) z9)))), ((q 1), .inl (cI, 12, .inl (upd B.2.1 B.2.2.2.2.2.2.1 tv))), ((q 2), .inl (cI, 12, .inl (upd B.2.2.1 B.2.2.2.2.2.2.1 ov))), ((q 3), .inl (cI, 12, .inl (fun z9 => nI ((va_up B.2.2.2.1 B.2.2.2.2.2.2.1 12) z9)))), ((q 4), .inl (cI, 12, .inl (fun z9 => nI ((va_up B.2.2.2.2.1 B.2.2.2.2.2.2.2 B.2.2.2.2.2.2.1) z9)))), ((q 5), .inl (cI, 13, .inl (upd (fun z9 => nI (B.2.2.2.2.2.1 z9)) (B.2.2.2.2.2.2.2 + 1) (nI ((B.2.2.2.2.2.1 B.2.2.2.2.2.2.2) * 1)))))] H := hP
          have hD : va_D A [(o, .inr (0, [.ref (q 0), .ref (q 1), .ref (q 2), .ref (q 3), .ref (q 4), .ref (q 5), .int (nI (B.2.2.2.2.2.2.1 + 1)), .int (nI B.2.2.2.2.2.2.2)])), ((q 0), .inl (cI, 12, .inl (fun z9 => nI ((va_up B.1 B.2.2.2.2.2.2.1 k) z9)))), ((q 1), .inl (cI, 12, .inl (upd B.2.1 B.2.2.2.2.2.2.1 tv))), ((q 2), .inl (cI, 12, .inl (upd B.2.2.1 B.2.2.2.2.2.2.1 ov))), ((q 3), .inl (cI, 12, .inl (fun z9 => nI ((va_up B.2.2.2.1 B.2.2.2.2.2.2.1 12) z9)))), ((q 4), .inl (cI, 12, .inl (fun z9 => nI ((va_up B.2.2.2.2.1 B.2.2.2.2.2.2.2 B.2.2.2.2.2.2.1) z9)))), ((q 5), .inl (cI, 13, .inl (upd (fun z9 => nI (B.2.2.2.2.2.1 z9)) (B.2.2.2.2.2.2.2 + 1) (nI ((B.2.2.2.2.2.1 B.2.2.2.2.2.2.2) * 1)))))] := hD
          rw [gx_upd] at hP hD
          refine lv_aload_n hx hb dB_add_142 rfl (lv_at hl 1 rfl) ?_
          refine lv_dup hx hb dB_add_143 rfl ?_
          refine va_get (D := D) (ci := 0) (v := .int (nI B.2.2.2.2.2.2.2)) (C := R_B) (T := F_B) (N := 8) hx hb ht i_B hown hK hP 0 rfl rfl 7 (by decide) (ht _ m_227) (fun _ h9 => h9) rfl dB_add_144 ?_
          refine lv_iconst (v := 1) hx hb dB_add_147 (by decide) ?_
          refine lv_iadd hx hb dB_add_148 ?_
          refine lv_topi (fun v148 e148 => ?_)
          have n148 : v148 = nI (B.2.2.2.2.2.2.2 + 1) := by rw [e148]; exact gx_add (rfl : (nI B.2.2.2.2.2.2.2) = (nI B.2.2.2.2.2.2.2)) (rfl : (1 : Int32) = nI 1)
          subst n148
          refine va_put (D := D) (ci := 0) (v := .int (nI (B.2.2.2.2.2.2.2 + 1))) (ty := .int) (C := R_B) (T := F_B) (N := 8) hx hb ht i_B ft_B ft_B_ok fn_B hown hK hP hD hS 0 rfl rfl 7 (by decide) (ht _ m_227) (fun _ h9 => h9) rfl (by decide +kernel) rfl rfl (Nat.le_of_ble_eq_true rfl) dB_add_149 (fun H locs hP hD hS => ?_)
          have hP : va_P D vwCl [(o, .inr (0, [.ref (q 0), .ref (q 1), .ref (q 2), .ref (q 3), .ref (q 4), .ref (q 5), .int (nI (B.2.2.2.2.2.2.1 + 1)), .int (nI (B.2.2.2.2.2.2.2 + 1))])), ((q 0), .inl (cI, 12, .inl (fun z9 => nI ((va_up B.1 B.2.2.2.2.2.2.1 k) z9)))), ((q 1), .inl (cI, 12, .inl (upd B.2.1 B.2.2.2.2.2.2.1 tv))), ((q 2), .inl (cI, 12, .inl (upd B.2.2.1 B.2.2.2.2.2.2.1 ov))), ((q 3), .inl (cI, 12, .inl (fun z9 => nI ((va_up B.2.2.2.1 B.2.2.2.2.2.2.1 12) z9)))), ((q 4), .inl (cI, 12, .inl (fun z9 => nI ((va_up B.2.2.2.2.1 B.2.2.2.2.2.2.2 B.2.2.2.2.2.2.1) z9)))), ((q 5), .inl (cI, 13, .inl (fun z9 => nI ((va_up B.2.2.2.2.2.1 (B.2.2.2.2.2.2.2 + 1) ((B.2.2.2.2.2.1 B.2.2.2.2.2.2.2) * 1)) z9))))] H := hP
          have hD : va_D A [(o, .inr (0, [.ref (q 0), .ref (q 1), .ref (q 2), .ref (q 3), .ref (q 4), .ref (q 5), .int (nI (B.2.2.2.2.2.2.1 + 1)), .int (nI (B.2.2.2.2.2.2.2 + 1))])), ((q 0), .inl (cI, 12, .inl (fun z9 => nI ((va_up B.1 B.2.2.2.2.2.2.1 k) z9)))), ((q 1), .inl (cI, 12, .inl (upd B.2.1 B.2.2.2.2.2.2.1 tv))), ((q 2), .inl (cI, 12, .inl (upd B.2.2.1 B.2.2.2.2.2.2.1 ov))), ((q 3), .inl (cI, 12, .inl (fun z9 => nI ((va_up B.2.2.2.1 B.2.2.2.2.2.2.1 12) z9)))), ((q 4), .inl (cI, 12, .inl (fun z9 => nI ((va_up B.2.2.2.2.1 B.2.2.2.2.2.2.2 B.2.2.2.2.2.2.1) z9)))), ((q 5), .inl (cI, 13, .inl (fun z9 => nI ((va_up B.2.2.2.2.2.1 (B.2.2.2.2.2.2.2 + 1) ((B.2.2.2.2.2.1 B.2.2.2.2.2.2.2) * 1)) z9))))] := hD
          have hz : bd_add B k tv ov = ((va_up B.1 B.2.2.2.2.2.2.1 k), (upd B.2.1 B.2.2.2.2.2.2.1 tv), (upd B.2.2.1 B.2.2.2.2.2.2.1 ov), (va_up B.2.2.2.1 B.2.2.2.2.2.2.1 12), (va_up B.2.2.2.2.1 B.2.2.2.2.2.2.2 B.2.2.2.2.2.2.1), (va_up B.2.2.2.2.2.1 (B.2.2.2.2.2.2.2 + 1) ((B.2.2.2.2.2.1 B.2.2.2.2.2.2.2) * 1)), (B.2.2.2.2.2.2.1 + 1), (B.2.2.2.2.2.2.2 + 1)) := by
            have hkv : k = 2 := by omega
            subst hkv
            simp [bd_add, bd_d1]
          exact W.vret hx hb hr (fun t9 ht9 hW => ⟨⟨_, rfl, by rw [hz], by rw [ht9]; exact hP, hD⟩, hS.F ht9⟩) hS.2.2 dB_add_152
        · have g132 : k = 4 := (gx_eq (rfl : (nI k) = (nI k)) (rfl : (4 : Int32) = nI 4) (by omega) (by decide)).mp c132
          exfalso; omega
      · have g87 : ¬ (k = 2) := fun z => c87 ((gx_eq (rfl : (nI k) = (nI k)) (rfl : (2 : Int32) = nI 2) (by omega) (by decide)).mpr z)
        refine lv_iload_n hx hb dB_add_90 rfl (lv_at hl 2 rfl) ?_
        refine lv_iconst (v := 3) hx hb dB_add_91 (by decide) ?_
        refine lv_icmp_eq (tgt := 100) hx hb dB_add_92 (by decide) (fun c92 => ?_) (fun c92 => ?_)
        · have g92 : k = 3 := (gx_eq (rfl : (nI k) = (nI k)) (rfl : (3 : Int32) = nI 3) (by omega) (by decide)).mp c92
          exfalso; omega
        · have g92 : ¬ (k = 3) := fun z => c92 ((gx_eq (rfl : (nI k) = (nI k)) (rfl : (3 : Int32) = nI 3) (by omega) (by decide)).mpr z)
          refine lv_iload_n hx hb dB_add_95 rfl (lv_at hl 2 rfl) ?_
          refine lv_iconst (v := 4) hx hb dB_add_96 (by decide) ?_
          refine lv_icmp_ne (tgt := 152) hx hb dB_add_97 (by decide) (fun c97 => ?_) (fun c97 => ?_)
          · have g97 : ¬ (k = 4) := fun z => c97 ((gx_eq (rfl : (nI k) = (nI k)) (rfl : (4 : Int32) = nI 4) (by omega) (by decide)).mpr z)
            have hz : bd_add B k tv ov = ((va_up B.1 B.2.2.2.2.2.2.1 k), (upd B.2.1 B.2.2.2.2.2.2.1 tv), (upd B.2.2.1 B.2.2.2.2.2.2.1 ov), (va_up B.2.2.2.1 B.2.2.2.2.2.2.1 12), B.2.2.2.2.1, B.2.2.2.2.2.1, (B.2.2.2.2.2.2.1 + 1), B.2.2.2.2.2.2.2) := by
              have h2 : ¬ k = 2 := by omega
              have h3 : ¬ k = 3 := by omega
              have h4 : ¬ k = 4 := by omega
              have h5 : ¬ k = 5 := by omega
              simp [bd_add, bd_d1, h2, h3, h4, h5]
            exact W.vret hx hb hr (fun t9 ht9 hW => ⟨⟨_, rfl, by rw [hz], by rw [ht9]; exact hP, hD⟩, hS.F ht9⟩) hS.2.2 dB_add_152
          · have g97 : k = 4 := (gx_eq (rfl : (nI k) = (nI k)) (rfl : (4 : Int32) = nI 4) (by omega) (by decide)).mp c97
            refine lv_aload_n hx hb dB_add_100 rfl (lv_at hl 1 rfl) ?_
            refine va_get (D := D) (ci := 0) (v := .ref (q 4)) (C := R_B) (T := F_B) (N := 8) hx hb ht i_B hown hK hP 0 rfl rfl 4 (by decide) (ht _ m_222) (fun _ h9 => h9) rfl dB_add_101 ?_
            refine lv_aload_n hx hb dB_add_104 rfl (lv_at hl 1 rfl) ?_
            refine va_get (D := D) (ci := 0) (v := .int (nI B.2.2.2.2.2.2.2)) (C := R_B) (T := F_B) (N := 8) hx hb ht i_B hown hK hP 0 rfl rfl 7 (by decide) (ht _ m_227) (fun _ h9 => h9) rfl dB_add_105 ?_
            refine lv_iload hx hb dB_add_108 (lv_at hl 0 rfl) ?_
            have i110 : vp_in (nI B.2.2.2.2.2.2.2) 12 := gx_in (rfl : (nI B.2.2.2.2.2.2.2) = (nI B.2.2.2.2.2.2.2)) (by omega) (by decide)
            have k110 : ((nI B.2.2.2.2.2.2.2) : Int32).toNatClampNeg = B.2.2.2.2.2.2.2 := gx_cl (rfl : (nI B.2.2.2.2.2.2.2) = (nI B.2.2.2.2.2.2.2)) (by omega)
            refine va_iast hx hb hK hP hD hS 5 0 rfl rfl i110 dB_add_110 (fun H locs hP hD hS => ?_)
            rw [k110] at hP hD
            have hP : va_P D vwCl [(o, .inr (0, [.ref (q 0), .ref (q 1), .ref (q 2), .ref (q 3), .ref (q 4), .ref (q 5), .int (nI (B.2.2.2.2.2.2.1 + 1)), .int (nI B.2.2.2.2.2.2.2)])), ((q 0), .inl (cI, 12, .inl (fun z9 => nI ((va_up B.1 B.2.2.2.2.2.2.1 k) z9)))), ((q 1), .inl (cI, 12, .inl (upd B.2.1 B.2.2.2.2.2.2.1 tv))), ((q 2), .inl (cI, 12, .inl (upd B.2.2.1 B.2.2.2.2.2.2.1 ov))), ((q 3), .inl (cI, 12, .inl (fun z9 => nI ((va_up B.2.2.2.1 B.2.2.2.2.2.2.1 12) z9)))), ((q 4), .inl (cI, 12, .inl (upd (fun z9 => nI (B.2.2.2.2.1 z9)) B.2.2.2.2.2.2.2 (nI B.2.2.2.2.2.2.1)))), ((q 5), .inl (cI, 13, .inl (fun z9 => nI (B.2.2.2.2.2.1 z9))))] H := hP
            have hD : va_D A [(o, .inr (0, [.ref (q 0), .ref (q 1), .ref (q 2), .ref (q 3), .ref (q 4), .ref (q 5), .int (nI (B.2.2.2.2.2.2.1 + 1)), .int (nI B.2.2.2.2.2.2.2)])), ((q 0), .inl (cI, 12, .inl (fun z9 => nI ((va_up B.1 B.2.2.2.2.2.2.1 k) z9)))), ((q 1), .inl (cI, 12, .inl (upd B.2.1 B.2.2.2.2.2.2.1 tv))), ((q 2), .inl (cI, 12, .inl (upd B.2.2.1 B.2.2.2.2.2.2.1 ov))), ((q 3), .inl (cI, 12, .inl (fun z9 => nI ((va_up B.2.2.2.1 B.2.2.2.2.2.2.1 12) z9)))), ((q 4), .inl (cI, 12, .inl (upd (fun z9 => nI (B.2.2.2.2.1 z9)) B.2.2.2.2.2.2.2 (nI B.2.2.2.2.2.2.1)))), ((q 5), .inl (cI, 13, .inl (fun z9 => nI (B.2.2.2.2.2.1 z9))))] := hD
            rw [gx_upd] at hP hD
            refine lv_aload_n hx hb dB_add_111 rfl (lv_at hl 1 rfl) ?_
            refine va_get (D := D) (ci := 0) (v := .ref (q 5)) (C := R_B) (T := F_B) (N := 8) hx hb ht i_B hown hK hP 0 rfl rfl 5 (by decide) (ht _ m_223) (fun _ h9 => h9) rfl dB_add_112 ?_
            refine lv_aload_n hx hb dB_add_115 rfl (lv_at hl 1 rfl) ?_
            refine va_get (D := D) (ci := 0) (v := .int (nI B.2.2.2.2.2.2.2)) (C := R_B) (T := F_B) (N := 8) hx hb ht i_B hown hK hP 0 rfl rfl 7 (by decide) (ht _ m_227) (fun _ h9 => h9) rfl dB_add_116 ?_
            refine lv_iconst (v := 1) hx hb dB_add_119 (by decide) ?_
            refine lv_iadd hx hb dB_add_120 ?_
            refine lv_topi (fun v120 e120 => ?_)
            have n120 : v120 = nI (B.2.2.2.2.2.2.2 + 1) := by rw [e120]; exact gx_add (rfl : (nI B.2.2.2.2.2.2.2) = (nI B.2.2.2.2.2.2.2)) (rfl : (1 : Int32) = nI 1)
            subst n120
            refine lv_aload_n hx hb dB_add_121 rfl (lv_at hl 1 rfl) ?_
            refine va_get (D := D) (ci := 0) (v := .ref (q 5)) (C := R_B) (T := F_B) (N := 8) hx hb ht i_B hown hK hP 0 rfl rfl 5 (by decide) (ht _ m_223) (fun _ h9 => h9) rfl dB_add_122 ?_
            refine lv_aload_n hx hb dB_add_125 rfl (lv_at hl 1 rfl) ?_
            refine va_get (D := D) (ci := 0) (v := .int (nI B.2.2.2.2.2.2.2)) (C := R_B) (T := F_B) (N := 8) hx hb ht i_B hown hK hP 0 rfl rfl 7 (by decide) (ht _ m_227) (fun _ h9 => h9) rfl dB_add_126 ?_
            have i129 : vp_in (nI B.2.2.2.2.2.2.2) 13 := gx_in (rfl : (nI B.2.2.2.2.2.2.2) = (nI B.2.2.2.2.2.2.2)) (by omega) (by decide)
            have k129 : ((nI B.2.2.2.2.2.2.2) : Int32).toNatClampNeg = B.2.2.2.2.2.2.2 := gx_cl (rfl : (nI B.2.2.2.2.2.2.2) = (nI B.2.2.2.2.2.2.2)) (by omega)
            refine va_iald hx hb hK hP 6 0 rfl rfl i129 dB_add_129 ?_
            rw [k129]
            refine lv_topi (fun v129 e129 => ?_)
            have n129 : v129 = nI (B.2.2.2.2.2.1 B.2.2.2.2.2.2.2) := e129
            subst n129
            refine lv_iload_n hx hb dB_add_130 rfl (lv_at hl 2 rfl) ?_
            refine lv_iconst (v := 4) hx hb dB_add_131 (by decide) ?_
            refine lv_icmp_ne (tgt := 139) hx hb dB_add_132 (by decide) (fun c132 => ?_) (fun c132 => ?_)
            · have g132 : ¬ (k = 4) := fun z => c132 ((gx_eq (rfl : (nI k) = (nI k)) (rfl : (4 : Int32) = nI 4) (by omega) (by decide)).mpr z)
              exfalso; omega
            · have g132 : k = 4 := (gx_eq (rfl : (nI k) = (nI k)) (rfl : (4 : Int32) = nI 4) (by omega) (by decide)).mp c132
              obtain ⟨j, hj1, hj2, hjo⟩ := h4 (by omega)
              subst hjo
              have hP : va_P D vwCl [(o, .inr (0, [.ref (q 0), .ref (q 1), .ref (q 2), .ref (q 3), .ref (q 4), .ref (q 5), .int (nI (B.2.2.2.2.2.2.1 + 1)), .int (nI B.2.2.2.2.2.2.2)])), ((q 0), .inl (cI, 12, .inl (fun z9 => nI ((va_up B.1 B.2.2.2.2.2.2.1 k) z9)))), ((q 1), .inl (cI, 12, .inl (upd B.2.1 B.2.2.2.2.2.2.1 tv))), ((q 2), .inl (cI, 12, .inl (upd B.2.2.1 B.2.2.2.2.2.2.1 (nI j)))), ((q 3), .inl (cI, 12, .inl (fun z9 => nI ((va_up B.2.2.2.1 B.2.2.2.2.2.2.1 12) z9)))), ((q 4), .inl (cI, 12, .inl (fun z9 => nI ((va_up B.2.2.2.2.1 B.2.2.2.2.2.2.2 B.2.2.2.2.2.2.1) z9)))), ((q 5), .inl (cI, 13, .inl (fun z9 => nI (B.2.2.2.2.2.1 z9))))] H := hP
              have hD : va_D A [(o, .inr (0, [.ref (q 0), .ref (q 1), .ref (q 2), .ref (q 3), .ref (q 4), .ref (q 5), .int (nI (B.2.2.2.2.2.2.1 + 1)), .int (nI B.2.2.2.2.2.2.2)])), ((q 0), .inl (cI, 12, .inl (fun z9 => nI ((va_up B.1 B.2.2.2.2.2.2.1 k) z9)))), ((q 1), .inl (cI, 12, .inl (upd B.2.1 B.2.2.2.2.2.2.1 tv))), ((q 2), .inl (cI, 12, .inl (upd B.2.2.1 B.2.2.2.2.2.2.1 (nI j)))), ((q 3), .inl (cI, 12, .inl (fun z9 => nI ((va_up B.2.2.2.1 B.2.2.2.2.2.2.1 12) z9)))), ((q 4), .inl (cI, 12, .inl (fun z9 => nI ((va_up B.2.2.2.2.1 B.2.2.2.2.2.2.2 B.2.2.2.2.2.2.1) z9)))), ((q 5), .inl (cI, 13, .inl (fun z9 => nI (B.2.2.2.2.2.1 z9))))] := hD
              refine lv_iload_n hx hb dB_add_135 rfl (lv_at hl 4 rfl) ?_
              refine lv_goto (tgt := 140) hx hb dB_add_136 (by decide) ?_
              refine lv_imul hx hb dB_add_140 ?_
              refine lv_topi (fun v140 e140 => ?_)
              have n140 : v140 = nI ((B.2.2.2.2.2.1 B.2.2.2.2.2.2.2) * j) := by rw [e140]; exact gx_mul (rfl : (nI (B.2.2.2.2.2.1 B.2.2.2.2.2.2.2)) = (nI (B.2.2.2.2.2.1 B.2.2.2.2.2.2.2))) (rfl : (nI j) = (nI j))
              subst n140
              have i141 : vp_in (nI (B.2.2.2.2.2.2.2 + 1)) 13 := gx_in (rfl : (nI (B.2.2.2.2.2.2.2 + 1)) = (nI (B.2.2.2.2.2.2.2 + 1))) (by omega) (by decide)
              have k141 : ((nI (B.2.2.2.2.2.2.2 + 1)) : Int32).toNatClampNeg = (B.2.2.2.2.2.2.2 + 1) := gx_cl (rfl : (nI (B.2.2.2.2.2.2.2 + 1)) = (nI (B.2.2.2.2.2.2.2 + 1))) (by omega)
              refine va_iast hx hb hK hP hD hS 6 0 rfl rfl i141 dB_add_141 (fun H locs hP hD hS => ?_)
              rw [k141] at hP hD
              have hP : va_P D vwCl [(o, .inr (0, [.ref (q 0), .ref (q 1), .ref (q 2), .ref (q 3), .ref (q 4), .ref (q 5), .int (nI (B.2.2.2.2.2.2.1 + 1)), .int (nI B.2.2.2.2.2.2.2)])), ((q 0), .inl (cI, 12, .inl (fun z9 => nI ((va_up B.1 B.2.2.2.2.2.2.1 k) z9)))), ((q 1), .inl (cI, 12, .inl (upd B.2.1 B.2.2.2.2.2.2.1 tv))), ((q 2), .inl (cI, 12, .inl (upd B.2.2.1 B.2.2.2.2.2.2.1 (nI j)))), ((q 3), .inl (cI, 12, .inl (fun z9 => nI ((va_up B.2.2.2.1 B.2.2.2.2.2.2.1 12) z9)))), ((q 4), .inl (cI, 12, .inl (fun z9 => nI ((va_up B.2.2.2.2.1 B.2.2.2.2.2.2.2 B.2.2.2.2.2.2.1) z9)))), ((q 5), .inl (cI, 13, .inl (upd (fun z9 => nI (B.2.2.2.2.2.1 z9)) (B.2.2.2.2.2.2.2 + 1) (nI ((B.2.2.2.2.2.1 B.2.2.2.2.2.2.2) * j)))))] H := hP
              have hD : va_D A [(o, .inr (0, [.ref (q 0), .ref (q 1), .ref (q 2), .ref (q 3), .ref (q 4), .ref (q 5), .int (nI (B.2.2.2.2.2.2.1 + 1)), .int (nI B.2.2.2.2.2.2.2)])), ((q 0), .inl (cI, 12, .inl (fun z9 => nI ((va_up B.1 B.2.2.2.2.2.2.1 k) z9)))), ((q 1), .inl (cI, 12, .inl (upd B.2.1 B.2.2.2.2.2.2.1 tv))), ((q 2), .inl (cI, 12, .inl (upd B.2.2.1 B.2.2.2.2.2.2.1 (nI j)))), ((q 3), .inl (cI, 12, .inl (fun z9 => nI ((va_up B.2.2.2.1 B.2.2.2.2.2.2.1 12) z9)))), ((q 4), .inl (cI, 12, .inl (fun z9 => nI ((va_up B.2.2.2.2.1 B.2.2.2.2.2.2.2 B.2.2.2.2.2.2.1) z9)))), ((q 5), .inl (cI, 13, .inl (upd (fun z9 => nI (B.2.2.2.2.2.1 z9)) (B.2.2.2.2.2.2.2 + 1) (nI ((B.2.2.2.2.2.1 B.2.2.2.2.2.2.2) * j)))))] := hD
              rw [gx_upd] at hP hD
              refine lv_aload_n hx hb dB_add_142 rfl (lv_at hl 1 rfl) ?_
              refine lv_dup hx hb dB_add_143 rfl ?_
              refine va_get (D := D) (ci := 0) (v := .int (nI B.2.2.2.2.2.2.2)) (C := R_B) (T := F_B) (N := 8) hx hb ht i_B hown hK hP 0 rfl rfl 7 (by decide) (ht _ m_227) (fun _ h9 => h9) rfl dB_add_144 ?_
              refine lv_iconst (v := 1) hx hb dB_add_147 (by decide) ?_
              refine lv_iadd hx hb dB_add_148 ?_
              refine lv_topi (fun v148 e148 => ?_)
              have n148 : v148 = nI (B.2.2.2.2.2.2.2 + 1) := by rw [e148]; exact gx_add (rfl : (nI B.2.2.2.2.2.2.2) = (nI B.2.2.2.2.2.2.2)) (rfl : (1 : Int32) = nI 1)
              subst n148
              refine va_put (D := D) (ci := 0) (v := .int (nI (B.2.2.2.2.2.2.2 + 1))) (ty := .int) (C := R_B) (T := F_B) (N := 8) hx hb ht i_B ft_B ft_B_ok fn_B hown hK hP hD hS 0 rfl rfl 7 (by decide) (ht _ m_227) (fun _ h9 => h9) rfl (by decide +kernel) rfl rfl (Nat.le_of_ble_eq_true rfl) dB_add_149 (fun H locs hP hD hS => ?_)
              have hP : va_P D vwCl [(o, .inr (0, [.ref (q 0), .ref (q 1), .ref (q 2), .ref (q 3), .ref (q 4), .ref (q 5), .int (nI (B.2.2.2.2.2.2.1 + 1)), .int (nI (B.2.2.2.2.2.2.2 + 1))])), ((q 0), .inl (cI, 12, .inl (fun z9 => nI ((va_up B.1 B.2.2.2.2.2.2.1 k) z9)))), ((q 1), .inl (cI, 12, .inl (upd B.2.1 B.2.2.2.2.2.2.1 tv))), ((q 2), .inl (cI, 12, .inl (upd B.2.2.1 B.2.2.2.2.2.2.1 (nI j)))), ((q 3), .inl (cI, 12, .inl (fun z9 => nI ((va_up B.2.2.2.1 B.2.2.2.2.2.2.1 12) z9)))), ((q 4), .inl (cI, 12, .inl (fun z9 => nI ((va_up B.2.2.2.2.1 B.2.2.2.2.2.2.2 B.2.2.2.2.2.2.1) z9)))), ((q 5), .inl (cI, 13, .inl (fun z9 => nI ((va_up B.2.2.2.2.2.1 (B.2.2.2.2.2.2.2 + 1) ((B.2.2.2.2.2.1 B.2.2.2.2.2.2.2) * j)) z9))))] H := hP
              have hD : va_D A [(o, .inr (0, [.ref (q 0), .ref (q 1), .ref (q 2), .ref (q 3), .ref (q 4), .ref (q 5), .int (nI (B.2.2.2.2.2.2.1 + 1)), .int (nI (B.2.2.2.2.2.2.2 + 1))])), ((q 0), .inl (cI, 12, .inl (fun z9 => nI ((va_up B.1 B.2.2.2.2.2.2.1 k) z9)))), ((q 1), .inl (cI, 12, .inl (upd B.2.1 B.2.2.2.2.2.2.1 tv))), ((q 2), .inl (cI, 12, .inl (upd B.2.2.1 B.2.2.2.2.2.2.1 (nI j)))), ((q 3), .inl (cI, 12, .inl (fun z9 => nI ((va_up B.2.2.2.1 B.2.2.2.2.2.2.1 12) z9)))), ((q 4), .inl (cI, 12, .inl (fun z9 => nI ((va_up B.2.2.2.2.1 B.2.2.2.2.2.2.2 B.2.2.2.2.2.2.1) z9)))), ((q 5), .inl (cI, 13, .inl (fun z9 => nI ((va_up B.2.2.2.2.2.1 (B.2.2.2.2.2.2.2 + 1) ((B.2.2.2.2.2.1 B.2.2.2.2.2.2.2) * j)) z9))))] := hD
              have hz : bd_add B k tv (nI j) = ((va_up B.1 B.2.2.2.2.2.2.1 k), (upd B.2.1 B.2.2.2.2.2.2.1 tv), (upd B.2.2.1 B.2.2.2.2.2.2.1 (nI j)), (va_up B.2.2.2.1 B.2.2.2.2.2.2.1 12), (va_up B.2.2.2.2.1 B.2.2.2.2.2.2.2 B.2.2.2.2.2.2.1), (va_up B.2.2.2.2.2.1 (B.2.2.2.2.2.2.2 + 1) ((B.2.2.2.2.2.1 B.2.2.2.2.2.2.2) * j)), (B.2.2.2.2.2.2.1 + 1), (B.2.2.2.2.2.2.2 + 1)) := by
                have hkv : k = 4 := by omega
                subst hkv
                simp [bd_add, bd_d1, nI_clamp (show j < 2 ^ 31 by omega)]
              exact W.vret hx hb hr (fun t9 ht9 hW => ⟨⟨_, rfl, by rw [hz], by rw [ht9]; exact hP, hD⟩, hS.F ht9⟩) hS.2.2 dB_add_152
    · have g56 : k = 5 := (gx_eq (rfl : (nI k) = (nI k)) (rfl : (5 : Int32) = nI 5) (by omega) (by decide)).mp c56
      refine lv_aload_n hx hb dB_add_59 rfl (lv_at hl 1 rfl) ?_
      refine lv_dup hx hb dB_add_60 rfl ?_
      refine va_get (D := D) (ci := 0) (v := .int (nI B.2.2.2.2.2.2.2)) (C := R_B) (T := F_B) (N := 8) hx hb ht i_B hown hK hP 0 rfl rfl 7 (by decide) (ht _ m_227) (fun _ h9 => h9) rfl dB_add_61 ?_
      refine lv_iconst (v := 1) hx hb dB_add_64 (by decide) ?_
      refine lv_isub hx hb dB_add_65 ?_
      refine lv_topi (fun v65 e65 => ?_)
      have n65 : v65 = nI (B.2.2.2.2.2.2.2 - 1) := by rw [e65]; exact gx_sub (rfl : (nI B.2.2.2.2.2.2.2) = (nI B.2.2.2.2.2.2.2)) (rfl : (1 : Int32) = nI 1) (by omega)
      subst n65
      refine va_put (D := D) (ci := 0) (v := .int (nI (B.2.2.2.2.2.2.2 - 1))) (ty := .int) (C := R_B) (T := F_B) (N := 8) hx hb ht i_B ft_B ft_B_ok fn_B hown hK hP hD hS 0 rfl rfl 7 (by decide) (ht _ m_227) (fun _ h9 => h9) rfl (by decide +kernel) rfl rfl (Nat.le_of_ble_eq_true rfl) dB_add_66 (fun H locs hP hD hS => ?_)
      have hP : va_P D vwCl [(o, .inr (0, [.ref (q 0), .ref (q 1), .ref (q 2), .ref (q 3), .ref (q 4), .ref (q 5), .int (nI (B.2.2.2.2.2.2.1 + 1)), .int (nI (B.2.2.2.2.2.2.2 - 1))])), ((q 0), .inl (cI, 12, .inl (fun z9 => nI ((va_up B.1 B.2.2.2.2.2.2.1 k) z9)))), ((q 1), .inl (cI, 12, .inl (upd B.2.1 B.2.2.2.2.2.2.1 tv))), ((q 2), .inl (cI, 12, .inl (upd B.2.2.1 B.2.2.2.2.2.2.1 ov))), ((q 3), .inl (cI, 12, .inl (fun z9 => nI ((va_up B.2.2.2.1 B.2.2.2.2.2.2.1 12) z9)))), ((q 4), .inl (cI, 12, .inl (fun z9 => nI (B.2.2.2.2.1 z9)))), ((q 5), .inl (cI, 13, .inl (fun z9 => nI (B.2.2.2.2.2.1 z9))))] H := hP
      have hD : va_D A [(o, .inr (0, [.ref (q 0), .ref (q 1), .ref (q 2), .ref (q 3), .ref (q 4), .ref (q 5), .int (nI (B.2.2.2.2.2.2.1 + 1)), .int (nI (B.2.2.2.2.2.2.2 - 1))])), ((q 0), .inl (cI, 12, .inl (fun z9 => nI ((va_up B.1 B.2.2.2.2.2.2.1 k) z9)))), ((q 1), .inl (cI, 12, .inl (upd B.2.1 B.2.2.2.2.2.2.1 tv))), ((q 2), .inl (cI, 12, .inl (upd B.2.2.1 B.2.2.2.2.2.2.1 ov))), ((q 3), .inl (cI, 12, .inl (fun z9 => nI ((va_up B.2.2.2.1 B.2.2.2.2.2.2.1 12) z9)))), ((q 4), .inl (cI, 12, .inl (fun z9 => nI (B.2.2.2.2.1 z9)))), ((q 5), .inl (cI, 13, .inl (fun z9 => nI (B.2.2.2.2.2.1 z9))))] := hD
      refine lv_aload_n hx hb dB_add_69 rfl (lv_at hl 1 rfl) ?_
      refine va_get (D := D) (ci := 0) (v := .ref (q 3)) (C := R_B) (T := F_B) (N := 8) hx hb ht i_B hown hK hP 0 rfl rfl 3 (by decide) (ht _ m_221) (fun _ h9 => h9) rfl dB_add_70 ?_
      refine lv_aload_n hx hb dB_add_73 rfl (lv_at hl 1 rfl) ?_
      refine va_get (D := D) (ci := 0) (v := .ref (q 4)) (C := R_B) (T := F_B) (N := 8) hx hb ht i_B hown hK hP 0 rfl rfl 4 (by decide) (ht _ m_222) (fun _ h9 => h9) rfl dB_add_74 ?_
      refine lv_aload_n hx hb dB_add_77 rfl (lv_at hl 1 rfl) ?_
      refine va_get (D := D) (ci := 0) (v := .int (nI (B.2.2.2.2.2.2.2 - 1))) (C := R_B) (T := F_B) (N := 8) hx hb ht i_B hown hK hP 0 rfl rfl 7 (by decide) (ht _ m_227) (fun _ h9 => h9) rfl dB_add_78 ?_
      have hop := hon (by omega)
      have i81 : vp_in (nI (B.2.2.2.2.2.2.2 - 1)) 12 := gx_in (rfl : (nI (B.2.2.2.2.2.2.2 - 1)) = (nI (B.2.2.2.2.2.2.2 - 1))) (by omega) (by decide)
      have k81 : ((nI (B.2.2.2.2.2.2.2 - 1)) : Int32).toNatClampNeg = (B.2.2.2.2.2.2.2 - 1) := gx_cl (rfl : (nI (B.2.2.2.2.2.2.2 - 1)) = (nI (B.2.2.2.2.2.2.2 - 1))) (by omega)
      refine va_iald hx hb hK hP 5 0 rfl rfl i81 dB_add_81 ?_
      rw [k81]
      refine lv_topi (fun v81 e81 => ?_)
      have n81 : v81 = nI (B.2.2.2.2.1 (B.2.2.2.2.2.2.2 - 1)) := e81
      subst n81
      refine lv_iload hx hb dB_add_82 (lv_at hl 0 rfl) ?_
      have i84 : vp_in (nI (B.2.2.2.2.1 (B.2.2.2.2.2.2.2 - 1))) 12 := gx_in (rfl : (nI (B.2.2.2.2.1 (B.2.2.2.2.2.2.2 - 1))) = (nI (B.2.2.2.2.1 (B.2.2.2.2.2.2.2 - 1)))) (by omega) (by decide)
      have k84 : ((nI (B.2.2.2.2.1 (B.2.2.2.2.2.2.2 - 1))) : Int32).toNatClampNeg = (B.2.2.2.2.1 (B.2.2.2.2.2.2.2 - 1)) := gx_cl (rfl : (nI (B.2.2.2.2.1 (B.2.2.2.2.2.2.2 - 1))) = (nI (B.2.2.2.2.1 (B.2.2.2.2.2.2.2 - 1)))) (by omega)
      refine va_iast hx hb hK hP hD hS 4 0 rfl rfl i84 dB_add_84 (fun H locs hP hD hS => ?_)
      rw [k84] at hP hD
      have hP : va_P D vwCl [(o, .inr (0, [.ref (q 0), .ref (q 1), .ref (q 2), .ref (q 3), .ref (q 4), .ref (q 5), .int (nI (B.2.2.2.2.2.2.1 + 1)), .int (nI (B.2.2.2.2.2.2.2 - 1))])), ((q 0), .inl (cI, 12, .inl (fun z9 => nI ((va_up B.1 B.2.2.2.2.2.2.1 k) z9)))), ((q 1), .inl (cI, 12, .inl (upd B.2.1 B.2.2.2.2.2.2.1 tv))), ((q 2), .inl (cI, 12, .inl (upd B.2.2.1 B.2.2.2.2.2.2.1 ov))), ((q 3), .inl (cI, 12, .inl (upd (fun z9 => nI ((va_up B.2.2.2.1 B.2.2.2.2.2.2.1 12) z9)) (B.2.2.2.2.1 (B.2.2.2.2.2.2.2 - 1)) (nI B.2.2.2.2.2.2.1)))), ((q 4), .inl (cI, 12, .inl (fun z9 => nI (B.2.2.2.2.1 z9)))), ((q 5), .inl (cI, 13, .inl (fun z9 => nI (B.2.2.2.2.2.1 z9))))] H := hP
      have hD : va_D A [(o, .inr (0, [.ref (q 0), .ref (q 1), .ref (q 2), .ref (q 3), .ref (q 4), .ref (q 5), .int (nI (B.2.2.2.2.2.2.1 + 1)), .int (nI (B.2.2.2.2.2.2.2 - 1))])), ((q 0), .inl (cI, 12, .inl (fun z9 => nI ((va_up B.1 B.2.2.2.2.2.2.1 k) z9)))), ((q 1), .inl (cI, 12, .inl (upd B.2.1 B.2.2.2.2.2.2.1 tv))), ((q 2), .inl (cI, 12, .inl (upd B.2.2.1 B.2.2.2.2.2.2.1 ov))), ((q 3), .inl (cI, 12, .inl (upd (fun z9 => nI ((va_up B.2.2.2.1 B.2.2.2.2.2.2.1 12) z9)) (B.2.2.2.2.1 (B.2.2.2.2.2.2.2 - 1)) (nI B.2.2.2.2.2.2.1)))), ((q 4), .inl (cI, 12, .inl (fun z9 => nI (B.2.2.2.2.1 z9)))), ((q 5), .inl (cI, 13, .inl (fun z9 => nI (B.2.2.2.2.2.1 z9))))] := hD
      rw [gx_upd] at hP hD
      refine lv_iload_n hx hb dB_add_85 rfl (lv_at hl 2 rfl) ?_
      refine lv_iconst (v := 2) hx hb dB_add_86 (by decide) ?_
      refine lv_icmp_eq (tgt := 100) hx hb dB_add_87 (by decide) (fun c87 => ?_) (fun c87 => ?_)
      · have g87 : k = 2 := (gx_eq (rfl : (nI k) = (nI k)) (rfl : (2 : Int32) = nI 2) (by omega) (by decide)).mp c87
        exfalso; omega
      · have g87 : ¬ (k = 2) := fun z => c87 ((gx_eq (rfl : (nI k) = (nI k)) (rfl : (2 : Int32) = nI 2) (by omega) (by decide)).mpr z)
        refine lv_iload_n hx hb dB_add_90 rfl (lv_at hl 2 rfl) ?_
        refine lv_iconst (v := 3) hx hb dB_add_91 (by decide) ?_
        refine lv_icmp_eq (tgt := 100) hx hb dB_add_92 (by decide) (fun c92 => ?_) (fun c92 => ?_)
        · have g92 : k = 3 := (gx_eq (rfl : (nI k) = (nI k)) (rfl : (3 : Int32) = nI 3) (by omega) (by decide)).mp c92
          exfalso; omega
        · have g92 : ¬ (k = 3) := fun z => c92 ((gx_eq (rfl : (nI k) = (nI k)) (rfl : (3 : Int32) = nI 3) (by omega) (by decide)).mpr z)
          refine lv_iload_n hx hb dB_add_95 rfl (lv_at hl 2 rfl) ?_
          refine lv_iconst (v := 4) hx hb dB_add_96 (by decide) ?_
          refine lv_icmp_ne (tgt := 152) hx hb dB_add_97 (by decide) (fun c97 => ?_) (fun c97 => ?_)
          · have g97 : ¬ (k = 4) := fun z => c97 ((gx_eq (rfl : (nI k) = (nI k)) (rfl : (4 : Int32) = nI 4) (by omega) (by decide)).mpr z)
            have hz : bd_add B k tv ov = ((va_up B.1 B.2.2.2.2.2.2.1 k), (upd B.2.1 B.2.2.2.2.2.2.1 tv), (upd B.2.2.1 B.2.2.2.2.2.2.1 ov), (va_up (va_up B.2.2.2.1 B.2.2.2.2.2.2.1 12) (B.2.2.2.2.1 (B.2.2.2.2.2.2.2 - 1)) B.2.2.2.2.2.2.1), B.2.2.2.2.1, B.2.2.2.2.2.1, (B.2.2.2.2.2.2.1 + 1), (B.2.2.2.2.2.2.2 - 1)) := by
              have hkv : k = 5 := by omega
              subst hkv
              simp [bd_add, bd_d1]
            exact W.vret hx hb hr (fun t9 ht9 hW => ⟨⟨_, rfl, by rw [hz], by rw [ht9]; exact hP, hD⟩, hS.F ht9⟩) hS.2.2 dB_add_152
          · have g97 : k = 4 := (gx_eq (rfl : (nI k) = (nI k)) (rfl : (4 : Int32) = nI 4) (by omega) (by decide)).mp c97
            exfalso; omega

set_option maxHeartbeats 4000000 in
set_option maxRecDepth 100000 in
theorem c_B_closeOf (l : Launch) (D : va_G) (cI cJ cB cZ : ClassId) (o : Nat) (q : Nat → Nat) (B : Bd) (i : Nat) (hi : i < 12) (hc : B.2.2.2.1 i ≤ 12) (hs : B.2.2.2.2.2.2.1 ≤ 12) : ct_I l y_B_closeOf w_B_closeOf ({ frames := 1, cells := 0, slots := 0, locals := 30 }) D (gk_T cI cJ cB cZ) [.ref o, .int (nI i)] (wB cI o q B) (0) (0) (fun r w => r = nI (min (B.2.2.2.1 i) B.2.2.2.2.2.2.1) ∧ w = wB cI o q B) := by
  intro sz
  refine Met.ofW (cc := b_B_closeOf) (maxL := 2) (ret := (some .int)) (by decide) rfl ?_
  intro p ev9 s m args below meth c s₁ B9 hml hv
  obtain ⟨rfl, hsz, hP, hK, hN, hD0⟩ := hv
  have hx := B9.exec
  have hb := B9.bytes
  have hr := B9.returns
  have hts := atoms_spec (ws := w_B_closeOf) B9.pre
  have ht : ∀ w ∈ gk_big, w.before _ s = true := fun w h => hts w (List.mem_cons_of_mem _ h)
  have hown : s.vm.findClass R_B = some m.cls := findClass_of_methodNamed B9.named
  have hlocks := B9.notSynchronized
  subst hsz
  have hD := hD0.self (sz := s.heap.size)
  generalize hAe : va_A (wB cI o q B) s.heap.size = A at hD ⊢
  have hA : ∀ q : Nat, s.heap.size ≤ q → A q := fun q h => by rw [← hAe]; exact Or.inr h
  generalize hHe : s.heap = H at hP ⊢
  have hS : va_S A s.heap H [] := by rw [← hHe]; exact va_S.rf
  have hP : va_P D vwCl [(o, .inr (0, [.ref (q 0), .ref (q 1), .ref (q 2), .ref (q 3), .ref (q 4), .ref (q 5), .int (nI B.2.2.2.2.2.2.1), .int (nI B.2.2.2.2.2.2.2)])), ((q 0), .inl (cI, 12, .inl (fun z9 => nI (B.1 z9)))), ((q 1), .inl (cI, 12, .inl B.2.1)), ((q 2), .inl (cI, 12, .inl B.2.2.1)), ((q 3), .inl (cI, 12, .inl (fun z9 => nI (B.2.2.2.1 z9)))), ((q 4), .inl (cI, 12, .inl (fun z9 => nI (B.2.2.2.2.1 z9)))), ((q 5), .inl (cI, 13, .inl (fun z9 => nI (B.2.2.2.2.2.1 z9))))] H := hP
  have hD : va_D A [(o, .inr (0, [.ref (q 0), .ref (q 1), .ref (q 2), .ref (q 3), .ref (q 4), .ref (q 5), .int (nI B.2.2.2.2.2.2.1), .int (nI B.2.2.2.2.2.2.2)])), ((q 0), .inl (cI, 12, .inl (fun z9 => nI (B.1 z9)))), ((q 1), .inl (cI, 12, .inl B.2.1)), ((q 2), .inl (cI, 12, .inl B.2.2.1)), ((q 3), .inl (cI, 12, .inl (fun z9 => nI (B.2.2.2.1 z9)))), ((q 4), .inl (cI, 12, .inl (fun z9 => nI (B.2.2.2.2.1 z9)))), ((q 5), .inl (cI, 13, .inl (fun z9 => nI (B.2.2.2.2.2.1 z9))))] := hD
  have hl := lv_entry ([.ref o, .int (nI i)]) (n := 2) (Nat.le_of_ble_eq_true rfl)
  rw [lg_entry_eq]
  generalize (lg_sl ([.ref o, .int (nI i)]) ++ List.replicate (2 - (lg_sl ([.ref o, .int (nI i)])).length) Slot.unset).toArray = ls at hl ⊢
  have hl : lv_has ls 2 [(0, .ref o), (1, .int (nI i))] := hl
  refine lv_aload_n hx hb dB_closeOf_0 rfl (lv_at hl 0 rfl) ?_
  refine va_get (D := D) (ci := 0) (v := .ref (q 3)) (C := R_B) (T := F_B) (N := 8) hx hb ht i_B hown hK hP 0 rfl rfl 3 (by decide) (ht _ m_221) (fun _ h9 => h9) rfl dB_closeOf_1 ?_
  refine lv_iload_n hx hb dB_closeOf_4 rfl (lv_at hl 1 rfl) ?_
  have i5 : vp_in (nI i) 12 := gx_in (rfl : (nI i) = (nI i)) (by omega) (by decide)
  have k5 : ((nI i) : Int32).toNatClampNeg = i := gx_cl (rfl : (nI i) = (nI i)) (by omega)
  refine va_iald hx hb hK hP 4 0 rfl rfl i5 dB_closeOf_5 ?_
  rw [k5]
  refine lv_topi (fun v5 e5 => ?_)
  have n5 : v5 = nI (B.2.2.2.1 i) := e5
  subst n5
  refine lv_aload_n hx hb dB_closeOf_6 rfl (lv_at hl 0 rfl) ?_
  refine va_get (D := D) (ci := 0) (v := .int (nI B.2.2.2.2.2.2.1)) (C := R_B) (T := F_B) (N := 8) hx hb ht i_B hown hK hP 0 rfl rfl 6 (by decide) (ht _ m_224) (fun _ h9 => h9) rfl dB_closeOf_7 ?_
  refine va_mmin hx hb (by rw [hml]; exact hl.1.symm) hown (ht _ m_387) (ht _ m_203) (ht _ m_7) (ht _ mh_min) (Nat.le_of_ble_eq_true rfl) (Nat.le_of_ble_eq_true rfl) (Nat.zero_le _) (Nat.zero_le _) dB_closeOf_10 ?_
  refine lv_topi (fun v10 e10 => ?_)
  have n10 : v10 = nI (min (B.2.2.2.1 i) B.2.2.2.2.2.2.1) := by rw [e10]; exact gx_min (rfl : (nI (B.2.2.2.1 i)) = (nI (B.2.2.2.1 i))) (rfl : (nI B.2.2.2.2.2.2.1) = (nI B.2.2.2.2.2.2.1)) (by omega) (by omega)
  subst n10
  exact W.iret (v := (nI (min (B.2.2.2.1 i) B.2.2.2.2.2.2.1))) hx hb hr (fun t9 ht9 hW => ⟨⟨(nI (min (B.2.2.2.1 i) B.2.2.2.2.2.2.1)), _, rfl, ⟨rfl, rfl⟩, by rw [ht9]; exact hP, hD⟩, hS.F ht9⟩) hS.2.2 dB_closeOf_13

