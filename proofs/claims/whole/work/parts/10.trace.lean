abbrev wT (cI cJ : ClassId) (t : Nat) (q : Nat → Nat) (K L R : Nat → Nat) (V f1 f2 f3 f4 : Nat → Int64) (n : Nat) : va_W := [(t, .inr (4, [.ref (q 0), .ref (q 1), .ref (q 2), .ref (q 3), .ref (q 4), .ref (q 5), .ref (q 6), .ref (q 7), .int (nI n)])), ((q 0), .inl (cI, 64, .inl (fun i => nI (K i)))), ((q 1), .inl (cI, 64, .inl (fun i => nI (L i)))), ((q 2), .inl (cI, 64, .inl (fun i => nI (R i)))), ((q 3), .inl (cJ, 64, .inr (.inl V))), ((q 4), .inl (cJ, 64, .inr (.inl f1))), ((q 5), .inl (cJ, 64, .inr (.inl f2))), ((q 6), .inl (cJ, 64, .inr (.inl f3))), ((q 7), .inl (cJ, 64, .inr (.inl f4)))]
set_option maxHeartbeats 4000000 in
set_option maxRecDepth 100000 in
theorem c_T_add (l : Launch) (D : va_G) (cI cJ cB cZ : ClassId) (t : Nat) (q : Nat → Nat) (K L R : Nat → Nat) (V f1 f2 f3 f4 : Nat → Int64) (n : Nat) (kd a b : Nat) (x : Int64) (hn : n < 64) : ct_I l y_T_add w_T_add ({ frames := 0, cells := 0, slots := 0, locals := 0 }) D (gk_T cI cJ cB cZ) [.ref t, .int (nI kd), .int (nI a), .int (nI b), .long x] (wT cI cJ t q K L R V f1 f2 f3 f4 n) (0) (0) (fun r w => r = nI n ∧ w = wT cI cJ t q (va_up K n kd) (va_up L n a) (va_up R n b) (vp_updL V n x) f1 f2 f3 f4 (n + 1)) := by
  intro sz
  refine Met.ofW (cc := b_T_add) (maxL := 7) (ret := (some .int)) (by decide) rfl ?_
  intro p e s m args below meth c s₁ B hml hv
  obtain ⟨rfl, hsz, hP, hK, hN, hD0⟩ := hv
  have hx := B.exec
  have hb := B.bytes
  have hr := B.returns
  have hts := atoms_spec (ws := w_T_add) B.pre
  have ht : ∀ w ∈ gk_big, w.before _ s = true := fun w h => hts w (List.mem_cons_of_mem _ h)
  have hown : s.vm.findClass R_T = some m.cls := findClass_of_methodNamed B.named
  have hlocks := B.notSynchronized
  subst hsz
  have hD := hD0.self (sz := s.heap.size)
  generalize hAe : va_A (wT cI cJ t q K L R V f1 f2 f3 f4 n) s.heap.size = A at hD ⊢
  have hA : ∀ q : Nat, s.heap.size ≤ q → A q := fun q h => by rw [← hAe]; exact Or.inr h
  have hS : va_S A s.heap s.heap [] := va_S.rf
  have hP : va_P D vwCl [(t, .inr (4, [.ref (q 0), .ref (q 1), .ref (q 2), .ref (q 3), .ref (q 4), .ref (q 5), .ref (q 6), .ref (q 7), .int (nI n)])), ((q 0), .inl (cI, 64, .inl (fun i => nI (K i)))), ((q 1), .inl (cI, 64, .inl (fun i => nI (L i)))), ((q 2), .inl (cI, 64, .inl (fun i => nI (R i)))), ((q 3), .inl (cJ, 64, .inr (.inl V))), ((q 4), .inl (cJ, 64, .inr (.inl f1))), ((q 5), .inl (cJ, 64, .inr (.inl f2))), ((q 6), .inl (cJ, 64, .inr (.inl f3))), ((q 7), .inl (cJ, 64, .inr (.inl f4)))] s.heap := hP
  have hD : va_D A [(t, .inr (4, [.ref (q 0), .ref (q 1), .ref (q 2), .ref (q 3), .ref (q 4), .ref (q 5), .ref (q 6), .ref (q 7), .int (nI n)])), ((q 0), .inl (cI, 64, .inl (fun i => nI (K i)))), ((q 1), .inl (cI, 64, .inl (fun i => nI (L i)))), ((q 2), .inl (cI, 64, .inl (fun i => nI (R i)))), ((q 3), .inl (cJ, 64, .inr (.inl V))), ((q 4), .inl (cJ, 64, .inr (.inl f1))), ((q 5), .inl (cJ, 64, .inr (.inl f2))), ((q 6), .inl (cJ, 64, .inr (.inl f3))), ((q 7), .inl (cJ, 64, .inr (.inl f4)))] := hD
  have hl := lv_entry ([.ref t, .int (nI kd), .int (nI a), .int (nI b), .long x]) (n := 7) (Nat.le_of_ble_eq_true rfl)
  rw [lg_entry_eq]
  generalize (lg_sl ([.ref t, .int (nI kd), .int (nI a), .int (nI b), .long x]) ++ List.replicate (7 - (lg_sl ([.ref t, .int (nI kd), .int (nI a), .int (nI b), .long x])).length) Slot.unset).toArray = ls at hl ⊢
  have hl : lv_has ls 7 [(0, .ref t), (1, .int (nI kd)), (2, .int (nI a)), (3, .int (nI b)), (4, .long x)] := hl
  refine lv_aload_n hx hb dT_add_0 rfl (lv_at hl 0 rfl) ?_
  refine va_get (D := D) (ci := 4) (v := .int (nI n)) (C := R_T) (T := F_T) (N := 9) hx hb ht i_T hown hK hP 0 rfl rfl 8 (by decide) (ht _ m_70) (fun _ h9 => h9) rfl dT_add_1 ?_
  refine lv_bipush (v := 64) hx hb dT_add_4 (by decide) ?_
  refine lv_icmp_lt (tgt := 11) hx hb dT_add_6 (by decide) (fun c6 => ?_) (fun c6 => ?_)
  · have g6 : n < 64 := (gx_lt (rfl : (nI n) = (nI n)) (rfl : (64 : Int32) = nI 64) (by omega) (by decide)).mp c6
    refine lv_aload_n hx hb dT_add_11 rfl (lv_at hl 0 rfl) ?_
    refine va_get (D := D) (ci := 4) (v := .int (nI n)) (C := R_T) (T := F_T) (N := 9) hx hb ht i_T hown hK hP 0 rfl rfl 8 (by decide) (ht _ m_70) (fun _ h9 => h9) rfl dT_add_12 ?_
    refine lv_istore (lv' := [(6, .int (nI n)), (0, .ref t), (1, .int (nI kd)), (2, .int (nI a)), (3, .int (nI b)), (4, .long x)]) hx hb dT_add_15 hl (by decide) rfl (fun ls hl => ?_)
    refine lv_aload_n hx hb dT_add_17 rfl (lv_at hl 1 rfl) ?_
    refine va_get (D := D) (ci := 4) (v := .ref (q 0)) (C := R_T) (T := F_T) (N := 9) hx hb ht i_T hown hK hP 0 rfl rfl 0 (by decide) (ht _ m_60) (fun _ h9 => h9) rfl dT_add_18 ?_
    refine lv_iload hx hb dT_add_21 (lv_at hl 0 rfl) ?_
    refine lv_iload_n hx hb dT_add_23 rfl (lv_at hl 2 rfl) ?_
    have i24 : vp_in (nI n) 64 := gx_in (rfl : (nI n) = (nI n)) (by omega) (by decide)
    have k24 : ((nI n) : Int32).toNatClampNeg = n := gx_cl (rfl : (nI n) = (nI n)) (by omega)
    refine va_iast hx hb hK hP hD hS 1 0 rfl rfl i24 dT_add_24 (fun H locs hP hD hS => ?_)
    rw [k24] at hP hD
    have hP : va_P D vwCl [(t, .inr (4, [.ref (q 0), .ref (q 1), .ref (q 2), .ref (q 3), .ref (q 4), .ref (q 5), .ref (q 6), .ref (q 7), .int (nI n)])), ((q 0), .inl (cI, 64, .inl (upd (fun i => nI (K i)) n (nI kd)))), ((q 1), .inl (cI, 64, .inl (fun i => nI (L i)))), ((q 2), .inl (cI, 64, .inl (fun i => nI (R i)))), ((q 3), .inl (cJ, 64, .inr (.inl V))), ((q 4), .inl (cJ, 64, .inr (.inl f1))), ((q 5), .inl (cJ, 64, .inr (.inl f2))), ((q 6), .inl (cJ, 64, .inr (.inl f3))), ((q 7), .inl (cJ, 64, .inr (.inl f4)))] H := hP
    have hD : va_D A [(t, .inr (4, [.ref (q 0), .ref (q 1), .ref (q 2), .ref (q 3), .ref (q 4), .ref (q 5), .ref (q 6), .ref (q 7), .int (nI n)])), ((q 0), .inl (cI, 64, .inl (upd (fun i => nI (K i)) n (nI kd)))), ((q 1), .inl (cI, 64, .inl (fun i => nI (L i)))), ((q 2), .inl (cI, 64, .inl (fun i => nI (R i)))), ((q 3), .inl (cJ, 64, .inr (.inl V))), ((q 4), .inl (cJ, 64, .inr (.inl f1))), ((q 5), .inl (cJ, 64, .inr (.inl f2))), ((q 6), .inl (cJ, 64, .inr (.inl f3))), ((q 7), .inl (cJ, 64, .inr (.inl f4)))] := hD
    rw [gx_upd] at hP hD
    refine lv_aload_n hx hb dT_add_25 rfl (lv_at hl 1 rfl) ?_
    refine va_get (D := D) (ci := 4) (v := .ref (q 1)) (C := R_T) (T := F_T) (N := 9) hx hb ht i_T hown hK hP 0 rfl rfl 1 (by decide) (ht _ m_61) (fun _ h9 => h9) rfl dT_add_26 ?_
    refine lv_iload hx hb dT_add_29 (lv_at hl 0 rfl) ?_
    refine lv_iload_n hx hb dT_add_31 rfl (lv_at hl 3 rfl) ?_
    have i32 : vp_in (nI n) 64 := gx_in (rfl : (nI n) = (nI n)) (by omega) (by decide)
    have k32 : ((nI n) : Int32).toNatClampNeg = n := gx_cl (rfl : (nI n) = (nI n)) (by omega)
    refine va_iast hx hb hK hP hD hS 2 0 rfl rfl i32 dT_add_32 (fun H locs hP hD hS => ?_)
    rw [k32] at hP hD
    have hP : va_P D vwCl [(t, .inr (4, [.ref (q 0), .ref (q 1), .ref (q 2), .ref (q 3), .ref (q 4), .ref (q 5), .ref (q 6), .ref (q 7), .int (nI n)])), ((q 0), .inl (cI, 64, .inl (fun i => nI ((va_up K n kd) i)))), ((q 1), .inl (cI, 64, .inl (upd (fun i => nI (L i)) n (nI a)))), ((q 2), .inl (cI, 64, .inl (fun i => nI (R i)))), ((q 3), .inl (cJ, 64, .inr (.inl V))), ((q 4), .inl (cJ, 64, .inr (.inl f1))), ((q 5), .inl (cJ, 64, .inr (.inl f2))), ((q 6), .inl (cJ, 64, .inr (.inl f3))), ((q 7), .inl (cJ, 64, .inr (.inl f4)))] H := hP
    have hD : va_D A [(t, .inr (4, [.ref (q 0), .ref (q 1), .ref (q 2), .ref (q 3), .ref (q 4), .ref (q 5), .ref (q 6), .ref (q 7), .int (nI n)])), ((q 0), .inl (cI, 64, .inl (fun i => nI ((va_up K n kd) i)))), ((q 1), .inl (cI, 64, .inl (upd (fun i => nI (L i)) n (nI a)))), ((q 2), .inl (cI, 64, .inl (fun i => nI (R i)))), ((q 3), .inl (cJ, 64, .inr (.inl V))), ((q 4), .inl (cJ, 64, .inr (.inl f1))), ((q 5), .inl (cJ, 64, .inr (.inl f2))), ((q 6), .inl (cJ, 64, .inr (.inl f3))), ((q 7), .inl (cJ, 64, .inr (.inl f4)))] := hD
    rw [gx_upd] at hP hD
    refine lv_aload_n hx hb dT_add_33 rfl (lv_at hl 1 rfl) ?_
    refine va_get (D := D) (ci := 4) (v := .ref (q 2)) (C := R_T) (T := F_T) (N := 9) hx hb ht i_T hown hK hP 0 rfl rfl 2 (by decide) (ht _ m_62) (fun _ h9 => h9) rfl dT_add_34 ?_
    refine lv_iload hx hb dT_add_37 (lv_at hl 0 rfl) ?_
    refine lv_iload_n hx hb dT_add_39 rfl (lv_at hl 4 rfl) ?_
    have i40 : vp_in (nI n) 64 := gx_in (rfl : (nI n) = (nI n)) (by omega) (by decide)
    have k40 : ((nI n) : Int32).toNatClampNeg = n := gx_cl (rfl : (nI n) = (nI n)) (by omega)
    refine va_iast hx hb hK hP hD hS 3 0 rfl rfl i40 dT_add_40 (fun H locs hP hD hS => ?_)
    rw [k40] at hP hD
    have hP : va_P D vwCl [(t, .inr (4, [.ref (q 0), .ref (q 1), .ref (q 2), .ref (q 3), .ref (q 4), .ref (q 5), .ref (q 6), .ref (q 7), .int (nI n)])), ((q 0), .inl (cI, 64, .inl (fun i => nI ((va_up K n kd) i)))), ((q 1), .inl (cI, 64, .inl (fun i => nI ((va_up L n a) i)))), ((q 2), .inl (cI, 64, .inl (upd (fun i => nI (R i)) n (nI b)))), ((q 3), .inl (cJ, 64, .inr (.inl V))), ((q 4), .inl (cJ, 64, .inr (.inl f1))), ((q 5), .inl (cJ, 64, .inr (.inl f2))), ((q 6), .inl (cJ, 64, .inr (.inl f3))), ((q 7), .inl (cJ, 64, .inr (.inl f4)))] H := hP
    have hD : va_D A [(t, .inr (4, [.ref (q 0), .ref (q 1), .ref (q 2), .ref (q 3), .ref (q 4), .ref (q 5), .ref (q 6), .ref (q 7), .int (nI n)])), ((q 0), .inl (cI, 64, .inl (fun i => nI ((va_up K n kd) i)))), ((q 1), .inl (cI, 64, .inl (fun i => nI ((va_up L n a) i)))), ((q 2), .inl (cI, 64, .inl (upd (fun i => nI (R i)) n (nI b)))), ((q 3), .inl (cJ, 64, .inr (.inl V))), ((q 4), .inl (cJ, 64, .inr (.inl f1))), ((q 5), .inl (cJ, 64, .inr (.inl f2))), ((q 6), .inl (cJ, 64, .inr (.inl f3))), ((q 7), .inl (cJ, 64, .inr (.inl f4)))] := hD
    rw [gx_upd] at hP hD
    refine lv_aload_n hx hb dT_add_41 rfl (lv_at hl 1 rfl) ?_
    refine va_get (D := D) (ci := 4) (v := .ref (q 3)) (C := R_T) (T := F_T) (N := 9) hx hb ht i_T hown hK hP 0 rfl rfl 3 (by decide) (ht _ m_63) (fun _ h9 => h9) rfl dT_add_42 ?_
    refine lv_iload hx hb dT_add_45 (lv_at hl 0 rfl) ?_
    refine lv_lload hx hb dT_add_47 (lv_at hl 5 rfl) ?_
    have i49 : vp_in (nI n) 64 := gx_in (rfl : (nI n) = (nI n)) (by omega) (by decide)
    have k49 : ((nI n) : Int32).toNatClampNeg = n := gx_cl (rfl : (nI n) = (nI n)) (by omega)
    refine va_last hx hb hK hP hD hS 4 1 rfl rfl i49 dT_add_49 (fun H locs hP hD hS => ?_)
    rw [k49] at hP hD
    have hP : va_P D vwCl [(t, .inr (4, [.ref (q 0), .ref (q 1), .ref (q 2), .ref (q 3), .ref (q 4), .ref (q 5), .ref (q 6), .ref (q 7), .int (nI n)])), ((q 0), .inl (cI, 64, .inl (fun i => nI ((va_up K n kd) i)))), ((q 1), .inl (cI, 64, .inl (fun i => nI ((va_up L n a) i)))), ((q 2), .inl (cI, 64, .inl (fun i => nI ((va_up R n b) i)))), ((q 3), .inl (cJ, 64, .inr (.inl (vp_updL V n x)))), ((q 4), .inl (cJ, 64, .inr (.inl f1))), ((q 5), .inl (cJ, 64, .inr (.inl f2))), ((q 6), .inl (cJ, 64, .inr (.inl f3))), ((q 7), .inl (cJ, 64, .inr (.inl f4)))] H := hP
    have hD : va_D A [(t, .inr (4, [.ref (q 0), .ref (q 1), .ref (q 2), .ref (q 3), .ref (q 4), .ref (q 5), .ref (q 6), .ref (q 7), .int (nI n)])), ((q 0), .inl (cI, 64, .inl (fun i => nI ((va_up K n kd) i)))), ((q 1), .inl (cI, 64, .inl (fun i => nI ((va_up L n a) i)))), ((q 2), .inl (cI, 64, .inl (fun i => nI ((va_up R n b) i)))), ((q 3), .inl (cJ, 64, .inr (.inl (vp_updL V n x)))), ((q 4), .inl (cJ, 64, .inr (.inl f1))), ((q 5), .inl (cJ, 64, .inr (.inl f2))), ((q 6), .inl (cJ, 64, .inr (.inl f3))), ((q 7), .inl (cJ, 64, .inr (.inl f4)))] := hD
    refine lv_aload_n hx hb dT_add_50 rfl (lv_at hl 1 rfl) ?_
    refine lv_dup hx hb dT_add_51 rfl ?_
    refine va_get (D := D) (ci := 4) (v := .int (nI n)) (C := R_T) (T := F_T) (N := 9) hx hb ht i_T hown hK hP 0 rfl rfl 8 (by decide) (ht _ m_70) (fun _ h9 => h9) rfl dT_add_52 ?_
    refine lv_iconst (v := 1) hx hb dT_add_55 (by decide) ?_
    refine lv_iadd hx hb dT_add_56 ?_
    refine lv_topi (fun v56 e56 => ?_)
    have n56 : v56 = nI (n + 1) := by rw [e56]; exact gx_add (rfl : (nI n) = (nI n)) (rfl : (1 : Int32) = nI 1)
    subst n56
    refine va_put (D := D) (ci := 4) (v := .int (nI (n + 1))) (ty := .int) (C := R_T) (T := F_T) (N := 9) hx hb ht i_T ft_T ft_T_ok fn_T hown hK hP hD hS 0 rfl rfl 8 (by decide) (ht _ m_70) (fun _ h9 => h9) rfl (by decide +kernel) rfl rfl (Nat.le_of_ble_eq_true rfl) dT_add_57 (fun H locs hP hD hS => ?_)
    have hP : va_P D vwCl [(t, .inr (4, [.ref (q 0), .ref (q 1), .ref (q 2), .ref (q 3), .ref (q 4), .ref (q 5), .ref (q 6), .ref (q 7), .int (nI (n + 1))])), ((q 0), .inl (cI, 64, .inl (fun i => nI ((va_up K n kd) i)))), ((q 1), .inl (cI, 64, .inl (fun i => nI ((va_up L n a) i)))), ((q 2), .inl (cI, 64, .inl (fun i => nI ((va_up R n b) i)))), ((q 3), .inl (cJ, 64, .inr (.inl (vp_updL V n x)))), ((q 4), .inl (cJ, 64, .inr (.inl f1))), ((q 5), .inl (cJ, 64, .inr (.inl f2))), ((q 6), .inl (cJ, 64, .inr (.inl f3))), ((q 7), .inl (cJ, 64, .inr (.inl f4)))] H := hP
    have hD : va_D A [(t, .inr (4, [.ref (q 0), .ref (q 1), .ref (q 2), .ref (q 3), .ref (q 4), .ref (q 5), .ref (q 6), .ref (q 7), .int (nI (n + 1))])), ((q 0), .inl (cI, 64, .inl (fun i => nI ((va_up K n kd) i)))), ((q 1), .inl (cI, 64, .inl (fun i => nI ((va_up L n a) i)))), ((q 2), .inl (cI, 64, .inl (fun i => nI ((va_up R n b) i)))), ((q 3), .inl (cJ, 64, .inr (.inl (vp_updL V n x)))), ((q 4), .inl (cJ, 64, .inr (.inl f1))), ((q 5), .inl (cJ, 64, .inr (.inl f2))), ((q 6), .inl (cJ, 64, .inr (.inl f3))), ((q 7), .inl (cJ, 64, .inr (.inl f4)))] := hD
    refine lv_iload hx hb dT_add_60 (lv_at hl 0 rfl) ?_
    have hP : va_P D vwCl (wT cI cJ t q (va_up K n kd) (va_up L n a) (va_up R n b) (vp_updL V n x) f1 f2 f3 f4 (n + 1)) _ := hP
    have hD : va_D A (wT cI cJ t q (va_up K n kd) (va_up L n a) (va_up R n b) (vp_updL V n x) f1 f2 f3 f4 (n + 1)) := hD
    exact W.iret (v := (nI n)) hx hb hr (fun t ht9 hW => ⟨⟨(nI n), _, rfl, ⟨rfl, rfl⟩, by rw [ht9]; exact hP, hD⟩, hS.F ht9⟩) hS.2.2 dT_add_62
  · have g6 : ¬ (n < 64) := fun z => c6 ((gx_lt (rfl : (nI n) = (nI n)) (rfl : (64 : Int32) = nI 64) (by omega) (by decide)).mpr z)
    exact absurd hn g6

