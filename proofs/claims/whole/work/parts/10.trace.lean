/-- a trace: kinds, lefts, rights, values, how many -/
abbrev Tr : Type := (Nat → Nat) × (Nat → Nat) × (Nat → Nat) × (Nat → Int64) × Nat
def tr_put (T : Tr) (kd a b : Nat) (x : Int64) : Tr := (va_up T.1 T.2.2.2.2 kd, va_up T.2.1 T.2.2.2.2 a, va_up T.2.2.1 T.2.2.2.2 b, vp_updL T.2.2.2.1 T.2.2.2.2 x, T.2.2.2.2 + 1)
def tr_add (T : Tr) (kd a b : Nat) (x : Int64) : Tr := if T.2.2.2.2 < 64 then tr_put T kd a b x else T
def tr_ix (T : Tr) : Nat := if T.2.2.2.2 < 64 then T.2.2.2.2 else 0
theorem tr_ix_lt (T : Tr) : tr_ix T < 64 := by unfold tr_ix; split <;> omega
theorem tr_add_n {T : Tr} {kd a b : Nat} {x : Int64} (h : T.2.2.2.2 ≤ 64) : (tr_add T kd a b x).2.2.2.2 ≤ 64 := by
  unfold tr_add; split
  · show T.2.2.2.2 + 1 ≤ 64; omega
  · exact h
def tr_sum (T : Tr) (a b : Nat) : Tr := tr_add T 1 a b (T.2.2.2.1 a + T.2.2.2.1 b)
def tr_dif (T : Tr) (a b : Nat) : Tr := tr_add T 2 a b (T.2.2.2.1 a - T.2.2.2.1 b)
def tr_mul (T : Tr) (a b : Nat) : Tr := tr_add T 3 a b (T.2.2.2.1 a * T.2.2.2.1 b)
def tr_zero (T : Tr) : Tr := (T.1, T.2.1, T.2.2.1, T.2.2.2.1, 0)
def tr_beg (T : Tr) (x y : Int64) : Tr := tr_add (tr_add (tr_add (tr_zero T) 0 0 0 0) 0 0 0 x) 0 0 0 y
/-- r times a, k times over: the trace and the last step -/
def tr_pw (T : Tr) (a : Nat) : Nat → Tr × Nat
  | 0 => (T, a)
  | k + 1 => (tr_mul (tr_pw T a k).1 (tr_pw T a k).2 a, tr_ix (tr_pw T a k).1)
def tr_power (T : Tr) (a ex : Nat) : Tr × Nat := if ex = 0 then (tr_add T 0 0 0 1, tr_ix T) else tr_pw T a (ex - 1)
theorem tr_pw_n (T : Tr) (a k : Nat) (h : T.2.2.2.2 ≤ 64) : (tr_pw T a k).1.2.2.2.2 ≤ 64 := by
  induction k with
  | zero => exact h
  | succ k ih => exact tr_add_n ih
theorem tr_pw_lt (T : Tr) (a k : Nat) (h : a < 64) : (tr_pw T a k).2 < 64 := by
  cases k with
  | zero => exact h
  | succ k => exact tr_ix_lt _
abbrev wTr (cI cJ : ClassId) (t : Nat) (q : Nat → Nat) (T : Tr) (f1 f2 f3 f4 : Nat → Int64) : va_W := [(t, .inr (4, [.ref (q 0), .ref (q 1), .ref (q 2), .ref (q 3), .ref (q 4), .ref (q 5), .ref (q 6), .ref (q 7), .int (nI T.2.2.2.2)])), ((q 0), .inl (cI, 64, .inl (fun z9 => nI (T.1 z9)))), ((q 1), .inl (cI, 64, .inl (fun z9 => nI (T.2.1 z9)))), ((q 2), .inl (cI, 64, .inl (fun z9 => nI (T.2.2.1 z9)))), ((q 3), .inl (cJ, 64, .inr (.inl T.2.2.2.1))), ((q 4), .inl (cJ, 64, .inr (.inl f1))), ((q 5), .inl (cJ, 64, .inr (.inl f2))), ((q 6), .inl (cJ, 64, .inr (.inl f3))), ((q 7), .inl (cJ, 64, .inr (.inl f4)))]
set_option maxHeartbeats 4000000 in
set_option maxRecDepth 100000 in
theorem c_T_add (l : Launch) (D : va_G) (cI cJ cB cZ : ClassId) (t : Nat) (q : Nat → Nat) (T : Tr) (f1 f2 f3 f4 : Nat → Int64) (kd a b : Nat) (x : Int64) (hn : T.2.2.2.2 ≤ 64) : ct_I l y_T_add w_T_add ({ frames := 0, cells := 0, slots := 0, locals := 0 }) D (gk_T cI cJ cB cZ) [.ref t, .int (nI kd), .int (nI a), .int (nI b), .long x] (wTr cI cJ t q T f1 f2 f3 f4) (0) (0) (fun r w => r = nI (tr_ix T) ∧ w = wTr cI cJ t q (tr_add T kd a b x) f1 f2 f3 f4) := by
  intro sz
  refine Met.ofW (cc := b_T_add) (maxL := 7) (ret := (some .int)) (by decide) rfl ?_
  intro p ev9 s m args below meth c s₁ B9 hml hv
  obtain ⟨rfl, hsz, hP, hK, hN, hD0⟩ := hv
  have hx := B9.exec
  have hb := B9.bytes
  have hr := B9.returns
  have hts := atoms_spec (ws := w_T_add) B9.pre
  have ht : ∀ w ∈ gk_big, w.before _ s = true := fun w h => hts w (List.mem_cons_of_mem _ h)
  have hown : s.vm.findClass R_T = some m.cls := findClass_of_methodNamed B9.named
  have hlocks := B9.notSynchronized
  subst hsz
  have hD := hD0.self (sz := s.heap.size)
  generalize hAe : va_A (wTr cI cJ t q T f1 f2 f3 f4) s.heap.size = A at hD ⊢
  have hA : ∀ q : Nat, s.heap.size ≤ q → A q := fun q h => by rw [← hAe]; exact Or.inr h
  generalize hHe : s.heap = H at hP ⊢
  have hS : va_S A s.heap H [] := by rw [← hHe]; exact va_S.rf
  have hP : va_P D vwCl [(t, .inr (4, [.ref (q 0), .ref (q 1), .ref (q 2), .ref (q 3), .ref (q 4), .ref (q 5), .ref (q 6), .ref (q 7), .int (nI T.2.2.2.2)])), ((q 0), .inl (cI, 64, .inl (fun z9 => nI (T.1 z9)))), ((q 1), .inl (cI, 64, .inl (fun z9 => nI (T.2.1 z9)))), ((q 2), .inl (cI, 64, .inl (fun z9 => nI (T.2.2.1 z9)))), ((q 3), .inl (cJ, 64, .inr (.inl T.2.2.2.1))), ((q 4), .inl (cJ, 64, .inr (.inl f1))), ((q 5), .inl (cJ, 64, .inr (.inl f2))), ((q 6), .inl (cJ, 64, .inr (.inl f3))), ((q 7), .inl (cJ, 64, .inr (.inl f4)))] H := hP
  have hD : va_D A [(t, .inr (4, [.ref (q 0), .ref (q 1), .ref (q 2), .ref (q 3), .ref (q 4), .ref (q 5), .ref (q 6), .ref (q 7), .int (nI T.2.2.2.2)])), ((q 0), .inl (cI, 64, .inl (fun z9 => nI (T.1 z9)))), ((q 1), .inl (cI, 64, .inl (fun z9 => nI (T.2.1 z9)))), ((q 2), .inl (cI, 64, .inl (fun z9 => nI (T.2.2.1 z9)))), ((q 3), .inl (cJ, 64, .inr (.inl T.2.2.2.1))), ((q 4), .inl (cJ, 64, .inr (.inl f1))), ((q 5), .inl (cJ, 64, .inr (.inl f2))), ((q 6), .inl (cJ, 64, .inr (.inl f3))), ((q 7), .inl (cJ, 64, .inr (.inl f4)))] := hD
  have hl := lv_entry ([.ref t, .int (nI kd), .int (nI a), .int (nI b), .long x]) (n := 7) (Nat.le_of_ble_eq_true rfl)
  rw [lg_entry_eq]
  generalize (lg_sl ([.ref t, .int (nI kd), .int (nI a), .int (nI b), .long x]) ++ List.replicate (7 - (lg_sl ([.ref t, .int (nI kd), .int (nI a), .int (nI b), .long x])).length) Slot.unset).toArray = ls at hl ⊢
  have hl : lv_has ls 7 [(0, .ref t), (1, .int (nI kd)), (2, .int (nI a)), (3, .int (nI b)), (4, .long x)] := hl
  refine lv_aload_n hx hb dT_add_0 rfl (lv_at hl 0 rfl) ?_
  refine va_get (D := D) (ci := 4) (v := .int (nI T.2.2.2.2)) (C := R_T) (T := F_T) (N := 9) hx hb ht i_T hown hK hP 0 rfl rfl 8 (by decide) (ht _ m_70) (fun _ h9 => h9) rfl dT_add_1 ?_
  refine lv_bipush (v := 64) hx hb dT_add_4 (by decide) ?_
  refine lv_icmp_lt (tgt := 11) hx hb dT_add_6 (by decide) (fun c6 => ?_) (fun c6 => ?_)
  · have g6 : T.2.2.2.2 < 64 := (gx_lt (rfl : (nI T.2.2.2.2) = (nI T.2.2.2.2)) (rfl : (64 : Int32) = nI 64) (by omega) (by decide)).mp c6
    refine lv_aload_n hx hb dT_add_11 rfl (lv_at hl 0 rfl) ?_
    refine va_get (D := D) (ci := 4) (v := .int (nI T.2.2.2.2)) (C := R_T) (T := F_T) (N := 9) hx hb ht i_T hown hK hP 0 rfl rfl 8 (by decide) (ht _ m_70) (fun _ h9 => h9) rfl dT_add_12 ?_
    refine lv_istore (lv' := [(6, .int (nI T.2.2.2.2)), (0, .ref t), (1, .int (nI kd)), (2, .int (nI a)), (3, .int (nI b)), (4, .long x)]) hx hb dT_add_15 hl (by decide) rfl (fun ls hl => ?_)
    refine lv_aload_n hx hb dT_add_17 rfl (lv_at hl 1 rfl) ?_
    refine va_get (D := D) (ci := 4) (v := .ref (q 0)) (C := R_T) (T := F_T) (N := 9) hx hb ht i_T hown hK hP 0 rfl rfl 0 (by decide) (ht _ m_60) (fun _ h9 => h9) rfl dT_add_18 ?_
    refine lv_iload hx hb dT_add_21 (lv_at hl 0 rfl) ?_
    refine lv_iload_n hx hb dT_add_23 rfl (lv_at hl 2 rfl) ?_
    have i24 : vp_in (nI T.2.2.2.2) 64 := gx_in (rfl : (nI T.2.2.2.2) = (nI T.2.2.2.2)) (by omega) (by decide)
    have k24 : ((nI T.2.2.2.2) : Int32).toNatClampNeg = T.2.2.2.2 := gx_cl (rfl : (nI T.2.2.2.2) = (nI T.2.2.2.2)) (by omega)
    refine va_iast hx hb hK hP hD hS 1 0 rfl rfl i24 dT_add_24 (fun H locs hP hD hS => ?_)
    rw [k24] at hP hD
    have hP : va_P D vwCl [(t, .inr (4, [.ref (q 0), .ref (q 1), .ref (q 2), .ref (q 3), .ref (q 4), .ref (q 5), .ref (q 6), .ref (q 7), .int (nI T.2.2.2.2)])), ((q 0), .inl (cI, 64, .inl (upd (fun z9 => nI (T.1 z9)) T.2.2.2.2 (nI kd)))), ((q 1), .inl (cI, 64, .inl (fun z9 => nI (T.2.1 z9)))), ((q 2), .inl (cI, 64, .inl (fun z9 => nI (T.2.2.1 z9)))), ((q 3), .inl (cJ, 64, .inr (.inl T.2.2.2.1))), ((q 4), .inl (cJ, 64, .inr (.inl f1))), ((q 5), .inl (cJ, 64, .inr (.inl f2))), ((q 6), .inl (cJ, 64, .inr (.inl f3))), ((q 7), .inl (cJ, 64, .inr (.inl f4)))] H := hP
    have hD : va_D A [(t, .inr (4, [.ref (q 0), .ref (q 1), .ref (q 2), .ref (q 3), .ref (q 4), .ref (q 5), .ref (q 6), .ref (q 7), .int (nI T.2.2.2.2)])), ((q 0), .inl (cI, 64, .inl (upd (fun z9 => nI (T.1 z9)) T.2.2.2.2 (nI kd)))), ((q 1), .inl (cI, 64, .inl (fun z9 => nI (T.2.1 z9)))), ((q 2), .inl (cI, 64, .inl (fun z9 => nI (T.2.2.1 z9)))), ((q 3), .inl (cJ, 64, .inr (.inl T.2.2.2.1))), ((q 4), .inl (cJ, 64, .inr (.inl f1))), ((q 5), .inl (cJ, 64, .inr (.inl f2))), ((q 6), .inl (cJ, 64, .inr (.inl f3))), ((q 7), .inl (cJ, 64, .inr (.inl f4)))] := hD
    rw [gx_upd] at hP hD
    refine lv_aload_n hx hb dT_add_25 rfl (lv_at hl 1 rfl) ?_
    refine va_get (D := D) (ci := 4) (v := .ref (q 1)) (C := R_T) (T := F_T) (N := 9) hx hb ht i_T hown hK hP 0 rfl rfl 1 (by decide) (ht _ m_61) (fun _ h9 => h9) rfl dT_add_26 ?_
    refine lv_iload hx hb dT_add_29 (lv_at hl 0 rfl) ?_
    refine lv_iload_n hx hb dT_add_31 rfl (lv_at hl 3 rfl) ?_
    have i32 : vp_in (nI T.2.2.2.2) 64 := gx_in (rfl : (nI T.2.2.2.2) = (nI T.2.2.2.2)) (by omega) (by decide)
    have k32 : ((nI T.2.2.2.2) : Int32).toNatClampNeg = T.2.2.2.2 := gx_cl (rfl : (nI T.2.2.2.2) = (nI T.2.2.2.2)) (by omega)
    refine va_iast hx hb hK hP hD hS 2 0 rfl rfl i32 dT_add_32 (fun H locs hP hD hS => ?_)
    rw [k32] at hP hD
    have hP : va_P D vwCl [(t, .inr (4, [.ref (q 0), .ref (q 1), .ref (q 2), .ref (q 3), .ref (q 4), .ref (q 5), .ref (q 6), .ref (q 7), .int (nI T.2.2.2.2)])), ((q 0), .inl (cI, 64, .inl (fun z9 => nI ((va_up T.1 T.2.2.2.2 kd) z9)))), ((q 1), .inl (cI, 64, .inl (upd (fun z9 => nI (T.2.1 z9)) T.2.2.2.2 (nI a)))), ((q 2), .inl (cI, 64, .inl (fun z9 => nI (T.2.2.1 z9)))), ((q 3), .inl (cJ, 64, .inr (.inl T.2.2.2.1))), ((q 4), .inl (cJ, 64, .inr (.inl f1))), ((q 5), .inl (cJ, 64, .inr (.inl f2))), ((q 6), .inl (cJ, 64, .inr (.inl f3))), ((q 7), .inl (cJ, 64, .inr (.inl f4)))] H := hP
    have hD : va_D A [(t, .inr (4, [.ref (q 0), .ref (q 1), .ref (q 2), .ref (q 3), .ref (q 4), .ref (q 5), .ref (q 6), .ref (q 7), .int (nI T.2.2.2.2)])), ((q 0), .inl (cI, 64, .inl (fun z9 => nI ((va_up T.1 T.2.2.2.2 kd) z9)))), ((q 1), .inl (cI, 64, .inl (upd (fun z9 => nI (T.2.1 z9)) T.2.2.2.2 (nI a)))), ((q 2), .inl (cI, 64, .inl (fun z9 => nI (T.2.2.1 z9)))), ((q 3), .inl (cJ, 64, .inr (.inl T.2.2.2.1))), ((q 4), .inl (cJ, 64, .inr (.inl f1))), ((q 5), .inl (cJ, 64, .inr (.inl f2))), ((q 6), .inl (cJ, 64, .inr (.inl f3))), ((q 7), .inl (cJ, 64, .inr (.inl f4)))] := hD
    rw [gx_upd] at hP hD
    refine lv_aload_n hx hb dT_add_33 rfl (lv_at hl 1 rfl) ?_
    refine va_get (D := D) (ci := 4) (v := .ref (q 2)) (C := R_T) (T := F_T) (N := 9) hx hb ht i_T hown hK hP 0 rfl rfl 2 (by decide) (ht _ m_62) (fun _ h9 => h9) rfl dT_add_34 ?_
    refine lv_iload hx hb dT_add_37 (lv_at hl 0 rfl) ?_
    refine lv_iload_n hx hb dT_add_39 rfl (lv_at hl 4 rfl) ?_
    have i40 : vp_in (nI T.2.2.2.2) 64 := gx_in (rfl : (nI T.2.2.2.2) = (nI T.2.2.2.2)) (by omega) (by decide)
    have k40 : ((nI T.2.2.2.2) : Int32).toNatClampNeg = T.2.2.2.2 := gx_cl (rfl : (nI T.2.2.2.2) = (nI T.2.2.2.2)) (by omega)
    refine va_iast hx hb hK hP hD hS 3 0 rfl rfl i40 dT_add_40 (fun H locs hP hD hS => ?_)
    rw [k40] at hP hD
    have hP : va_P D vwCl [(t, .inr (4, [.ref (q 0), .ref (q 1), .ref (q 2), .ref (q 3), .ref (q 4), .ref (q 5), .ref (q 6), .ref (q 7), .int (nI T.2.2.2.2)])), ((q 0), .inl (cI, 64, .inl (fun z9 => nI ((va_up T.1 T.2.2.2.2 kd) z9)))), ((q 1), .inl (cI, 64, .inl (fun z9 => nI ((va_up T.2.1 T.2.2.2.2 a) z9)))), ((q 2), .inl (cI, 64, .inl (upd (fun z9 => nI (T.2.2.1 z9)) T.2.2.2.2 (nI b)))), ((q 3), .inl (cJ, 64, .inr (.inl T.2.2.2.1))), ((q 4), .inl (cJ, 64, .inr (.inl f1))), ((q 5), .inl (cJ, 64, .inr (.inl f2))), ((q 6), .inl (cJ, 64, .inr (.inl f3))), ((q 7), .inl (cJ, 64, .inr (.inl f4)))] H := hP
    have hD : va_D A [(t, .inr (4, [.ref (q 0), .ref (q 1), .ref (q 2), .ref (q 3), .ref (q 4), .ref (q 5), .ref (q 6), .ref (q 7), .int (nI T.2.2.2.2)])), ((q 0), .inl (cI, 64, .inl (fun z9 => nI ((va_up T.1 T.2.2.2.2 kd) z9)))), ((q 1), .inl (cI, 64, .inl (fun z9 => nI ((va_up T.2.1 T.2.2.2.2 a) z9)))), ((q 2), .inl (cI, 64, .inl (upd (fun z9 => nI (T.2.2.1 z9)) T.2.2.2.2 (nI b)))), ((q 3), .inl (cJ, 64, .inr (.inl T.2.2.2.1))), ((q 4), .inl (cJ, 64, .inr (.inl f1))), ((q 5), .inl (cJ, 64, .inr (.inl f2))), ((q 6), .inl (cJ, 64, .inr (.inl f3))), ((q 7), .inl (cJ, 64, .inr (.inl f4)))] := hD
    rw [gx_upd] at hP hD
    refine lv_aload_n hx hb dT_add_41 rfl (lv_at hl 1 rfl) ?_
    refine va_get (D := D) (ci := 4) (v := .ref (q 3)) (C := R_T) (T := F_T) (N := 9) hx hb ht i_T hown hK hP 0 rfl rfl 3 (by decide) (ht _ m_63) (fun _ h9 => h9) rfl dT_add_42 ?_
    refine lv_iload hx hb dT_add_45 (lv_at hl 0 rfl) ?_
    refine lv_lload hx hb dT_add_47 (lv_at hl 5 rfl) ?_
    have i49 : vp_in (nI T.2.2.2.2) 64 := gx_in (rfl : (nI T.2.2.2.2) = (nI T.2.2.2.2)) (by omega) (by decide)
    have k49 : ((nI T.2.2.2.2) : Int32).toNatClampNeg = T.2.2.2.2 := gx_cl (rfl : (nI T.2.2.2.2) = (nI T.2.2.2.2)) (by omega)
    refine va_last hx hb hK hP hD hS 4 1 rfl rfl i49 dT_add_49 (fun H locs hP hD hS => ?_)
    rw [k49] at hP hD
    have hP : va_P D vwCl [(t, .inr (4, [.ref (q 0), .ref (q 1), .ref (q 2), .ref (q 3), .ref (q 4), .ref (q 5), .ref (q 6), .ref (q 7), .int (nI T.2.2.2.2)])), ((q 0), .inl (cI, 64, .inl (fun z9 => nI ((va_up T.1 T.2.2.2.2 kd) z9)))), ((q 1), .inl (cI, 64, .inl (fun z9 => nI ((va_up T.2.1 T.2.2.2.2 a) z9)))), ((q 2), .inl (cI, 64, .inl (fun z9 => nI ((va_up T.2.2.1 T.2.2.2.2 b) z9)))), ((q 3), .inl (cJ, 64, .inr (.inl (vp_updL T.2.2.2.1 T.2.2.2.2 x)))), ((q 4), .inl (cJ, 64, .inr (.inl f1))), ((q 5), .inl (cJ, 64, .inr (.inl f2))), ((q 6), .inl (cJ, 64, .inr (.inl f3))), ((q 7), .inl (cJ, 64, .inr (.inl f4)))] H := hP
    have hD : va_D A [(t, .inr (4, [.ref (q 0), .ref (q 1), .ref (q 2), .ref (q 3), .ref (q 4), .ref (q 5), .ref (q 6), .ref (q 7), .int (nI T.2.2.2.2)])), ((q 0), .inl (cI, 64, .inl (fun z9 => nI ((va_up T.1 T.2.2.2.2 kd) z9)))), ((q 1), .inl (cI, 64, .inl (fun z9 => nI ((va_up T.2.1 T.2.2.2.2 a) z9)))), ((q 2), .inl (cI, 64, .inl (fun z9 => nI ((va_up T.2.2.1 T.2.2.2.2 b) z9)))), ((q 3), .inl (cJ, 64, .inr (.inl (vp_updL T.2.2.2.1 T.2.2.2.2 x)))), ((q 4), .inl (cJ, 64, .inr (.inl f1))), ((q 5), .inl (cJ, 64, .inr (.inl f2))), ((q 6), .inl (cJ, 64, .inr (.inl f3))), ((q 7), .inl (cJ, 64, .inr (.inl f4)))] := hD
    refine lv_aload_n hx hb dT_add_50 rfl (lv_at hl 1 rfl) ?_
    refine lv_dup hx hb dT_add_51 rfl ?_
    refine va_get (D := D) (ci := 4) (v := .int (nI T.2.2.2.2)) (C := R_T) (T := F_T) (N := 9) hx hb ht i_T hown hK hP 0 rfl rfl 8 (by decide) (ht _ m_70) (fun _ h9 => h9) rfl dT_add_52 ?_
    refine lv_iconst (v := 1) hx hb dT_add_55 (by decide) ?_
    refine lv_iadd hx hb dT_add_56 ?_
    refine lv_topi (fun v56 e56 => ?_)
    have n56 : v56 = nI (T.2.2.2.2 + 1) := by rw [e56]; exact gx_add (rfl : (nI T.2.2.2.2) = (nI T.2.2.2.2)) (rfl : (1 : Int32) = nI 1)
    subst n56
    refine va_put (D := D) (ci := 4) (v := .int (nI (T.2.2.2.2 + 1))) (ty := .int) (C := R_T) (T := F_T) (N := 9) hx hb ht i_T ft_T ft_T_ok fn_T hown hK hP hD hS 0 rfl rfl 8 (by decide) (ht _ m_70) (fun _ h9 => h9) rfl (by decide +kernel) rfl rfl (Nat.le_of_ble_eq_true rfl) dT_add_57 (fun H locs hP hD hS => ?_)
    have hP : va_P D vwCl [(t, .inr (4, [.ref (q 0), .ref (q 1), .ref (q 2), .ref (q 3), .ref (q 4), .ref (q 5), .ref (q 6), .ref (q 7), .int (nI (T.2.2.2.2 + 1))])), ((q 0), .inl (cI, 64, .inl (fun z9 => nI ((va_up T.1 T.2.2.2.2 kd) z9)))), ((q 1), .inl (cI, 64, .inl (fun z9 => nI ((va_up T.2.1 T.2.2.2.2 a) z9)))), ((q 2), .inl (cI, 64, .inl (fun z9 => nI ((va_up T.2.2.1 T.2.2.2.2 b) z9)))), ((q 3), .inl (cJ, 64, .inr (.inl (vp_updL T.2.2.2.1 T.2.2.2.2 x)))), ((q 4), .inl (cJ, 64, .inr (.inl f1))), ((q 5), .inl (cJ, 64, .inr (.inl f2))), ((q 6), .inl (cJ, 64, .inr (.inl f3))), ((q 7), .inl (cJ, 64, .inr (.inl f4)))] H := hP
    have hD : va_D A [(t, .inr (4, [.ref (q 0), .ref (q 1), .ref (q 2), .ref (q 3), .ref (q 4), .ref (q 5), .ref (q 6), .ref (q 7), .int (nI (T.2.2.2.2 + 1))])), ((q 0), .inl (cI, 64, .inl (fun z9 => nI ((va_up T.1 T.2.2.2.2 kd) z9)))), ((q 1), .inl (cI, 64, .inl (fun z9 => nI ((va_up T.2.1 T.2.2.2.2 a) z9)))), ((q 2), .inl (cI, 64, .inl (fun z9 => nI ((va_up T.2.2.1 T.2.2.2.2 b) z9)))), ((q 3), .inl (cJ, 64, .inr (.inl (vp_updL T.2.2.2.1 T.2.2.2.2 x)))), ((q 4), .inl (cJ, 64, .inr (.inl f1))), ((q 5), .inl (cJ, 64, .inr (.inl f2))), ((q 6), .inl (cJ, 64, .inr (.inl f3))), ((q 7), .inl (cJ, 64, .inr (.inl f4)))] := hD
    refine lv_iload hx hb dT_add_60 (lv_at hl 0 rfl) ?_
    have hz : tr_add T kd a b x = tr_put T kd a b x := if_pos g6
    have hy : tr_ix T = T.2.2.2.2 := if_pos g6
    have hP : va_P D vwCl (wTr cI cJ t q (tr_put T kd a b x) f1 f2 f3 f4) _ := hP
    have hD : va_D A (wTr cI cJ t q (tr_put T kd a b x) f1 f2 f3 f4) := hD
    exact W.iret (v := (nI T.2.2.2.2)) hx hb hr (fun t9 ht9 hW => ⟨⟨(nI T.2.2.2.2), _, rfl, ⟨by rw [hy], by rw [hz]⟩, by rw [ht9]; exact hP, hD⟩, hS.F ht9⟩) hS.2.2 dT_add_62
  · have g6 : ¬ (T.2.2.2.2 < 64) := fun z => c6 ((gx_lt (rfl : (nI T.2.2.2.2) = (nI T.2.2.2.2)) (rfl : (64 : Int32) = nI 64) (by omega) (by decide)).mpr z)
    refine lv_iconst (v := 0) hx hb dT_add_9 (by decide) ?_
    have hz : tr_add T kd a b x = T := if_neg g6
    have hy : tr_ix T = 0 := if_neg g6
    exact W.iret (v := 0) hx hb hr (fun t9 ht9 hW => ⟨⟨0, _, rfl, ⟨by rw [hy]; rfl, by rw [hz]⟩, by rw [ht9]; exact hP, hD⟩, hS.F ht9⟩) hS.2.2 dT_add_10

set_option maxHeartbeats 4000000 in
set_option maxRecDepth 100000 in
theorem c_T_constant (l : Launch) (D : va_G) (cI cJ cB cZ : ClassId) (t : Nat) (q : Nat → Nat) (T : Tr) (f1 f2 f3 f4 : Nat → Int64) (x : Int64) (hn : T.2.2.2.2 ≤ 64) : ct_I l y_T_constant w_T_constant ({ frames := 1, cells := 0, slots := 0, locals := 26 }) D (gk_T cI cJ cB cZ) [.ref t, .long x] (wTr cI cJ t q T f1 f2 f3 f4) (0) (0) (fun r w => r = nI (tr_ix T) ∧ w = wTr cI cJ t q (tr_add T 0 0 0 x) f1 f2 f3 f4) := by
  intro sz
  refine Met.ofW (cc := b_T_constant) (maxL := 3) (ret := (some .int)) (by decide) rfl ?_
  intro p ev9 s m args below meth c s₁ B9 hml hv
  obtain ⟨rfl, hsz, hP, hK, hN, hD0⟩ := hv
  have hx := B9.exec
  have hb := B9.bytes
  have hr := B9.returns
  have hts := atoms_spec (ws := w_T_constant) B9.pre
  have ht : ∀ w ∈ gk_big, w.before _ s = true := fun w h => hts w (List.mem_cons_of_mem _ h)
  have hown : s.vm.findClass R_T = some m.cls := findClass_of_methodNamed B9.named
  have hlocks := B9.notSynchronized
  subst hsz
  have hD := hD0.self (sz := s.heap.size)
  generalize hAe : va_A (wTr cI cJ t q T f1 f2 f3 f4) s.heap.size = A at hD ⊢
  have hA : ∀ q : Nat, s.heap.size ≤ q → A q := fun q h => by rw [← hAe]; exact Or.inr h
  generalize hHe : s.heap = H at hP ⊢
  have hS : va_S A s.heap H [] := by rw [← hHe]; exact va_S.rf
  have hP : va_P D vwCl [(t, .inr (4, [.ref (q 0), .ref (q 1), .ref (q 2), .ref (q 3), .ref (q 4), .ref (q 5), .ref (q 6), .ref (q 7), .int (nI T.2.2.2.2)])), ((q 0), .inl (cI, 64, .inl (fun z9 => nI (T.1 z9)))), ((q 1), .inl (cI, 64, .inl (fun z9 => nI (T.2.1 z9)))), ((q 2), .inl (cI, 64, .inl (fun z9 => nI (T.2.2.1 z9)))), ((q 3), .inl (cJ, 64, .inr (.inl T.2.2.2.1))), ((q 4), .inl (cJ, 64, .inr (.inl f1))), ((q 5), .inl (cJ, 64, .inr (.inl f2))), ((q 6), .inl (cJ, 64, .inr (.inl f3))), ((q 7), .inl (cJ, 64, .inr (.inl f4)))] H := hP
  have hD : va_D A [(t, .inr (4, [.ref (q 0), .ref (q 1), .ref (q 2), .ref (q 3), .ref (q 4), .ref (q 5), .ref (q 6), .ref (q 7), .int (nI T.2.2.2.2)])), ((q 0), .inl (cI, 64, .inl (fun z9 => nI (T.1 z9)))), ((q 1), .inl (cI, 64, .inl (fun z9 => nI (T.2.1 z9)))), ((q 2), .inl (cI, 64, .inl (fun z9 => nI (T.2.2.1 z9)))), ((q 3), .inl (cJ, 64, .inr (.inl T.2.2.2.1))), ((q 4), .inl (cJ, 64, .inr (.inl f1))), ((q 5), .inl (cJ, 64, .inr (.inl f2))), ((q 6), .inl (cJ, 64, .inr (.inl f3))), ((q 7), .inl (cJ, 64, .inr (.inl f4)))] := hD
  have hl := lv_entry ([.ref t, .long x]) (n := 3) (Nat.le_of_ble_eq_true rfl)
  rw [lg_entry_eq]
  generalize (lg_sl ([.ref t, .long x]) ++ List.replicate (3 - (lg_sl ([.ref t, .long x])).length) Slot.unset).toArray = ls at hl ⊢
  have hl : lv_has ls 3 [(0, .ref t), (1, .long x)] := hl
  refine lv_aload_n hx hb dT_constant_0 rfl (lv_at hl 0 rfl) ?_
  refine lv_iconst (v := 0) hx hb dT_constant_1 (by decide) ?_
  refine lv_iconst (v := 0) hx hb dT_constant_2 (by decide) ?_
  refine lv_iconst (v := 0) hx hb dT_constant_3 (by decide) ?_
  refine lv_lload_n hx hb dT_constant_4 rfl (lv_at hl 1 rfl) ?_
  refine gc_i (va_runV (As := [.int 0, .int 0, .int 0, .long x]) (rest := []) ⟨hx, hb, hml, hown, ht⟩ (c_T_add l D cI cJ cB cZ t q T f1 f2 f3 f4 0 0 0 x (by omega) H.size) (cwV 4 ht (gw_V m_315 m_317 ms_8 m_4 m_318) rfl rfl rfl (by decide +kernel) ⟨Nat.le_of_ble_eq_true rfl, Nat.le_of_ble_eq_true rfl⟩) (gp_V (ci := 4) (q0 := 0) hK hN (hP.sub (ws' := (wTr cI cJ t q T f1 f2 f3 f4)) [0, 1, 2, 3, 4, 5, 6, 7, 8] rfl) (hD.sub (ws' := (wTr cI cJ t q T f1 f2 f3 f4)) [0, 1, 2, 3, 4, 5, 6, 7, 8] (by decide) rfl) rfl rfl) rfl rfl hl.1 rfl (lv_room (Nat.le_of_ble_eq_true rfl)) dT_constant_5 ⟨Nat.le_of_ble_eq_true rfl, Nat.le_of_ble_eq_true rfl⟩) hP hD hS hA [0, 1, 2, 3, 4, 5, 6, 7, 8] rfl (by decide) (fun r w h => by obtain ⟨_, rfl⟩ := h; rfl) (fun r5 w5 H locs p5 hP hD hS => ?_)
  obtain ⟨rfl, rfl⟩ := p5
  have hP : va_P D vwCl [(t, .inr (4, [.ref (q 0), .ref (q 1), .ref (q 2), .ref (q 3), .ref (q 4), .ref (q 5), .ref (q 6), .ref (q 7), .int (nI ((tr_add T 0 0 0 x).2.2.2.2))])), ((q 0), .inl (cI, 64, .inl (fun z9 => nI (((tr_add T 0 0 0 x).1) z9)))), ((q 1), .inl (cI, 64, .inl (fun z9 => nI (((tr_add T 0 0 0 x).2.1) z9)))), ((q 2), .inl (cI, 64, .inl (fun z9 => nI (((tr_add T 0 0 0 x).2.2.1) z9)))), ((q 3), .inl (cJ, 64, .inr (.inl ((tr_add T 0 0 0 x).2.2.2.1)))), ((q 4), .inl (cJ, 64, .inr (.inl f1))), ((q 5), .inl (cJ, 64, .inr (.inl f2))), ((q 6), .inl (cJ, 64, .inr (.inl f3))), ((q 7), .inl (cJ, 64, .inr (.inl f4)))] H := hP
  have hD : va_D A [(t, .inr (4, [.ref (q 0), .ref (q 1), .ref (q 2), .ref (q 3), .ref (q 4), .ref (q 5), .ref (q 6), .ref (q 7), .int (nI ((tr_add T 0 0 0 x).2.2.2.2))])), ((q 0), .inl (cI, 64, .inl (fun z9 => nI (((tr_add T 0 0 0 x).1) z9)))), ((q 1), .inl (cI, 64, .inl (fun z9 => nI (((tr_add T 0 0 0 x).2.1) z9)))), ((q 2), .inl (cI, 64, .inl (fun z9 => nI (((tr_add T 0 0 0 x).2.2.1) z9)))), ((q 3), .inl (cJ, 64, .inr (.inl ((tr_add T 0 0 0 x).2.2.2.1)))), ((q 4), .inl (cJ, 64, .inr (.inl f1))), ((q 5), .inl (cJ, 64, .inr (.inl f2))), ((q 6), .inl (cJ, 64, .inr (.inl f3))), ((q 7), .inl (cJ, 64, .inr (.inl f4)))] := hD
  have hP : va_P D vwCl (wTr cI cJ t q (tr_add T 0 0 0 x) f1 f2 f3 f4) _ := hP
  have hD : va_D A (wTr cI cJ t q (tr_add T 0 0 0 x) f1 f2 f3 f4) := hD
  exact W.iret (v := (nI (tr_ix T))) hx hb hr (fun t9 ht9 hW => ⟨⟨(nI (tr_ix T)), _, rfl, ⟨rfl, rfl⟩, by rw [ht9]; exact hP, hD⟩, hS.F ht9⟩) hS.2.2 dT_constant_8

set_option maxHeartbeats 4000000 in
set_option maxRecDepth 100000 in
theorem c_T_sum (l : Launch) (D : va_G) (cI cJ cB cZ : ClassId) (t : Nat) (q : Nat → Nat) (T : Tr) (f1 f2 f3 f4 : Nat → Int64) (a b : Nat) (hn : T.2.2.2.2 ≤ 64) (ha : a < 64) (hb9 : b < 64) : ct_I l y_T_sum w_T_sum ({ frames := 1, cells := 0, slots := 0, locals := 26 }) D (gk_T cI cJ cB cZ) [.ref t, .int (nI a), .int (nI b)] (wTr cI cJ t q T f1 f2 f3 f4) (0) (0) (fun r w => r = nI (tr_ix T) ∧ w = wTr cI cJ t q (tr_sum T a b) f1 f2 f3 f4) := by
  intro sz
  refine Met.ofW (cc := b_T_sum) (maxL := 3) (ret := (some .int)) (by decide) rfl ?_
  intro p ev9 s m args below meth c s₁ B9 hml hv
  obtain ⟨rfl, hsz, hP, hK, hN, hD0⟩ := hv
  have hx := B9.exec
  have hb := B9.bytes
  have hr := B9.returns
  have hts := atoms_spec (ws := w_T_sum) B9.pre
  have ht : ∀ w ∈ gk_big, w.before _ s = true := fun w h => hts w (List.mem_cons_of_mem _ h)
  have hown : s.vm.findClass R_T = some m.cls := findClass_of_methodNamed B9.named
  have hlocks := B9.notSynchronized
  subst hsz
  have hD := hD0.self (sz := s.heap.size)
  generalize hAe : va_A (wTr cI cJ t q T f1 f2 f3 f4) s.heap.size = A at hD ⊢
  have hA : ∀ q : Nat, s.heap.size ≤ q → A q := fun q h => by rw [← hAe]; exact Or.inr h
  generalize hHe : s.heap = H at hP ⊢
  have hS : va_S A s.heap H [] := by rw [← hHe]; exact va_S.rf
  have hP : va_P D vwCl [(t, .inr (4, [.ref (q 0), .ref (q 1), .ref (q 2), .ref (q 3), .ref (q 4), .ref (q 5), .ref (q 6), .ref (q 7), .int (nI T.2.2.2.2)])), ((q 0), .inl (cI, 64, .inl (fun z9 => nI (T.1 z9)))), ((q 1), .inl (cI, 64, .inl (fun z9 => nI (T.2.1 z9)))), ((q 2), .inl (cI, 64, .inl (fun z9 => nI (T.2.2.1 z9)))), ((q 3), .inl (cJ, 64, .inr (.inl T.2.2.2.1))), ((q 4), .inl (cJ, 64, .inr (.inl f1))), ((q 5), .inl (cJ, 64, .inr (.inl f2))), ((q 6), .inl (cJ, 64, .inr (.inl f3))), ((q 7), .inl (cJ, 64, .inr (.inl f4)))] H := hP
  have hD : va_D A [(t, .inr (4, [.ref (q 0), .ref (q 1), .ref (q 2), .ref (q 3), .ref (q 4), .ref (q 5), .ref (q 6), .ref (q 7), .int (nI T.2.2.2.2)])), ((q 0), .inl (cI, 64, .inl (fun z9 => nI (T.1 z9)))), ((q 1), .inl (cI, 64, .inl (fun z9 => nI (T.2.1 z9)))), ((q 2), .inl (cI, 64, .inl (fun z9 => nI (T.2.2.1 z9)))), ((q 3), .inl (cJ, 64, .inr (.inl T.2.2.2.1))), ((q 4), .inl (cJ, 64, .inr (.inl f1))), ((q 5), .inl (cJ, 64, .inr (.inl f2))), ((q 6), .inl (cJ, 64, .inr (.inl f3))), ((q 7), .inl (cJ, 64, .inr (.inl f4)))] := hD
  have hl := lv_entry ([.ref t, .int (nI a), .int (nI b)]) (n := 3) (Nat.le_of_ble_eq_true rfl)
  rw [lg_entry_eq]
  generalize (lg_sl ([.ref t, .int (nI a), .int (nI b)]) ++ List.replicate (3 - (lg_sl ([.ref t, .int (nI a), .int (nI b)])).length) Slot.unset).toArray = ls at hl ⊢
  have hl : lv_has ls 3 [(0, .ref t), (1, .int (nI a)), (2, .int (nI b))] := hl
  refine lv_aload_n hx hb dT_sum_0 rfl (lv_at hl 0 rfl) ?_
  refine lv_iconst (v := 1) hx hb dT_sum_1 (by decide) ?_
  refine lv_iload_n hx hb dT_sum_2 rfl (lv_at hl 1 rfl) ?_
  refine lv_iload_n hx hb dT_sum_3 rfl (lv_at hl 2 rfl) ?_
  refine lv_aload_n hx hb dT_sum_4 rfl (lv_at hl 0 rfl) ?_
  refine va_get (D := D) (ci := 4) (v := .ref (q 3)) (C := R_T) (T := F_T) (N := 9) hx hb ht i_T hown hK hP 0 rfl rfl 3 (by decide) (ht _ m_63) (fun _ h9 => h9) rfl dT_sum_5 ?_
  refine lv_iload_n hx hb dT_sum_8 rfl (lv_at hl 1 rfl) ?_
  have i9 : vp_in (nI a) 64 := gx_in (rfl : (nI a) = (nI a)) (by omega) (by decide)
  have k9 : ((nI a) : Int32).toNatClampNeg = a := gx_cl (rfl : (nI a) = (nI a)) (by omega)
  refine va_lald hx hb hK hP 4 1 rfl rfl i9 dT_sum_9 ?_
  rw [k9]
  refine lv_topl (fun v9 e9 => ?_)
  refine lv_aload_n hx hb dT_sum_10 rfl (lv_at hl 0 rfl) ?_
  refine va_get (D := D) (ci := 4) (v := .ref (q 3)) (C := R_T) (T := F_T) (N := 9) hx hb ht i_T hown hK hP 0 rfl rfl 3 (by decide) (ht _ m_63) (fun _ h9 => h9) rfl dT_sum_11 ?_
  refine lv_iload_n hx hb dT_sum_14 rfl (lv_at hl 2 rfl) ?_
  have i15 : vp_in (nI b) 64 := gx_in (rfl : (nI b) = (nI b)) (by omega) (by decide)
  have k15 : ((nI b) : Int32).toNatClampNeg = b := gx_cl (rfl : (nI b) = (nI b)) (by omega)
  refine va_lald hx hb hK hP 4 1 rfl rfl i15 dT_sum_15 ?_
  rw [k15]
  refine lv_topl (fun v15 e15 => ?_)
  refine lv_ladd hx hb dT_sum_16 ?_
  refine lv_topl (fun v16 e16 => ?_)
  have v16e : v16 = T.2.2.2.1 a + T.2.2.2.1 b := by rw [e16, e9, e15]
  subst v16e
  refine gc_i (va_runV (As := [.int 1, .int (nI a), .int (nI b), .long (T.2.2.2.1 a + T.2.2.2.1 b)]) (rest := []) ⟨hx, hb, hml, hown, ht⟩ (c_T_add l D cI cJ cB cZ t q T f1 f2 f3 f4 1 a b (T.2.2.2.1 a + T.2.2.2.1 b) (by omega) H.size) (cwV 4 ht (gw_V m_315 m_317 ms_8 m_4 m_318) rfl rfl rfl (by decide +kernel) ⟨Nat.le_of_ble_eq_true rfl, Nat.le_of_ble_eq_true rfl⟩) (gp_V (ci := 4) (q0 := 0) hK hN (hP.sub (ws' := (wTr cI cJ t q T f1 f2 f3 f4)) [0, 1, 2, 3, 4, 5, 6, 7, 8] rfl) (hD.sub (ws' := (wTr cI cJ t q T f1 f2 f3 f4)) [0, 1, 2, 3, 4, 5, 6, 7, 8] (by decide) rfl) rfl rfl) rfl rfl hl.1 rfl (lv_room (Nat.le_of_ble_eq_true rfl)) dT_sum_17 ⟨Nat.le_of_ble_eq_true rfl, Nat.le_of_ble_eq_true rfl⟩) hP hD hS hA [0, 1, 2, 3, 4, 5, 6, 7, 8] rfl (by decide) (fun r w h => by obtain ⟨_, rfl⟩ := h; rfl) (fun r17 w17 H locs p17 hP hD hS => ?_)
  obtain ⟨rfl, rfl⟩ := p17
  have hP : va_P D vwCl [(t, .inr (4, [.ref (q 0), .ref (q 1), .ref (q 2), .ref (q 3), .ref (q 4), .ref (q 5), .ref (q 6), .ref (q 7), .int (nI ((tr_add T 1 a b (T.2.2.2.1 a + T.2.2.2.1 b)).2.2.2.2))])), ((q 0), .inl (cI, 64, .inl (fun z9 => nI (((tr_add T 1 a b (T.2.2.2.1 a + T.2.2.2.1 b)).1) z9)))), ((q 1), .inl (cI, 64, .inl (fun z9 => nI (((tr_add T 1 a b (T.2.2.2.1 a + T.2.2.2.1 b)).2.1) z9)))), ((q 2), .inl (cI, 64, .inl (fun z9 => nI (((tr_add T 1 a b (T.2.2.2.1 a + T.2.2.2.1 b)).2.2.1) z9)))), ((q 3), .inl (cJ, 64, .inr (.inl ((tr_add T 1 a b (T.2.2.2.1 a + T.2.2.2.1 b)).2.2.2.1)))), ((q 4), .inl (cJ, 64, .inr (.inl f1))), ((q 5), .inl (cJ, 64, .inr (.inl f2))), ((q 6), .inl (cJ, 64, .inr (.inl f3))), ((q 7), .inl (cJ, 64, .inr (.inl f4)))] H := hP
  have hD : va_D A [(t, .inr (4, [.ref (q 0), .ref (q 1), .ref (q 2), .ref (q 3), .ref (q 4), .ref (q 5), .ref (q 6), .ref (q 7), .int (nI ((tr_add T 1 a b (T.2.2.2.1 a + T.2.2.2.1 b)).2.2.2.2))])), ((q 0), .inl (cI, 64, .inl (fun z9 => nI (((tr_add T 1 a b (T.2.2.2.1 a + T.2.2.2.1 b)).1) z9)))), ((q 1), .inl (cI, 64, .inl (fun z9 => nI (((tr_add T 1 a b (T.2.2.2.1 a + T.2.2.2.1 b)).2.1) z9)))), ((q 2), .inl (cI, 64, .inl (fun z9 => nI (((tr_add T 1 a b (T.2.2.2.1 a + T.2.2.2.1 b)).2.2.1) z9)))), ((q 3), .inl (cJ, 64, .inr (.inl ((tr_add T 1 a b (T.2.2.2.1 a + T.2.2.2.1 b)).2.2.2.1)))), ((q 4), .inl (cJ, 64, .inr (.inl f1))), ((q 5), .inl (cJ, 64, .inr (.inl f2))), ((q 6), .inl (cJ, 64, .inr (.inl f3))), ((q 7), .inl (cJ, 64, .inr (.inl f4)))] := hD
  have hP : va_P D vwCl (wTr cI cJ t q (tr_sum T a b) f1 f2 f3 f4) _ := hP
  have hD : va_D A (wTr cI cJ t q (tr_sum T a b) f1 f2 f3 f4) := hD
  exact W.iret (v := (nI (tr_ix T))) hx hb hr (fun t9 ht9 hW => ⟨⟨(nI (tr_ix T)), _, rfl, ⟨rfl, rfl⟩, by rw [ht9]; exact hP, hD⟩, hS.F ht9⟩) hS.2.2 dT_sum_20

set_option maxHeartbeats 4000000 in
set_option maxRecDepth 100000 in
theorem c_T_difference (l : Launch) (D : va_G) (cI cJ cB cZ : ClassId) (t : Nat) (q : Nat → Nat) (T : Tr) (f1 f2 f3 f4 : Nat → Int64) (a b : Nat) (hn : T.2.2.2.2 ≤ 64) (ha : a < 64) (hb9 : b < 64) : ct_I l y_T_difference w_T_difference ({ frames := 1, cells := 0, slots := 0, locals := 26 }) D (gk_T cI cJ cB cZ) [.ref t, .int (nI a), .int (nI b)] (wTr cI cJ t q T f1 f2 f3 f4) (0) (0) (fun r w => r = nI (tr_ix T) ∧ w = wTr cI cJ t q (tr_dif T a b) f1 f2 f3 f4) := by
  intro sz
  refine Met.ofW (cc := b_T_difference) (maxL := 3) (ret := (some .int)) (by decide) rfl ?_
  intro p ev9 s m args below meth c s₁ B9 hml hv
  obtain ⟨rfl, hsz, hP, hK, hN, hD0⟩ := hv
  have hx := B9.exec
  have hb := B9.bytes
  have hr := B9.returns
  have hts := atoms_spec (ws := w_T_difference) B9.pre
  have ht : ∀ w ∈ gk_big, w.before _ s = true := fun w h => hts w (List.mem_cons_of_mem _ h)
  have hown : s.vm.findClass R_T = some m.cls := findClass_of_methodNamed B9.named
  have hlocks := B9.notSynchronized
  subst hsz
  have hD := hD0.self (sz := s.heap.size)
  generalize hAe : va_A (wTr cI cJ t q T f1 f2 f3 f4) s.heap.size = A at hD ⊢
  have hA : ∀ q : Nat, s.heap.size ≤ q → A q := fun q h => by rw [← hAe]; exact Or.inr h
  generalize hHe : s.heap = H at hP ⊢
  have hS : va_S A s.heap H [] := by rw [← hHe]; exact va_S.rf
  have hP : va_P D vwCl [(t, .inr (4, [.ref (q 0), .ref (q 1), .ref (q 2), .ref (q 3), .ref (q 4), .ref (q 5), .ref (q 6), .ref (q 7), .int (nI T.2.2.2.2)])), ((q 0), .inl (cI, 64, .inl (fun z9 => nI (T.1 z9)))), ((q 1), .inl (cI, 64, .inl (fun z9 => nI (T.2.1 z9)))), ((q 2), .inl (cI, 64, .inl (fun z9 => nI (T.2.2.1 z9)))), ((q 3), .inl (cJ, 64, .inr (.inl T.2.2.2.1))), ((q 4), .inl (cJ, 64, .inr (.inl f1))), ((q 5), .inl (cJ, 64, .inr (.inl f2))), ((q 6), .inl (cJ, 64, .inr (.inl f3))), ((q 7), .inl (cJ, 64, .inr (.inl f4)))] H := hP
  have hD : va_D A [(t, .inr (4, [.ref (q 0), .ref (q 1), .ref (q 2), .ref (q 3), .ref (q 4), .ref (q 5), .ref (q 6), .ref (q 7), .int (nI T.2.2.2.2)])), ((q 0), .inl (cI, 64, .inl (fun z9 => nI (T.1 z9)))), ((q 1), .inl (cI, 64, .inl (fun z9 => nI (T.2.1 z9)))), ((q 2), .inl (cI, 64, .inl (fun z9 => nI (T.2.2.1 z9)))), ((q 3), .inl (cJ, 64, .inr (.inl T.2.2.2.1))), ((q 4), .inl (cJ, 64, .inr (.inl f1))), ((q 5), .inl (cJ, 64, .inr (.inl f2))), ((q 6), .inl (cJ, 64, .inr (.inl f3))), ((q 7), .inl (cJ, 64, .inr (.inl f4)))] := hD
  have hl := lv_entry ([.ref t, .int (nI a), .int (nI b)]) (n := 3) (Nat.le_of_ble_eq_true rfl)
  rw [lg_entry_eq]
  generalize (lg_sl ([.ref t, .int (nI a), .int (nI b)]) ++ List.replicate (3 - (lg_sl ([.ref t, .int (nI a), .int (nI b)])).length) Slot.unset).toArray = ls at hl ⊢
  have hl : lv_has ls 3 [(0, .ref t), (1, .int (nI a)), (2, .int (nI b))] := hl
  refine lv_aload_n hx hb dT_difference_0 rfl (lv_at hl 0 rfl) ?_
  refine lv_iconst (v := 2) hx hb dT_difference_1 (by decide) ?_
  refine lv_iload_n hx hb dT_difference_2 rfl (lv_at hl 1 rfl) ?_
  refine lv_iload_n hx hb dT_difference_3 rfl (lv_at hl 2 rfl) ?_
  refine lv_aload_n hx hb dT_difference_4 rfl (lv_at hl 0 rfl) ?_
  refine va_get (D := D) (ci := 4) (v := .ref (q 3)) (C := R_T) (T := F_T) (N := 9) hx hb ht i_T hown hK hP 0 rfl rfl 3 (by decide) (ht _ m_63) (fun _ h9 => h9) rfl dT_difference_5 ?_
  refine lv_iload_n hx hb dT_difference_8 rfl (lv_at hl 1 rfl) ?_
  have i9 : vp_in (nI a) 64 := gx_in (rfl : (nI a) = (nI a)) (by omega) (by decide)
  have k9 : ((nI a) : Int32).toNatClampNeg = a := gx_cl (rfl : (nI a) = (nI a)) (by omega)
  refine va_lald hx hb hK hP 4 1 rfl rfl i9 dT_difference_9 ?_
  rw [k9]
  refine lv_topl (fun v9 e9 => ?_)
  refine lv_aload_n hx hb dT_difference_10 rfl (lv_at hl 0 rfl) ?_
  refine va_get (D := D) (ci := 4) (v := .ref (q 3)) (C := R_T) (T := F_T) (N := 9) hx hb ht i_T hown hK hP 0 rfl rfl 3 (by decide) (ht _ m_63) (fun _ h9 => h9) rfl dT_difference_11 ?_
  refine lv_iload_n hx hb dT_difference_14 rfl (lv_at hl 2 rfl) ?_
  have i15 : vp_in (nI b) 64 := gx_in (rfl : (nI b) = (nI b)) (by omega) (by decide)
  have k15 : ((nI b) : Int32).toNatClampNeg = b := gx_cl (rfl : (nI b) = (nI b)) (by omega)
  refine va_lald hx hb hK hP 4 1 rfl rfl i15 dT_difference_15 ?_
  rw [k15]
  refine lv_topl (fun v15 e15 => ?_)
  refine lv_lsub hx hb dT_difference_16 ?_
  refine lv_topl (fun v16 e16 => ?_)
  have v16e : v16 = T.2.2.2.1 a - T.2.2.2.1 b := by rw [e16, e9, e15]
  subst v16e
  refine gc_i (va_runV (As := [.int 2, .int (nI a), .int (nI b), .long (T.2.2.2.1 a - T.2.2.2.1 b)]) (rest := []) ⟨hx, hb, hml, hown, ht⟩ (c_T_add l D cI cJ cB cZ t q T f1 f2 f3 f4 2 a b (T.2.2.2.1 a - T.2.2.2.1 b) (by omega) H.size) (cwV 4 ht (gw_V m_315 m_317 ms_8 m_4 m_318) rfl rfl rfl (by decide +kernel) ⟨Nat.le_of_ble_eq_true rfl, Nat.le_of_ble_eq_true rfl⟩) (gp_V (ci := 4) (q0 := 0) hK hN (hP.sub (ws' := (wTr cI cJ t q T f1 f2 f3 f4)) [0, 1, 2, 3, 4, 5, 6, 7, 8] rfl) (hD.sub (ws' := (wTr cI cJ t q T f1 f2 f3 f4)) [0, 1, 2, 3, 4, 5, 6, 7, 8] (by decide) rfl) rfl rfl) rfl rfl hl.1 rfl (lv_room (Nat.le_of_ble_eq_true rfl)) dT_difference_17 ⟨Nat.le_of_ble_eq_true rfl, Nat.le_of_ble_eq_true rfl⟩) hP hD hS hA [0, 1, 2, 3, 4, 5, 6, 7, 8] rfl (by decide) (fun r w h => by obtain ⟨_, rfl⟩ := h; rfl) (fun r17 w17 H locs p17 hP hD hS => ?_)
  obtain ⟨rfl, rfl⟩ := p17
  have hP : va_P D vwCl [(t, .inr (4, [.ref (q 0), .ref (q 1), .ref (q 2), .ref (q 3), .ref (q 4), .ref (q 5), .ref (q 6), .ref (q 7), .int (nI ((tr_add T 2 a b (T.2.2.2.1 a - T.2.2.2.1 b)).2.2.2.2))])), ((q 0), .inl (cI, 64, .inl (fun z9 => nI (((tr_add T 2 a b (T.2.2.2.1 a - T.2.2.2.1 b)).1) z9)))), ((q 1), .inl (cI, 64, .inl (fun z9 => nI (((tr_add T 2 a b (T.2.2.2.1 a - T.2.2.2.1 b)).2.1) z9)))), ((q 2), .inl (cI, 64, .inl (fun z9 => nI (((tr_add T 2 a b (T.2.2.2.1 a - T.2.2.2.1 b)).2.2.1) z9)))), ((q 3), .inl (cJ, 64, .inr (.inl ((tr_add T 2 a b (T.2.2.2.1 a - T.2.2.2.1 b)).2.2.2.1)))), ((q 4), .inl (cJ, 64, .inr (.inl f1))), ((q 5), .inl (cJ, 64, .inr (.inl f2))), ((q 6), .inl (cJ, 64, .inr (.inl f3))), ((q 7), .inl (cJ, 64, .inr (.inl f4)))] H := hP
  have hD : va_D A [(t, .inr (4, [.ref (q 0), .ref (q 1), .ref (q 2), .ref (q 3), .ref (q 4), .ref (q 5), .ref (q 6), .ref (q 7), .int (nI ((tr_add T 2 a b (T.2.2.2.1 a - T.2.2.2.1 b)).2.2.2.2))])), ((q 0), .inl (cI, 64, .inl (fun z9 => nI (((tr_add T 2 a b (T.2.2.2.1 a - T.2.2.2.1 b)).1) z9)))), ((q 1), .inl (cI, 64, .inl (fun z9 => nI (((tr_add T 2 a b (T.2.2.2.1 a - T.2.2.2.1 b)).2.1) z9)))), ((q 2), .inl (cI, 64, .inl (fun z9 => nI (((tr_add T 2 a b (T.2.2.2.1 a - T.2.2.2.1 b)).2.2.1) z9)))), ((q 3), .inl (cJ, 64, .inr (.inl ((tr_add T 2 a b (T.2.2.2.1 a - T.2.2.2.1 b)).2.2.2.1)))), ((q 4), .inl (cJ, 64, .inr (.inl f1))), ((q 5), .inl (cJ, 64, .inr (.inl f2))), ((q 6), .inl (cJ, 64, .inr (.inl f3))), ((q 7), .inl (cJ, 64, .inr (.inl f4)))] := hD
  have hP : va_P D vwCl (wTr cI cJ t q (tr_dif T a b) f1 f2 f3 f4) _ := hP
  have hD : va_D A (wTr cI cJ t q (tr_dif T a b) f1 f2 f3 f4) := hD
  exact W.iret (v := (nI (tr_ix T))) hx hb hr (fun t9 ht9 hW => ⟨⟨(nI (tr_ix T)), _, rfl, ⟨rfl, rfl⟩, by rw [ht9]; exact hP, hD⟩, hS.F ht9⟩) hS.2.2 dT_difference_20

set_option maxHeartbeats 4000000 in
set_option maxRecDepth 100000 in
theorem c_T_product (l : Launch) (D : va_G) (cI cJ cB cZ : ClassId) (t : Nat) (q : Nat → Nat) (T : Tr) (f1 f2 f3 f4 : Nat → Int64) (a b : Nat) (hn : T.2.2.2.2 ≤ 64) (ha : a < 64) (hb9 : b < 64) : ct_I l y_T_product w_T_product ({ frames := 1, cells := 0, slots := 0, locals := 26 }) D (gk_T cI cJ cB cZ) [.ref t, .int (nI a), .int (nI b)] (wTr cI cJ t q T f1 f2 f3 f4) (0) (0) (fun r w => r = nI (tr_ix T) ∧ w = wTr cI cJ t q (tr_mul T a b) f1 f2 f3 f4) := by
  intro sz
  refine Met.ofW (cc := b_T_product) (maxL := 3) (ret := (some .int)) (by decide) rfl ?_
  intro p ev9 s m args below meth c s₁ B9 hml hv
  obtain ⟨rfl, hsz, hP, hK, hN, hD0⟩ := hv
  have hx := B9.exec
  have hb := B9.bytes
  have hr := B9.returns
  have hts := atoms_spec (ws := w_T_product) B9.pre
  have ht : ∀ w ∈ gk_big, w.before _ s = true := fun w h => hts w (List.mem_cons_of_mem _ h)
  have hown : s.vm.findClass R_T = some m.cls := findClass_of_methodNamed B9.named
  have hlocks := B9.notSynchronized
  subst hsz
  have hD := hD0.self (sz := s.heap.size)
  generalize hAe : va_A (wTr cI cJ t q T f1 f2 f3 f4) s.heap.size = A at hD ⊢
  have hA : ∀ q : Nat, s.heap.size ≤ q → A q := fun q h => by rw [← hAe]; exact Or.inr h
  generalize hHe : s.heap = H at hP ⊢
  have hS : va_S A s.heap H [] := by rw [← hHe]; exact va_S.rf
  have hP : va_P D vwCl [(t, .inr (4, [.ref (q 0), .ref (q 1), .ref (q 2), .ref (q 3), .ref (q 4), .ref (q 5), .ref (q 6), .ref (q 7), .int (nI T.2.2.2.2)])), ((q 0), .inl (cI, 64, .inl (fun z9 => nI (T.1 z9)))), ((q 1), .inl (cI, 64, .inl (fun z9 => nI (T.2.1 z9)))), ((q 2), .inl (cI, 64, .inl (fun z9 => nI (T.2.2.1 z9)))), ((q 3), .inl (cJ, 64, .inr (.inl T.2.2.2.1))), ((q 4), .inl (cJ, 64, .inr (.inl f1))), ((q 5), .inl (cJ, 64, .inr (.inl f2))), ((q 6), .inl (cJ, 64, .inr (.inl f3))), ((q 7), .inl (cJ, 64, .inr (.inl f4)))] H := hP
  have hD : va_D A [(t, .inr (4, [.ref (q 0), .ref (q 1), .ref (q 2), .ref (q 3), .ref (q 4), .ref (q 5), .ref (q 6), .ref (q 7), .int (nI T.2.2.2.2)])), ((q 0), .inl (cI, 64, .inl (fun z9 => nI (T.1 z9)))), ((q 1), .inl (cI, 64, .inl (fun z9 => nI (T.2.1 z9)))), ((q 2), .inl (cI, 64, .inl (fun z9 => nI (T.2.2.1 z9)))), ((q 3), .inl (cJ, 64, .inr (.inl T.2.2.2.1))), ((q 4), .inl (cJ, 64, .inr (.inl f1))), ((q 5), .inl (cJ, 64, .inr (.inl f2))), ((q 6), .inl (cJ, 64, .inr (.inl f3))), ((q 7), .inl (cJ, 64, .inr (.inl f4)))] := hD
  have hl := lv_entry ([.ref t, .int (nI a), .int (nI b)]) (n := 3) (Nat.le_of_ble_eq_true rfl)
  rw [lg_entry_eq]
  generalize (lg_sl ([.ref t, .int (nI a), .int (nI b)]) ++ List.replicate (3 - (lg_sl ([.ref t, .int (nI a), .int (nI b)])).length) Slot.unset).toArray = ls at hl ⊢
  have hl : lv_has ls 3 [(0, .ref t), (1, .int (nI a)), (2, .int (nI b))] := hl
  refine lv_aload_n hx hb dT_product_0 rfl (lv_at hl 0 rfl) ?_
  refine lv_iconst (v := 3) hx hb dT_product_1 (by decide) ?_
  refine lv_iload_n hx hb dT_product_2 rfl (lv_at hl 1 rfl) ?_
  refine lv_iload_n hx hb dT_product_3 rfl (lv_at hl 2 rfl) ?_
  refine lv_aload_n hx hb dT_product_4 rfl (lv_at hl 0 rfl) ?_
  refine va_get (D := D) (ci := 4) (v := .ref (q 3)) (C := R_T) (T := F_T) (N := 9) hx hb ht i_T hown hK hP 0 rfl rfl 3 (by decide) (ht _ m_63) (fun _ h9 => h9) rfl dT_product_5 ?_
  refine lv_iload_n hx hb dT_product_8 rfl (lv_at hl 1 rfl) ?_
  have i9 : vp_in (nI a) 64 := gx_in (rfl : (nI a) = (nI a)) (by omega) (by decide)
  have k9 : ((nI a) : Int32).toNatClampNeg = a := gx_cl (rfl : (nI a) = (nI a)) (by omega)
  refine va_lald hx hb hK hP 4 1 rfl rfl i9 dT_product_9 ?_
  rw [k9]
  refine lv_topl (fun v9 e9 => ?_)
  refine lv_aload_n hx hb dT_product_10 rfl (lv_at hl 0 rfl) ?_
  refine va_get (D := D) (ci := 4) (v := .ref (q 3)) (C := R_T) (T := F_T) (N := 9) hx hb ht i_T hown hK hP 0 rfl rfl 3 (by decide) (ht _ m_63) (fun _ h9 => h9) rfl dT_product_11 ?_
  refine lv_iload_n hx hb dT_product_14 rfl (lv_at hl 2 rfl) ?_
  have i15 : vp_in (nI b) 64 := gx_in (rfl : (nI b) = (nI b)) (by omega) (by decide)
  have k15 : ((nI b) : Int32).toNatClampNeg = b := gx_cl (rfl : (nI b) = (nI b)) (by omega)
  refine va_lald hx hb hK hP 4 1 rfl rfl i15 dT_product_15 ?_
  rw [k15]
  refine lv_topl (fun v15 e15 => ?_)
  refine lv_lmul hx hb dT_product_16 ?_
  refine lv_topl (fun v16 e16 => ?_)
  have v16e : v16 = T.2.2.2.1 a * T.2.2.2.1 b := by rw [e16, e9, e15]
  subst v16e
  refine gc_i (va_runV (As := [.int 3, .int (nI a), .int (nI b), .long (T.2.2.2.1 a * T.2.2.2.1 b)]) (rest := []) ⟨hx, hb, hml, hown, ht⟩ (c_T_add l D cI cJ cB cZ t q T f1 f2 f3 f4 3 a b (T.2.2.2.1 a * T.2.2.2.1 b) (by omega) H.size) (cwV 4 ht (gw_V m_315 m_317 ms_8 m_4 m_318) rfl rfl rfl (by decide +kernel) ⟨Nat.le_of_ble_eq_true rfl, Nat.le_of_ble_eq_true rfl⟩) (gp_V (ci := 4) (q0 := 0) hK hN (hP.sub (ws' := (wTr cI cJ t q T f1 f2 f3 f4)) [0, 1, 2, 3, 4, 5, 6, 7, 8] rfl) (hD.sub (ws' := (wTr cI cJ t q T f1 f2 f3 f4)) [0, 1, 2, 3, 4, 5, 6, 7, 8] (by decide) rfl) rfl rfl) rfl rfl hl.1 rfl (lv_room (Nat.le_of_ble_eq_true rfl)) dT_product_17 ⟨Nat.le_of_ble_eq_true rfl, Nat.le_of_ble_eq_true rfl⟩) hP hD hS hA [0, 1, 2, 3, 4, 5, 6, 7, 8] rfl (by decide) (fun r w h => by obtain ⟨_, rfl⟩ := h; rfl) (fun r17 w17 H locs p17 hP hD hS => ?_)
  obtain ⟨rfl, rfl⟩ := p17
  have hP : va_P D vwCl [(t, .inr (4, [.ref (q 0), .ref (q 1), .ref (q 2), .ref (q 3), .ref (q 4), .ref (q 5), .ref (q 6), .ref (q 7), .int (nI ((tr_add T 3 a b (T.2.2.2.1 a * T.2.2.2.1 b)).2.2.2.2))])), ((q 0), .inl (cI, 64, .inl (fun z9 => nI (((tr_add T 3 a b (T.2.2.2.1 a * T.2.2.2.1 b)).1) z9)))), ((q 1), .inl (cI, 64, .inl (fun z9 => nI (((tr_add T 3 a b (T.2.2.2.1 a * T.2.2.2.1 b)).2.1) z9)))), ((q 2), .inl (cI, 64, .inl (fun z9 => nI (((tr_add T 3 a b (T.2.2.2.1 a * T.2.2.2.1 b)).2.2.1) z9)))), ((q 3), .inl (cJ, 64, .inr (.inl ((tr_add T 3 a b (T.2.2.2.1 a * T.2.2.2.1 b)).2.2.2.1)))), ((q 4), .inl (cJ, 64, .inr (.inl f1))), ((q 5), .inl (cJ, 64, .inr (.inl f2))), ((q 6), .inl (cJ, 64, .inr (.inl f3))), ((q 7), .inl (cJ, 64, .inr (.inl f4)))] H := hP
  have hD : va_D A [(t, .inr (4, [.ref (q 0), .ref (q 1), .ref (q 2), .ref (q 3), .ref (q 4), .ref (q 5), .ref (q 6), .ref (q 7), .int (nI ((tr_add T 3 a b (T.2.2.2.1 a * T.2.2.2.1 b)).2.2.2.2))])), ((q 0), .inl (cI, 64, .inl (fun z9 => nI (((tr_add T 3 a b (T.2.2.2.1 a * T.2.2.2.1 b)).1) z9)))), ((q 1), .inl (cI, 64, .inl (fun z9 => nI (((tr_add T 3 a b (T.2.2.2.1 a * T.2.2.2.1 b)).2.1) z9)))), ((q 2), .inl (cI, 64, .inl (fun z9 => nI (((tr_add T 3 a b (T.2.2.2.1 a * T.2.2.2.1 b)).2.2.1) z9)))), ((q 3), .inl (cJ, 64, .inr (.inl ((tr_add T 3 a b (T.2.2.2.1 a * T.2.2.2.1 b)).2.2.2.1)))), ((q 4), .inl (cJ, 64, .inr (.inl f1))), ((q 5), .inl (cJ, 64, .inr (.inl f2))), ((q 6), .inl (cJ, 64, .inr (.inl f3))), ((q 7), .inl (cJ, 64, .inr (.inl f4)))] := hD
  have hP : va_P D vwCl (wTr cI cJ t q (tr_mul T a b) f1 f2 f3 f4) _ := hP
  have hD : va_D A (wTr cI cJ t q (tr_mul T a b) f1 f2 f3 f4) := hD
  exact W.iret (v := (nI (tr_ix T))) hx hb hr (fun t9 ht9 hW => ⟨⟨(nI (tr_ix T)), _, rfl, ⟨rfl, rfl⟩, by rw [ht9]; exact hP, hD⟩, hS.F ht9⟩) hS.2.2 dT_product_20

set_option maxHeartbeats 4000000 in
set_option maxRecDepth 100000 in
theorem c_T_begin (l : Launch) (D : va_G) (cI cJ cB cZ : ClassId) (t : Nat) (q : Nat → Nat) (T : Tr) (f1 f2 f3 f4 : Nat → Int64) (x y : Int64)  : ct_V l y_T_begin w_T_begin ({ frames := 1, cells := 0, slots := 0, locals := 26 }) D (gk_T cI cJ cB cZ) [.ref t, .long x, .long y] (wTr cI cJ t q T f1 f2 f3 f4) (0) (0) (fun w => w = wTr cI cJ t q (tr_beg T x y) f1 f2 f3 f4) := by
  intro sz
  refine Met.ofW (cc := b_T_begin) (maxL := 5) (ret := none) (by decide) rfl ?_
  intro p ev9 s m args below meth c s₁ B9 hml hv
  obtain ⟨rfl, hsz, hP, hK, hN, hD0⟩ := hv
  have hx := B9.exec
  have hb := B9.bytes
  have hr := B9.returns
  have hts := atoms_spec (ws := w_T_begin) B9.pre
  have ht : ∀ w ∈ gk_big, w.before _ s = true := fun w h => hts w (List.mem_cons_of_mem _ h)
  have hown : s.vm.findClass R_T = some m.cls := findClass_of_methodNamed B9.named
  have hlocks := B9.notSynchronized
  subst hsz
  have hD := hD0.self (sz := s.heap.size)
  generalize hAe : va_A (wTr cI cJ t q T f1 f2 f3 f4) s.heap.size = A at hD ⊢
  have hA : ∀ q : Nat, s.heap.size ≤ q → A q := fun q h => by rw [← hAe]; exact Or.inr h
  generalize hHe : s.heap = H at hP ⊢
  have hS : va_S A s.heap H [] := by rw [← hHe]; exact va_S.rf
  have hP : va_P D vwCl [(t, .inr (4, [.ref (q 0), .ref (q 1), .ref (q 2), .ref (q 3), .ref (q 4), .ref (q 5), .ref (q 6), .ref (q 7), .int (nI T.2.2.2.2)])), ((q 0), .inl (cI, 64, .inl (fun z9 => nI (T.1 z9)))), ((q 1), .inl (cI, 64, .inl (fun z9 => nI (T.2.1 z9)))), ((q 2), .inl (cI, 64, .inl (fun z9 => nI (T.2.2.1 z9)))), ((q 3), .inl (cJ, 64, .inr (.inl T.2.2.2.1))), ((q 4), .inl (cJ, 64, .inr (.inl f1))), ((q 5), .inl (cJ, 64, .inr (.inl f2))), ((q 6), .inl (cJ, 64, .inr (.inl f3))), ((q 7), .inl (cJ, 64, .inr (.inl f4)))] H := hP
  have hD : va_D A [(t, .inr (4, [.ref (q 0), .ref (q 1), .ref (q 2), .ref (q 3), .ref (q 4), .ref (q 5), .ref (q 6), .ref (q 7), .int (nI T.2.2.2.2)])), ((q 0), .inl (cI, 64, .inl (fun z9 => nI (T.1 z9)))), ((q 1), .inl (cI, 64, .inl (fun z9 => nI (T.2.1 z9)))), ((q 2), .inl (cI, 64, .inl (fun z9 => nI (T.2.2.1 z9)))), ((q 3), .inl (cJ, 64, .inr (.inl T.2.2.2.1))), ((q 4), .inl (cJ, 64, .inr (.inl f1))), ((q 5), .inl (cJ, 64, .inr (.inl f2))), ((q 6), .inl (cJ, 64, .inr (.inl f3))), ((q 7), .inl (cJ, 64, .inr (.inl f4)))] := hD
  have hl := lv_entry ([.ref t, .long x, .long y]) (n := 5) (Nat.le_of_ble_eq_true rfl)
  rw [lg_entry_eq]
  generalize (lg_sl ([.ref t, .long x, .long y]) ++ List.replicate (5 - (lg_sl ([.ref t, .long x, .long y])).length) Slot.unset).toArray = ls at hl ⊢
  have hl : lv_has ls 5 [(0, .ref t), (1, .long x), (3, .long y)] := hl
  refine lv_aload_n hx hb dT_begin_0 rfl (lv_at hl 0 rfl) ?_
  refine lv_iconst (v := 0) hx hb dT_begin_1 (by decide) ?_
  refine va_put (D := D) (ci := 4) (v := .int 0) (ty := .int) (C := R_T) (T := F_T) (N := 9) hx hb ht i_T ft_T ft_T_ok fn_T hown hK hP hD hS 0 rfl rfl 8 (by decide) (ht _ m_70) (fun _ h9 => h9) rfl (by decide +kernel) rfl rfl (Nat.le_of_ble_eq_true rfl) dT_begin_2 (fun H locs hP hD hS => ?_)
  have hP : va_P D vwCl [(t, .inr (4, [.ref (q 0), .ref (q 1), .ref (q 2), .ref (q 3), .ref (q 4), .ref (q 5), .ref (q 6), .ref (q 7), .int 0])), ((q 0), .inl (cI, 64, .inl (fun z9 => nI (T.1 z9)))), ((q 1), .inl (cI, 64, .inl (fun z9 => nI (T.2.1 z9)))), ((q 2), .inl (cI, 64, .inl (fun z9 => nI (T.2.2.1 z9)))), ((q 3), .inl (cJ, 64, .inr (.inl T.2.2.2.1))), ((q 4), .inl (cJ, 64, .inr (.inl f1))), ((q 5), .inl (cJ, 64, .inr (.inl f2))), ((q 6), .inl (cJ, 64, .inr (.inl f3))), ((q 7), .inl (cJ, 64, .inr (.inl f4)))] H := hP
  have hD : va_D A [(t, .inr (4, [.ref (q 0), .ref (q 1), .ref (q 2), .ref (q 3), .ref (q 4), .ref (q 5), .ref (q 6), .ref (q 7), .int 0])), ((q 0), .inl (cI, 64, .inl (fun z9 => nI (T.1 z9)))), ((q 1), .inl (cI, 64, .inl (fun z9 => nI (T.2.1 z9)))), ((q 2), .inl (cI, 64, .inl (fun z9 => nI (T.2.2.1 z9)))), ((q 3), .inl (cJ, 64, .inr (.inl T.2.2.2.1))), ((q 4), .inl (cJ, 64, .inr (.inl f1))), ((q 5), .inl (cJ, 64, .inr (.inl f2))), ((q 6), .inl (cJ, 64, .inr (.inl f3))), ((q 7), .inl (cJ, 64, .inr (.inl f4)))] := hD
  have hP : va_P D vwCl [(t, .inr (4, [.ref (q 0), .ref (q 1), .ref (q 2), .ref (q 3), .ref (q 4), .ref (q 5), .ref (q 6), .ref (q 7), .int (nI ((tr_zero T).2.2.2.2))])), ((q 0), .inl (cI, 64, .inl (fun z9 => nI (((tr_zero T).1) z9)))), ((q 1), .inl (cI, 64, .inl (fun z9 => nI (((tr_zero T).2.1) z9)))), ((q 2), .inl (cI, 64, .inl (fun z9 => nI (((tr_zero T).2.2.1) z9)))), ((q 3), .inl (cJ, 64, .inr (.inl ((tr_zero T).2.2.2.1)))), ((q 4), .inl (cJ, 64, .inr (.inl f1))), ((q 5), .inl (cJ, 64, .inr (.inl f2))), ((q 6), .inl (cJ, 64, .inr (.inl f3))), ((q 7), .inl (cJ, 64, .inr (.inl f4)))] H := hP
  have hD : va_D A [(t, .inr (4, [.ref (q 0), .ref (q 1), .ref (q 2), .ref (q 3), .ref (q 4), .ref (q 5), .ref (q 6), .ref (q 7), .int (nI ((tr_zero T).2.2.2.2))])), ((q 0), .inl (cI, 64, .inl (fun z9 => nI (((tr_zero T).1) z9)))), ((q 1), .inl (cI, 64, .inl (fun z9 => nI (((tr_zero T).2.1) z9)))), ((q 2), .inl (cI, 64, .inl (fun z9 => nI (((tr_zero T).2.2.1) z9)))), ((q 3), .inl (cJ, 64, .inr (.inl ((tr_zero T).2.2.2.1)))), ((q 4), .inl (cJ, 64, .inr (.inl f1))), ((q 5), .inl (cJ, 64, .inr (.inl f2))), ((q 6), .inl (cJ, 64, .inr (.inl f3))), ((q 7), .inl (cJ, 64, .inr (.inl f4)))] := hD
  refine lv_aload_n hx hb dT_begin_5 rfl (lv_at hl 0 rfl) ?_
  refine lv_iconst (v := 0) hx hb dT_begin_6 (by decide) ?_
  refine lv_iconst (v := 0) hx hb dT_begin_7 (by decide) ?_
  refine lv_iconst (v := 0) hx hb dT_begin_8 (by decide) ?_
  refine lv_lconst (v := 0) hx hb dT_begin_9 (by decide) ?_
  have z10 : (tr_zero T).2.2.2.2 ≤ 64 := Nat.zero_le _
  refine gc_i (va_runV (As := [.int 0, .int 0, .int 0, .long 0]) (rest := []) ⟨hx, hb, hml, hown, ht⟩ (c_T_add l D cI cJ cB cZ t q (tr_zero T) f1 f2 f3 f4 0 0 0 0 (by omega) H.size) (cwV 4 ht (gw_V m_315 m_317 ms_8 m_4 m_318) rfl rfl rfl (by decide +kernel) ⟨Nat.le_of_ble_eq_true rfl, Nat.le_of_ble_eq_true rfl⟩) (gp_V (ci := 4) (q0 := 0) hK hN (hP.sub (ws' := (wTr cI cJ t q (tr_zero T) f1 f2 f3 f4)) [0, 1, 2, 3, 4, 5, 6, 7, 8] rfl) (hD.sub (ws' := (wTr cI cJ t q (tr_zero T) f1 f2 f3 f4)) [0, 1, 2, 3, 4, 5, 6, 7, 8] (by decide) rfl) rfl rfl) rfl rfl hl.1 rfl (lv_room (Nat.le_of_ble_eq_true rfl)) dT_begin_10 ⟨Nat.le_of_ble_eq_true rfl, Nat.le_of_ble_eq_true rfl⟩) hP hD hS hA [0, 1, 2, 3, 4, 5, 6, 7, 8] rfl (by decide) (fun r w h => by obtain ⟨_, rfl⟩ := h; rfl) (fun r10 w10 H locs p10 hP hD hS => ?_)
  obtain ⟨rfl, rfl⟩ := p10
  have hP : va_P D vwCl [(t, .inr (4, [.ref (q 0), .ref (q 1), .ref (q 2), .ref (q 3), .ref (q 4), .ref (q 5), .ref (q 6), .ref (q 7), .int (nI ((tr_add (tr_zero T) 0 0 0 0).2.2.2.2))])), ((q 0), .inl (cI, 64, .inl (fun z9 => nI (((tr_add (tr_zero T) 0 0 0 0).1) z9)))), ((q 1), .inl (cI, 64, .inl (fun z9 => nI (((tr_add (tr_zero T) 0 0 0 0).2.1) z9)))), ((q 2), .inl (cI, 64, .inl (fun z9 => nI (((tr_add (tr_zero T) 0 0 0 0).2.2.1) z9)))), ((q 3), .inl (cJ, 64, .inr (.inl ((tr_add (tr_zero T) 0 0 0 0).2.2.2.1)))), ((q 4), .inl (cJ, 64, .inr (.inl f1))), ((q 5), .inl (cJ, 64, .inr (.inl f2))), ((q 6), .inl (cJ, 64, .inr (.inl f3))), ((q 7), .inl (cJ, 64, .inr (.inl f4)))] H := hP
  have hD : va_D A [(t, .inr (4, [.ref (q 0), .ref (q 1), .ref (q 2), .ref (q 3), .ref (q 4), .ref (q 5), .ref (q 6), .ref (q 7), .int (nI ((tr_add (tr_zero T) 0 0 0 0).2.2.2.2))])), ((q 0), .inl (cI, 64, .inl (fun z9 => nI (((tr_add (tr_zero T) 0 0 0 0).1) z9)))), ((q 1), .inl (cI, 64, .inl (fun z9 => nI (((tr_add (tr_zero T) 0 0 0 0).2.1) z9)))), ((q 2), .inl (cI, 64, .inl (fun z9 => nI (((tr_add (tr_zero T) 0 0 0 0).2.2.1) z9)))), ((q 3), .inl (cJ, 64, .inr (.inl ((tr_add (tr_zero T) 0 0 0 0).2.2.2.1)))), ((q 4), .inl (cJ, 64, .inr (.inl f1))), ((q 5), .inl (cJ, 64, .inr (.inl f2))), ((q 6), .inl (cJ, 64, .inr (.inl f3))), ((q 7), .inl (cJ, 64, .inr (.inl f4)))] := hD
  refine lv_pop hx hb dT_begin_13 rfl ?_
  refine lv_aload_n hx hb dT_begin_14 rfl (lv_at hl 0 rfl) ?_
  refine lv_iconst (v := 0) hx hb dT_begin_15 (by decide) ?_
  refine lv_iconst (v := 0) hx hb dT_begin_16 (by decide) ?_
  refine lv_iconst (v := 0) hx hb dT_begin_17 (by decide) ?_
  refine lv_lload_n hx hb dT_begin_18 rfl (lv_at hl 1 rfl) ?_
  have z19 : (tr_add (tr_zero T) 0 0 0 0).2.2.2.2 ≤ 64 := tr_add_n z10
  refine gc_i (va_runV (As := [.int 0, .int 0, .int 0, .long x]) (rest := []) ⟨hx, hb, hml, hown, ht⟩ (c_T_add l D cI cJ cB cZ t q (tr_add (tr_zero T) 0 0 0 0) f1 f2 f3 f4 0 0 0 x (by omega) H.size) (cwV 4 ht (gw_V m_315 m_317 ms_8 m_4 m_318) rfl rfl rfl (by decide +kernel) ⟨Nat.le_of_ble_eq_true rfl, Nat.le_of_ble_eq_true rfl⟩) (gp_V (ci := 4) (q0 := 0) hK hN (hP.sub (ws' := (wTr cI cJ t q (tr_add (tr_zero T) 0 0 0 0) f1 f2 f3 f4)) [0, 1, 2, 3, 4, 5, 6, 7, 8] rfl) (hD.sub (ws' := (wTr cI cJ t q (tr_add (tr_zero T) 0 0 0 0) f1 f2 f3 f4)) [0, 1, 2, 3, 4, 5, 6, 7, 8] (by decide) rfl) rfl rfl) rfl rfl hl.1 rfl (lv_room (Nat.le_of_ble_eq_true rfl)) dT_begin_19 ⟨Nat.le_of_ble_eq_true rfl, Nat.le_of_ble_eq_true rfl⟩) hP hD hS hA [0, 1, 2, 3, 4, 5, 6, 7, 8] rfl (by decide) (fun r w h => by obtain ⟨_, rfl⟩ := h; rfl) (fun r19 w19 H locs p19 hP hD hS => ?_)
  obtain ⟨rfl, rfl⟩ := p19
  have hP : va_P D vwCl [(t, .inr (4, [.ref (q 0), .ref (q 1), .ref (q 2), .ref (q 3), .ref (q 4), .ref (q 5), .ref (q 6), .ref (q 7), .int (nI ((tr_add (tr_add (tr_zero T) 0 0 0 0) 0 0 0 x).2.2.2.2))])), ((q 0), .inl (cI, 64, .inl (fun z9 => nI (((tr_add (tr_add (tr_zero T) 0 0 0 0) 0 0 0 x).1) z9)))), ((q 1), .inl (cI, 64, .inl (fun z9 => nI (((tr_add (tr_add (tr_zero T) 0 0 0 0) 0 0 0 x).2.1) z9)))), ((q 2), .inl (cI, 64, .inl (fun z9 => nI (((tr_add (tr_add (tr_zero T) 0 0 0 0) 0 0 0 x).2.2.1) z9)))), ((q 3), .inl (cJ, 64, .inr (.inl ((tr_add (tr_add (tr_zero T) 0 0 0 0) 0 0 0 x).2.2.2.1)))), ((q 4), .inl (cJ, 64, .inr (.inl f1))), ((q 5), .inl (cJ, 64, .inr (.inl f2))), ((q 6), .inl (cJ, 64, .inr (.inl f3))), ((q 7), .inl (cJ, 64, .inr (.inl f4)))] H := hP
  have hD : va_D A [(t, .inr (4, [.ref (q 0), .ref (q 1), .ref (q 2), .ref (q 3), .ref (q 4), .ref (q 5), .ref (q 6), .ref (q 7), .int (nI ((tr_add (tr_add (tr_zero T) 0 0 0 0) 0 0 0 x).2.2.2.2))])), ((q 0), .inl (cI, 64, .inl (fun z9 => nI (((tr_add (tr_add (tr_zero T) 0 0 0 0) 0 0 0 x).1) z9)))), ((q 1), .inl (cI, 64, .inl (fun z9 => nI (((tr_add (tr_add (tr_zero T) 0 0 0 0) 0 0 0 x).2.1) z9)))), ((q 2), .inl (cI, 64, .inl (fun z9 => nI (((tr_add (tr_add (tr_zero T) 0 0 0 0) 0 0 0 x).2.2.1) z9)))), ((q 3), .inl (cJ, 64, .inr (.inl ((tr_add (tr_add (tr_zero T) 0 0 0 0) 0 0 0 x).2.2.2.1)))), ((q 4), .inl (cJ, 64, .inr (.inl f1))), ((q 5), .inl (cJ, 64, .inr (.inl f2))), ((q 6), .inl (cJ, 64, .inr (.inl f3))), ((q 7), .inl (cJ, 64, .inr (.inl f4)))] := hD
  refine lv_pop hx hb dT_begin_22 rfl ?_
  refine lv_aload_n hx hb dT_begin_23 rfl (lv_at hl 0 rfl) ?_
  refine lv_iconst (v := 0) hx hb dT_begin_24 (by decide) ?_
  refine lv_iconst (v := 0) hx hb dT_begin_25 (by decide) ?_
  refine lv_iconst (v := 0) hx hb dT_begin_26 (by decide) ?_
  refine lv_lload_n hx hb dT_begin_27 rfl (lv_at hl 2 rfl) ?_
  have z28 : (tr_add (tr_add (tr_zero T) 0 0 0 0) 0 0 0 x).2.2.2.2 ≤ 64 := tr_add_n z19
  refine gc_i (va_runV (As := [.int 0, .int 0, .int 0, .long y]) (rest := []) ⟨hx, hb, hml, hown, ht⟩ (c_T_add l D cI cJ cB cZ t q (tr_add (tr_add (tr_zero T) 0 0 0 0) 0 0 0 x) f1 f2 f3 f4 0 0 0 y (by omega) H.size) (cwV 4 ht (gw_V m_315 m_317 ms_8 m_4 m_318) rfl rfl rfl (by decide +kernel) ⟨Nat.le_of_ble_eq_true rfl, Nat.le_of_ble_eq_true rfl⟩) (gp_V (ci := 4) (q0 := 0) hK hN (hP.sub (ws' := (wTr cI cJ t q (tr_add (tr_add (tr_zero T) 0 0 0 0) 0 0 0 x) f1 f2 f3 f4)) [0, 1, 2, 3, 4, 5, 6, 7, 8] rfl) (hD.sub (ws' := (wTr cI cJ t q (tr_add (tr_add (tr_zero T) 0 0 0 0) 0 0 0 x) f1 f2 f3 f4)) [0, 1, 2, 3, 4, 5, 6, 7, 8] (by decide) rfl) rfl rfl) rfl rfl hl.1 rfl (lv_room (Nat.le_of_ble_eq_true rfl)) dT_begin_28 ⟨Nat.le_of_ble_eq_true rfl, Nat.le_of_ble_eq_true rfl⟩) hP hD hS hA [0, 1, 2, 3, 4, 5, 6, 7, 8] rfl (by decide) (fun r w h => by obtain ⟨_, rfl⟩ := h; rfl) (fun r28 w28 H locs p28 hP hD hS => ?_)
  obtain ⟨rfl, rfl⟩ := p28
  have hP : va_P D vwCl [(t, .inr (4, [.ref (q 0), .ref (q 1), .ref (q 2), .ref (q 3), .ref (q 4), .ref (q 5), .ref (q 6), .ref (q 7), .int (nI ((tr_add (tr_add (tr_add (tr_zero T) 0 0 0 0) 0 0 0 x) 0 0 0 y).2.2.2.2))])), ((q 0), .inl (cI, 64, .inl (fun z9 => nI (((tr_add (tr_add (tr_add (tr_zero T) 0 0 0 0) 0 0 0 x) 0 0 0 y).1) z9)))), ((q 1), .inl (cI, 64, .inl (fun z9 => nI (((tr_add (tr_add (tr_add (tr_zero T) 0 0 0 0) 0 0 0 x) 0 0 0 y).2.1) z9)))), ((q 2), .inl (cI, 64, .inl (fun z9 => nI (((tr_add (tr_add (tr_add (tr_zero T) 0 0 0 0) 0 0 0 x) 0 0 0 y).2.2.1) z9)))), ((q 3), .inl (cJ, 64, .inr (.inl ((tr_add (tr_add (tr_add (tr_zero T) 0 0 0 0) 0 0 0 x) 0 0 0 y).2.2.2.1)))), ((q 4), .inl (cJ, 64, .inr (.inl f1))), ((q 5), .inl (cJ, 64, .inr (.inl f2))), ((q 6), .inl (cJ, 64, .inr (.inl f3))), ((q 7), .inl (cJ, 64, .inr (.inl f4)))] H := hP
  have hD : va_D A [(t, .inr (4, [.ref (q 0), .ref (q 1), .ref (q 2), .ref (q 3), .ref (q 4), .ref (q 5), .ref (q 6), .ref (q 7), .int (nI ((tr_add (tr_add (tr_add (tr_zero T) 0 0 0 0) 0 0 0 x) 0 0 0 y).2.2.2.2))])), ((q 0), .inl (cI, 64, .inl (fun z9 => nI (((tr_add (tr_add (tr_add (tr_zero T) 0 0 0 0) 0 0 0 x) 0 0 0 y).1) z9)))), ((q 1), .inl (cI, 64, .inl (fun z9 => nI (((tr_add (tr_add (tr_add (tr_zero T) 0 0 0 0) 0 0 0 x) 0 0 0 y).2.1) z9)))), ((q 2), .inl (cI, 64, .inl (fun z9 => nI (((tr_add (tr_add (tr_add (tr_zero T) 0 0 0 0) 0 0 0 x) 0 0 0 y).2.2.1) z9)))), ((q 3), .inl (cJ, 64, .inr (.inl ((tr_add (tr_add (tr_add (tr_zero T) 0 0 0 0) 0 0 0 x) 0 0 0 y).2.2.2.1)))), ((q 4), .inl (cJ, 64, .inr (.inl f1))), ((q 5), .inl (cJ, 64, .inr (.inl f2))), ((q 6), .inl (cJ, 64, .inr (.inl f3))), ((q 7), .inl (cJ, 64, .inr (.inl f4)))] := hD
  refine lv_pop hx hb dT_begin_31 rfl ?_
  have hP : va_P D vwCl (wTr cI cJ t q (tr_beg T x y) f1 f2 f3 f4) _ := hP
  have hD : va_D A (wTr cI cJ t q (tr_beg T x y) f1 f2 f3 f4) := hD
  exact W.vret hx hb hr (fun t9 ht9 hW => ⟨⟨_, rfl, rfl, by rw [ht9]; exact hP, hD⟩, hS.F ht9⟩) hS.2.2 dT_begin_32

set_option maxHeartbeats 4000000 in
set_option maxRecDepth 100000 in
theorem c_T_power (l : Launch) (D : va_G) (cI cJ cB cZ : ClassId) (t : Nat) (q : Nat → Nat) (T : Tr) (f1 f2 f3 f4 : Nat → Int64) (a ex : Nat) (hn : T.2.2.2.2 ≤ 64) (ha : a < 64) (he : ex ≤ 3) : ct_I l y_T_power w_T_power ({ frames := 2, cells := 0, slots := 0, locals := 48 }) D (gk_T cI cJ cB cZ) [.ref t, .int (nI a), .int (nI ex)] (wTr cI cJ t q T f1 f2 f3 f4) (0) (0) (fun r w => r = nI (tr_power T a ex).2 ∧ w = wTr cI cJ t q ((tr_power T a ex).1) f1 f2 f3 f4) := by
  intro sz
  refine Met.ofW (cc := b_T_power) (maxL := 5) (ret := (some .int)) (by decide) rfl ?_
  intro p ev9 s m args below meth c s₁ B9 hml hv
  obtain ⟨rfl, hsz, hP, hK, hN, hD0⟩ := hv
  have hx := B9.exec
  have hb := B9.bytes
  have hr := B9.returns
  have hts := atoms_spec (ws := w_T_power) B9.pre
  have ht : ∀ w ∈ gk_big, w.before _ s = true := fun w h => hts w (List.mem_cons_of_mem _ h)
  have hown : s.vm.findClass R_T = some m.cls := findClass_of_methodNamed B9.named
  have hlocks := B9.notSynchronized
  subst hsz
  have hD := hD0.self (sz := s.heap.size)
  generalize hAe : va_A (wTr cI cJ t q T f1 f2 f3 f4) s.heap.size = A at hD ⊢
  have hA : ∀ q : Nat, s.heap.size ≤ q → A q := fun q h => by rw [← hAe]; exact Or.inr h
  generalize hHe : s.heap = H at hP ⊢
  have hS : va_S A s.heap H [] := by rw [← hHe]; exact va_S.rf
  have hP : va_P D vwCl [(t, .inr (4, [.ref (q 0), .ref (q 1), .ref (q 2), .ref (q 3), .ref (q 4), .ref (q 5), .ref (q 6), .ref (q 7), .int (nI T.2.2.2.2)])), ((q 0), .inl (cI, 64, .inl (fun z9 => nI (T.1 z9)))), ((q 1), .inl (cI, 64, .inl (fun z9 => nI (T.2.1 z9)))), ((q 2), .inl (cI, 64, .inl (fun z9 => nI (T.2.2.1 z9)))), ((q 3), .inl (cJ, 64, .inr (.inl T.2.2.2.1))), ((q 4), .inl (cJ, 64, .inr (.inl f1))), ((q 5), .inl (cJ, 64, .inr (.inl f2))), ((q 6), .inl (cJ, 64, .inr (.inl f3))), ((q 7), .inl (cJ, 64, .inr (.inl f4)))] H := hP
  have hD : va_D A [(t, .inr (4, [.ref (q 0), .ref (q 1), .ref (q 2), .ref (q 3), .ref (q 4), .ref (q 5), .ref (q 6), .ref (q 7), .int (nI T.2.2.2.2)])), ((q 0), .inl (cI, 64, .inl (fun z9 => nI (T.1 z9)))), ((q 1), .inl (cI, 64, .inl (fun z9 => nI (T.2.1 z9)))), ((q 2), .inl (cI, 64, .inl (fun z9 => nI (T.2.2.1 z9)))), ((q 3), .inl (cJ, 64, .inr (.inl T.2.2.2.1))), ((q 4), .inl (cJ, 64, .inr (.inl f1))), ((q 5), .inl (cJ, 64, .inr (.inl f2))), ((q 6), .inl (cJ, 64, .inr (.inl f3))), ((q 7), .inl (cJ, 64, .inr (.inl f4)))] := hD
  have hl := lv_entry ([.ref t, .int (nI a), .int (nI ex)]) (n := 5) (Nat.le_of_ble_eq_true rfl)
  rw [lg_entry_eq]
  generalize (lg_sl ([.ref t, .int (nI a), .int (nI ex)]) ++ List.replicate (5 - (lg_sl ([.ref t, .int (nI a), .int (nI ex)])).length) Slot.unset).toArray = ls at hl ⊢
  have hl : lv_has ls 5 [(0, .ref t), (1, .int (nI a)), (2, .int (nI ex))] := hl
  refine lv_iload_n hx hb dT_power_0 rfl (lv_at hl 2 rfl) ?_
  refine lv_if_ne (tgt := 10) hx hb dT_power_1 (by decide) (fun c1 => ?_) (fun c1 => ?_)
  · have g1 : ¬ (ex = 0) := fun z => c1 ((gx_eq (rfl : (nI ex) = (nI ex)) (rfl : (0 : Int32) = nI 0) (by omega) (by decide)).mpr z)
    refine lv_iload_n hx hb dT_power_10 rfl (lv_at hl 1 rfl) ?_
    refine lv_istore_n (lv' := [(3, .int (nI a)), (0, .ref t), (1, .int (nI a)), (2, .int (nI ex))]) hx hb dT_power_11 rfl hl (by decide) rfl (fun ls hl => ?_)
    refine lv_iconst (v := 1) hx hb dT_power_12 (by decide) ?_
    refine lv_istore (lv' := [(4, .int 1), (3, .int (nI a)), (0, .ref t), (1, .int (nI a)), (2, .int (nI ex))]) hx hb dT_power_13 hl (by decide) rfl (fun ls hl => ?_)
    have lp15 : ∀ (n15 : Nat) (k : Nat), ex - k + 1 ≤ n15 → (k + 1 ≤ ex) → ∀ (H : Heap) (locs : List Loc) (ls : Array Slot), va_P D vwCl [(t, .inr (4, [.ref (q 0), .ref (q 1), .ref (q 2), .ref (q 3), .ref (q 4), .ref (q 5), .ref (q 6), .ref (q 7), .int (nI (((tr_pw T a k).1).2.2.2.2))])), ((q 0), .inl (cI, 64, .inl (fun z9 => nI ((((tr_pw T a k).1).1) z9)))), ((q 1), .inl (cI, 64, .inl (fun z9 => nI ((((tr_pw T a k).1).2.1) z9)))), ((q 2), .inl (cI, 64, .inl (fun z9 => nI ((((tr_pw T a k).1).2.2.1) z9)))), ((q 3), .inl (cJ, 64, .inr (.inl (((tr_pw T a k).1).2.2.2.1)))), ((q 4), .inl (cJ, 64, .inr (.inl f1))), ((q 5), .inl (cJ, 64, .inr (.inl f2))), ((q 6), .inl (cJ, 64, .inr (.inl f3))), ((q 7), .inl (cJ, 64, .inr (.inl f4)))] H → va_D A [(t, .inr (4, [.ref (q 0), .ref (q 1), .ref (q 2), .ref (q 3), .ref (q 4), .ref (q 5), .ref (q 6), .ref (q 7), .int (nI (((tr_pw T a k).1).2.2.2.2))])), ((q 0), .inl (cI, 64, .inl (fun z9 => nI ((((tr_pw T a k).1).1) z9)))), ((q 1), .inl (cI, 64, .inl (fun z9 => nI ((((tr_pw T a k).1).2.1) z9)))), ((q 2), .inl (cI, 64, .inl (fun z9 => nI ((((tr_pw T a k).1).2.2.1) z9)))), ((q 3), .inl (cJ, 64, .inr (.inl (((tr_pw T a k).1).2.2.2.1)))), ((q 4), .inl (cJ, 64, .inr (.inl f1))), ((q 5), .inl (cJ, 64, .inr (.inl f2))), ((q 6), .inl (cJ, 64, .inr (.inl f3))), ((q 7), .inl (cJ, 64, .inr (.inl f4)))] → va_S A s.heap H locs → lv_has ls 5 [(3, .int (nI ((tr_pw T a k).2))), (4, .int (nI (k + 1))), (0, .ref t), (1, .int (nI a)), (2, .int (nI ex))] → W p l ev9 (headSpec w_T_power ({ frames := 2, cells := 0, slots := 0, locals := 48 })).room s m ([.ref t, .int (nI a), .int (nI ex)] : List Value).toArray below meth c H locs 0 0 (MQ below (gq_I D A (fun r w => r = nI (tr_power T a ex).2 ∧ w = wTr cI cJ t q ((tr_power T a ex).1) f1 f2 f3 f4)) ([.ref t, .int (nI a), .int (nI ex)] : List Value).toArray s (0) (0) A) (F0 m 15 ls []) := by
      intro n15
      induction n15 with
      | zero =>
        intro k hm15
        exact absurd hm15 (by omega)
      | succ n15 ih15 =>
        intro k hm15 hk H locs ls hP hD hS hl
        have z1 := tr_pw_n T a k hn
        have z2 := tr_pw_lt T a k ha
        refine lv_iload hx hb dT_power_15 (lv_at hl 1 rfl) ?_
        refine lv_iload_n hx hb dT_power_17 rfl (lv_at hl 4 rfl) ?_
        refine lv_icmp_ge (tgt := 34) hx hb dT_power_18 (by decide) (fun c18 => ?_) (fun c18 => ?_)
        · have g18 : ex ≤ (k + 1) := (gx_le (rfl : (nI ex) = (nI ex)) (rfl : (nI (k + 1)) = (nI (k + 1))) (by omega) (by omega)).mp c18
          refine lv_iload_n hx hb dT_power_34 rfl (lv_at hl 0 rfl) ?_
          have zk : k = ex - 1 := by omega
          subst zk
          have hz : tr_power T a ex = tr_pw T a (ex - 1) := if_neg g1
          have hP : va_P D vwCl (wTr cI cJ t q ((tr_pw T a (ex - 1)).1) f1 f2 f3 f4) _ := hP
          have hD : va_D A (wTr cI cJ t q ((tr_pw T a (ex - 1)).1) f1 f2 f3 f4) := hD
          exact W.iret (v := (nI ((tr_pw T a (ex - 1)).2))) hx hb hr (fun t9 ht9 hW => ⟨⟨(nI ((tr_pw T a (ex - 1)).2)), _, rfl, ⟨by rw [hz], by rw [hz]⟩, by rw [ht9]; exact hP, hD⟩, hS.F ht9⟩) hS.2.2 dT_power_35
        · have g18 : ¬ (ex ≤ (k + 1)) := fun z => c18 ((gx_le (rfl : (nI ex) = (nI ex)) (rfl : (nI (k + 1)) = (nI (k + 1))) (by omega) (by omega)).mpr z)
          refine lv_aload_n hx hb dT_power_21 rfl (lv_at hl 2 rfl) ?_
          refine lv_iload_n hx hb dT_power_22 rfl (lv_at hl 0 rfl) ?_
          refine lv_iload_n hx hb dT_power_23 rfl (lv_at hl 3 rfl) ?_
          refine gc_i (va_runV (As := [.int (nI ((tr_pw T a k).2)), .int (nI a)]) (rest := []) ⟨hx, hb, hml, hown, ht⟩ (c_T_product l D cI cJ cB cZ t q ((tr_pw T a k).1) f1 f2 f3 f4 ((tr_pw T a k).2) a (by omega) (by omega) (by omega) H.size) (cwV 2 ht (gw_V m_352 m_353 m_354 m_4 m_355) rfl rfl rfl (by decide +kernel) ⟨Nat.le_of_ble_eq_true rfl, Nat.le_of_ble_eq_true rfl⟩) (gp_V (ci := 4) (q0 := 0) hK hN (hP.sub (ws' := (wTr cI cJ t q ((tr_pw T a k).1) f1 f2 f3 f4)) [0, 1, 2, 3, 4, 5, 6, 7, 8] rfl) (hD.sub (ws' := (wTr cI cJ t q ((tr_pw T a k).1) f1 f2 f3 f4)) [0, 1, 2, 3, 4, 5, 6, 7, 8] (by decide) rfl) rfl rfl) rfl rfl hl.1 rfl (lv_room (Nat.le_of_ble_eq_true rfl)) dT_power_24 ⟨Nat.le_of_ble_eq_true rfl, Nat.le_of_ble_eq_true rfl⟩) hP hD hS hA [0, 1, 2, 3, 4, 5, 6, 7, 8] rfl (by decide) (fun r w h => by obtain ⟨_, rfl⟩ := h; rfl) (fun r24 w24 H locs p24 hP hD hS => ?_)
          obtain ⟨rfl, rfl⟩ := p24
          have hP : va_P D vwCl [(t, .inr (4, [.ref (q 0), .ref (q 1), .ref (q 2), .ref (q 3), .ref (q 4), .ref (q 5), .ref (q 6), .ref (q 7), .int (nI ((tr_mul ((tr_pw T a k).1) ((tr_pw T a k).2) a).2.2.2.2))])), ((q 0), .inl (cI, 64, .inl (fun z9 => nI (((tr_mul ((tr_pw T a k).1) ((tr_pw T a k).2) a).1) z9)))), ((q 1), .inl (cI, 64, .inl (fun z9 => nI (((tr_mul ((tr_pw T a k).1) ((tr_pw T a k).2) a).2.1) z9)))), ((q 2), .inl (cI, 64, .inl (fun z9 => nI (((tr_mul ((tr_pw T a k).1) ((tr_pw T a k).2) a).2.2.1) z9)))), ((q 3), .inl (cJ, 64, .inr (.inl ((tr_mul ((tr_pw T a k).1) ((tr_pw T a k).2) a).2.2.2.1)))), ((q 4), .inl (cJ, 64, .inr (.inl f1))), ((q 5), .inl (cJ, 64, .inr (.inl f2))), ((q 6), .inl (cJ, 64, .inr (.inl f3))), ((q 7), .inl (cJ, 64, .inr (.inl f4)))] H := hP
          have hD : va_D A [(t, .inr (4, [.ref (q 0), .ref (q 1), .ref (q 2), .ref (q 3), .ref (q 4), .ref (q 5), .ref (q 6), .ref (q 7), .int (nI ((tr_mul ((tr_pw T a k).1) ((tr_pw T a k).2) a).2.2.2.2))])), ((q 0), .inl (cI, 64, .inl (fun z9 => nI (((tr_mul ((tr_pw T a k).1) ((tr_pw T a k).2) a).1) z9)))), ((q 1), .inl (cI, 64, .inl (fun z9 => nI (((tr_mul ((tr_pw T a k).1) ((tr_pw T a k).2) a).2.1) z9)))), ((q 2), .inl (cI, 64, .inl (fun z9 => nI (((tr_mul ((tr_pw T a k).1) ((tr_pw T a k).2) a).2.2.1) z9)))), ((q 3), .inl (cJ, 64, .inr (.inl ((tr_mul ((tr_pw T a k).1) ((tr_pw T a k).2) a).2.2.2.1)))), ((q 4), .inl (cJ, 64, .inr (.inl f1))), ((q 5), .inl (cJ, 64, .inr (.inl f2))), ((q 6), .inl (cJ, 64, .inr (.inl f3))), ((q 7), .inl (cJ, 64, .inr (.inl f4)))] := hD
          refine lv_istore_n (lv' := [(3, .int (nI (tr_ix ((tr_pw T a k).1)))), (4, .int (nI (k + 1))), (0, .ref t), (1, .int (nI a)), (2, .int (nI ex))]) hx hb dT_power_27 rfl hl (by decide) rfl (fun ls hl => ?_)
          refine lv_iinc (v := (nI ((k + 1) + 1))) (lv' := [(4, .int (nI ((k + 1) + 1))), (3, .int (nI (tr_ix ((tr_pw T a k).1)))), (0, .ref t), (1, .int (nI a)), (2, .int (nI ex))]) hx hb dT_power_28 hl (k := 1) rfl (gx_inc (rfl : (nI (k + 1)) = (nI (k + 1)))) (by decide) rfl (fun ls hl => ?_)
          refine lv_goto (tgt := 15) hx hb dT_power_31 (by decide) ?_
          exact ih15 (k + 1) (by omega) (by omega) _ _ _ hP hD hS (lv_sub hl [1, 0, 2, 3, 4] rfl)
    exact lp15 (ex - (0) + 1) 0 (by omega) (by omega) _ _ _ hP hD hS (lv_sub hl [1, 0, 2, 3, 4] rfl)
  · have g1 : ex = 0 := (gx_eq (rfl : (nI ex) = (nI ex)) (rfl : (0 : Int32) = nI 0) (by omega) (by decide)).mp c1
    refine lv_aload_n hx hb dT_power_4 rfl (lv_at hl 0 rfl) ?_
    refine lv_lconst (v := 1) hx hb dT_power_5 (by decide) ?_
    refine gc_i (va_runV (As := [.long 1]) (rest := []) ⟨hx, hb, hml, hown, ht⟩ (c_T_constant l D cI cJ cB cZ t q T f1 f2 f3 f4 1 (by omega) H.size) (cwV 1 ht (gw_V m_351 m_344 m_345 m_4 m_346) rfl rfl rfl (by decide +kernel) ⟨Nat.le_of_ble_eq_true rfl, Nat.le_of_ble_eq_true rfl⟩) (gp_V (ci := 4) (q0 := 0) hK hN (hP.sub (ws' := (wTr cI cJ t q T f1 f2 f3 f4)) [0, 1, 2, 3, 4, 5, 6, 7, 8] rfl) (hD.sub (ws' := (wTr cI cJ t q T f1 f2 f3 f4)) [0, 1, 2, 3, 4, 5, 6, 7, 8] (by decide) rfl) rfl rfl) rfl rfl hl.1 rfl (lv_room (Nat.le_of_ble_eq_true rfl)) dT_power_6 ⟨Nat.le_of_ble_eq_true rfl, Nat.le_of_ble_eq_true rfl⟩) hP hD hS hA [0, 1, 2, 3, 4, 5, 6, 7, 8] rfl (by decide) (fun r w h => by obtain ⟨_, rfl⟩ := h; rfl) (fun r6 w6 H locs p6 hP hD hS => ?_)
    obtain ⟨rfl, rfl⟩ := p6
    have hP : va_P D vwCl [(t, .inr (4, [.ref (q 0), .ref (q 1), .ref (q 2), .ref (q 3), .ref (q 4), .ref (q 5), .ref (q 6), .ref (q 7), .int (nI ((tr_add T 0 0 0 1).2.2.2.2))])), ((q 0), .inl (cI, 64, .inl (fun z9 => nI (((tr_add T 0 0 0 1).1) z9)))), ((q 1), .inl (cI, 64, .inl (fun z9 => nI (((tr_add T 0 0 0 1).2.1) z9)))), ((q 2), .inl (cI, 64, .inl (fun z9 => nI (((tr_add T 0 0 0 1).2.2.1) z9)))), ((q 3), .inl (cJ, 64, .inr (.inl ((tr_add T 0 0 0 1).2.2.2.1)))), ((q 4), .inl (cJ, 64, .inr (.inl f1))), ((q 5), .inl (cJ, 64, .inr (.inl f2))), ((q 6), .inl (cJ, 64, .inr (.inl f3))), ((q 7), .inl (cJ, 64, .inr (.inl f4)))] H := hP
    have hD : va_D A [(t, .inr (4, [.ref (q 0), .ref (q 1), .ref (q 2), .ref (q 3), .ref (q 4), .ref (q 5), .ref (q 6), .ref (q 7), .int (nI ((tr_add T 0 0 0 1).2.2.2.2))])), ((q 0), .inl (cI, 64, .inl (fun z9 => nI (((tr_add T 0 0 0 1).1) z9)))), ((q 1), .inl (cI, 64, .inl (fun z9 => nI (((tr_add T 0 0 0 1).2.1) z9)))), ((q 2), .inl (cI, 64, .inl (fun z9 => nI (((tr_add T 0 0 0 1).2.2.1) z9)))), ((q 3), .inl (cJ, 64, .inr (.inl ((tr_add T 0 0 0 1).2.2.2.1)))), ((q 4), .inl (cJ, 64, .inr (.inl f1))), ((q 5), .inl (cJ, 64, .inr (.inl f2))), ((q 6), .inl (cJ, 64, .inr (.inl f3))), ((q 7), .inl (cJ, 64, .inr (.inl f4)))] := hD
    have hz : tr_power T a ex = (tr_add T 0 0 0 1, tr_ix T) := if_pos g1
    exact W.iret (v := (nI (tr_ix T))) hx hb hr (fun t9 ht9 hW => ⟨⟨(nI (tr_ix T)), _, rfl, ⟨by rw [hz], by rw [hz]⟩, by rw [ht9]; exact hP, hD⟩, hS.F ht9⟩) hS.2.2 dT_power_9

