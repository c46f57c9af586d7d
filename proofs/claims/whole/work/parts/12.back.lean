/-- one step back: the share of step i goes to its parts -/
def tr_b1 (T : Tr) (i : Nat) (h : Nat → Int64) : Nat → Int64 :=
  if T.1 i = 1 then vp_updL (vp_updL h (T.2.1 i) (h (T.2.1 i) + h i)) (T.2.2.1 i) (vp_updL h (T.2.1 i) (h (T.2.1 i) + h i) (T.2.2.1 i) + vp_updL h (T.2.1 i) (h (T.2.1 i) + h i) i)
  else if T.1 i = 2 then vp_updL (vp_updL h (T.2.1 i) (h (T.2.1 i) + h i)) (T.2.2.1 i) (vp_updL h (T.2.1 i) (h (T.2.1 i) + h i) (T.2.2.1 i) - vp_updL h (T.2.1 i) (h (T.2.1 i) + h i) i)
  else if T.1 i = 3 then vp_updL (vp_updL h (T.2.1 i) (h (T.2.1 i) + h i * T.2.2.2.1 (T.2.2.1 i))) (T.2.2.1 i) (vp_updL h (T.2.1 i) (h (T.2.1 i) + h i * T.2.2.2.1 (T.2.2.1 i)) (T.2.2.1 i) + vp_updL h (T.2.1 i) (h (T.2.1 i) + h i * T.2.2.2.1 (T.2.2.1 i)) i * T.2.2.2.1 (T.2.1 i))
  else h
/-- the steps j - 1 .. 0 back -/
def tr_bk (T : Tr) : Nat → (Nat → Int64) → (Nat → Int64)
  | 0, h => h
  | j + 1, h => tr_bk T j (tr_b1 T j h)
theorem gx_m1 (x : Int32) : x + Int32.ofInt (-1) = x - 1 := (Int32.sub_eq_add_neg x 1).symm
theorem gx_lt0 {j : Nat} (h : j < 2 ^ 30) : nI j - 1 < 0 ↔ j = 0 := by
  rw [Int32.lt_iff_toInt_lt, show (nI j - 1).toInt = (j : Int) - 1 from pk_sub_toInt (b := 1) h (by decide)]
  show ((j : Int) - 1 < 0) ↔ j = 0
  omega
set_option maxHeartbeats 4000000 in
set_option maxRecDepth 100000 in
theorem c_T_slopeOfSlope (l : Launch) (D : va_G) (cI cJ cB cZ : ClassId) (t : Nat) (q : Nat → Nat) (T : Tr) (f1 f2 f3 f4 : Nat → Int64) (a b d : Nat) (hT : tr_ok T) (ha : a < 64) (hb9 : b < 2) (hd9 : d < 2) : ct_L l y_T_slopeOfSlope w_T_slopeOfSlope ({ frames := 2, cells := 0, slots := 0, locals := 47 }) D (gk_T cI cJ cB cZ) [.ref t, .int (nI a), .int (nI b), .int (nI d)] (wTr cI cJ t q T f1 f2 f3 f4) (0) (0) (fun r w => r = (tr_mx T (tr_sl T b f1 T.2.2.2.2) (tr_sl T d f2 T.2.2.2.2) f3 T.2.2.2.2) a ∧ w = wTr cI cJ t q T (tr_sl T b f1 T.2.2.2.2) (tr_sl T d f2 T.2.2.2.2) (tr_mx T (tr_sl T b f1 T.2.2.2.2) (tr_sl T d f2 T.2.2.2.2) f3 T.2.2.2.2) f4) := by
  intro sz
  refine Met.ofW (cc := b_T_slopeOfSlope) (maxL := 5) (ret := (some .long)) (by decide) rfl ?_
  intro p ev9 s m args below meth c s₁ B9 hml hv
  obtain ⟨rfl, hsz, hP, hK, hN, hD0⟩ := hv
  have hx := B9.exec
  have hb := B9.bytes
  have hr := B9.returns
  have hts := atoms_spec (ws := w_T_slopeOfSlope) B9.pre
  have ht : ∀ w ∈ gk_big, w.before _ s = true := fun w h => hts w (List.mem_cons_of_mem _ h)
  have hown : s.vm.findClass R_T = some m.cls := findClass_of_methodNamed B9.named
  have hlocks := B9.notSynchronized
  subst hsz
  have hD := hD0.self (sz := s.heap.size)
  generalize hAe : va_A (wTr cI cJ t q T f1 f2 f3 f4) s.heap.size = A at hD ⊢
  have hA : ∀ q : Nat, s.heap.size ≤ q → A q := fun q h => by rw [← hAe]; exact Or.inr h
  generalize hHe : s.heap = H at hP ⊢
  have hS : va_S A s.heap H [] := by rw [← hHe]; exact va_S.rf
  have hP : va_P D vwCl [(t, .inr (4, [.ref (q 0), .ref (q 1), .ref (q 2), .ref (q 3), .ref (q 4), .ref (q 5), .ref (q 6), .ref (q 7), .int (nI T.2.2.2.2)])), ((q 0), .inl (cI, 64, .inl (fun z9 => nI (T.1 z9)))), ((q 1), .inl (cI, 64, .inl (fun z9 => nI (T.2.1 z9)))), ((q 2), .inl (cI, 64, .inl (fun z9 => nI (T.2.2.1 z9)))), ((q 3), .inl (cJ, 64, .inr (.inl T.2.2.2.1))), ((q 4), .inl (cJ, 64, .inr (.inl f1))), ((q 5), .inl (cJ, 64, .inr (.inl f2))), ((q 6), .inl (cJ, 64, .inr (.inl f3))), ((q 7), .inl (cJ, 64, .inr (.inl f4)))] H := hP
  have hD : va_D A [(t, .inr (4, [.ref (q 0), .ref (q 1), .ref (q 2), .ref (q 3), .ref (q 4), .ref (q 5), .ref (q 6), .ref (q 7), .int (nI T.2.2.2.2)])), ((q 0), .inl (cI, 64, .inl (fun z9 => nI (T.1 z9)))), ((q 1), .inl (cI, 64, .inl (fun z9 => nI (T.2.1 z9)))), ((q 2), .inl (cI, 64, .inl (fun z9 => nI (T.2.2.1 z9)))), ((q 3), .inl (cJ, 64, .inr (.inl T.2.2.2.1))), ((q 4), .inl (cJ, 64, .inr (.inl f1))), ((q 5), .inl (cJ, 64, .inr (.inl f2))), ((q 6), .inl (cJ, 64, .inr (.inl f3))), ((q 7), .inl (cJ, 64, .inr (.inl f4)))] := hD
  have hl := lv_entry ([.ref t, .int (nI a), .int (nI b), .int (nI d)]) (n := 5) (Nat.le_of_ble_eq_true rfl)
  rw [lg_entry_eq]
  generalize (lg_sl ([.ref t, .int (nI a), .int (nI b), .int (nI d)]) ++ List.replicate (5 - (lg_sl ([.ref t, .int (nI a), .int (nI b), .int (nI d)])).length) Slot.unset).toArray = ls at hl ⊢
  have hl : lv_has ls 5 [(0, .ref t), (1, .int (nI a)), (2, .int (nI b)), (3, .int (nI d))] := hl
  have hn64 := hT.1
  refine lv_aload_n hx hb dT_slopeOfSlope_0 rfl (lv_at hl 0 rfl) ?_
  refine lv_aload_n hx hb dT_slopeOfSlope_1 rfl (lv_at hl 0 rfl) ?_
  refine va_get (D := D) (ci := 4) (v := .ref (q 4)) (C := R_T) (T := F_T) (N := 9) hx hb ht i_T hown hK hP 0 rfl rfl 4 (by decide) (ht _ m_66) (fun _ h9 => h9) rfl dT_slopeOfSlope_2 ?_
  refine lv_iload_n hx hb dT_slopeOfSlope_5 rfl (lv_at hl 2 rfl) ?_
  refine gc_v (va_runV (As := [.ref (q 4), .int (nI b)]) (rest := []) ⟨hx, hb, hml, hown, ht⟩ (c_T_workOutSlopes_4 l D cI cJ cB cZ t q T f1 f2 f3 f4 b hT (by omega) H.size) (cwV 2 ht (gw_V m_397 m_399 ms_16 m_4 m_400) rfl rfl rfl (by decide +kernel) ⟨Nat.le_of_ble_eq_true rfl, Nat.le_of_ble_eq_true rfl⟩) (gp_V (ci := 4) (q0 := 0) hK hN (hP.sub (ws' := (wTr cI cJ t q T f1 f2 f3 f4)) [0, 1, 2, 3, 4, 5, 6, 7, 8] rfl) (hD.sub (ws' := (wTr cI cJ t q T f1 f2 f3 f4)) [0, 1, 2, 3, 4, 5, 6, 7, 8] (by decide) rfl) rfl rfl) rfl rfl hl.1 rfl (lv_room (Nat.le_of_ble_eq_true rfl)) dT_slopeOfSlope_6 ⟨Nat.le_of_ble_eq_true rfl, Nat.le_of_ble_eq_true rfl⟩) hP hD hS hA [0, 1, 2, 3, 4, 5, 6, 7, 8] rfl (by decide) (fun w h => by subst h; rfl) (fun w6 H locs p6 hP hD hS => ?_)
  subst p6
  have hP : va_P D vwCl [(t, .inr (4, [.ref (q 0), .ref (q 1), .ref (q 2), .ref (q 3), .ref (q 4), .ref (q 5), .ref (q 6), .ref (q 7), .int (nI T.2.2.2.2)])), ((q 0), .inl (cI, 64, .inl (fun z9 => nI (T.1 z9)))), ((q 1), .inl (cI, 64, .inl (fun z9 => nI (T.2.1 z9)))), ((q 2), .inl (cI, 64, .inl (fun z9 => nI (T.2.2.1 z9)))), ((q 3), .inl (cJ, 64, .inr (.inl T.2.2.2.1))), ((q 4), .inl (cJ, 64, .inr (.inl (tr_sl T b f1 T.2.2.2.2)))), ((q 5), .inl (cJ, 64, .inr (.inl f2))), ((q 6), .inl (cJ, 64, .inr (.inl f3))), ((q 7), .inl (cJ, 64, .inr (.inl f4)))] H := hP
  have hD : va_D A [(t, .inr (4, [.ref (q 0), .ref (q 1), .ref (q 2), .ref (q 3), .ref (q 4), .ref (q 5), .ref (q 6), .ref (q 7), .int (nI T.2.2.2.2)])), ((q 0), .inl (cI, 64, .inl (fun z9 => nI (T.1 z9)))), ((q 1), .inl (cI, 64, .inl (fun z9 => nI (T.2.1 z9)))), ((q 2), .inl (cI, 64, .inl (fun z9 => nI (T.2.2.1 z9)))), ((q 3), .inl (cJ, 64, .inr (.inl T.2.2.2.1))), ((q 4), .inl (cJ, 64, .inr (.inl (tr_sl T b f1 T.2.2.2.2)))), ((q 5), .inl (cJ, 64, .inr (.inl f2))), ((q 6), .inl (cJ, 64, .inr (.inl f3))), ((q 7), .inl (cJ, 64, .inr (.inl f4)))] := hD
  refine lv_aload_n hx hb dT_slopeOfSlope_9 rfl (lv_at hl 0 rfl) ?_
  refine lv_aload_n hx hb dT_slopeOfSlope_10 rfl (lv_at hl 0 rfl) ?_
  refine va_get (D := D) (ci := 4) (v := .ref (q 5)) (C := R_T) (T := F_T) (N := 9) hx hb ht i_T hown hK hP 0 rfl rfl 5 (by decide) (ht _ m_67) (fun _ h9 => h9) rfl dT_slopeOfSlope_11 ?_
  refine lv_iload_n hx hb dT_slopeOfSlope_14 rfl (lv_at hl 3 rfl) ?_
  refine gc_v (va_runV (As := [.ref (q 5), .int (nI d)]) (rest := []) ⟨hx, hb, hml, hown, ht⟩ (c_T_workOutSlopes_5 l D cI cJ cB cZ t q T (tr_sl T b f1 T.2.2.2.2) f2 f3 f4 d hT (by omega) H.size) (cwV 2 ht (gw_V m_397 m_399 ms_16 m_4 m_400) rfl rfl rfl (by decide +kernel) ⟨Nat.le_of_ble_eq_true rfl, Nat.le_of_ble_eq_true rfl⟩) (gp_V (ci := 4) (q0 := 0) hK hN (hP.sub (ws' := (wTr cI cJ t q T (tr_sl T b f1 T.2.2.2.2) f2 f3 f4)) [0, 1, 2, 3, 4, 5, 6, 7, 8] rfl) (hD.sub (ws' := (wTr cI cJ t q T (tr_sl T b f1 T.2.2.2.2) f2 f3 f4)) [0, 1, 2, 3, 4, 5, 6, 7, 8] (by decide) rfl) rfl rfl) rfl rfl hl.1 rfl (lv_room (Nat.le_of_ble_eq_true rfl)) dT_slopeOfSlope_15 ⟨Nat.le_of_ble_eq_true rfl, Nat.le_of_ble_eq_true rfl⟩) hP hD hS hA [0, 1, 2, 3, 4, 5, 6, 7, 8] rfl (by decide) (fun w h => by subst h; rfl) (fun w15 H locs p15 hP hD hS => ?_)
  subst p15
  have hP : va_P D vwCl [(t, .inr (4, [.ref (q 0), .ref (q 1), .ref (q 2), .ref (q 3), .ref (q 4), .ref (q 5), .ref (q 6), .ref (q 7), .int (nI T.2.2.2.2)])), ((q 0), .inl (cI, 64, .inl (fun z9 => nI (T.1 z9)))), ((q 1), .inl (cI, 64, .inl (fun z9 => nI (T.2.1 z9)))), ((q 2), .inl (cI, 64, .inl (fun z9 => nI (T.2.2.1 z9)))), ((q 3), .inl (cJ, 64, .inr (.inl T.2.2.2.1))), ((q 4), .inl (cJ, 64, .inr (.inl (tr_sl T b f1 T.2.2.2.2)))), ((q 5), .inl (cJ, 64, .inr (.inl (tr_sl T d f2 T.2.2.2.2)))), ((q 6), .inl (cJ, 64, .inr (.inl f3))), ((q 7), .inl (cJ, 64, .inr (.inl f4)))] H := hP
  have hD : va_D A [(t, .inr (4, [.ref (q 0), .ref (q 1), .ref (q 2), .ref (q 3), .ref (q 4), .ref (q 5), .ref (q 6), .ref (q 7), .int (nI T.2.2.2.2)])), ((q 0), .inl (cI, 64, .inl (fun z9 => nI (T.1 z9)))), ((q 1), .inl (cI, 64, .inl (fun z9 => nI (T.2.1 z9)))), ((q 2), .inl (cI, 64, .inl (fun z9 => nI (T.2.2.1 z9)))), ((q 3), .inl (cJ, 64, .inr (.inl T.2.2.2.1))), ((q 4), .inl (cJ, 64, .inr (.inl (tr_sl T b f1 T.2.2.2.2)))), ((q 5), .inl (cJ, 64, .inr (.inl (tr_sl T d f2 T.2.2.2.2)))), ((q 6), .inl (cJ, 64, .inr (.inl f3))), ((q 7), .inl (cJ, 64, .inr (.inl f4)))] := hD
  refine lv_iconst (v := 0) hx hb dT_slopeOfSlope_18 (by decide) ?_
  refine lv_istore (lv' := [(4, .int 0), (0, .ref t), (1, .int (nI a)), (2, .int (nI b)), (3, .int (nI d))]) hx hb dT_slopeOfSlope_19 hl (by decide) rfl (fun ls hl => ?_)
  have lp21 : ∀ (n21 : Nat) (i : Nat), T.2.2.2.2 - i + 1 ≤ n21 → (i ≤ T.2.2.2.2) → ∀ (H : Heap) (locs : List Loc) (ls : Array Slot), va_P D vwCl [(t, .inr (4, [.ref (q 0), .ref (q 1), .ref (q 2), .ref (q 3), .ref (q 4), .ref (q 5), .ref (q 6), .ref (q 7), .int (nI T.2.2.2.2)])), ((q 0), .inl (cI, 64, .inl (fun z9 => nI (T.1 z9)))), ((q 1), .inl (cI, 64, .inl (fun z9 => nI (T.2.1 z9)))), ((q 2), .inl (cI, 64, .inl (fun z9 => nI (T.2.2.1 z9)))), ((q 3), .inl (cJ, 64, .inr (.inl T.2.2.2.1))), ((q 4), .inl (cJ, 64, .inr (.inl (tr_sl T b f1 T.2.2.2.2)))), ((q 5), .inl (cJ, 64, .inr (.inl (tr_sl T d f2 T.2.2.2.2)))), ((q 6), .inl (cJ, 64, .inr (.inl (tr_mx T (tr_sl T b f1 T.2.2.2.2) (tr_sl T d f2 T.2.2.2.2) f3 i)))), ((q 7), .inl (cJ, 64, .inr (.inl f4)))] H → va_D A [(t, .inr (4, [.ref (q 0), .ref (q 1), .ref (q 2), .ref (q 3), .ref (q 4), .ref (q 5), .ref (q 6), .ref (q 7), .int (nI T.2.2.2.2)])), ((q 0), .inl (cI, 64, .inl (fun z9 => nI (T.1 z9)))), ((q 1), .inl (cI, 64, .inl (fun z9 => nI (T.2.1 z9)))), ((q 2), .inl (cI, 64, .inl (fun z9 => nI (T.2.2.1 z9)))), ((q 3), .inl (cJ, 64, .inr (.inl T.2.2.2.1))), ((q 4), .inl (cJ, 64, .inr (.inl (tr_sl T b f1 T.2.2.2.2)))), ((q 5), .inl (cJ, 64, .inr (.inl (tr_sl T d f2 T.2.2.2.2)))), ((q 6), .inl (cJ, 64, .inr (.inl (tr_mx T (tr_sl T b f1 T.2.2.2.2) (tr_sl T d f2 T.2.2.2.2) f3 i)))), ((q 7), .inl (cJ, 64, .inr (.inl f4)))] → va_S A s.heap H locs → lv_has ls 5 [(4, .int (nI i)), (0, .ref t), (1, .int (nI a)), (2, .int (nI b)), (3, .int (nI d))] → W p l ev9 (headSpec w_T_slopeOfSlope ({ frames := 2, cells := 0, slots := 0, locals := 47 })).room s m ([.ref t, .int (nI a), .int (nI b), .int (nI d)] : List Value).toArray below meth c H locs 0 0 (MQ below (gq_L D A (fun r w => r = (tr_mx T (tr_sl T b f1 T.2.2.2.2) (tr_sl T d f2 T.2.2.2.2) f3 T.2.2.2.2) a ∧ w = wTr cI cJ t q T (tr_sl T b f1 T.2.2.2.2) (tr_sl T d f2 T.2.2.2.2) (tr_mx T (tr_sl T b f1 T.2.2.2.2) (tr_sl T d f2 T.2.2.2.2) f3 T.2.2.2.2) f4)) ([.ref t, .int (nI a), .int (nI b), .int (nI d)] : List Value).toArray s (0) (0) A) (F0 m 21 ls []) := by
    intro n21
    induction n21 with
    | zero =>
      intro i hm21
      exact absurd hm21 (by omega)
    | succ n21 ih21 =>
      intro i hm21 hi H locs ls hP hD hS hl
      refine lv_iload hx hb dT_slopeOfSlope_21 (lv_at hl 0 rfl) ?_
      refine lv_aload_n hx hb dT_slopeOfSlope_23 rfl (lv_at hl 1 rfl) ?_
      refine va_get (D := D) (ci := 4) (v := .int (nI T.2.2.2.2)) (C := R_T) (T := F_T) (N := 9) hx hb ht i_T hown hK hP 0 rfl rfl 8 (by decide) (ht _ m_70) (fun _ h9 => h9) rfl dT_slopeOfSlope_24 ?_
      refine lv_icmp_ge (tgt := 125) hx hb dT_slopeOfSlope_27 (by decide) (fun c27 => ?_) (fun c27 => ?_)
      · have g27 : T.2.2.2.2 ≤ i := (gx_le (rfl : (nI T.2.2.2.2) = (nI T.2.2.2.2)) (rfl : (nI i) = (nI i)) (by omega) (by omega)).mp c27
        refine lv_aload_n hx hb dT_slopeOfSlope_125 rfl (lv_at hl 1 rfl) ?_
        refine va_get (D := D) (ci := 4) (v := .ref (q 6)) (C := R_T) (T := F_T) (N := 9) hx hb ht i_T hown hK hP 0 rfl rfl 6 (by decide) (ht _ m_68) (fun _ h9 => h9) rfl dT_slopeOfSlope_126 ?_
        refine lv_iload_n hx hb dT_slopeOfSlope_129 rfl (lv_at hl 2 rfl) ?_
        have i130 : vp_in (nI a) 64 := gx_in (rfl : (nI a) = (nI a)) (by omega) (by decide)
        have k130 : ((nI a) : Int32).toNatClampNeg = a := gx_cl (rfl : (nI a) = (nI a)) (by omega)
        refine va_lald hx hb hK hP 7 1 rfl rfl i130 dT_slopeOfSlope_130 ?_
        rw [k130]
        refine lv_topl (fun v130 e130 => ?_)
        have zi : i = T.2.2.2.2 := by omega
        subst zi
        exact W.lret (v := v130) hx hb hr (fun t9 ht9 hW => ⟨⟨v130, _, rfl, ⟨e130, rfl⟩, by rw [ht9]; exact hP, hD⟩, hS.F ht9⟩) hS.2.2 dT_slopeOfSlope_131
      · have g27 : ¬ (T.2.2.2.2 ≤ i) := fun z => c27 ((gx_le (rfl : (nI T.2.2.2.2) = (nI T.2.2.2.2)) (rfl : (nI i) = (nI i)) (by omega) (by omega)).mpr z)
        obtain ⟨hki, hli, hri⟩ := hT.2.2 i (by omega)
        refine lv_aload_n hx hb dT_slopeOfSlope_30 rfl (lv_at hl 1 rfl) ?_
        refine va_get (D := D) (ci := 4) (v := .ref (q 6)) (C := R_T) (T := F_T) (N := 9) hx hb ht i_T hown hK hP 0 rfl rfl 6 (by decide) (ht _ m_68) (fun _ h9 => h9) rfl dT_slopeOfSlope_31 ?_
        refine lv_iload hx hb dT_slopeOfSlope_34 (lv_at hl 0 rfl) ?_
        refine lv_aload_n hx hb dT_slopeOfSlope_36 rfl (lv_at hl 1 rfl) ?_
        refine lv_aload_n hx hb dT_slopeOfSlope_37 rfl (lv_at hl 1 rfl) ?_
        refine va_get (D := D) (ci := 4) (v := .ref (q 6)) (C := R_T) (T := F_T) (N := 9) hx hb ht i_T hown hK hP 0 rfl rfl 6 (by decide) (ht _ m_68) (fun _ h9 => h9) rfl dT_slopeOfSlope_38 ?_
        refine lv_iload hx hb dT_slopeOfSlope_41 (lv_at hl 0 rfl) ?_
        refine gc_l (va_runV (As := [.ref (q 6), .int (nI i)]) (rest := [.int (nI i), .ref (q 6)]) ⟨hx, hb, hml, hown, ht⟩ (c_T_slopeFromParts_6 l D cI cJ cB cZ t q T (tr_sl T b f1 T.2.2.2.2) (tr_sl T d f2 T.2.2.2.2) (tr_mx T (tr_sl T b f1 T.2.2.2.2) (tr_sl T d f2 T.2.2.2.2) f3 i) f4 i (by omega) hki hli hri H.size) (cwV 2 ht (gw_V m_401 m_403 ms_17 m_4 m_404) rfl rfl rfl (by decide +kernel) ⟨Nat.le_of_ble_eq_true rfl, Nat.le_of_ble_eq_true rfl⟩) (gp_V (ci := 4) (q0 := 0) hK hN (hP.sub (ws' := (wTr cI cJ t q T (tr_sl T b f1 T.2.2.2.2) (tr_sl T d f2 T.2.2.2.2) (tr_mx T (tr_sl T b f1 T.2.2.2.2) (tr_sl T d f2 T.2.2.2.2) f3 i) f4)) [0, 1, 2, 3, 4, 5, 6, 7, 8] rfl) (hD.sub (ws' := (wTr cI cJ t q T (tr_sl T b f1 T.2.2.2.2) (tr_sl T d f2 T.2.2.2.2) (tr_mx T (tr_sl T b f1 T.2.2.2.2) (tr_sl T d f2 T.2.2.2.2) f3 i) f4)) [0, 1, 2, 3, 4, 5, 6, 7, 8] (by decide) rfl) rfl rfl) rfl rfl hl.1 rfl (lv_room (Nat.le_of_ble_eq_true rfl)) dT_slopeOfSlope_43 ⟨Nat.le_of_ble_eq_true rfl, Nat.le_of_ble_eq_true rfl⟩) hP hD hS hA [0, 1, 2, 3, 4, 5, 6, 7, 8] rfl (by decide) (fun r w h => by obtain ⟨_, rfl⟩ := h; rfl) (fun r43 w43 H locs p43 hP hD hS => ?_)
        obtain ⟨rfl, rfl⟩ := p43
        have hP : va_P D vwCl [(t, .inr (4, [.ref (q 0), .ref (q 1), .ref (q 2), .ref (q 3), .ref (q 4), .ref (q 5), .ref (q 6), .ref (q 7), .int (nI T.2.2.2.2)])), ((q 0), .inl (cI, 64, .inl (fun z9 => nI (T.1 z9)))), ((q 1), .inl (cI, 64, .inl (fun z9 => nI (T.2.1 z9)))), ((q 2), .inl (cI, 64, .inl (fun z9 => nI (T.2.2.1 z9)))), ((q 3), .inl (cJ, 64, .inr (.inl T.2.2.2.1))), ((q 4), .inl (cJ, 64, .inr (.inl (tr_sl T b f1 T.2.2.2.2)))), ((q 5), .inl (cJ, 64, .inr (.inl (tr_sl T d f2 T.2.2.2.2)))), ((q 6), .inl (cJ, 64, .inr (.inl (tr_mx T (tr_sl T b f1 T.2.2.2.2) (tr_sl T d f2 T.2.2.2.2) f3 i)))), ((q 7), .inl (cJ, 64, .inr (.inl f4)))] H := hP
        have hD : va_D A [(t, .inr (4, [.ref (q 0), .ref (q 1), .ref (q 2), .ref (q 3), .ref (q 4), .ref (q 5), .ref (q 6), .ref (q 7), .int (nI T.2.2.2.2)])), ((q 0), .inl (cI, 64, .inl (fun z9 => nI (T.1 z9)))), ((q 1), .inl (cI, 64, .inl (fun z9 => nI (T.2.1 z9)))), ((q 2), .inl (cI, 64, .inl (fun z9 => nI (T.2.2.1 z9)))), ((q 3), .inl (cJ, 64, .inr (.inl T.2.2.2.1))), ((q 4), .inl (cJ, 64, .inr (.inl (tr_sl T b f1 T.2.2.2.2)))), ((q 5), .inl (cJ, 64, .inr (.inl (tr_sl T d f2 T.2.2.2.2)))), ((q 6), .inl (cJ, 64, .inr (.inl (tr_mx T (tr_sl T b f1 T.2.2.2.2) (tr_sl T d f2 T.2.2.2.2) f3 i)))), ((q 7), .inl (cJ, 64, .inr (.inl f4)))] := hD
        have i46 : vp_in (nI i) 64 := gx_in (rfl : (nI i) = (nI i)) (by omega) (by decide)
        have k46 : ((nI i) : Int32).toNatClampNeg = i := gx_cl (rfl : (nI i) = (nI i)) (by omega)
        refine va_last hx hb hK hP hD hS 7 1 rfl rfl i46 dT_slopeOfSlope_46 (fun H locs hP hD hS => ?_)
        rw [k46] at hP hD
        have hP : va_P D vwCl [(t, .inr (4, [.ref (q 0), .ref (q 1), .ref (q 2), .ref (q 3), .ref (q 4), .ref (q 5), .ref (q 6), .ref (q 7), .int (nI T.2.2.2.2)])), ((q 0), .inl (cI, 64, .inl (fun z9 => nI (T.1 z9)))), ((q 1), .inl (cI, 64, .inl (fun z9 => nI (T.2.1 z9)))), ((q 2), .inl (cI, 64, .inl (fun z9 => nI (T.2.2.1 z9)))), ((q 3), .inl (cJ, 64, .inr (.inl T.2.2.2.1))), ((q 4), .inl (cJ, 64, .inr (.inl (tr_sl T b f1 T.2.2.2.2)))), ((q 5), .inl (cJ, 64, .inr (.inl (tr_sl T d f2 T.2.2.2.2)))), ((q 6), .inl (cJ, 64, .inr (.inl (vp_updL (tr_mx T (tr_sl T b f1 T.2.2.2.2) (tr_sl T d f2 T.2.2.2.2) f3 i) i (tr_part T (tr_mx T (tr_sl T b f1 T.2.2.2.2) (tr_sl T d f2 T.2.2.2.2) f3 i) i))))), ((q 7), .inl (cJ, 64, .inr (.inl f4)))] H := hP
        have hD : va_D A [(t, .inr (4, [.ref (q 0), .ref (q 1), .ref (q 2), .ref (q 3), .ref (q 4), .ref (q 5), .ref (q 6), .ref (q 7), .int (nI T.2.2.2.2)])), ((q 0), .inl (cI, 64, .inl (fun z9 => nI (T.1 z9)))), ((q 1), .inl (cI, 64, .inl (fun z9 => nI (T.2.1 z9)))), ((q 2), .inl (cI, 64, .inl (fun z9 => nI (T.2.2.1 z9)))), ((q 3), .inl (cJ, 64, .inr (.inl T.2.2.2.1))), ((q 4), .inl (cJ, 64, .inr (.inl (tr_sl T b f1 T.2.2.2.2)))), ((q 5), .inl (cJ, 64, .inr (.inl (tr_sl T d f2 T.2.2.2.2)))), ((q 6), .inl (cJ, 64, .inr (.inl (vp_updL (tr_mx T (tr_sl T b f1 T.2.2.2.2) (tr_sl T d f2 T.2.2.2.2) f3 i) i (tr_part T (tr_mx T (tr_sl T b f1 T.2.2.2.2) (tr_sl T d f2 T.2.2.2.2) f3 i) i))))), ((q 7), .inl (cJ, 64, .inr (.inl f4)))] := hD
        refine lv_aload_n hx hb dT_slopeOfSlope_47 rfl (lv_at hl 1 rfl) ?_
        refine va_get (D := D) (ci := 4) (v := .ref (q 0)) (C := R_T) (T := F_T) (N := 9) hx hb ht i_T hown hK hP 0 rfl rfl 0 (by decide) (ht _ m_60) (fun _ h9 => h9) rfl dT_slopeOfSlope_48 ?_
        refine lv_iload hx hb dT_slopeOfSlope_51 (lv_at hl 0 rfl) ?_
        have i53 : vp_in (nI i) 64 := gx_in (rfl : (nI i) = (nI i)) (by omega) (by decide)
        have k53 : ((nI i) : Int32).toNatClampNeg = i := gx_cl (rfl : (nI i) = (nI i)) (by omega)
        refine va_iald hx hb hK hP 1 0 rfl rfl i53 dT_slopeOfSlope_53 ?_
        rw [k53]
        refine lv_topi (fun v53 e53 => ?_)
        have n53 : v53 = nI (T.1 i) := e53
        subst n53
        refine lv_iconst (v := 3) hx hb dT_slopeOfSlope_54 (by decide) ?_
        refine lv_icmp_ne (tgt := 119) hx hb dT_slopeOfSlope_55 (by decide) (fun c55 => ?_) (fun c55 => ?_)
        · have g55 : ¬ ((T.1 i) = 3) := fun z => c55 ((gx_eq (rfl : (nI (T.1 i)) = (nI (T.1 i))) (rfl : (3 : Int32) = nI 3) (by omega) (by decide)).mpr z)
          have hz : (tr_mx T (tr_sl T b f1 T.2.2.2.2) (tr_sl T d f2 T.2.2.2.2) f3 (i + 1)) = vp_updL (tr_mx T (tr_sl T b f1 T.2.2.2.2) (tr_sl T d f2 T.2.2.2.2) f3 i) i (tr_part T (tr_mx T (tr_sl T b f1 T.2.2.2.2) (tr_sl T d f2 T.2.2.2.2) f3 i) i) := by show vp_updL _ i _ = _; rw [if_neg (fun z => g55 z)]
          rw [← hz] at hP hD
          have hP : va_P D vwCl [(t, .inr (4, [.ref (q 0), .ref (q 1), .ref (q 2), .ref (q 3), .ref (q 4), .ref (q 5), .ref (q 6), .ref (q 7), .int (nI T.2.2.2.2)])), ((q 0), .inl (cI, 64, .inl (fun z9 => nI (T.1 z9)))), ((q 1), .inl (cI, 64, .inl (fun z9 => nI (T.2.1 z9)))), ((q 2), .inl (cI, 64, .inl (fun z9 => nI (T.2.2.1 z9)))), ((q 3), .inl (cJ, 64, .inr (.inl T.2.2.2.1))), ((q 4), .inl (cJ, 64, .inr (.inl (tr_sl T b f1 T.2.2.2.2)))), ((q 5), .inl (cJ, 64, .inr (.inl (tr_sl T d f2 T.2.2.2.2)))), ((q 6), .inl (cJ, 64, .inr (.inl (tr_mx T (tr_sl T b f1 T.2.2.2.2) (tr_sl T d f2 T.2.2.2.2) f3 (i + 1))))), ((q 7), .inl (cJ, 64, .inr (.inl f4)))] H := hP
          have hD : va_D A [(t, .inr (4, [.ref (q 0), .ref (q 1), .ref (q 2), .ref (q 3), .ref (q 4), .ref (q 5), .ref (q 6), .ref (q 7), .int (nI T.2.2.2.2)])), ((q 0), .inl (cI, 64, .inl (fun z9 => nI (T.1 z9)))), ((q 1), .inl (cI, 64, .inl (fun z9 => nI (T.2.1 z9)))), ((q 2), .inl (cI, 64, .inl (fun z9 => nI (T.2.2.1 z9)))), ((q 3), .inl (cJ, 64, .inr (.inl T.2.2.2.1))), ((q 4), .inl (cJ, 64, .inr (.inl (tr_sl T b f1 T.2.2.2.2)))), ((q 5), .inl (cJ, 64, .inr (.inl (tr_sl T d f2 T.2.2.2.2)))), ((q 6), .inl (cJ, 64, .inr (.inl (tr_mx T (tr_sl T b f1 T.2.2.2.2) (tr_sl T d f2 T.2.2.2.2) f3 (i + 1))))), ((q 7), .inl (cJ, 64, .inr (.inl f4)))] := hD
          refine lv_iinc (v := (nI (i + 1))) (lv' := [(4, .int (nI (i + 1))), (0, .ref t), (1, .int (nI a)), (2, .int (nI b)), (3, .int (nI d))]) hx hb dT_slopeOfSlope_119 hl (k := 0) rfl (gx_inc (rfl : (nI i) = (nI i))) (by decide) rfl (fun ls hl => ?_)
          refine lv_goto (tgt := 21) hx hb dT_slopeOfSlope_122 (by decide) ?_
          exact ih21 (i + 1) (by omega) (by omega) _ _ _ hP hD hS (lv_sub hl [0, 1, 2, 3, 4] rfl)
        · have g55 : (T.1 i) = 3 := (gx_eq (rfl : (nI (T.1 i)) = (nI (T.1 i))) (rfl : (3 : Int32) = nI 3) (by omega) (by decide)).mp c55
          refine lv_aload_n hx hb dT_slopeOfSlope_58 rfl (lv_at hl 1 rfl) ?_
          refine va_get (D := D) (ci := 4) (v := .ref (q 6)) (C := R_T) (T := F_T) (N := 9) hx hb ht i_T hown hK hP 0 rfl rfl 6 (by decide) (ht _ m_68) (fun _ h9 => h9) rfl dT_slopeOfSlope_59 ?_
          refine lv_iload hx hb dT_slopeOfSlope_62 (lv_at hl 0 rfl) ?_
          refine lv_dup2_11 hx hb dT_slopeOfSlope_64 rfl rfl ?_
          have i65 : vp_in (nI i) 64 := gx_in (rfl : (nI i) = (nI i)) (by omega) (by decide)
          have k65 : ((nI i) : Int32).toNatClampNeg = i := gx_cl (rfl : (nI i) = (nI i)) (by omega)
          refine va_lald hx hb hK hP 7 1 rfl rfl i65 dT_slopeOfSlope_65 ?_
          rw [k65]
          refine lv_topl (fun v65 e65 => ?_)
          refine lv_aload_n hx hb dT_slopeOfSlope_66 rfl (lv_at hl 1 rfl) ?_
          refine va_get (D := D) (ci := 4) (v := .ref (q 4)) (C := R_T) (T := F_T) (N := 9) hx hb ht i_T hown hK hP 0 rfl rfl 4 (by decide) (ht _ m_66) (fun _ h9 => h9) rfl dT_slopeOfSlope_67 ?_
          refine lv_aload_n hx hb dT_slopeOfSlope_70 rfl (lv_at hl 1 rfl) ?_
          refine va_get (D := D) (ci := 4) (v := .ref (q 1)) (C := R_T) (T := F_T) (N := 9) hx hb ht i_T hown hK hP 0 rfl rfl 1 (by decide) (ht _ m_61) (fun _ h9 => h9) rfl dT_slopeOfSlope_71 ?_
          refine lv_iload hx hb dT_slopeOfSlope_74 (lv_at hl 0 rfl) ?_
          have i76 : vp_in (nI i) 64 := gx_in (rfl : (nI i) = (nI i)) (by omega) (by decide)
          have k76 : ((nI i) : Int32).toNatClampNeg = i := gx_cl (rfl : (nI i) = (nI i)) (by omega)
          refine va_iald hx hb hK hP 2 0 rfl rfl i76 dT_slopeOfSlope_76 ?_
          rw [k76]
          refine lv_topi (fun v76 e76 => ?_)
          have n76 : v76 = nI (T.2.1 i) := e76
          subst n76
          have i77 : vp_in (nI (T.2.1 i)) 64 := gx_in (rfl : (nI (T.2.1 i)) = (nI (T.2.1 i))) (by omega) (by decide)
          have k77 : ((nI (T.2.1 i)) : Int32).toNatClampNeg = (T.2.1 i) := gx_cl (rfl : (nI (T.2.1 i)) = (nI (T.2.1 i))) (by omega)
          refine va_lald hx hb hK hP 5 1 rfl rfl i77 dT_slopeOfSlope_77 ?_
          rw [k77]
          refine lv_topl (fun v77 e77 => ?_)
          refine lv_aload_n hx hb dT_slopeOfSlope_78 rfl (lv_at hl 1 rfl) ?_
          refine va_get (D := D) (ci := 4) (v := .ref (q 5)) (C := R_T) (T := F_T) (N := 9) hx hb ht i_T hown hK hP 0 rfl rfl 5 (by decide) (ht _ m_67) (fun _ h9 => h9) rfl dT_slopeOfSlope_79 ?_
          refine lv_aload_n hx hb dT_slopeOfSlope_82 rfl (lv_at hl 1 rfl) ?_
          refine va_get (D := D) (ci := 4) (v := .ref (q 2)) (C := R_T) (T := F_T) (N := 9) hx hb ht i_T hown hK hP 0 rfl rfl 2 (by decide) (ht _ m_62) (fun _ h9 => h9) rfl dT_slopeOfSlope_83 ?_
          refine lv_iload hx hb dT_slopeOfSlope_86 (lv_at hl 0 rfl) ?_
          have i88 : vp_in (nI i) 64 := gx_in (rfl : (nI i) = (nI i)) (by omega) (by decide)
          have k88 : ((nI i) : Int32).toNatClampNeg = i := gx_cl (rfl : (nI i) = (nI i)) (by omega)
          refine va_iald hx hb hK hP 3 0 rfl rfl i88 dT_slopeOfSlope_88 ?_
          rw [k88]
          refine lv_topi (fun v88 e88 => ?_)
          have n88 : v88 = nI (T.2.2.1 i) := e88
          subst n88
          have i89 : vp_in (nI (T.2.2.1 i)) 64 := gx_in (rfl : (nI (T.2.2.1 i)) = (nI (T.2.2.1 i))) (by omega) (by decide)
          have k89 : ((nI (T.2.2.1 i)) : Int32).toNatClampNeg = (T.2.2.1 i) := gx_cl (rfl : (nI (T.2.2.1 i)) = (nI (T.2.2.1 i))) (by omega)
          refine va_lald hx hb hK hP 6 1 rfl rfl i89 dT_slopeOfSlope_89 ?_
          rw [k89]
          refine lv_topl (fun v89 e89 => ?_)
          refine lv_lmul hx hb dT_slopeOfSlope_90 ?_
          refine lv_topl (fun v90 e90 => ?_)
          refine lv_aload_n hx hb dT_slopeOfSlope_91 rfl (lv_at hl 1 rfl) ?_
          refine va_get (D := D) (ci := 4) (v := .ref (q 5)) (C := R_T) (T := F_T) (N := 9) hx hb ht i_T hown hK hP 0 rfl rfl 5 (by decide) (ht _ m_67) (fun _ h9 => h9) rfl dT_slopeOfSlope_92 ?_
          refine lv_aload_n hx hb dT_slopeOfSlope_95 rfl (lv_at hl 1 rfl) ?_
          refine va_get (D := D) (ci := 4) (v := .ref (q 1)) (C := R_T) (T := F_T) (N := 9) hx hb ht i_T hown hK hP 0 rfl rfl 1 (by decide) (ht _ m_61) (fun _ h9 => h9) rfl dT_slopeOfSlope_96 ?_
          refine lv_iload hx hb dT_slopeOfSlope_99 (lv_at hl 0 rfl) ?_
          have i101 : vp_in (nI i) 64 := gx_in (rfl : (nI i) = (nI i)) (by omega) (by decide)
          have k101 : ((nI i) : Int32).toNatClampNeg = i := gx_cl (rfl : (nI i) = (nI i)) (by omega)
          refine va_iald hx hb hK hP 2 0 rfl rfl i101 dT_slopeOfSlope_101 ?_
          rw [k101]
          refine lv_topi (fun v101 e101 => ?_)
          have n101 : v101 = nI (T.2.1 i) := e101
          subst n101
          have i102 : vp_in (nI (T.2.1 i)) 64 := gx_in (rfl : (nI (T.2.1 i)) = (nI (T.2.1 i))) (by omega) (by decide)
          have k102 : ((nI (T.2.1 i)) : Int32).toNatClampNeg = (T.2.1 i) := gx_cl (rfl : (nI (T.2.1 i)) = (nI (T.2.1 i))) (by omega)
          refine va_lald hx hb hK hP 6 1 rfl rfl i102 dT_slopeOfSlope_102 ?_
          rw [k102]
          refine lv_topl (fun v102 e102 => ?_)
          refine lv_aload_n hx hb dT_slopeOfSlope_103 rfl (lv_at hl 1 rfl) ?_
          refine va_get (D := D) (ci := 4) (v := .ref (q 4)) (C := R_T) (T := F_T) (N := 9) hx hb ht i_T hown hK hP 0 rfl rfl 4 (by decide) (ht _ m_66) (fun _ h9 => h9) rfl dT_slopeOfSlope_104 ?_
          refine lv_aload_n hx hb dT_slopeOfSlope_107 rfl (lv_at hl 1 rfl) ?_
          refine va_get (D := D) (ci := 4) (v := .ref (q 2)) (C := R_T) (T := F_T) (N := 9) hx hb ht i_T hown hK hP 0 rfl rfl 2 (by decide) (ht _ m_62) (fun _ h9 => h9) rfl dT_slopeOfSlope_108 ?_
          refine lv_iload hx hb dT_slopeOfSlope_111 (lv_at hl 0 rfl) ?_
          have i113 : vp_in (nI i) 64 := gx_in (rfl : (nI i) = (nI i)) (by omega) (by decide)
          have k113 : ((nI i) : Int32).toNatClampNeg = i := gx_cl (rfl : (nI i) = (nI i)) (by omega)
          refine va_iald hx hb hK hP 3 0 rfl rfl i113 dT_slopeOfSlope_113 ?_
          rw [k113]
          refine lv_topi (fun v113 e113 => ?_)
          have n113 : v113 = nI (T.2.2.1 i) := e113
          subst n113
          have i114 : vp_in (nI (T.2.2.1 i)) 64 := gx_in (rfl : (nI (T.2.2.1 i)) = (nI (T.2.2.1 i))) (by omega) (by decide)
          have k114 : ((nI (T.2.2.1 i)) : Int32).toNatClampNeg = (T.2.2.1 i) := gx_cl (rfl : (nI (T.2.2.1 i)) = (nI (T.2.2.1 i))) (by omega)
          refine va_lald hx hb hK hP 5 1 rfl rfl i114 dT_slopeOfSlope_114 ?_
          rw [k114]
          refine lv_topl (fun v114 e114 => ?_)
          refine lv_lmul hx hb dT_slopeOfSlope_115 ?_
          refine lv_topl (fun v115 e115 => ?_)
          refine lv_ladd hx hb dT_slopeOfSlope_116 ?_
          refine lv_topl (fun v116 e116 => ?_)
          refine lv_ladd hx hb dT_slopeOfSlope_117 ?_
          refine lv_topl (fun v117 e117 => ?_)
          have i118 : vp_in (nI i) 64 := gx_in (rfl : (nI i) = (nI i)) (by omega) (by decide)
          have k118 : ((nI i) : Int32).toNatClampNeg = i := gx_cl (rfl : (nI i) = (nI i)) (by omega)
          refine va_last hx hb hK hP hD hS 7 1 rfl rfl i118 dT_slopeOfSlope_118 (fun H locs hP hD hS => ?_)
          rw [k118] at hP hD
          have hP : va_P D vwCl [(t, .inr (4, [.ref (q 0), .ref (q 1), .ref (q 2), .ref (q 3), .ref (q 4), .ref (q 5), .ref (q 6), .ref (q 7), .int (nI T.2.2.2.2)])), ((q 0), .inl (cI, 64, .inl (fun z9 => nI (T.1 z9)))), ((q 1), .inl (cI, 64, .inl (fun z9 => nI (T.2.1 z9)))), ((q 2), .inl (cI, 64, .inl (fun z9 => nI (T.2.2.1 z9)))), ((q 3), .inl (cJ, 64, .inr (.inl T.2.2.2.1))), ((q 4), .inl (cJ, 64, .inr (.inl (tr_sl T b f1 T.2.2.2.2)))), ((q 5), .inl (cJ, 64, .inr (.inl (tr_sl T d f2 T.2.2.2.2)))), ((q 6), .inl (cJ, 64, .inr (.inl (vp_updL (vp_updL (tr_mx T (tr_sl T b f1 T.2.2.2.2) (tr_sl T d f2 T.2.2.2.2) f3 i) i (tr_part T (tr_mx T (tr_sl T b f1 T.2.2.2.2) (tr_sl T d f2 T.2.2.2.2) f3 i) i)) i v117)))), ((q 7), .inl (cJ, 64, .inr (.inl f4)))] H := hP
          have hD : va_D A [(t, .inr (4, [.ref (q 0), .ref (q 1), .ref (q 2), .ref (q 3), .ref (q 4), .ref (q 5), .ref (q 6), .ref (q 7), .int (nI T.2.2.2.2)])), ((q 0), .inl (cI, 64, .inl (fun z9 => nI (T.1 z9)))), ((q 1), .inl (cI, 64, .inl (fun z9 => nI (T.2.1 z9)))), ((q 2), .inl (cI, 64, .inl (fun z9 => nI (T.2.2.1 z9)))), ((q 3), .inl (cJ, 64, .inr (.inl T.2.2.2.1))), ((q 4), .inl (cJ, 64, .inr (.inl (tr_sl T b f1 T.2.2.2.2)))), ((q 5), .inl (cJ, 64, .inr (.inl (tr_sl T d f2 T.2.2.2.2)))), ((q 6), .inl (cJ, 64, .inr (.inl (vp_updL (vp_updL (tr_mx T (tr_sl T b f1 T.2.2.2.2) (tr_sl T d f2 T.2.2.2.2) f3 i) i (tr_part T (tr_mx T (tr_sl T b f1 T.2.2.2.2) (tr_sl T d f2 T.2.2.2.2) f3 i) i)) i v117)))), ((q 7), .inl (cJ, 64, .inr (.inl f4)))] := hD
          have hz : (tr_mx T (tr_sl T b f1 T.2.2.2.2) (tr_sl T d f2 T.2.2.2.2) f3 (i + 1)) = vp_updL (vp_updL (tr_mx T (tr_sl T b f1 T.2.2.2.2) (tr_sl T d f2 T.2.2.2.2) f3 i) i (tr_part T (tr_mx T (tr_sl T b f1 T.2.2.2.2) (tr_sl T d f2 T.2.2.2.2) f3 i) i)) i v117 := by rw [gu_L, e117, e65, gu_Ls, e116, e90, e77, e89, e115, e102, e114]; show vp_updL _ i _ = _; rw [if_pos g55]
          rw [← hz] at hP hD
          have hP : va_P D vwCl [(t, .inr (4, [.ref (q 0), .ref (q 1), .ref (q 2), .ref (q 3), .ref (q 4), .ref (q 5), .ref (q 6), .ref (q 7), .int (nI T.2.2.2.2)])), ((q 0), .inl (cI, 64, .inl (fun z9 => nI (T.1 z9)))), ((q 1), .inl (cI, 64, .inl (fun z9 => nI (T.2.1 z9)))), ((q 2), .inl (cI, 64, .inl (fun z9 => nI (T.2.2.1 z9)))), ((q 3), .inl (cJ, 64, .inr (.inl T.2.2.2.1))), ((q 4), .inl (cJ, 64, .inr (.inl (tr_sl T b f1 T.2.2.2.2)))), ((q 5), .inl (cJ, 64, .inr (.inl (tr_sl T d f2 T.2.2.2.2)))), ((q 6), .inl (cJ, 64, .inr (.inl (tr_mx T (tr_sl T b f1 T.2.2.2.2) (tr_sl T d f2 T.2.2.2.2) f3 (i + 1))))), ((q 7), .inl (cJ, 64, .inr (.inl f4)))] H := hP
          have hD : va_D A [(t, .inr (4, [.ref (q 0), .ref (q 1), .ref (q 2), .ref (q 3), .ref (q 4), .ref (q 5), .ref (q 6), .ref (q 7), .int (nI T.2.2.2.2)])), ((q 0), .inl (cI, 64, .inl (fun z9 => nI (T.1 z9)))), ((q 1), .inl (cI, 64, .inl (fun z9 => nI (T.2.1 z9)))), ((q 2), .inl (cI, 64, .inl (fun z9 => nI (T.2.2.1 z9)))), ((q 3), .inl (cJ, 64, .inr (.inl T.2.2.2.1))), ((q 4), .inl (cJ, 64, .inr (.inl (tr_sl T b f1 T.2.2.2.2)))), ((q 5), .inl (cJ, 64, .inr (.inl (tr_sl T d f2 T.2.2.2.2)))), ((q 6), .inl (cJ, 64, .inr (.inl (tr_mx T (tr_sl T b f1 T.2.2.2.2) (tr_sl T d f2 T.2.2.2.2) f3 (i + 1))))), ((q 7), .inl (cJ, 64, .inr (.inl f4)))] := hD
          refine lv_iinc (v := (nI (i + 1))) (lv' := [(4, .int (nI (i + 1))), (0, .ref t), (1, .int (nI a)), (2, .int (nI b)), (3, .int (nI d))]) hx hb dT_slopeOfSlope_119 hl (k := 0) rfl (gx_inc (rfl : (nI i) = (nI i))) (by decide) rfl (fun ls hl => ?_)
          refine lv_goto (tgt := 21) hx hb dT_slopeOfSlope_122 (by decide) ?_
          exact ih21 (i + 1) (by omega) (by omega) _ _ _ hP hD hS (lv_sub hl [0, 1, 2, 3, 4] rfl)
  exact lp21 (T.2.2.2.2 - (0) + 1) 0 (by omega) (by omega) _ _ _ hP hD hS (lv_sub hl [0, 1, 2, 3, 4] rfl)

set_option maxHeartbeats 4000000 in
set_option maxRecDepth 100000 in
theorem c_T_slopeBackwards (l : Launch) (D : va_G) (cI cJ cB cZ : ClassId) (t : Nat) (q : Nat → Nat) (T : Tr) (f1 f2 f3 f4 : Nat → Int64) (a b : Nat) (hT : tr_ok T) (ha : a < 64) (hb9 : b < 2) : ct_L l y_T_slopeBackwards w_T_slopeBackwards ({ frames := 1, cells := 0, slots := 0, locals := 24 }) D (gk_T cI cJ cB cZ) [.ref t, .int (nI a), .int (nI b)] (wTr cI cJ t q T f1 f2 f3 f4) (0) (0) (fun r w => r = (tr_bk T T.2.2.2.2 (vp_updL (gf_L f4 0 64) a 1)) (1 + b) ∧ w = wTr cI cJ t q T f1 f2 f3 (tr_bk T T.2.2.2.2 (vp_updL (gf_L f4 0 64) a 1))) := by
  intro sz
  refine Met.ofW (cc := b_T_slopeBackwards) (maxL := 6) (ret := (some .long)) (by decide) rfl ?_
  intro p ev9 s m args below meth c s₁ B9 hml hv
  obtain ⟨rfl, hsz, hP, hK, hN, hD0⟩ := hv
  have hx := B9.exec
  have hb := B9.bytes
  have hr := B9.returns
  have hts := atoms_spec (ws := w_T_slopeBackwards) B9.pre
  have ht : ∀ w ∈ gk_big, w.before _ s = true := fun w h => hts w (List.mem_cons_of_mem _ h)
  have hown : s.vm.findClass R_T = some m.cls := findClass_of_methodNamed B9.named
  have hlocks := B9.notSynchronized
  subst hsz
  have hD := hD0.self (sz := s.heap.size)
  generalize hAe : va_A (wTr cI cJ t q T f1 f2 f3 f4) s.heap.size = A at hD ⊢
  have hA : ∀ q : Nat, s.heap.size ≤ q → A q := fun q h => by rw [← hAe]; exact Or.inr h
  generalize hHe : s.heap = H at hP ⊢
  have hS : va_S A s.heap H [] := by rw [← hHe]; exact va_S.rf
  have hP : va_P D vwCl [(t, .inr (4, [.ref (q 0), .ref (q 1), .ref (q 2), .ref (q 3), .ref (q 4), .ref (q 5), .ref (q 6), .ref (q 7), .int (nI T.2.2.2.2)])), ((q 0), .inl (cI, 64, .inl (fun z9 => nI (T.1 z9)))), ((q 1), .inl (cI, 64, .inl (fun z9 => nI (T.2.1 z9)))), ((q 2), .inl (cI, 64, .inl (fun z9 => nI (T.2.2.1 z9)))), ((q 3), .inl (cJ, 64, .inr (.inl T.2.2.2.1))), ((q 4), .inl (cJ, 64, .inr (.inl f1))), ((q 5), .inl (cJ, 64, .inr (.inl f2))), ((q 6), .inl (cJ, 64, .inr (.inl f3))), ((q 7), .inl (cJ, 64, .inr (.inl f4)))] H := hP
  have hD : va_D A [(t, .inr (4, [.ref (q 0), .ref (q 1), .ref (q 2), .ref (q 3), .ref (q 4), .ref (q 5), .ref (q 6), .ref (q 7), .int (nI T.2.2.2.2)])), ((q 0), .inl (cI, 64, .inl (fun z9 => nI (T.1 z9)))), ((q 1), .inl (cI, 64, .inl (fun z9 => nI (T.2.1 z9)))), ((q 2), .inl (cI, 64, .inl (fun z9 => nI (T.2.2.1 z9)))), ((q 3), .inl (cJ, 64, .inr (.inl T.2.2.2.1))), ((q 4), .inl (cJ, 64, .inr (.inl f1))), ((q 5), .inl (cJ, 64, .inr (.inl f2))), ((q 6), .inl (cJ, 64, .inr (.inl f3))), ((q 7), .inl (cJ, 64, .inr (.inl f4)))] := hD
  have hl := lv_entry ([.ref t, .int (nI a), .int (nI b)]) (n := 6) (Nat.le_of_ble_eq_true rfl)
  rw [lg_entry_eq]
  generalize (lg_sl ([.ref t, .int (nI a), .int (nI b)]) ++ List.replicate (6 - (lg_sl ([.ref t, .int (nI a), .int (nI b)])).length) Slot.unset).toArray = ls at hl ⊢
  have hl : lv_has ls 6 [(0, .ref t), (1, .int (nI a)), (2, .int (nI b))] := hl
  have hn64 := hT.1
  have hn3 := hT.2.1
  refine lv_aload_n hx hb dT_slopeBackwards_0 rfl (lv_at hl 0 rfl) ?_
  refine va_get (D := D) (ci := 4) (v := .ref (q 7)) (C := R_T) (T := F_T) (N := 9) hx hb ht i_T hown hK hP 0 rfl rfl 7 (by decide) (ht _ m_69) (fun _ h9 => h9) rfl dT_slopeBackwards_1 ?_
  refine lv_lconst (v := 0) hx hb dT_slopeBackwards_4 (by decide) ?_
  refine gc_v (va_runS (As := [.ref (q 7), .long 0]) (rest := []) ⟨hx, hb, hml, hown, ht⟩ (c_A_fillJ l D cI cJ cB cZ (q 7) 64 f4 0 (by decide) H.size) (va_cwS 2 ht (gw_S m_417 m_418 m_9 m_419) rfl rfl rfl (by decide +kernel) ⟨Nat.le_of_ble_eq_true rfl, Nat.le_of_ble_eq_true rfl⟩) (gp_S hK hN (hP.sub (ws' := [((q 7), .inl (cJ, 64, .inr (.inl f4)))]) [8] rfl) (hD.sub (ws' := [((q 7), .inl (cJ, 64, .inr (.inl f4)))]) [8] (by decide) rfl)) rfl rfl hl.1 rfl (lv_room (Nat.le_of_ble_eq_true rfl)) dT_slopeBackwards_5 ⟨Nat.le_of_ble_eq_true rfl, Nat.le_of_ble_eq_true rfl⟩) hP hD hS hA [8] rfl (by decide) (fun w h => by subst h; rfl) (fun w5 H locs p5 hP hD hS => ?_)
  subst p5
  have hP : va_P D vwCl [(t, .inr (4, [.ref (q 0), .ref (q 1), .ref (q 2), .ref (q 3), .ref (q 4), .ref (q 5), .ref (q 6), .ref (q 7), .int (nI T.2.2.2.2)])), ((q 0), .inl (cI, 64, .inl (fun z9 => nI (T.1 z9)))), ((q 1), .inl (cI, 64, .inl (fun z9 => nI (T.2.1 z9)))), ((q 2), .inl (cI, 64, .inl (fun z9 => nI (T.2.2.1 z9)))), ((q 3), .inl (cJ, 64, .inr (.inl T.2.2.2.1))), ((q 4), .inl (cJ, 64, .inr (.inl f1))), ((q 5), .inl (cJ, 64, .inr (.inl f2))), ((q 6), .inl (cJ, 64, .inr (.inl f3))), ((q 7), .inl (cJ, 64, .inr (.inl (gf_L f4 0 64))))] H := hP
  have hD : va_D A [(t, .inr (4, [.ref (q 0), .ref (q 1), .ref (q 2), .ref (q 3), .ref (q 4), .ref (q 5), .ref (q 6), .ref (q 7), .int (nI T.2.2.2.2)])), ((q 0), .inl (cI, 64, .inl (fun z9 => nI (T.1 z9)))), ((q 1), .inl (cI, 64, .inl (fun z9 => nI (T.2.1 z9)))), ((q 2), .inl (cI, 64, .inl (fun z9 => nI (T.2.2.1 z9)))), ((q 3), .inl (cJ, 64, .inr (.inl T.2.2.2.1))), ((q 4), .inl (cJ, 64, .inr (.inl f1))), ((q 5), .inl (cJ, 64, .inr (.inl f2))), ((q 6), .inl (cJ, 64, .inr (.inl f3))), ((q 7), .inl (cJ, 64, .inr (.inl (gf_L f4 0 64))))] := hD
  refine lv_aload_n hx hb dT_slopeBackwards_8 rfl (lv_at hl 0 rfl) ?_
  refine va_get (D := D) (ci := 4) (v := .ref (q 7)) (C := R_T) (T := F_T) (N := 9) hx hb ht i_T hown hK hP 0 rfl rfl 7 (by decide) (ht _ m_69) (fun _ h9 => h9) rfl dT_slopeBackwards_9 ?_
  refine lv_iload_n hx hb dT_slopeBackwards_12 rfl (lv_at hl 1 rfl) ?_
  refine lv_lconst (v := 1) hx hb dT_slopeBackwards_13 (by decide) ?_
  have i14 : vp_in (nI a) 64 := gx_in (rfl : (nI a) = (nI a)) (by omega) (by decide)
  have k14 : ((nI a) : Int32).toNatClampNeg = a := gx_cl (rfl : (nI a) = (nI a)) (by omega)
  refine va_last hx hb hK hP hD hS 8 1 rfl rfl i14 dT_slopeBackwards_14 (fun H locs hP hD hS => ?_)
  rw [k14] at hP hD
  have hP : va_P D vwCl [(t, .inr (4, [.ref (q 0), .ref (q 1), .ref (q 2), .ref (q 3), .ref (q 4), .ref (q 5), .ref (q 6), .ref (q 7), .int (nI T.2.2.2.2)])), ((q 0), .inl (cI, 64, .inl (fun z9 => nI (T.1 z9)))), ((q 1), .inl (cI, 64, .inl (fun z9 => nI (T.2.1 z9)))), ((q 2), .inl (cI, 64, .inl (fun z9 => nI (T.2.2.1 z9)))), ((q 3), .inl (cJ, 64, .inr (.inl T.2.2.2.1))), ((q 4), .inl (cJ, 64, .inr (.inl f1))), ((q 5), .inl (cJ, 64, .inr (.inl f2))), ((q 6), .inl (cJ, 64, .inr (.inl f3))), ((q 7), .inl (cJ, 64, .inr (.inl (vp_updL (gf_L f4 0 64) a 1))))] H := hP
  have hD : va_D A [(t, .inr (4, [.ref (q 0), .ref (q 1), .ref (q 2), .ref (q 3), .ref (q 4), .ref (q 5), .ref (q 6), .ref (q 7), .int (nI T.2.2.2.2)])), ((q 0), .inl (cI, 64, .inl (fun z9 => nI (T.1 z9)))), ((q 1), .inl (cI, 64, .inl (fun z9 => nI (T.2.1 z9)))), ((q 2), .inl (cI, 64, .inl (fun z9 => nI (T.2.2.1 z9)))), ((q 3), .inl (cJ, 64, .inr (.inl T.2.2.2.1))), ((q 4), .inl (cJ, 64, .inr (.inl f1))), ((q 5), .inl (cJ, 64, .inr (.inl f2))), ((q 6), .inl (cJ, 64, .inr (.inl f3))), ((q 7), .inl (cJ, 64, .inr (.inl (vp_updL (gf_L f4 0 64) a 1))))] := hD
  refine lv_aload_n hx hb dT_slopeBackwards_15 rfl (lv_at hl 0 rfl) ?_
  refine va_get (D := D) (ci := 4) (v := .int (nI T.2.2.2.2)) (C := R_T) (T := F_T) (N := 9) hx hb ht i_T hown hK hP 0 rfl rfl 8 (by decide) (ht _ m_70) (fun _ h9 => h9) rfl dT_slopeBackwards_16 ?_
  refine lv_iconst (v := 1) hx hb dT_slopeBackwards_19 (by decide) ?_
  refine lv_isub hx hb dT_slopeBackwards_20 ?_
  refine lv_topi (fun v20 e20 => ?_)
  have n20 : v20 = nI (T.2.2.2.2 - 1) := by rw [e20]; exact gx_sub (rfl : (nI T.2.2.2.2) = (nI T.2.2.2.2)) (rfl : (1 : Int32) = nI 1) (by omega)
  subst n20
  refine lv_istore_n (lv' := [(3, .int (nI (T.2.2.2.2 - 1))), (0, .ref t), (1, .int (nI a)), (2, .int (nI b))]) hx hb dT_slopeBackwards_21 rfl hl (by decide) rfl (fun ls hl => ?_)
  have lp22 : ∀ (n22 : Nat) (j : Nat) (x : Int32) (h : Nat → Int64), j + 1 ≤ n22 → (j ≤ T.2.2.2.2) → (x = nI j - 1) → (tr_bk T j h = tr_bk T T.2.2.2.2 (vp_updL (gf_L f4 0 64) a 1)) → ∀ (H : Heap) (locs : List Loc) (ls : Array Slot), va_P D vwCl [(t, .inr (4, [.ref (q 0), .ref (q 1), .ref (q 2), .ref (q 3), .ref (q 4), .ref (q 5), .ref (q 6), .ref (q 7), .int (nI T.2.2.2.2)])), ((q 0), .inl (cI, 64, .inl (fun z9 => nI (T.1 z9)))), ((q 1), .inl (cI, 64, .inl (fun z9 => nI (T.2.1 z9)))), ((q 2), .inl (cI, 64, .inl (fun z9 => nI (T.2.2.1 z9)))), ((q 3), .inl (cJ, 64, .inr (.inl T.2.2.2.1))), ((q 4), .inl (cJ, 64, .inr (.inl f1))), ((q 5), .inl (cJ, 64, .inr (.inl f2))), ((q 6), .inl (cJ, 64, .inr (.inl f3))), ((q 7), .inl (cJ, 64, .inr (.inl h)))] H → va_D A [(t, .inr (4, [.ref (q 0), .ref (q 1), .ref (q 2), .ref (q 3), .ref (q 4), .ref (q 5), .ref (q 6), .ref (q 7), .int (nI T.2.2.2.2)])), ((q 0), .inl (cI, 64, .inl (fun z9 => nI (T.1 z9)))), ((q 1), .inl (cI, 64, .inl (fun z9 => nI (T.2.1 z9)))), ((q 2), .inl (cI, 64, .inl (fun z9 => nI (T.2.2.1 z9)))), ((q 3), .inl (cJ, 64, .inr (.inl T.2.2.2.1))), ((q 4), .inl (cJ, 64, .inr (.inl f1))), ((q 5), .inl (cJ, 64, .inr (.inl f2))), ((q 6), .inl (cJ, 64, .inr (.inl f3))), ((q 7), .inl (cJ, 64, .inr (.inl h)))] → va_S A s.heap H locs → lv_has ls 6 [(3, .int x), (0, .ref t), (1, .int (nI a)), (2, .int (nI b))] → W p l ev9 (headSpec w_T_slopeBackwards ({ frames := 1, cells := 0, slots := 0, locals := 24 })).room s m ([.ref t, .int (nI a), .int (nI b)] : List Value).toArray below meth c H locs 0 0 (MQ below (gq_L D A (fun r w => r = (tr_bk T T.2.2.2.2 (vp_updL (gf_L f4 0 64) a 1)) (1 + b) ∧ w = wTr cI cJ t q T f1 f2 f3 (tr_bk T T.2.2.2.2 (vp_updL (gf_L f4 0 64) a 1)))) ([.ref t, .int (nI a), .int (nI b)] : List Value).toArray s (0) (0) A) (F0 m 22 ls []) := by
    intro n22
    induction n22 with
    | zero =>
      intro j x h hm22
      exact absurd hm22 (by omega)
    | succ n22 ih22 =>
      intro j x h hm22 hj hx9 hbk H locs ls hP hD hS hl
      refine lv_iload_n hx hb dT_slopeBackwards_22 rfl (lv_at hl 0 rfl) ?_
      refine lv_if_lt (tgt := 203) hx hb dT_slopeBackwards_23 (by decide) (fun c23 => ?_) (fun c23 => ?_)
      · have hj0 : j = 0 := (gx_lt0 (by omega)).mp (by rw [← hx9]; exact c23)
        subst hj0
        have hbk : h = (tr_bk T T.2.2.2.2 (vp_updL (gf_L f4 0 64) a 1)) := hbk
        subst hbk
        refine lv_aload_n hx hb dT_slopeBackwards_203 rfl (lv_at hl 1 rfl) ?_
        refine va_get (D := D) (ci := 4) (v := .ref (q 7)) (C := R_T) (T := F_T) (N := 9) hx hb ht i_T hown hK hP 0 rfl rfl 7 (by decide) (ht _ m_69) (fun _ h9 => h9) rfl dT_slopeBackwards_204 ?_
        refine lv_iconst (v := 1) hx hb dT_slopeBackwards_207 (by decide) ?_
        refine lv_iload_n hx hb dT_slopeBackwards_208 rfl (lv_at hl 3 rfl) ?_
        refine lv_iadd hx hb dT_slopeBackwards_209 ?_
        refine lv_topi (fun v209 e209 => ?_)
        have n209 : v209 = nI (1 + b) := by rw [e209]; exact gx_add (rfl : (1 : Int32) = nI 1) (rfl : (nI b) = (nI b))
        subst n209
        have i210 : vp_in (nI (1 + b)) 64 := gx_in (rfl : (nI (1 + b)) = (nI (1 + b))) (by omega) (by decide)
        have k210 : ((nI (1 + b)) : Int32).toNatClampNeg = (1 + b) := gx_cl (rfl : (nI (1 + b)) = (nI (1 + b))) (by omega)
        refine va_lald hx hb hK hP 8 1 rfl rfl i210 dT_slopeBackwards_210 ?_
        rw [k210]
        refine lv_topl (fun v210 e210 => ?_)
        exact W.lret (v := v210) hx hb hr (fun t9 ht9 hW => ⟨⟨v210, _, rfl, ⟨e210, rfl⟩, by rw [ht9]; exact hP, hD⟩, hS.F ht9⟩) hS.2.2 dT_slopeBackwards_211
      · have hj1 : ¬ j = 0 := fun z => c23 (by rw [hx9]; exact (gx_lt0 (by omega)).mpr z)
        have hx8 : x = nI (j - 1) := by rw [hx9]; exact pk_sub (b := 1) (by omega)
        clear hx9
        subst hx8
        obtain ⟨hki, hli, hri⟩ := hT.2.2 (j - 1) (by omega)
        refine lv_aload_n hx hb dT_slopeBackwards_26 rfl (lv_at hl 1 rfl) ?_
        refine va_get (D := D) (ci := 4) (v := .ref (q 1)) (C := R_T) (T := F_T) (N := 9) hx hb ht i_T hown hK hP 0 rfl rfl 1 (by decide) (ht _ m_61) (fun _ h9 => h9) rfl dT_slopeBackwards_27 ?_
        refine lv_iload_n hx hb dT_slopeBackwards_30 rfl (lv_at hl 0 rfl) ?_
        have i31 : vp_in (nI (j - 1)) 64 := gx_in (rfl : (nI (j - 1)) = (nI (j - 1))) (by omega) (by decide)
        have k31 : ((nI (j - 1)) : Int32).toNatClampNeg = (j - 1) := gx_cl (rfl : (nI (j - 1)) = (nI (j - 1))) (by omega)
        refine va_iald hx hb hK hP 2 0 rfl rfl i31 dT_slopeBackwards_31 ?_
        rw [k31]
        refine lv_topi (fun v31 e31 => ?_)
        have n31 : v31 = nI (T.2.1 (j - 1)) := e31
        subst n31
        refine lv_istore (lv' := [(4, .int (nI (T.2.1 (j - 1)))), (3, .int (nI (j - 1))), (0, .ref t), (1, .int (nI a)), (2, .int (nI b))]) hx hb dT_slopeBackwards_32 hl (by decide) rfl (fun ls hl => ?_)
        refine lv_aload_n hx hb dT_slopeBackwards_34 rfl (lv_at hl 2 rfl) ?_
        refine va_get (D := D) (ci := 4) (v := .ref (q 2)) (C := R_T) (T := F_T) (N := 9) hx hb ht i_T hown hK hP 0 rfl rfl 2 (by decide) (ht _ m_62) (fun _ h9 => h9) rfl dT_slopeBackwards_35 ?_
        refine lv_iload_n hx hb dT_slopeBackwards_38 rfl (lv_at hl 1 rfl) ?_
        have i39 : vp_in (nI (j - 1)) 64 := gx_in (rfl : (nI (j - 1)) = (nI (j - 1))) (by omega) (by decide)
        have k39 : ((nI (j - 1)) : Int32).toNatClampNeg = (j - 1) := gx_cl (rfl : (nI (j - 1)) = (nI (j - 1))) (by omega)
        refine va_iald hx hb hK hP 3 0 rfl rfl i39 dT_slopeBackwards_39 ?_
        rw [k39]
        refine lv_topi (fun v39 e39 => ?_)
        have n39 : v39 = nI (T.2.2.1 (j - 1)) := e39
        subst n39
        refine lv_istore (lv' := [(5, .int (nI (T.2.2.1 (j - 1)))), (4, .int (nI (T.2.1 (j - 1)))), (3, .int (nI (j - 1))), (0, .ref t), (1, .int (nI a)), (2, .int (nI b))]) hx hb dT_slopeBackwards_40 hl (by decide) rfl (fun ls hl => ?_)
        refine lv_aload_n hx hb dT_slopeBackwards_42 rfl (lv_at hl 3 rfl) ?_
        refine va_get (D := D) (ci := 4) (v := .ref (q 0)) (C := R_T) (T := F_T) (N := 9) hx hb ht i_T hown hK hP 0 rfl rfl 0 (by decide) (ht _ m_60) (fun _ h9 => h9) rfl dT_slopeBackwards_43 ?_
        refine lv_iload_n hx hb dT_slopeBackwards_46 rfl (lv_at hl 2 rfl) ?_
        have i47 : vp_in (nI (j - 1)) 64 := gx_in (rfl : (nI (j - 1)) = (nI (j - 1))) (by omega) (by decide)
        have k47 : ((nI (j - 1)) : Int32).toNatClampNeg = (j - 1) := gx_cl (rfl : (nI (j - 1)) = (nI (j - 1))) (by omega)
        refine va_iald hx hb hK hP 1 0 rfl rfl i47 dT_slopeBackwards_47 ?_
        rw [k47]
        refine lv_topi (fun v47 e47 => ?_)
        have n47 : v47 = nI (T.1 (j - 1)) := e47
        subst n47
        by_cases s48_0 : (nI (T.1 (j - 1))) = 1
        · have h1 : T.1 (j - 1) = 1 := (gx_eq (rfl : (nI (T.1 (j - 1))) = (nI (T.1 (j - 1)))) (rfl : (1 : Int32) = nI 1) (by omega) (by decide)).mp s48_0
          refine lv_tableIn (tgt := 76) hx hb dT_slopeBackwards_48 (by rw [s48_0]; decide) (by rw [s48_0]; decide) (by rw [s48_0] <;> rfl) (by decide) ?_
          refine lv_aload_n hx hb dT_slopeBackwards_76 rfl (lv_at hl 3 rfl) ?_
          refine va_get (D := D) (ci := 4) (v := .ref (q 7)) (C := R_T) (T := F_T) (N := 9) hx hb ht i_T hown hK hP 0 rfl rfl 7 (by decide) (ht _ m_69) (fun _ h9 => h9) rfl dT_slopeBackwards_77 ?_
          refine lv_iload hx hb dT_slopeBackwards_80 (lv_at hl 1 rfl) ?_
          refine lv_dup2_11 hx hb dT_slopeBackwards_82 rfl rfl ?_
          have i83 : vp_in (nI (T.2.1 (j - 1))) 64 := gx_in (rfl : (nI (T.2.1 (j - 1))) = (nI (T.2.1 (j - 1)))) (by omega) (by decide)
          have k83 : ((nI (T.2.1 (j - 1))) : Int32).toNatClampNeg = (T.2.1 (j - 1)) := gx_cl (rfl : (nI (T.2.1 (j - 1))) = (nI (T.2.1 (j - 1)))) (by omega)
          refine va_lald hx hb hK hP 8 1 rfl rfl i83 dT_slopeBackwards_83 ?_
          rw [k83]
          refine lv_topl (fun v83 e83 => ?_)
          refine lv_aload_n hx hb dT_slopeBackwards_84 rfl (lv_at hl 3 rfl) ?_
          refine va_get (D := D) (ci := 4) (v := .ref (q 7)) (C := R_T) (T := F_T) (N := 9) hx hb ht i_T hown hK hP 0 rfl rfl 7 (by decide) (ht _ m_69) (fun _ h9 => h9) rfl dT_slopeBackwards_85 ?_
          refine lv_iload_n hx hb dT_slopeBackwards_88 rfl (lv_at hl 2 rfl) ?_
          have i89 : vp_in (nI (j - 1)) 64 := gx_in (rfl : (nI (j - 1)) = (nI (j - 1))) (by omega) (by decide)
          have k89 : ((nI (j - 1)) : Int32).toNatClampNeg = (j - 1) := gx_cl (rfl : (nI (j - 1)) = (nI (j - 1))) (by omega)
          refine va_lald hx hb hK hP 8 1 rfl rfl i89 dT_slopeBackwards_89 ?_
          rw [k89]
          refine lv_topl (fun v89 e89 => ?_)
          refine lv_ladd hx hb dT_slopeBackwards_90 ?_
          refine lv_topl (fun v90 e90 => ?_)
          have i91 : vp_in (nI (T.2.1 (j - 1))) 64 := gx_in (rfl : (nI (T.2.1 (j - 1))) = (nI (T.2.1 (j - 1)))) (by omega) (by decide)
          have k91 : ((nI (T.2.1 (j - 1))) : Int32).toNatClampNeg = (T.2.1 (j - 1)) := gx_cl (rfl : (nI (T.2.1 (j - 1))) = (nI (T.2.1 (j - 1)))) (by omega)
          refine va_last hx hb hK hP hD hS 8 1 rfl rfl i91 dT_slopeBackwards_91 (fun H locs hP hD hS => ?_)
          rw [k91] at hP hD
          have hP : va_P D vwCl [(t, .inr (4, [.ref (q 0), .ref (q 1), .ref (q 2), .ref (q 3), .ref (q 4), .ref (q 5), .ref (q 6), .ref (q 7), .int (nI T.2.2.2.2)])), ((q 0), .inl (cI, 64, .inl (fun z9 => nI (T.1 z9)))), ((q 1), .inl (cI, 64, .inl (fun z9 => nI (T.2.1 z9)))), ((q 2), .inl (cI, 64, .inl (fun z9 => nI (T.2.2.1 z9)))), ((q 3), .inl (cJ, 64, .inr (.inl T.2.2.2.1))), ((q 4), .inl (cJ, 64, .inr (.inl f1))), ((q 5), .inl (cJ, 64, .inr (.inl f2))), ((q 6), .inl (cJ, 64, .inr (.inl f3))), ((q 7), .inl (cJ, 64, .inr (.inl (vp_updL h (T.2.1 (j - 1)) v90))))] H := hP
          have hD : va_D A [(t, .inr (4, [.ref (q 0), .ref (q 1), .ref (q 2), .ref (q 3), .ref (q 4), .ref (q 5), .ref (q 6), .ref (q 7), .int (nI T.2.2.2.2)])), ((q 0), .inl (cI, 64, .inl (fun z9 => nI (T.1 z9)))), ((q 1), .inl (cI, 64, .inl (fun z9 => nI (T.2.1 z9)))), ((q 2), .inl (cI, 64, .inl (fun z9 => nI (T.2.2.1 z9)))), ((q 3), .inl (cJ, 64, .inr (.inl T.2.2.2.1))), ((q 4), .inl (cJ, 64, .inr (.inl f1))), ((q 5), .inl (cJ, 64, .inr (.inl f2))), ((q 6), .inl (cJ, 64, .inr (.inl f3))), ((q 7), .inl (cJ, 64, .inr (.inl (vp_updL h (T.2.1 (j - 1)) v90))))] := hD
          refine lv_aload_n hx hb dT_slopeBackwards_92 rfl (lv_at hl 3 rfl) ?_
          refine va_get (D := D) (ci := 4) (v := .ref (q 7)) (C := R_T) (T := F_T) (N := 9) hx hb ht i_T hown hK hP 0 rfl rfl 7 (by decide) (ht _ m_69) (fun _ h9 => h9) rfl dT_slopeBackwards_93 ?_
          refine lv_iload hx hb dT_slopeBackwards_96 (lv_at hl 0 rfl) ?_
          refine lv_dup2_11 hx hb dT_slopeBackwards_98 rfl rfl ?_
          have i99 : vp_in (nI (T.2.2.1 (j - 1))) 64 := gx_in (rfl : (nI (T.2.2.1 (j - 1))) = (nI (T.2.2.1 (j - 1)))) (by omega) (by decide)
          have k99 : ((nI (T.2.2.1 (j - 1))) : Int32).toNatClampNeg = (T.2.2.1 (j - 1)) := gx_cl (rfl : (nI (T.2.2.1 (j - 1))) = (nI (T.2.2.1 (j - 1)))) (by omega)
          refine va_lald hx hb hK hP 8 1 rfl rfl i99 dT_slopeBackwards_99 ?_
          rw [k99]
          refine lv_topl (fun v99 e99 => ?_)
          refine lv_aload_n hx hb dT_slopeBackwards_100 rfl (lv_at hl 3 rfl) ?_
          refine va_get (D := D) (ci := 4) (v := .ref (q 7)) (C := R_T) (T := F_T) (N := 9) hx hb ht i_T hown hK hP 0 rfl rfl 7 (by decide) (ht _ m_69) (fun _ h9 => h9) rfl dT_slopeBackwards_101 ?_
          refine lv_iload_n hx hb dT_slopeBackwards_104 rfl (lv_at hl 2 rfl) ?_
          have i105 : vp_in (nI (j - 1)) 64 := gx_in (rfl : (nI (j - 1)) = (nI (j - 1))) (by omega) (by decide)
          have k105 : ((nI (j - 1)) : Int32).toNatClampNeg = (j - 1) := gx_cl (rfl : (nI (j - 1)) = (nI (j - 1))) (by omega)
          refine va_lald hx hb hK hP 8 1 rfl rfl i105 dT_slopeBackwards_105 ?_
          rw [k105]
          refine lv_topl (fun v105 e105 => ?_)
          refine lv_ladd hx hb dT_slopeBackwards_106 ?_
          refine lv_topl (fun v106 e106 => ?_)
          have i107 : vp_in (nI (T.2.2.1 (j - 1))) 64 := gx_in (rfl : (nI (T.2.2.1 (j - 1))) = (nI (T.2.2.1 (j - 1)))) (by omega) (by decide)
          have k107 : ((nI (T.2.2.1 (j - 1))) : Int32).toNatClampNeg = (T.2.2.1 (j - 1)) := gx_cl (rfl : (nI (T.2.2.1 (j - 1))) = (nI (T.2.2.1 (j - 1)))) (by omega)
          refine va_last hx hb hK hP hD hS 8 1 rfl rfl i107 dT_slopeBackwards_107 (fun H locs hP hD hS => ?_)
          rw [k107] at hP hD
          have hP : va_P D vwCl [(t, .inr (4, [.ref (q 0), .ref (q 1), .ref (q 2), .ref (q 3), .ref (q 4), .ref (q 5), .ref (q 6), .ref (q 7), .int (nI T.2.2.2.2)])), ((q 0), .inl (cI, 64, .inl (fun z9 => nI (T.1 z9)))), ((q 1), .inl (cI, 64, .inl (fun z9 => nI (T.2.1 z9)))), ((q 2), .inl (cI, 64, .inl (fun z9 => nI (T.2.2.1 z9)))), ((q 3), .inl (cJ, 64, .inr (.inl T.2.2.2.1))), ((q 4), .inl (cJ, 64, .inr (.inl f1))), ((q 5), .inl (cJ, 64, .inr (.inl f2))), ((q 6), .inl (cJ, 64, .inr (.inl f3))), ((q 7), .inl (cJ, 64, .inr (.inl (vp_updL (vp_updL h (T.2.1 (j - 1)) v90) (T.2.2.1 (j - 1)) v106))))] H := hP
          have hD : va_D A [(t, .inr (4, [.ref (q 0), .ref (q 1), .ref (q 2), .ref (q 3), .ref (q 4), .ref (q 5), .ref (q 6), .ref (q 7), .int (nI T.2.2.2.2)])), ((q 0), .inl (cI, 64, .inl (fun z9 => nI (T.1 z9)))), ((q 1), .inl (cI, 64, .inl (fun z9 => nI (T.2.1 z9)))), ((q 2), .inl (cI, 64, .inl (fun z9 => nI (T.2.2.1 z9)))), ((q 3), .inl (cJ, 64, .inr (.inl T.2.2.2.1))), ((q 4), .inl (cJ, 64, .inr (.inl f1))), ((q 5), .inl (cJ, 64, .inr (.inl f2))), ((q 6), .inl (cJ, 64, .inr (.inl f3))), ((q 7), .inl (cJ, 64, .inr (.inl (vp_updL (vp_updL h (T.2.1 (j - 1)) v90) (T.2.2.1 (j - 1)) v106))))] := hD
          refine lv_goto (tgt := 197) hx hb dT_slopeBackwards_108 (by decide) ?_
          have hz : tr_b1 T (j - 1) h = (vp_updL (vp_updL h (T.2.1 (j - 1)) v90) (T.2.2.1 (j - 1)) v106) := by unfold tr_b1; rw [if_pos h1, e106, e99, e105, e90, e83, e89]
          rw [← hz] at hP hD
          have hP : va_P D vwCl [(t, .inr (4, [.ref (q 0), .ref (q 1), .ref (q 2), .ref (q 3), .ref (q 4), .ref (q 5), .ref (q 6), .ref (q 7), .int (nI T.2.2.2.2)])), ((q 0), .inl (cI, 64, .inl (fun z9 => nI (T.1 z9)))), ((q 1), .inl (cI, 64, .inl (fun z9 => nI (T.2.1 z9)))), ((q 2), .inl (cI, 64, .inl (fun z9 => nI (T.2.2.1 z9)))), ((q 3), .inl (cJ, 64, .inr (.inl T.2.2.2.1))), ((q 4), .inl (cJ, 64, .inr (.inl f1))), ((q 5), .inl (cJ, 64, .inr (.inl f2))), ((q 6), .inl (cJ, 64, .inr (.inl f3))), ((q 7), .inl (cJ, 64, .inr (.inl (tr_b1 T (j - 1) h))))] H := hP
          have hD : va_D A [(t, .inr (4, [.ref (q 0), .ref (q 1), .ref (q 2), .ref (q 3), .ref (q 4), .ref (q 5), .ref (q 6), .ref (q 7), .int (nI T.2.2.2.2)])), ((q 0), .inl (cI, 64, .inl (fun z9 => nI (T.1 z9)))), ((q 1), .inl (cI, 64, .inl (fun z9 => nI (T.2.1 z9)))), ((q 2), .inl (cI, 64, .inl (fun z9 => nI (T.2.2.1 z9)))), ((q 3), .inl (cJ, 64, .inr (.inl T.2.2.2.1))), ((q 4), .inl (cJ, 64, .inr (.inl f1))), ((q 5), .inl (cJ, 64, .inr (.inl f2))), ((q 6), .inl (cJ, 64, .inr (.inl f3))), ((q 7), .inl (cJ, 64, .inr (.inl (tr_b1 T (j - 1) h))))] := hD
          obtain ⟨v197, e197⟩ : ∃ y : Int32, y = (nI (j - 1)) + Int32.ofInt (-1) := ⟨_, rfl⟩
          refine lv_iinc (v := v197) (lv' := [(3, .int v197), (5, .int (nI (T.2.2.1 (j - 1)))), (4, .int (nI (T.2.1 (j - 1)))), (0, .ref t), (1, .int (nI a)), (2, .int (nI b))]) hx hb dT_slopeBackwards_197 hl (k := 2) rfl (e197.symm) (by decide) rfl (fun ls hl => ?_)
          refine lv_goto (tgt := 22) hx hb dT_slopeBackwards_200 (by decide) ?_
          exact ih22 (j - 1) v197 (tr_b1 T (j - 1) h) (by omega) (by omega) (by rw [e197]; exact gx_m1 _) (by rw [← hbk]; obtain ⟨k, rfl⟩ : ∃ k, j = k + 1 := ⟨j - 1, by omega⟩; rfl) _ _ _ hP hD hS (lv_sub hl [0, 3, 4, 5] rfl)
        by_cases s48_1 : (nI (T.1 (j - 1))) = 2
        · have h1 : T.1 (j - 1) = 2 := (gx_eq (rfl : (nI (T.1 (j - 1))) = (nI (T.1 (j - 1)))) (rfl : (2 : Int32) = nI 2) (by omega) (by decide)).mp s48_1
          refine lv_tableIn (tgt := 111) hx hb dT_slopeBackwards_48 (by rw [s48_1]; decide) (by rw [s48_1]; decide) (by rw [s48_1] <;> rfl) (by decide) ?_
          refine lv_aload_n hx hb dT_slopeBackwards_111 rfl (lv_at hl 3 rfl) ?_
          refine va_get (D := D) (ci := 4) (v := .ref (q 7)) (C := R_T) (T := F_T) (N := 9) hx hb ht i_T hown hK hP 0 rfl rfl 7 (by decide) (ht _ m_69) (fun _ h9 => h9) rfl dT_slopeBackwards_112 ?_
          refine lv_iload hx hb dT_slopeBackwards_115 (lv_at hl 1 rfl) ?_
          refine lv_dup2_11 hx hb dT_slopeBackwards_117 rfl rfl ?_
          have i118 : vp_in (nI (T.2.1 (j - 1))) 64 := gx_in (rfl : (nI (T.2.1 (j - 1))) = (nI (T.2.1 (j - 1)))) (by omega) (by decide)
          have k118 : ((nI (T.2.1 (j - 1))) : Int32).toNatClampNeg = (T.2.1 (j - 1)) := gx_cl (rfl : (nI (T.2.1 (j - 1))) = (nI (T.2.1 (j - 1)))) (by omega)
          refine va_lald hx hb hK hP 8 1 rfl rfl i118 dT_slopeBackwards_118 ?_
          rw [k118]
          refine lv_topl (fun v118 e118 => ?_)
          refine lv_aload_n hx hb dT_slopeBackwards_119 rfl (lv_at hl 3 rfl) ?_
          refine va_get (D := D) (ci := 4) (v := .ref (q 7)) (C := R_T) (T := F_T) (N := 9) hx hb ht i_T hown hK hP 0 rfl rfl 7 (by decide) (ht _ m_69) (fun _ h9 => h9) rfl dT_slopeBackwards_120 ?_
          refine lv_iload_n hx hb dT_slopeBackwards_123 rfl (lv_at hl 2 rfl) ?_
          have i124 : vp_in (nI (j - 1)) 64 := gx_in (rfl : (nI (j - 1)) = (nI (j - 1))) (by omega) (by decide)
          have k124 : ((nI (j - 1)) : Int32).toNatClampNeg = (j - 1) := gx_cl (rfl : (nI (j - 1)) = (nI (j - 1))) (by omega)
          refine va_lald hx hb hK hP 8 1 rfl rfl i124 dT_slopeBackwards_124 ?_
          rw [k124]
          refine lv_topl (fun v124 e124 => ?_)
          refine lv_ladd hx hb dT_slopeBackwards_125 ?_
          refine lv_topl (fun v125 e125 => ?_)
          have i126 : vp_in (nI (T.2.1 (j - 1))) 64 := gx_in (rfl : (nI (T.2.1 (j - 1))) = (nI (T.2.1 (j - 1)))) (by omega) (by decide)
          have k126 : ((nI (T.2.1 (j - 1))) : Int32).toNatClampNeg = (T.2.1 (j - 1)) := gx_cl (rfl : (nI (T.2.1 (j - 1))) = (nI (T.2.1 (j - 1)))) (by omega)
          refine va_last hx hb hK hP hD hS 8 1 rfl rfl i126 dT_slopeBackwards_126 (fun H locs hP hD hS => ?_)
          rw [k126] at hP hD
          have hP : va_P D vwCl [(t, .inr (4, [.ref (q 0), .ref (q 1), .ref (q 2), .ref (q 3), .ref (q 4), .ref (q 5), .ref (q 6), .ref (q 7), .int (nI T.2.2.2.2)])), ((q 0), .inl (cI, 64, .inl (fun z9 => nI (T.1 z9)))), ((q 1), .inl (cI, 64, .inl (fun z9 => nI (T.2.1 z9)))), ((q 2), .inl (cI, 64, .inl (fun z9 => nI (T.2.2.1 z9)))), ((q 3), .inl (cJ, 64, .inr (.inl T.2.2.2.1))), ((q 4), .inl (cJ, 64, .inr (.inl f1))), ((q 5), .inl (cJ, 64, .inr (.inl f2))), ((q 6), .inl (cJ, 64, .inr (.inl f3))), ((q 7), .inl (cJ, 64, .inr (.inl (vp_updL h (T.2.1 (j - 1)) v125))))] H := hP
          have hD : va_D A [(t, .inr (4, [.ref (q 0), .ref (q 1), .ref (q 2), .ref (q 3), .ref (q 4), .ref (q 5), .ref (q 6), .ref (q 7), .int (nI T.2.2.2.2)])), ((q 0), .inl (cI, 64, .inl (fun z9 => nI (T.1 z9)))), ((q 1), .inl (cI, 64, .inl (fun z9 => nI (T.2.1 z9)))), ((q 2), .inl (cI, 64, .inl (fun z9 => nI (T.2.2.1 z9)))), ((q 3), .inl (cJ, 64, .inr (.inl T.2.2.2.1))), ((q 4), .inl (cJ, 64, .inr (.inl f1))), ((q 5), .inl (cJ, 64, .inr (.inl f2))), ((q 6), .inl (cJ, 64, .inr (.inl f3))), ((q 7), .inl (cJ, 64, .inr (.inl (vp_updL h (T.2.1 (j - 1)) v125))))] := hD
          refine lv_aload_n hx hb dT_slopeBackwards_127 rfl (lv_at hl 3 rfl) ?_
          refine va_get (D := D) (ci := 4) (v := .ref (q 7)) (C := R_T) (T := F_T) (N := 9) hx hb ht i_T hown hK hP 0 rfl rfl 7 (by decide) (ht _ m_69) (fun _ h9 => h9) rfl dT_slopeBackwards_128 ?_
          refine lv_iload hx hb dT_slopeBackwards_131 (lv_at hl 0 rfl) ?_
          refine lv_dup2_11 hx hb dT_slopeBackwards_133 rfl rfl ?_
          have i134 : vp_in (nI (T.2.2.1 (j - 1))) 64 := gx_in (rfl : (nI (T.2.2.1 (j - 1))) = (nI (T.2.2.1 (j - 1)))) (by omega) (by decide)
          have k134 : ((nI (T.2.2.1 (j - 1))) : Int32).toNatClampNeg = (T.2.2.1 (j - 1)) := gx_cl (rfl : (nI (T.2.2.1 (j - 1))) = (nI (T.2.2.1 (j - 1)))) (by omega)
          refine va_lald hx hb hK hP 8 1 rfl rfl i134 dT_slopeBackwards_134 ?_
          rw [k134]
          refine lv_topl (fun v134 e134 => ?_)
          refine lv_aload_n hx hb dT_slopeBackwards_135 rfl (lv_at hl 3 rfl) ?_
          refine va_get (D := D) (ci := 4) (v := .ref (q 7)) (C := R_T) (T := F_T) (N := 9) hx hb ht i_T hown hK hP 0 rfl rfl 7 (by decide) (ht _ m_69) (fun _ h9 => h9) rfl dT_slopeBackwards_136 ?_
          refine lv_iload_n hx hb dT_slopeBackwards_139 rfl (lv_at hl 2 rfl) ?_
          have i140 : vp_in (nI (j - 1)) 64 := gx_in (rfl : (nI (j - 1)) = (nI (j - 1))) (by omega) (by decide)
          have k140 : ((nI (j - 1)) : Int32).toNatClampNeg = (j - 1) := gx_cl (rfl : (nI (j - 1)) = (nI (j - 1))) (by omega)
          refine va_lald hx hb hK hP 8 1 rfl rfl i140 dT_slopeBackwards_140 ?_
          rw [k140]
          refine lv_topl (fun v140 e140 => ?_)
          refine lv_lsub hx hb dT_slopeBackwards_141 ?_
          refine lv_topl (fun v141 e141 => ?_)
          have i142 : vp_in (nI (T.2.2.1 (j - 1))) 64 := gx_in (rfl : (nI (T.2.2.1 (j - 1))) = (nI (T.2.2.1 (j - 1)))) (by omega) (by decide)
          have k142 : ((nI (T.2.2.1 (j - 1))) : Int32).toNatClampNeg = (T.2.2.1 (j - 1)) := gx_cl (rfl : (nI (T.2.2.1 (j - 1))) = (nI (T.2.2.1 (j - 1)))) (by omega)
          refine va_last hx hb hK hP hD hS 8 1 rfl rfl i142 dT_slopeBackwards_142 (fun H locs hP hD hS => ?_)
          rw [k142] at hP hD
          have hP : va_P D vwCl [(t, .inr (4, [.ref (q 0), .ref (q 1), .ref (q 2), .ref (q 3), .ref (q 4), .ref (q 5), .ref (q 6), .ref (q 7), .int (nI T.2.2.2.2)])), ((q 0), .inl (cI, 64, .inl (fun z9 => nI (T.1 z9)))), ((q 1), .inl (cI, 64, .inl (fun z9 => nI (T.2.1 z9)))), ((q 2), .inl (cI, 64, .inl (fun z9 => nI (T.2.2.1 z9)))), ((q 3), .inl (cJ, 64, .inr (.inl T.2.2.2.1))), ((q 4), .inl (cJ, 64, .inr (.inl f1))), ((q 5), .inl (cJ, 64, .inr (.inl f2))), ((q 6), .inl (cJ, 64, .inr (.inl f3))), ((q 7), .inl (cJ, 64, .inr (.inl (vp_updL (vp_updL h (T.2.1 (j - 1)) v125) (T.2.2.1 (j - 1)) v141))))] H := hP
          have hD : va_D A [(t, .inr (4, [.ref (q 0), .ref (q 1), .ref (q 2), .ref (q 3), .ref (q 4), .ref (q 5), .ref (q 6), .ref (q 7), .int (nI T.2.2.2.2)])), ((q 0), .inl (cI, 64, .inl (fun z9 => nI (T.1 z9)))), ((q 1), .inl (cI, 64, .inl (fun z9 => nI (T.2.1 z9)))), ((q 2), .inl (cI, 64, .inl (fun z9 => nI (T.2.2.1 z9)))), ((q 3), .inl (cJ, 64, .inr (.inl T.2.2.2.1))), ((q 4), .inl (cJ, 64, .inr (.inl f1))), ((q 5), .inl (cJ, 64, .inr (.inl f2))), ((q 6), .inl (cJ, 64, .inr (.inl f3))), ((q 7), .inl (cJ, 64, .inr (.inl (vp_updL (vp_updL h (T.2.1 (j - 1)) v125) (T.2.2.1 (j - 1)) v141))))] := hD
          refine lv_goto (tgt := 197) hx hb dT_slopeBackwards_143 (by decide) ?_
          have hz : tr_b1 T (j - 1) h = (vp_updL (vp_updL h (T.2.1 (j - 1)) v125) (T.2.2.1 (j - 1)) v141) := by unfold tr_b1; rw [if_neg (by rw [h1]; decide), if_pos h1, e141, e134, e140, e125, e118, e124]
          rw [← hz] at hP hD
          have hP : va_P D vwCl [(t, .inr (4, [.ref (q 0), .ref (q 1), .ref (q 2), .ref (q 3), .ref (q 4), .ref (q 5), .ref (q 6), .ref (q 7), .int (nI T.2.2.2.2)])), ((q 0), .inl (cI, 64, .inl (fun z9 => nI (T.1 z9)))), ((q 1), .inl (cI, 64, .inl (fun z9 => nI (T.2.1 z9)))), ((q 2), .inl (cI, 64, .inl (fun z9 => nI (T.2.2.1 z9)))), ((q 3), .inl (cJ, 64, .inr (.inl T.2.2.2.1))), ((q 4), .inl (cJ, 64, .inr (.inl f1))), ((q 5), .inl (cJ, 64, .inr (.inl f2))), ((q 6), .inl (cJ, 64, .inr (.inl f3))), ((q 7), .inl (cJ, 64, .inr (.inl (tr_b1 T (j - 1) h))))] H := hP
          have hD : va_D A [(t, .inr (4, [.ref (q 0), .ref (q 1), .ref (q 2), .ref (q 3), .ref (q 4), .ref (q 5), .ref (q 6), .ref (q 7), .int (nI T.2.2.2.2)])), ((q 0), .inl (cI, 64, .inl (fun z9 => nI (T.1 z9)))), ((q 1), .inl (cI, 64, .inl (fun z9 => nI (T.2.1 z9)))), ((q 2), .inl (cI, 64, .inl (fun z9 => nI (T.2.2.1 z9)))), ((q 3), .inl (cJ, 64, .inr (.inl T.2.2.2.1))), ((q 4), .inl (cJ, 64, .inr (.inl f1))), ((q 5), .inl (cJ, 64, .inr (.inl f2))), ((q 6), .inl (cJ, 64, .inr (.inl f3))), ((q 7), .inl (cJ, 64, .inr (.inl (tr_b1 T (j - 1) h))))] := hD
          obtain ⟨v197, e197⟩ : ∃ y : Int32, y = (nI (j - 1)) + Int32.ofInt (-1) := ⟨_, rfl⟩
          refine lv_iinc (v := v197) (lv' := [(3, .int v197), (5, .int (nI (T.2.2.1 (j - 1)))), (4, .int (nI (T.2.1 (j - 1)))), (0, .ref t), (1, .int (nI a)), (2, .int (nI b))]) hx hb dT_slopeBackwards_197 hl (k := 2) rfl (e197.symm) (by decide) rfl (fun ls hl => ?_)
          refine lv_goto (tgt := 22) hx hb dT_slopeBackwards_200 (by decide) ?_
          exact ih22 (j - 1) v197 (tr_b1 T (j - 1) h) (by omega) (by omega) (by rw [e197]; exact gx_m1 _) (by rw [← hbk]; obtain ⟨k, rfl⟩ : ∃ k, j = k + 1 := ⟨j - 1, by omega⟩; rfl) _ _ _ hP hD hS (lv_sub hl [0, 3, 4, 5] rfl)
        by_cases s48_2 : (nI (T.1 (j - 1))) = 3
        · have h1 : T.1 (j - 1) = 3 := (gx_eq (rfl : (nI (T.1 (j - 1))) = (nI (T.1 (j - 1)))) (rfl : (3 : Int32) = nI 3) (by omega) (by decide)).mp s48_2
          refine lv_tableIn (tgt := 146) hx hb dT_slopeBackwards_48 (by rw [s48_2]; decide) (by rw [s48_2]; decide) (by rw [s48_2] <;> rfl) (by decide) ?_
          refine lv_aload_n hx hb dT_slopeBackwards_146 rfl (lv_at hl 3 rfl) ?_
          refine va_get (D := D) (ci := 4) (v := .ref (q 7)) (C := R_T) (T := F_T) (N := 9) hx hb ht i_T hown hK hP 0 rfl rfl 7 (by decide) (ht _ m_69) (fun _ h9 => h9) rfl dT_slopeBackwards_147 ?_
          refine lv_iload hx hb dT_slopeBackwards_150 (lv_at hl 1 rfl) ?_
          refine lv_dup2_11 hx hb dT_slopeBackwards_152 rfl rfl ?_
          have i153 : vp_in (nI (T.2.1 (j - 1))) 64 := gx_in (rfl : (nI (T.2.1 (j - 1))) = (nI (T.2.1 (j - 1)))) (by omega) (by decide)
          have k153 : ((nI (T.2.1 (j - 1))) : Int32).toNatClampNeg = (T.2.1 (j - 1)) := gx_cl (rfl : (nI (T.2.1 (j - 1))) = (nI (T.2.1 (j - 1)))) (by omega)
          refine va_lald hx hb hK hP 8 1 rfl rfl i153 dT_slopeBackwards_153 ?_
          rw [k153]
          refine lv_topl (fun v153 e153 => ?_)
          refine lv_aload_n hx hb dT_slopeBackwards_154 rfl (lv_at hl 3 rfl) ?_
          refine va_get (D := D) (ci := 4) (v := .ref (q 7)) (C := R_T) (T := F_T) (N := 9) hx hb ht i_T hown hK hP 0 rfl rfl 7 (by decide) (ht _ m_69) (fun _ h9 => h9) rfl dT_slopeBackwards_155 ?_
          refine lv_iload_n hx hb dT_slopeBackwards_158 rfl (lv_at hl 2 rfl) ?_
          have i159 : vp_in (nI (j - 1)) 64 := gx_in (rfl : (nI (j - 1)) = (nI (j - 1))) (by omega) (by decide)
          have k159 : ((nI (j - 1)) : Int32).toNatClampNeg = (j - 1) := gx_cl (rfl : (nI (j - 1)) = (nI (j - 1))) (by omega)
          refine va_lald hx hb hK hP 8 1 rfl rfl i159 dT_slopeBackwards_159 ?_
          rw [k159]
          refine lv_topl (fun v159 e159 => ?_)
          refine lv_aload_n hx hb dT_slopeBackwards_160 rfl (lv_at hl 3 rfl) ?_
          refine va_get (D := D) (ci := 4) (v := .ref (q 3)) (C := R_T) (T := F_T) (N := 9) hx hb ht i_T hown hK hP 0 rfl rfl 3 (by decide) (ht _ m_63) (fun _ h9 => h9) rfl dT_slopeBackwards_161 ?_
          refine lv_iload hx hb dT_slopeBackwards_164 (lv_at hl 0 rfl) ?_
          have i166 : vp_in (nI (T.2.2.1 (j - 1))) 64 := gx_in (rfl : (nI (T.2.2.1 (j - 1))) = (nI (T.2.2.1 (j - 1)))) (by omega) (by decide)
          have k166 : ((nI (T.2.2.1 (j - 1))) : Int32).toNatClampNeg = (T.2.2.1 (j - 1)) := gx_cl (rfl : (nI (T.2.2.1 (j - 1))) = (nI (T.2.2.1 (j - 1)))) (by omega)
          refine va_lald hx hb hK hP 4 1 rfl rfl i166 dT_slopeBackwards_166 ?_
          rw [k166]
          refine lv_topl (fun v166 e166 => ?_)
          refine lv_lmul hx hb dT_slopeBackwards_167 ?_
          refine lv_topl (fun v167 e167 => ?_)
          refine lv_ladd hx hb dT_slopeBackwards_168 ?_
          refine lv_topl (fun v168 e168 => ?_)
          have i169 : vp_in (nI (T.2.1 (j - 1))) 64 := gx_in (rfl : (nI (T.2.1 (j - 1))) = (nI (T.2.1 (j - 1)))) (by omega) (by decide)
          have k169 : ((nI (T.2.1 (j - 1))) : Int32).toNatClampNeg = (T.2.1 (j - 1)) := gx_cl (rfl : (nI (T.2.1 (j - 1))) = (nI (T.2.1 (j - 1)))) (by omega)
          refine va_last hx hb hK hP hD hS 8 1 rfl rfl i169 dT_slopeBackwards_169 (fun H locs hP hD hS => ?_)
          rw [k169] at hP hD
          have hP : va_P D vwCl [(t, .inr (4, [.ref (q 0), .ref (q 1), .ref (q 2), .ref (q 3), .ref (q 4), .ref (q 5), .ref (q 6), .ref (q 7), .int (nI T.2.2.2.2)])), ((q 0), .inl (cI, 64, .inl (fun z9 => nI (T.1 z9)))), ((q 1), .inl (cI, 64, .inl (fun z9 => nI (T.2.1 z9)))), ((q 2), .inl (cI, 64, .inl (fun z9 => nI (T.2.2.1 z9)))), ((q 3), .inl (cJ, 64, .inr (.inl T.2.2.2.1))), ((q 4), .inl (cJ, 64, .inr (.inl f1))), ((q 5), .inl (cJ, 64, .inr (.inl f2))), ((q 6), .inl (cJ, 64, .inr (.inl f3))), ((q 7), .inl (cJ, 64, .inr (.inl (vp_updL h (T.2.1 (j - 1)) v168))))] H := hP
          have hD : va_D A [(t, .inr (4, [.ref (q 0), .ref (q 1), .ref (q 2), .ref (q 3), .ref (q 4), .ref (q 5), .ref (q 6), .ref (q 7), .int (nI T.2.2.2.2)])), ((q 0), .inl (cI, 64, .inl (fun z9 => nI (T.1 z9)))), ((q 1), .inl (cI, 64, .inl (fun z9 => nI (T.2.1 z9)))), ((q 2), .inl (cI, 64, .inl (fun z9 => nI (T.2.2.1 z9)))), ((q 3), .inl (cJ, 64, .inr (.inl T.2.2.2.1))), ((q 4), .inl (cJ, 64, .inr (.inl f1))), ((q 5), .inl (cJ, 64, .inr (.inl f2))), ((q 6), .inl (cJ, 64, .inr (.inl f3))), ((q 7), .inl (cJ, 64, .inr (.inl (vp_updL h (T.2.1 (j - 1)) v168))))] := hD
          refine lv_aload_n hx hb dT_slopeBackwards_170 rfl (lv_at hl 3 rfl) ?_
          refine va_get (D := D) (ci := 4) (v := .ref (q 7)) (C := R_T) (T := F_T) (N := 9) hx hb ht i_T hown hK hP 0 rfl rfl 7 (by decide) (ht _ m_69) (fun _ h9 => h9) rfl dT_slopeBackwards_171 ?_
          refine lv_iload hx hb dT_slopeBackwards_174 (lv_at hl 0 rfl) ?_
          refine lv_dup2_11 hx hb dT_slopeBackwards_176 rfl rfl ?_
          have i177 : vp_in (nI (T.2.2.1 (j - 1))) 64 := gx_in (rfl : (nI (T.2.2.1 (j - 1))) = (nI (T.2.2.1 (j - 1)))) (by omega) (by decide)
          have k177 : ((nI (T.2.2.1 (j - 1))) : Int32).toNatClampNeg = (T.2.2.1 (j - 1)) := gx_cl (rfl : (nI (T.2.2.1 (j - 1))) = (nI (T.2.2.1 (j - 1)))) (by omega)
          refine va_lald hx hb hK hP 8 1 rfl rfl i177 dT_slopeBackwards_177 ?_
          rw [k177]
          refine lv_topl (fun v177 e177 => ?_)
          refine lv_aload_n hx hb dT_slopeBackwards_178 rfl (lv_at hl 3 rfl) ?_
          refine va_get (D := D) (ci := 4) (v := .ref (q 7)) (C := R_T) (T := F_T) (N := 9) hx hb ht i_T hown hK hP 0 rfl rfl 7 (by decide) (ht _ m_69) (fun _ h9 => h9) rfl dT_slopeBackwards_179 ?_
          refine lv_iload_n hx hb dT_slopeBackwards_182 rfl (lv_at hl 2 rfl) ?_
          have i183 : vp_in (nI (j - 1)) 64 := gx_in (rfl : (nI (j - 1)) = (nI (j - 1))) (by omega) (by decide)
          have k183 : ((nI (j - 1)) : Int32).toNatClampNeg = (j - 1) := gx_cl (rfl : (nI (j - 1)) = (nI (j - 1))) (by omega)
          refine va_lald hx hb hK hP 8 1 rfl rfl i183 dT_slopeBackwards_183 ?_
          rw [k183]
          refine lv_topl (fun v183 e183 => ?_)
          refine lv_aload_n hx hb dT_slopeBackwards_184 rfl (lv_at hl 3 rfl) ?_
          refine va_get (D := D) (ci := 4) (v := .ref (q 3)) (C := R_T) (T := F_T) (N := 9) hx hb ht i_T hown hK hP 0 rfl rfl 3 (by decide) (ht _ m_63) (fun _ h9 => h9) rfl dT_slopeBackwards_185 ?_
          refine lv_iload hx hb dT_slopeBackwards_188 (lv_at hl 1 rfl) ?_
          have i190 : vp_in (nI (T.2.1 (j - 1))) 64 := gx_in (rfl : (nI (T.2.1 (j - 1))) = (nI (T.2.1 (j - 1)))) (by omega) (by decide)
          have k190 : ((nI (T.2.1 (j - 1))) : Int32).toNatClampNeg = (T.2.1 (j - 1)) := gx_cl (rfl : (nI (T.2.1 (j - 1))) = (nI (T.2.1 (j - 1)))) (by omega)
          refine va_lald hx hb hK hP 4 1 rfl rfl i190 dT_slopeBackwards_190 ?_
          rw [k190]
          refine lv_topl (fun v190 e190 => ?_)
          refine lv_lmul hx hb dT_slopeBackwards_191 ?_
          refine lv_topl (fun v191 e191 => ?_)
          refine lv_ladd hx hb dT_slopeBackwards_192 ?_
          refine lv_topl (fun v192 e192 => ?_)
          have i193 : vp_in (nI (T.2.2.1 (j - 1))) 64 := gx_in (rfl : (nI (T.2.2.1 (j - 1))) = (nI (T.2.2.1 (j - 1)))) (by omega) (by decide)
          have k193 : ((nI (T.2.2.1 (j - 1))) : Int32).toNatClampNeg = (T.2.2.1 (j - 1)) := gx_cl (rfl : (nI (T.2.2.1 (j - 1))) = (nI (T.2.2.1 (j - 1)))) (by omega)
          refine va_last hx hb hK hP hD hS 8 1 rfl rfl i193 dT_slopeBackwards_193 (fun H locs hP hD hS => ?_)
          rw [k193] at hP hD
          have hP : va_P D vwCl [(t, .inr (4, [.ref (q 0), .ref (q 1), .ref (q 2), .ref (q 3), .ref (q 4), .ref (q 5), .ref (q 6), .ref (q 7), .int (nI T.2.2.2.2)])), ((q 0), .inl (cI, 64, .inl (fun z9 => nI (T.1 z9)))), ((q 1), .inl (cI, 64, .inl (fun z9 => nI (T.2.1 z9)))), ((q 2), .inl (cI, 64, .inl (fun z9 => nI (T.2.2.1 z9)))), ((q 3), .inl (cJ, 64, .inr (.inl T.2.2.2.1))), ((q 4), .inl (cJ, 64, .inr (.inl f1))), ((q 5), .inl (cJ, 64, .inr (.inl f2))), ((q 6), .inl (cJ, 64, .inr (.inl f3))), ((q 7), .inl (cJ, 64, .inr (.inl (vp_updL (vp_updL h (T.2.1 (j - 1)) v168) (T.2.2.1 (j - 1)) v192))))] H := hP
          have hD : va_D A [(t, .inr (4, [.ref (q 0), .ref (q 1), .ref (q 2), .ref (q 3), .ref (q 4), .ref (q 5), .ref (q 6), .ref (q 7), .int (nI T.2.2.2.2)])), ((q 0), .inl (cI, 64, .inl (fun z9 => nI (T.1 z9)))), ((q 1), .inl (cI, 64, .inl (fun z9 => nI (T.2.1 z9)))), ((q 2), .inl (cI, 64, .inl (fun z9 => nI (T.2.2.1 z9)))), ((q 3), .inl (cJ, 64, .inr (.inl T.2.2.2.1))), ((q 4), .inl (cJ, 64, .inr (.inl f1))), ((q 5), .inl (cJ, 64, .inr (.inl f2))), ((q 6), .inl (cJ, 64, .inr (.inl f3))), ((q 7), .inl (cJ, 64, .inr (.inl (vp_updL (vp_updL h (T.2.1 (j - 1)) v168) (T.2.2.1 (j - 1)) v192))))] := hD
          refine lv_goto (tgt := 197) hx hb dT_slopeBackwards_194 (by decide) ?_
          have hz : tr_b1 T (j - 1) h = (vp_updL (vp_updL h (T.2.1 (j - 1)) v168) (T.2.2.1 (j - 1)) v192) := by unfold tr_b1; rw [if_neg (by rw [h1]; decide), if_neg (by rw [h1]; decide), if_pos h1, e192, e177, e191, e183, e190, e168, e153, e167, e159, e166]
          rw [← hz] at hP hD
          have hP : va_P D vwCl [(t, .inr (4, [.ref (q 0), .ref (q 1), .ref (q 2), .ref (q 3), .ref (q 4), .ref (q 5), .ref (q 6), .ref (q 7), .int (nI T.2.2.2.2)])), ((q 0), .inl (cI, 64, .inl (fun z9 => nI (T.1 z9)))), ((q 1), .inl (cI, 64, .inl (fun z9 => nI (T.2.1 z9)))), ((q 2), .inl (cI, 64, .inl (fun z9 => nI (T.2.2.1 z9)))), ((q 3), .inl (cJ, 64, .inr (.inl T.2.2.2.1))), ((q 4), .inl (cJ, 64, .inr (.inl f1))), ((q 5), .inl (cJ, 64, .inr (.inl f2))), ((q 6), .inl (cJ, 64, .inr (.inl f3))), ((q 7), .inl (cJ, 64, .inr (.inl (tr_b1 T (j - 1) h))))] H := hP
          have hD : va_D A [(t, .inr (4, [.ref (q 0), .ref (q 1), .ref (q 2), .ref (q 3), .ref (q 4), .ref (q 5), .ref (q 6), .ref (q 7), .int (nI T.2.2.2.2)])), ((q 0), .inl (cI, 64, .inl (fun z9 => nI (T.1 z9)))), ((q 1), .inl (cI, 64, .inl (fun z9 => nI (T.2.1 z9)))), ((q 2), .inl (cI, 64, .inl (fun z9 => nI (T.2.2.1 z9)))), ((q 3), .inl (cJ, 64, .inr (.inl T.2.2.2.1))), ((q 4), .inl (cJ, 64, .inr (.inl f1))), ((q 5), .inl (cJ, 64, .inr (.inl f2))), ((q 6), .inl (cJ, 64, .inr (.inl f3))), ((q 7), .inl (cJ, 64, .inr (.inl (tr_b1 T (j - 1) h))))] := hD
          obtain ⟨v197, e197⟩ : ∃ y : Int32, y = (nI (j - 1)) + Int32.ofInt (-1) := ⟨_, rfl⟩
          refine lv_iinc (v := v197) (lv' := [(3, .int v197), (5, .int (nI (T.2.2.1 (j - 1)))), (4, .int (nI (T.2.1 (j - 1)))), (0, .ref t), (1, .int (nI a)), (2, .int (nI b))]) hx hb dT_slopeBackwards_197 hl (k := 2) rfl (e197.symm) (by decide) rfl (fun ls hl => ?_)
          refine lv_goto (tgt := 22) hx hb dT_slopeBackwards_200 (by decide) ?_
          exact ih22 (j - 1) v197 (tr_b1 T (j - 1) h) (by omega) (by omega) (by rw [e197]; exact gx_m1 _) (by rw [← hbk]; obtain ⟨k, rfl⟩ : ∃ k, j = k + 1 := ⟨j - 1, by omega⟩; rfl) _ _ _ hP hD hS (lv_sub hl [0, 3, 4, 5] rfl)
        have o48 : ((nI (T.1 (j - 1))) : Int32).toInt < 1 ∨ 3 < ((nI (T.1 (j - 1))) : Int32).toInt := gx_out (by intro k h1 h2 h3; have hk : k = 1 ∨ k = 2 ∨ k = 3 := (by omega); rcases hk with rfl | rfl | rfl; exact s48_0 (Int32.toInt_inj.mp (by rw [h3]; rfl)); exact s48_1 (Int32.toInt_inj.mp (by rw [h3]; rfl)); exact s48_2 (Int32.toInt_inj.mp (by rw [h3]; rfl)))
        refine lv_tableOut (tgt := 197) hx hb dT_slopeBackwards_48 o48 (by decide) ?_
        have h1 : ¬ T.1 (j - 1) = 1 := fun z => s48_0 ((gx_eq (rfl : (nI (T.1 (j - 1))) = (nI (T.1 (j - 1)))) (rfl : (1 : Int32) = nI 1) (by omega) (by decide)).mpr z)
        have h2 : ¬ T.1 (j - 1) = 2 := fun z => s48_1 ((gx_eq (rfl : (nI (T.1 (j - 1))) = (nI (T.1 (j - 1)))) (rfl : (2 : Int32) = nI 2) (by omega) (by decide)).mpr z)
        have h3 : ¬ T.1 (j - 1) = 3 := fun z => s48_2 ((gx_eq (rfl : (nI (T.1 (j - 1))) = (nI (T.1 (j - 1)))) (rfl : (3 : Int32) = nI 3) (by omega) (by decide)).mpr z)
        have hz : tr_b1 T (j - 1) h = h := by unfold tr_b1; rw [if_neg h1, if_neg h2, if_neg h3]
        rw [← hz] at hP hD
        have hP : va_P D vwCl [(t, .inr (4, [.ref (q 0), .ref (q 1), .ref (q 2), .ref (q 3), .ref (q 4), .ref (q 5), .ref (q 6), .ref (q 7), .int (nI T.2.2.2.2)])), ((q 0), .inl (cI, 64, .inl (fun z9 => nI (T.1 z9)))), ((q 1), .inl (cI, 64, .inl (fun z9 => nI (T.2.1 z9)))), ((q 2), .inl (cI, 64, .inl (fun z9 => nI (T.2.2.1 z9)))), ((q 3), .inl (cJ, 64, .inr (.inl T.2.2.2.1))), ((q 4), .inl (cJ, 64, .inr (.inl f1))), ((q 5), .inl (cJ, 64, .inr (.inl f2))), ((q 6), .inl (cJ, 64, .inr (.inl f3))), ((q 7), .inl (cJ, 64, .inr (.inl (tr_b1 T (j - 1) h))))] H := hP
        have hD : va_D A [(t, .inr (4, [.ref (q 0), .ref (q 1), .ref (q 2), .ref (q 3), .ref (q 4), .ref (q 5), .ref (q 6), .ref (q 7), .int (nI T.2.2.2.2)])), ((q 0), .inl (cI, 64, .inl (fun z9 => nI (T.1 z9)))), ((q 1), .inl (cI, 64, .inl (fun z9 => nI (T.2.1 z9)))), ((q 2), .inl (cI, 64, .inl (fun z9 => nI (T.2.2.1 z9)))), ((q 3), .inl (cJ, 64, .inr (.inl T.2.2.2.1))), ((q 4), .inl (cJ, 64, .inr (.inl f1))), ((q 5), .inl (cJ, 64, .inr (.inl f2))), ((q 6), .inl (cJ, 64, .inr (.inl f3))), ((q 7), .inl (cJ, 64, .inr (.inl (tr_b1 T (j - 1) h))))] := hD
        obtain ⟨v197, e197⟩ : ∃ y : Int32, y = (nI (j - 1)) + Int32.ofInt (-1) := ⟨_, rfl⟩
        refine lv_iinc (v := v197) (lv' := [(3, .int v197), (5, .int (nI (T.2.2.1 (j - 1)))), (4, .int (nI (T.2.1 (j - 1)))), (0, .ref t), (1, .int (nI a)), (2, .int (nI b))]) hx hb dT_slopeBackwards_197 hl (k := 2) rfl (e197.symm) (by decide) rfl (fun ls hl => ?_)
        refine lv_goto (tgt := 22) hx hb dT_slopeBackwards_200 (by decide) ?_
        exact ih22 (j - 1) v197 (tr_b1 T (j - 1) h) (by omega) (by omega) (by rw [e197]; exact gx_m1 _) (by rw [← hbk]; obtain ⟨k, rfl⟩ : ∃ k, j = k + 1 := ⟨j - 1, by omega⟩; rfl) _ _ _ hP hD hS (lv_sub hl [0, 3, 4, 5] rfl)
  exact lp22 ((T.2.2.2.2) + 1) T.2.2.2.2 (nI (T.2.2.2.2 - 1)) (vp_updL (gf_L f4 0 64) a 1) (by omega) (by omega) ((pk_sub (b := 1) (by omega)).symm) rfl _ _ _ hP hD hS (lv_sub hl [0, 1, 2, 3] rfl)

