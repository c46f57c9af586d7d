set_option maxHeartbeats 4000000 in
set_option maxRecDepth 100000 in
theorem c_P_doBlock (l : Launch) (D : va_G) (cI cJ cB cZ : ClassId) (g eo bo t co : Nat) (eq tq : Nat → Nat) (tl : va_W) (X : Ex) (ba : Nat → Option Nat) (f1 f2 f3 f4 : Nat → Int64) (Bs : Nat → Bd) (n d f o i j lv : Nat) (S : Sx) (hST : ∀ (d i : Nat) (S : Sx), d + (n + 1) = 51 → i < (Bs f).2.2.2.2.2.2.1 → sx_ok S → ct_I l y_P_doStatement w_P_doStatement ({ frames := 8 * n + 12, cells := 0, slots := 0, locals := 200 * n + 280 }) D (gk_T cI cJ cB cZ) [.ref g, .ref o, .int (nI i), .int (nI lv), .int (nI d)] (wPg cI cJ cB g eo bo t co eq tq X ba S f1 f2 f3 f4 ++ tl) 0 0 (fun r w => r = nI ((px_st (pg X ba Bs n).1 (pg X ba Bs n).2) (Bs f) i lv S).1 ∧ w = (wPg cI cJ cB g eo bo t co eq tq X ba (((px_st (pg X ba Bs n).1 (pg X ba Bs n).2) (Bs f) i lv S).2) f1 f2 f3 f4 ++ tl))) (hd : d + (n + 1) = 51) (hX : ex_ok X) (hBd : bd_ok X (Bs f)) (hi : i ≤ 14) (hj : j ≤ (Bs f).2.2.2.2.2.2.1) (hlv : lv < 8) (hS9 : sx_ok S) (hre : re_ok X (pg X ba Bs n).1) (hrb : rb_ok X (pg X ba Bs n).2) : ct_V l y_P_doBlock w_P_doBlock ({ frames := 8 * (n + 1) + 8, cells := 0, slots := 0, locals := 200 * (n + 1) + 200 }) D (gk_T cI cJ cB cZ) [.ref g, .ref o, .int (nI i), .int (nI j), .int (nI lv), .int (nI d)] (wPg cI cJ cB g eo bo t co eq tq X ba S f1 f2 f3 f4 ++ tl) (0) (0) (fun w => w = (wPg cI cJ cB g eo bo t co eq tq X ba ((pg X ba Bs (n + 1)).2 (Bs f) i j lv S) f1 f2 f3 f4 ++ tl)) := by
  intro sz
  refine Met.ofW (cc := b_P_doBlock) (maxL := 8) (ret := none) (by decide) rfl ?_
  intro p ev9 s m args below meth c s₁ B9 hml hv
  obtain ⟨rfl, hsz, hP, hK, hN, hD0⟩ := hv
  have hx := B9.exec
  have hb := B9.bytes
  have hr := B9.returns
  have hts := atoms_spec (ws := w_P_doBlock) B9.pre
  have ht : ∀ w ∈ gk_big, w.before _ s = true := fun w h => hts w (List.mem_cons_of_mem _ h)
  have hown : s.vm.findClass R_P = some m.cls := findClass_of_methodNamed B9.named
  have hlocks := B9.notSynchronized
  subst hsz
  have hD := hD0.self (sz := s.heap.size)
  generalize hAe : va_A (wPg cI cJ cB g eo bo t co eq tq X ba S f1 f2 f3 f4 ++ tl) s.heap.size = A at hD ⊢
  have hA : ∀ q : Nat, s.heap.size ≤ q → A q := fun q h => by rw [← hAe]; exact Or.inr h
  generalize hHe : s.heap = H at hP ⊢
  have hS : va_S A s.heap H [] := by rw [← hHe]; exact va_S.rf
  have hP : va_P D vwCl ([(g, .inr (3, [.ref eo, .ref bo, .ref t, .ref co])), (eo, .inr (2, [.ref (eq 0), .ref (eq 1), .ref (eq 2), .ref (eq 3), .int (nI X.2.2.2.2)])), ((eq 0), .inl (cI, 80, .inl X.1)), ((eq 1), .inl (cI, 80, .inl X.2.1)), ((eq 2), .inl (cI, 80, .inl X.2.2.1)), ((eq 3), .inl (cI, 80, .inl X.2.2.2.1)), (bo, .inl (cB, 8, .inr (.inr (.inr (.inr ba))))), (t, .inr (4, [.ref (tq 0), .ref (tq 1), .ref (tq 2), .ref (tq 3), .ref (tq 4), .ref (tq 5), .ref (tq 6), .ref (tq 7), .int (nI S.1.2.2.2.2)])), ((tq 0), .inl (cI, 64, .inl (fun z9 => nI (S.1.1 z9)))), ((tq 1), .inl (cI, 64, .inl (fun z9 => nI (S.1.2.1 z9)))), ((tq 2), .inl (cI, 64, .inl (fun z9 => nI (S.1.2.2.1 z9)))), ((tq 3), .inl (cJ, 64, .inr (.inl S.1.2.2.2.1))), ((tq 4), .inl (cJ, 64, .inr (.inl f1))), ((tq 5), .inl (cJ, 64, .inr (.inl f2))), ((tq 6), .inl (cJ, 64, .inr (.inl f3))), ((tq 7), .inl (cJ, 64, .inr (.inl f4))), (co, .inl (cI, 112, .inl (fun z9 => nI (S.2 z9))))] ++ tl) H := hP
  have hD : va_D A ([(g, .inr (3, [.ref eo, .ref bo, .ref t, .ref co])), (eo, .inr (2, [.ref (eq 0), .ref (eq 1), .ref (eq 2), .ref (eq 3), .int (nI X.2.2.2.2)])), ((eq 0), .inl (cI, 80, .inl X.1)), ((eq 1), .inl (cI, 80, .inl X.2.1)), ((eq 2), .inl (cI, 80, .inl X.2.2.1)), ((eq 3), .inl (cI, 80, .inl X.2.2.2.1)), (bo, .inl (cB, 8, .inr (.inr (.inr (.inr ba))))), (t, .inr (4, [.ref (tq 0), .ref (tq 1), .ref (tq 2), .ref (tq 3), .ref (tq 4), .ref (tq 5), .ref (tq 6), .ref (tq 7), .int (nI S.1.2.2.2.2)])), ((tq 0), .inl (cI, 64, .inl (fun z9 => nI (S.1.1 z9)))), ((tq 1), .inl (cI, 64, .inl (fun z9 => nI (S.1.2.1 z9)))), ((tq 2), .inl (cI, 64, .inl (fun z9 => nI (S.1.2.2.1 z9)))), ((tq 3), .inl (cJ, 64, .inr (.inl S.1.2.2.2.1))), ((tq 4), .inl (cJ, 64, .inr (.inl f1))), ((tq 5), .inl (cJ, 64, .inr (.inl f2))), ((tq 6), .inl (cJ, 64, .inr (.inl f3))), ((tq 7), .inl (cJ, 64, .inr (.inl f4))), (co, .inl (cI, 112, .inl (fun z9 => nI (S.2 z9))))] ++ tl) := hD
  have hl := lv_entry ([.ref g, .ref o, .int (nI i), .int (nI j), .int (nI lv), .int (nI d)]) (n := 8) (Nat.le_of_ble_eq_true rfl)
  rw [lg_entry_eq]
  generalize (lg_sl ([.ref g, .ref o, .int (nI i), .int (nI j), .int (nI lv), .int (nI d)]) ++ List.replicate (8 - (lg_sl ([.ref g, .ref o, .int (nI i), .int (nI j), .int (nI lv), .int (nI d)])).length) Slot.unset).toArray = ls at hl ⊢
  have hl : lv_has ls 8 [(0, .ref g), (1, .ref o), (2, .int (nI i)), (3, .int (nI j)), (4, .int (nI lv)), (5, .int (nI d))] := hl
  have hs12 := hBd.1
  refine lv_iload hx hb dP_doBlock_0 (lv_at hl 5 rfl) ?_
  refine lv_bipush (v := 50) hx hb dP_doBlock_2 (by decide) ?_
  refine lv_icmp_le (tgt := 8) hx hb dP_doBlock_4 (by decide) (fun c4 => ?_) (fun c4 => ?_)
  · have g4 : d ≤ 50 := (gx_le (rfl : (nI d) = (nI d)) (rfl : (50 : Int32) = nI 50) (by omega) (by decide)).mp c4
    refine lv_iload_n hx hb dP_doBlock_8 rfl (lv_at hl 2 rfl) ?_
    refine lv_istore (lv' := [(6, .int (nI i)), (0, .ref g), (1, .ref o), (2, .int (nI i)), (3, .int (nI j)), (4, .int (nI lv)), (5, .int (nI d))]) hx hb dP_doBlock_9 hl (by decide) rfl (fun ls hl => ?_)
    refine lv_iload_n hx hb dP_doBlock_11 rfl (lv_at hl 3 rfl) ?_
    refine lv_istore (lv' := [(7, .int (nI i)), (6, .int (nI i)), (0, .ref g), (1, .ref o), (2, .int (nI i)), (3, .int (nI j)), (4, .int (nI lv)), (5, .int (nI d))]) hx hb dP_doBlock_12 hl (by decide) rfl (fun ls hl => ?_)
    have lp14 : ∀ (n14 : Nat) (a9 : Nat) (nx : Nat) (S9 : Sx), j - a9 + 1 ≤ n14 → (a9 ≤ 14) → (nx ≤ 14) → (sx_ok S9) → (px_bl (px_st (pg X ba Bs n).1 (pg X ba Bs n).2) (Bs f) lv (j - a9) a9 nx S9 = (pg X ba Bs (n + 1)).2 (Bs f) i j lv S) → ∀ (H : Heap) (locs : List Loc) (ls : Array Slot), va_P D vwCl ([(g, .inr (3, [.ref eo, .ref bo, .ref t, .ref co])), (eo, .inr (2, [.ref (eq 0), .ref (eq 1), .ref (eq 2), .ref (eq 3), .int (nI X.2.2.2.2)])), ((eq 0), .inl (cI, 80, .inl X.1)), ((eq 1), .inl (cI, 80, .inl X.2.1)), ((eq 2), .inl (cI, 80, .inl X.2.2.1)), ((eq 3), .inl (cI, 80, .inl X.2.2.2.1)), (bo, .inl (cB, 8, .inr (.inr (.inr (.inr ba))))), (t, .inr (4, [.ref (tq 0), .ref (tq 1), .ref (tq 2), .ref (tq 3), .ref (tq 4), .ref (tq 5), .ref (tq 6), .ref (tq 7), .int (nI S9.1.2.2.2.2)])), ((tq 0), .inl (cI, 64, .inl (fun z9 => nI (S9.1.1 z9)))), ((tq 1), .inl (cI, 64, .inl (fun z9 => nI (S9.1.2.1 z9)))), ((tq 2), .inl (cI, 64, .inl (fun z9 => nI (S9.1.2.2.1 z9)))), ((tq 3), .inl (cJ, 64, .inr (.inl S9.1.2.2.2.1))), ((tq 4), .inl (cJ, 64, .inr (.inl f1))), ((tq 5), .inl (cJ, 64, .inr (.inl f2))), ((tq 6), .inl (cJ, 64, .inr (.inl f3))), ((tq 7), .inl (cJ, 64, .inr (.inl f4))), (co, .inl (cI, 112, .inl (fun z9 => nI (S9.2 z9))))] ++ tl) H → va_D A ([(g, .inr (3, [.ref eo, .ref bo, .ref t, .ref co])), (eo, .inr (2, [.ref (eq 0), .ref (eq 1), .ref (eq 2), .ref (eq 3), .int (nI X.2.2.2.2)])), ((eq 0), .inl (cI, 80, .inl X.1)), ((eq 1), .inl (cI, 80, .inl X.2.1)), ((eq 2), .inl (cI, 80, .inl X.2.2.1)), ((eq 3), .inl (cI, 80, .inl X.2.2.2.1)), (bo, .inl (cB, 8, .inr (.inr (.inr (.inr ba))))), (t, .inr (4, [.ref (tq 0), .ref (tq 1), .ref (tq 2), .ref (tq 3), .ref (tq 4), .ref (tq 5), .ref (tq 6), .ref (tq 7), .int (nI S9.1.2.2.2.2)])), ((tq 0), .inl (cI, 64, .inl (fun z9 => nI (S9.1.1 z9)))), ((tq 1), .inl (cI, 64, .inl (fun z9 => nI (S9.1.2.1 z9)))), ((tq 2), .inl (cI, 64, .inl (fun z9 => nI (S9.1.2.2.1 z9)))), ((tq 3), .inl (cJ, 64, .inr (.inl S9.1.2.2.2.1))), ((tq 4), .inl (cJ, 64, .inr (.inl f1))), ((tq 5), .inl (cJ, 64, .inr (.inl f2))), ((tq 6), .inl (cJ, 64, .inr (.inl f3))), ((tq 7), .inl (cJ, 64, .inr (.inl f4))), (co, .inl (cI, 112, .inl (fun z9 => nI (S9.2 z9))))] ++ tl) → va_S A s.heap H locs → lv_has ls 8 [(6, .int (nI nx)), (7, .int (nI a9)), (0, .ref g), (1, .ref o), (2, .int (nI i)), (3, .int (nI j)), (4, .int (nI lv)), (5, .int (nI d))] → W p l ev9 (headSpec w_P_doBlock ({ frames := 8 * (n + 1) + 8, cells := 0, slots := 0, locals := 200 * (n + 1) + 200 })).room s m ([.ref g, .ref o, .int (nI i), .int (nI j), .int (nI lv), .int (nI d)] : List Value).toArray below meth c H locs 0 0 (MQ below (gq_V D A (fun w => w = (wPg cI cJ cB g eo bo t co eq tq X ba ((pg X ba Bs (n + 1)).2 (Bs f) i j lv S) f1 f2 f3 f4 ++ tl))) ([.ref g, .ref o, .int (nI i), .int (nI j), .int (nI lv), .int (nI d)] : List Value).toArray s (0) (0) A) (F0 m 14 ls []) := by
      intro n14
      induction n14 with
      | zero =>
        intro a9 nx S9 hm14
        exact absurd hm14 (by omega)
      | succ n14 ih14 =>
        intro a9 nx S9 hm14 ha9 hnx hs9 hbl H locs ls hP hD hS hl
        refine lv_iload hx hb dP_doBlock_14 (lv_at hl 1 rfl) ?_
        refine lv_iload_n hx hb dP_doBlock_16 rfl (lv_at hl 5 rfl) ?_
        refine lv_icmp_ge (tgt := 46) hx hb dP_doBlock_17 (by decide) (fun c17 => ?_) (fun c17 => ?_)
        · have g17 : j ≤ a9 := (gx_le (rfl : (nI j) = (nI j)) (rfl : (nI a9) = (nI a9)) (by omega) (by omega)).mp c17
          have hz : S9 = (pg X ba Bs (n + 1)).2 (Bs f) i j lv S := by rw [← hbl, show j - a9 = 0 by omega]; rfl
          exact W.vret hx hb hr (fun t9 ht9 hW => ⟨⟨_, rfl, by rw [← hz], by rw [ht9]; exact hP, hD⟩, hS.F ht9⟩) hS.2.2 dP_doBlock_46
        · have g17 : ¬ (j ≤ a9) := fun z => c17 ((gx_le (rfl : (nI j) = (nI j)) (rfl : (nI a9) = (nI a9)) (by omega) (by omega)).mpr z)
          refine lv_iload hx hb dP_doBlock_20 (lv_at hl 1 rfl) ?_
          refine lv_iload hx hb dP_doBlock_22 (lv_at hl 0 rfl) ?_
          refine lv_icmp_ne (tgt := 40) hx hb dP_doBlock_24 (by decide) (fun c24 => ?_) (fun c24 => ?_)
          · have g24 : ¬ (a9 = nx) := fun z => c24 ((gx_eq (rfl : (nI a9) = (nI a9)) (rfl : (nI nx) = (nI nx)) (by omega) (by omega)).mpr z)
            refine lv_iinc (v := (nI (a9 + 1))) (lv' := [(7, .int (nI (a9 + 1))), (6, .int (nI nx)), (0, .ref g), (1, .ref o), (2, .int (nI i)), (3, .int (nI j)), (4, .int (nI lv)), (5, .int (nI d))]) hx hb dP_doBlock_40 hl (k := 1) rfl (gx_inc (rfl : (nI a9) = (nI a9))) (by decide) rfl (fun ls hl => ?_)
            refine lv_goto (tgt := 14) hx hb dP_doBlock_43 (by decide) ?_
            exact ih14 (a9 + 1) nx S9 (by omega) (by omega) (by omega) hs9 (by rw [← hbl, show j - a9 = (j - (a9 + 1)) + 1 by omega]; exact (px_bl_n g24).symm) _ _ _ hP hD hS (lv_sub hl [1, 0, 2, 3, 4, 5, 6, 7] rfl)
          · have g24 : a9 = nx := (gx_eq (rfl : (nI a9) = (nI a9)) (rfl : (nI nx) = (nI nx)) (by omega) (by omega)).mp c24
            refine lv_aload_n hx hb dP_doBlock_27 rfl (lv_at hl 2 rfl) ?_
            refine lv_aload_n hx hb dP_doBlock_28 rfl (lv_at hl 3 rfl) ?_
            refine lv_iload hx hb dP_doBlock_29 (lv_at hl 1 rfl) ?_
            refine lv_iload hx hb dP_doBlock_31 (lv_at hl 6 rfl) ?_
            refine lv_iload hx hb dP_doBlock_33 (lv_at hl 7 rfl) ?_
            refine gc_wi (va_runV (As := [.ref o, .int (nI a9), .int (nI lv), .int (nI d)]) (rest := []) ⟨hx, hb, hml, hown, ht⟩ (hST d a9 S9 hd (by omega) hs9 H.size) (cwV 4 ht (gw_V m_333 m_335 ms_11 m_2 m_336) rfl rfl rfl (by decide +kernel) ⟨show (8 * n + 12) + 1 ≤ 8 * (n + 1) + 8 by omega, show 8 + (10 + 11) + (200 * n + 280) ≤ 200 * (n + 1) + 200 by omega⟩) (gp_V (ci := 3) (q0 := 0) hK hN hP hD rfl rfl) rfl rfl hl.1 rfl (lv_room (Nat.le_of_ble_eq_true rfl)) dP_doBlock_35 ⟨Nat.le_of_ble_eq_true rfl, Nat.le_of_ble_eq_true rfl⟩) hP hD hS hA (fun r35 w35 H locs p35 hP hD hS => ?_)
            obtain ⟨rfl, rfl⟩ := p35
            have hP : va_P D vwCl ([(g, .inr (3, [.ref eo, .ref bo, .ref t, .ref co])), (eo, .inr (2, [.ref (eq 0), .ref (eq 1), .ref (eq 2), .ref (eq 3), .int (nI X.2.2.2.2)])), ((eq 0), .inl (cI, 80, .inl X.1)), ((eq 1), .inl (cI, 80, .inl X.2.1)), ((eq 2), .inl (cI, 80, .inl X.2.2.1)), ((eq 3), .inl (cI, 80, .inl X.2.2.2.1)), (bo, .inl (cB, 8, .inr (.inr (.inr (.inr ba))))), (t, .inr (4, [.ref (tq 0), .ref (tq 1), .ref (tq 2), .ref (tq 3), .ref (tq 4), .ref (tq 5), .ref (tq 6), .ref (tq 7), .int (nI (((((px_st (pg X ba Bs n).1 (pg X ba Bs n).2) (Bs f) a9 lv S9).2).1).2.2.2.2))])), ((tq 0), .inl (cI, 64, .inl (fun z9 => nI ((((((px_st (pg X ba Bs n).1 (pg X ba Bs n).2) (Bs f) a9 lv S9).2).1).1) z9)))), ((tq 1), .inl (cI, 64, .inl (fun z9 => nI ((((((px_st (pg X ba Bs n).1 (pg X ba Bs n).2) (Bs f) a9 lv S9).2).1).2.1) z9)))), ((tq 2), .inl (cI, 64, .inl (fun z9 => nI ((((((px_st (pg X ba Bs n).1 (pg X ba Bs n).2) (Bs f) a9 lv S9).2).1).2.2.1) z9)))), ((tq 3), .inl (cJ, 64, .inr (.inl (((((px_st (pg X ba Bs n).1 (pg X ba Bs n).2) (Bs f) a9 lv S9).2).1).2.2.2.1)))), ((tq 4), .inl (cJ, 64, .inr (.inl f1))), ((tq 5), .inl (cJ, 64, .inr (.inl f2))), ((tq 6), .inl (cJ, 64, .inr (.inl f3))), ((tq 7), .inl (cJ, 64, .inr (.inl f4))), (co, .inl (cI, 112, .inl (fun z9 => nI (((((px_st (pg X ba Bs n).1 (pg X ba Bs n).2) (Bs f) a9 lv S9).2).2) z9))))] ++ tl) H := hP
            have hD : va_D A ([(g, .inr (3, [.ref eo, .ref bo, .ref t, .ref co])), (eo, .inr (2, [.ref (eq 0), .ref (eq 1), .ref (eq 2), .ref (eq 3), .int (nI X.2.2.2.2)])), ((eq 0), .inl (cI, 80, .inl X.1)), ((eq 1), .inl (cI, 80, .inl X.2.1)), ((eq 2), .inl (cI, 80, .inl X.2.2.1)), ((eq 3), .inl (cI, 80, .inl X.2.2.2.1)), (bo, .inl (cB, 8, .inr (.inr (.inr (.inr ba))))), (t, .inr (4, [.ref (tq 0), .ref (tq 1), .ref (tq 2), .ref (tq 3), .ref (tq 4), .ref (tq 5), .ref (tq 6), .ref (tq 7), .int (nI (((((px_st (pg X ba Bs n).1 (pg X ba Bs n).2) (Bs f) a9 lv S9).2).1).2.2.2.2))])), ((tq 0), .inl (cI, 64, .inl (fun z9 => nI ((((((px_st (pg X ba Bs n).1 (pg X ba Bs n).2) (Bs f) a9 lv S9).2).1).1) z9)))), ((tq 1), .inl (cI, 64, .inl (fun z9 => nI ((((((px_st (pg X ba Bs n).1 (pg X ba Bs n).2) (Bs f) a9 lv S9).2).1).2.1) z9)))), ((tq 2), .inl (cI, 64, .inl (fun z9 => nI ((((((px_st (pg X ba Bs n).1 (pg X ba Bs n).2) (Bs f) a9 lv S9).2).1).2.2.1) z9)))), ((tq 3), .inl (cJ, 64, .inr (.inl (((((px_st (pg X ba Bs n).1 (pg X ba Bs n).2) (Bs f) a9 lv S9).2).1).2.2.2.1)))), ((tq 4), .inl (cJ, 64, .inr (.inl f1))), ((tq 5), .inl (cJ, 64, .inr (.inl f2))), ((tq 6), .inl (cJ, 64, .inr (.inl f3))), ((tq 7), .inl (cJ, 64, .inr (.inl f4))), (co, .inl (cI, 112, .inl (fun z9 => nI (((((px_st (pg X ba Bs n).1 (pg X ba Bs n).2) (Bs f) a9 lv S9).2).2) z9))))] ++ tl) := hD
            refine lv_istore (lv' := [(6, .int (nI (((px_st (pg X ba Bs n).1 (pg X ba Bs n).2) (Bs f) a9 lv S9).1))), (7, .int (nI a9)), (0, .ref g), (1, .ref o), (2, .int (nI i)), (3, .int (nI j)), (4, .int (nI lv)), (5, .int (nI d))]) hx hb dP_doBlock_38 hl (by decide) rfl (fun ls hl => ?_)
            refine lv_iinc (v := (nI (a9 + 1))) (lv' := [(7, .int (nI (a9 + 1))), (6, .int (nI (((px_st (pg X ba Bs n).1 (pg X ba Bs n).2) (Bs f) a9 lv S9).1))), (0, .ref g), (1, .ref o), (2, .int (nI i)), (3, .int (nI j)), (4, .int (nI lv)), (5, .int (nI d))]) hx hb dP_doBlock_40 hl (k := 1) rfl (gx_inc (rfl : (nI a9) = (nI a9))) (by decide) rfl (fun ls hl => ?_)
            refine lv_goto (tgt := 14) hx hb dP_doBlock_43 (by decide) ?_
            exact ih14 (a9 + 1) (((px_st (pg X ba Bs n).1 (pg X ba Bs n).2) (Bs f) a9 lv S9).1) (((px_st (pg X ba Bs n).1 (pg X ba Bs n).2) (Bs f) a9 lv S9).2) (by omega) (by omega) (px_st_n (by omega) (by omega)) (px_st_ok hX hre hrb hBd (by omega) hlv hs9) (by rw [← hbl, show j - a9 = (j - (a9 + 1)) + 1 by omega, ← g24]; exact px_bl_y.symm) _ _ _ hP hD hS (lv_sub hl [1, 0, 2, 3, 4, 5, 6, 7] rfl)
    exact lp14 (j - (i) + 1) i i S (by omega) (by omega) (by omega) hS9 rfl _ _ _ hP hD hS (lv_sub hl [1, 0, 2, 3, 4, 5, 6, 7] rfl)
  · have g4 : ¬ (d ≤ 50) := fun z => c4 ((gx_le (rfl : (nI d) = (nI d)) (rfl : (50 : Int32) = nI 50) (by omega) (by decide)).mpr z)
    exact absurd g4 (by omega)

set_option maxHeartbeats 4000000 in
set_option maxRecDepth 100000 in
theorem c_P_doBlock_0 (l : Launch) (D : va_G) (cI cJ cB cZ : ClassId) (g eo bo t co : Nat) (eq tq : Nat → Nat) (tl : va_W) (X : Ex) (ba : Nat → Option Nat) (f1 f2 f3 f4 : Nat → Int64) (Bs : Nat → Bd) (d f o i j lv : Nat) (S : Sx) (hd : d = 51) : ct_V l y_P_doBlock w_P_doBlock ({ frames := 8 * 0 + 8, cells := 0, slots := 0, locals := 200 * 0 + 200 }) D (gk_T cI cJ cB cZ) [.ref g, .ref o, .int (nI i), .int (nI j), .int (nI lv), .int (nI d)] (wPg cI cJ cB g eo bo t co eq tq X ba S f1 f2 f3 f4 ++ tl) (0) (0) (fun w => w = (wPg cI cJ cB g eo bo t co eq tq X ba ((pg X ba Bs 0).2 (Bs f) i j lv S) f1 f2 f3 f4 ++ tl)) := by
  intro sz
  refine Met.ofW (cc := b_P_doBlock) (maxL := 8) (ret := none) (by decide) rfl ?_
  intro p ev9 s m args below meth c s₁ B9 hml hv
  obtain ⟨rfl, hsz, hP, hK, hN, hD0⟩ := hv
  have hx := B9.exec
  have hb := B9.bytes
  have hr := B9.returns
  have hts := atoms_spec (ws := w_P_doBlock) B9.pre
  have ht : ∀ w ∈ gk_big, w.before _ s = true := fun w h => hts w (List.mem_cons_of_mem _ h)
  have hown : s.vm.findClass R_P = some m.cls := findClass_of_methodNamed B9.named
  have hlocks := B9.notSynchronized
  subst hsz
  have hD := hD0.self (sz := s.heap.size)
  generalize hAe : va_A (wPg cI cJ cB g eo bo t co eq tq X ba S f1 f2 f3 f4 ++ tl) s.heap.size = A at hD ⊢
  have hA : ∀ q : Nat, s.heap.size ≤ q → A q := fun q h => by rw [← hAe]; exact Or.inr h
  generalize hHe : s.heap = H at hP ⊢
  have hS : va_S A s.heap H [] := by rw [← hHe]; exact va_S.rf
  have hP : va_P D vwCl ([(g, .inr (3, [.ref eo, .ref bo, .ref t, .ref co])), (eo, .inr (2, [.ref (eq 0), .ref (eq 1), .ref (eq 2), .ref (eq 3), .int (nI X.2.2.2.2)])), ((eq 0), .inl (cI, 80, .inl X.1)), ((eq 1), .inl (cI, 80, .inl X.2.1)), ((eq 2), .inl (cI, 80, .inl X.2.2.1)), ((eq 3), .inl (cI, 80, .inl X.2.2.2.1)), (bo, .inl (cB, 8, .inr (.inr (.inr (.inr ba))))), (t, .inr (4, [.ref (tq 0), .ref (tq 1), .ref (tq 2), .ref (tq 3), .ref (tq 4), .ref (tq 5), .ref (tq 6), .ref (tq 7), .int (nI S.1.2.2.2.2)])), ((tq 0), .inl (cI, 64, .inl (fun z9 => nI (S.1.1 z9)))), ((tq 1), .inl (cI, 64, .inl (fun z9 => nI (S.1.2.1 z9)))), ((tq 2), .inl (cI, 64, .inl (fun z9 => nI (S.1.2.2.1 z9)))), ((tq 3), .inl (cJ, 64, .inr (.inl S.1.2.2.2.1))), ((tq 4), .inl (cJ, 64, .inr (.inl f1))), ((tq 5), .inl (cJ, 64, .inr (.inl f2))), ((tq 6), .inl (cJ, 64, .inr (.inl f3))), ((tq 7), .inl (cJ, 64, .inr (.inl f4))), (co, .inl (cI, 112, .inl (fun z9 => nI (S.2 z9))))] ++ tl) H := hP
  have hD : va_D A ([(g, .inr (3, [.ref eo, .ref bo, .ref t, .ref co])), (eo, .inr (2, [.ref (eq 0), .ref (eq 1), .ref (eq 2), .ref (eq 3), .int (nI X.2.2.2.2)])), ((eq 0), .inl (cI, 80, .inl X.1)), ((eq 1), .inl (cI, 80, .inl X.2.1)), ((eq 2), .inl (cI, 80, .inl X.2.2.1)), ((eq 3), .inl (cI, 80, .inl X.2.2.2.1)), (bo, .inl (cB, 8, .inr (.inr (.inr (.inr ba))))), (t, .inr (4, [.ref (tq 0), .ref (tq 1), .ref (tq 2), .ref (tq 3), .ref (tq 4), .ref (tq 5), .ref (tq 6), .ref (tq 7), .int (nI S.1.2.2.2.2)])), ((tq 0), .inl (cI, 64, .inl (fun z9 => nI (S.1.1 z9)))), ((tq 1), .inl (cI, 64, .inl (fun z9 => nI (S.1.2.1 z9)))), ((tq 2), .inl (cI, 64, .inl (fun z9 => nI (S.1.2.2.1 z9)))), ((tq 3), .inl (cJ, 64, .inr (.inl S.1.2.2.2.1))), ((tq 4), .inl (cJ, 64, .inr (.inl f1))), ((tq 5), .inl (cJ, 64, .inr (.inl f2))), ((tq 6), .inl (cJ, 64, .inr (.inl f3))), ((tq 7), .inl (cJ, 64, .inr (.inl f4))), (co, .inl (cI, 112, .inl (fun z9 => nI (S.2 z9))))] ++ tl) := hD
  have hl := lv_entry ([.ref g, .ref o, .int (nI i), .int (nI j), .int (nI lv), .int (nI d)]) (n := 8) (Nat.le_of_ble_eq_true rfl)
  rw [lg_entry_eq]
  generalize (lg_sl ([.ref g, .ref o, .int (nI i), .int (nI j), .int (nI lv), .int (nI d)]) ++ List.replicate (8 - (lg_sl ([.ref g, .ref o, .int (nI i), .int (nI j), .int (nI lv), .int (nI d)])).length) Slot.unset).toArray = ls at hl ⊢
  have hl : lv_has ls 8 [(0, .ref g), (1, .ref o), (2, .int (nI i)), (3, .int (nI j)), (4, .int (nI lv)), (5, .int (nI d))] := hl
  refine lv_iload hx hb dP_doBlock_0 (lv_at hl 5 rfl) ?_
  refine lv_bipush (v := 50) hx hb dP_doBlock_2 (by decide) ?_
  refine lv_icmp_le (tgt := 8) hx hb dP_doBlock_4 (by decide) (fun c4 => ?_) (fun c4 => ?_)
  · have g4 : d ≤ 50 := (gx_le (rfl : (nI d) = (nI d)) (rfl : (50 : Int32) = nI 50) (by omega) (by decide)).mp c4
    exact absurd g4 (by omega)
  · have g4 : ¬ (d ≤ 50) := fun z => c4 ((gx_le (rfl : (nI d) = (nI d)) (rfl : (50 : Int32) = nI 50) (by omega) (by decide)).mpr z)
    exact W.vret hx hb hr (fun t9 ht9 hW => ⟨⟨_, rfl, rfl, by rw [ht9]; exact hP, hD⟩, hS.F ht9⟩) hS.2.2 dP_doBlock_7

set_option maxHeartbeats 4000000 in
set_option maxRecDepth 100000 in
theorem c_P_evaluate_z (l : Launch) (D : va_G) (cI cJ cB cZ : ClassId) (g eo bo t co : Nat) (eq tq : Nat → Nat) (tl : va_W) (X : Ex) (ba : Nat → Option Nat) (f1 f2 f3 f4 : Nat → Int64) (Bs : Nat → Bd) (d e lv : Nat) (S : Sx) (hd : d = 51) : ct_I l y_P_evaluate w_P_evaluate ({ frames := 8 * 0 + 8, cells := 0, slots := 0, locals := 200 * 0 + 200 }) D (gk_T cI cJ cB cZ) [.ref g, .int (nI e), .int (nI lv), .int (nI d)] (wPg cI cJ cB g eo bo t co eq tq X ba S f1 f2 f3 f4 ++ tl) (0) (0) (fun r w => r = nI ((pg X ba Bs 0).1 e lv S).1 ∧ w = (wPg cI cJ cB g eo bo t co eq tq X ba (((pg X ba Bs 0).1 e lv S).2) f1 f2 f3 f4 ++ tl)) := by
  intro sz
  refine Met.ofW (cc := b_P_evaluate) (maxL := 9) (ret := (some .int)) (by decide) rfl ?_
  intro p ev9 s m args below meth c s₁ B9 hml hv
  obtain ⟨rfl, hsz, hP, hK, hN, hD0⟩ := hv
  have hx := B9.exec
  have hb := B9.bytes
  have hr := B9.returns
  have hts := atoms_spec (ws := w_P_evaluate) B9.pre
  have ht : ∀ w ∈ gk_big, w.before _ s = true := fun w h => hts w (List.mem_cons_of_mem _ h)
  have hown : s.vm.findClass R_P = some m.cls := findClass_of_methodNamed B9.named
  have hlocks := B9.notSynchronized
  subst hsz
  have hD := hD0.self (sz := s.heap.size)
  generalize hAe : va_A (wPg cI cJ cB g eo bo t co eq tq X ba S f1 f2 f3 f4 ++ tl) s.heap.size = A at hD ⊢
  have hA : ∀ q : Nat, s.heap.size ≤ q → A q := fun q h => by rw [← hAe]; exact Or.inr h
  generalize hHe : s.heap = H at hP ⊢
  have hS : va_S A s.heap H [] := by rw [← hHe]; exact va_S.rf
  have hP : va_P D vwCl ([(g, .inr (3, [.ref eo, .ref bo, .ref t, .ref co])), (eo, .inr (2, [.ref (eq 0), .ref (eq 1), .ref (eq 2), .ref (eq 3), .int (nI X.2.2.2.2)])), ((eq 0), .inl (cI, 80, .inl X.1)), ((eq 1), .inl (cI, 80, .inl X.2.1)), ((eq 2), .inl (cI, 80, .inl X.2.2.1)), ((eq 3), .inl (cI, 80, .inl X.2.2.2.1)), (bo, .inl (cB, 8, .inr (.inr (.inr (.inr ba))))), (t, .inr (4, [.ref (tq 0), .ref (tq 1), .ref (tq 2), .ref (tq 3), .ref (tq 4), .ref (tq 5), .ref (tq 6), .ref (tq 7), .int (nI S.1.2.2.2.2)])), ((tq 0), .inl (cI, 64, .inl (fun z9 => nI (S.1.1 z9)))), ((tq 1), .inl (cI, 64, .inl (fun z9 => nI (S.1.2.1 z9)))), ((tq 2), .inl (cI, 64, .inl (fun z9 => nI (S.1.2.2.1 z9)))), ((tq 3), .inl (cJ, 64, .inr (.inl S.1.2.2.2.1))), ((tq 4), .inl (cJ, 64, .inr (.inl f1))), ((tq 5), .inl (cJ, 64, .inr (.inl f2))), ((tq 6), .inl (cJ, 64, .inr (.inl f3))), ((tq 7), .inl (cJ, 64, .inr (.inl f4))), (co, .inl (cI, 112, .inl (fun z9 => nI (S.2 z9))))] ++ tl) H := hP
  have hD : va_D A ([(g, .inr (3, [.ref eo, .ref bo, .ref t, .ref co])), (eo, .inr (2, [.ref (eq 0), .ref (eq 1), .ref (eq 2), .ref (eq 3), .int (nI X.2.2.2.2)])), ((eq 0), .inl (cI, 80, .inl X.1)), ((eq 1), .inl (cI, 80, .inl X.2.1)), ((eq 2), .inl (cI, 80, .inl X.2.2.1)), ((eq 3), .inl (cI, 80, .inl X.2.2.2.1)), (bo, .inl (cB, 8, .inr (.inr (.inr (.inr ba))))), (t, .inr (4, [.ref (tq 0), .ref (tq 1), .ref (tq 2), .ref (tq 3), .ref (tq 4), .ref (tq 5), .ref (tq 6), .ref (tq 7), .int (nI S.1.2.2.2.2)])), ((tq 0), .inl (cI, 64, .inl (fun z9 => nI (S.1.1 z9)))), ((tq 1), .inl (cI, 64, .inl (fun z9 => nI (S.1.2.1 z9)))), ((tq 2), .inl (cI, 64, .inl (fun z9 => nI (S.1.2.2.1 z9)))), ((tq 3), .inl (cJ, 64, .inr (.inl S.1.2.2.2.1))), ((tq 4), .inl (cJ, 64, .inr (.inl f1))), ((tq 5), .inl (cJ, 64, .inr (.inl f2))), ((tq 6), .inl (cJ, 64, .inr (.inl f3))), ((tq 7), .inl (cJ, 64, .inr (.inl f4))), (co, .inl (cI, 112, .inl (fun z9 => nI (S.2 z9))))] ++ tl) := hD
  have hl := lv_entry ([.ref g, .int (nI e), .int (nI lv), .int (nI d)]) (n := 9) (Nat.le_of_ble_eq_true rfl)
  rw [lg_entry_eq]
  generalize (lg_sl ([.ref g, .int (nI e), .int (nI lv), .int (nI d)]) ++ List.replicate (9 - (lg_sl ([.ref g, .int (nI e), .int (nI lv), .int (nI d)])).length) Slot.unset).toArray = ls at hl ⊢
  have hl : lv_has ls 9 [(0, .ref g), (1, .int (nI e)), (2, .int (nI lv)), (3, .int (nI d))] := hl
  refine lv_iload_n hx hb dP_evaluate_0 rfl (lv_at hl 3 rfl) ?_
  refine lv_bipush (v := 50) hx hb dP_evaluate_1 (by decide) ?_
  refine lv_icmp_le (tgt := 8) hx hb dP_evaluate_3 (by decide) (fun c3 => ?_) (fun c3 => ?_)
  · have g3 : d ≤ 50 := (gx_le (rfl : (nI d) = (nI d)) (rfl : (50 : Int32) = nI 50) (by omega) (by decide)).mp c3
    exact absurd g3 (by omega)
  · have g3 : ¬ (d ≤ 50) := fun z => c3 ((gx_le (rfl : (nI d) = (nI d)) (rfl : (50 : Int32) = nI 50) (by omega) (by decide)).mpr z)
    refine lv_iconst (v := 0) hx hb dP_evaluate_6 (by decide) ?_
    exact W.iret (v := 0) hx hb hr (fun t9 ht9 hW => ⟨⟨0, _, rfl, ⟨rfl, rfl⟩, by rw [ht9]; exact hP, hD⟩, hS.F ht9⟩) hS.2.2 dP_evaluate_7

/-- all of it, for every depth -/
theorem c_all (l : Launch) (D : va_G) (cI cJ cB cZ : ClassId) (g eo bo t co : Nat) (eq tq : Nat → Nat) (tl : va_W) (X : Ex) (ba : Nat → Option Nat) (f1 f2 f3 f4 : Nat → Int64) (Bs : Nat → Bd) (hX : ex_ok X) (hpool : pool_ok cI tl X ba Bs) : ∀ n, n ≤ 51 → cE l D cI cJ cB cZ g eo bo t co eq tq tl X ba f1 f2 f3 f4 Bs n ∧ cBl l D cI cJ cB cZ g eo bo t co eq tq tl X ba f1 f2 f3 f4 Bs n
  | 0, _ => ⟨fun d e lv S hd _ _ _ => c_P_evaluate_z l D cI cJ cB cZ g eo bo t co eq tq tl X ba f1 f2 f3 f4 Bs d e lv S hd, fun d f o q i j lv S hd _ _ _ _ _ _ _ _ => c_P_doBlock_0 l D cI cJ cB cZ g eo bo t co eq tq tl X ba f1 f2 f3 f4 Bs d f o i j lv S hd⟩
  | n + 1, hn => by
    obtain ⟨hE, hB⟩ := c_all l D cI cJ cB cZ g eo bo t co eq tq tl X ba f1 f2 f3 f4 Bs hX hpool n (by omega)
    have hBb : ∀ f, f < 8 → ba f ≠ none → bd_ok X (Bs f) := fun f hf hne => by
      cases hbf : ba f with
      | none => exact absurd hbf hne
      | some o => obtain ⟨q, -, h⟩ := hpool f hf o hbf; exact h
    obtain ⟨hre, hrb⟩ := pg_ok (ba := ba) (Bs := Bs) hX hBb n
    have hN : cN l D cI cJ cB cZ g eo bo t co eq tq tl X ba f1 f2 f3 f4 Bs n := fun d f x y lv S hd hf hx hy hlv hS => by
      cases hbf : ba f with
      | none => exact c_P_enter_none l D cI cJ cB cZ g eo bo t co eq tq tl X ba f1 f2 f3 f4 Bs n d f x y lv S hB hd hf hx hy hlv hS hbf
      | some o =>
        obtain ⟨q, hsl, hBd⟩ := hpool f hf o hbf
        exact c_P_enter_some l D cI cJ cB cZ g eo bo t co eq tq tl X ba f1 f2 f3 f4 Bs n d f x y lv S o q hB hd hf hx hy hlv hS hbf hsl hBd hrb
    have h80 := hX.1
    refine ⟨fun d e lv S hd he hlv hS => ?_, fun d f o q i j lv S hd hf hbf hsl hBd hi hj hlv hS => ?_⟩
    · obtain ⟨k, hk, hke, hl, hr, h1, h6, h10, h11⟩ := hX.2 e he
      rcases (show k = 0 ∨ k = 1 ∨ k = 2 ∨ k = 3 ∨ k = 4 ∨ k = 5 ∨ k = 6 ∨ k = 7 ∨ k = 8 ∨ k = 9 ∨ k = 10 ∨ k = 11 by omega) with rfl | rfl | rfl | rfl | rfl | rfl | rfl | rfl | rfl | rfl | rfl | rfl
      · exact c_P_evaluate_0 l D cI cJ cB cZ g eo bo t co eq tq tl X ba f1 f2 f3 f4 Bs n d e lv S hE hN hd h80 he hlv hS hre hke
      · obtain ⟨a, ha, hea⟩ := h1 rfl; exact c_P_evaluate_1 l D cI cJ cB cZ g eo bo t co eq tq tl X ba f1 f2 f3 f4 Bs n d e lv S a hE hN hd h80 he hlv hS hre hke ha hea
      · obtain ⟨a, ha, hea⟩ := hl (by decide); obtain ⟨b, hb, heb⟩ := hr (by unfold px_R; decide); exact c_P_evaluate_2 l D cI cJ cB cZ g eo bo t co eq tq tl X ba f1 f2 f3 f4 Bs n d e lv S a b hE hN hd h80 he hlv hS hre hke ha hea hb heb
      · obtain ⟨a, ha, hea⟩ := hl (by decide); obtain ⟨b, hb, heb⟩ := hr (by unfold px_R; decide); exact c_P_evaluate_3 l D cI cJ cB cZ g eo bo t co eq tq tl X ba f1 f2 f3 f4 Bs n d e lv S a b hE hN hd h80 he hlv hS hre hke ha hea hb heb
      · obtain ⟨a, ha, hea⟩ := hl (by decide); obtain ⟨b, hb, heb⟩ := hr (by unfold px_R; decide); exact c_P_evaluate_4 l D cI cJ cB cZ g eo bo t co eq tq tl X ba f1 f2 f3 f4 Bs n d e lv S a b hE hN hd h80 he hlv hS hre hke ha hea hb heb
      · obtain ⟨a, ha, hea⟩ := hl (by decide); exact c_P_evaluate_5 l D cI cJ cB cZ g eo bo t co eq tq tl X ba f1 f2 f3 f4 Bs n d e lv S a hE hN hd h80 he hlv hS hre hke ha hea
      · obtain ⟨a, ha, hea⟩ := hl (by decide); obtain ⟨b, hb, heb⟩ := h6 rfl; exact c_P_evaluate_6 l D cI cJ cB cZ g eo bo t co eq tq tl X ba f1 f2 f3 f4 Bs n d e lv S a b hE hN hd h80 he hlv hS hre hke ha hea hb heb
      · obtain ⟨a, ha, hea⟩ := hl (by decide); exact c_P_evaluate_7 l D cI cJ cB cZ g eo bo t co eq tq tl X ba f1 f2 f3 f4 Bs n d e lv S a hE hN hd h80 he hlv hS hre hke ha hea
      · obtain ⟨a, ha, hea⟩ := hl (by decide); obtain ⟨b, hb, heb⟩ := hr (by unfold px_R; decide); exact c_P_evaluate_8 l D cI cJ cB cZ g eo bo t co eq tq tl X ba f1 f2 f3 f4 Bs n d e lv S a b hE hN hd h80 he hlv hS hre hke ha hea hb heb
      · obtain ⟨a, ha, hea⟩ := hl (by decide); obtain ⟨b, hb, heb⟩ := hr (by unfold px_R; decide); exact c_P_evaluate_9 l D cI cJ cB cZ g eo bo t co eq tq tl X ba f1 f2 f3 f4 Bs n d e lv S a b hE hN hd h80 he hlv hS hre hke ha hea hb heb
      · obtain ⟨a, ha, hea⟩ := hl (by decide); obtain ⟨b, hb, heb⟩ := h10 rfl; exact c_P_evaluate_10 l D cI cJ cB cZ g eo bo t co eq tq tl X ba f1 f2 f3 f4 Bs n d e lv S a b hE hN hd h80 he hlv hS hre hke ha hea hb heb
      · obtain ⟨a, ha, hea⟩ := hl (by decide); obtain ⟨b, hb, heb⟩ := hr (by unfold px_R; decide); obtain ⟨cc, hc, hec⟩ := h11 rfl; exact c_P_evaluate_11 l D cI cJ cB cZ g eo bo t co eq tq tl X ba f1 f2 f3 f4 Bs n d e lv S a b cc hE hN hd h80 he hlv hS hre hke ha hea hb heb hc hec
    · refine c_P_doBlock l D cI cJ cB cZ g eo bo t co eq tq tl X ba f1 f2 f3 f4 Bs n d f o i j lv S (fun d i S hd hi hS => ?_) hd hX hBd hi hj hlv hS hre hrb
      obtain ⟨hcl, h0, h1, h2, h4⟩ := hBd.2.2 i hi
      have hk5 := hBd.2.1 i
      rcases (show (Bs f).1 i = 0 ∨ (Bs f).1 i = 1 ∨ (Bs f).1 i = 2 ∨ (Bs f).1 i = 3 ∨ (Bs f).1 i = 4 ∨ (Bs f).1 i = 5 by omega) with hk | hk | hk | hk | hk | hk
      · obtain ⟨tv, htv, htg⟩ := h0 hk; obtain ⟨ex, hex, hop⟩ := h2 (by omega); exact c_P_doStatement_0 l D cI cJ cB cZ g eo bo t co eq tq tl X ba f1 f2 f3 f4 Bs n d f o q i lv S tv ex hE hB hd hf hbf hsl hBd h80 hi hlv hS hre hrb hk htv htg hex hop
      · obtain ⟨tv, htv, htg⟩ := h1 hk; obtain ⟨ex, hex, hop⟩ := h2 (by omega); exact c_P_doStatement_1 l D cI cJ cB cZ g eo bo t co eq tq tl X ba f1 f2 f3 f4 Bs n d f o q i lv S tv ex hE hB hd hf hbf hsl hBd h80 hi hlv hS hre hrb hk htv htg hex hop
      · obtain ⟨ex, hex, hop⟩ := h2 (by omega); exact c_P_doStatement_2 l D cI cJ cB cZ g eo bo t co eq tq tl X ba f1 f2 f3 f4 Bs n d f o q i lv S ex hE hB hd hf hbf hsl hBd h80 hi hlv hS hre hrb hk hex hop
      · exact c_P_doStatement_3 l D cI cJ cB cZ g eo bo t co eq tq tl X ba f1 f2 f3 f4 Bs n d f o q i lv S hE hB hd hf hbf hsl hBd h80 hi hlv hS hre hrb hk
      · obtain ⟨ex, hex, hop⟩ := h4 hk; exact c_P_doStatement_4 l D cI cJ cB cZ g eo bo t co eq tq tl X ba f1 f2 f3 f4 Bs n d f o q i lv S ex hE hB hd hf hbf hsl hBd h80 hi hlv hS hre hrb hk hex hop
      · exact c_P_doStatement_5 l D cI cJ cB cZ g eo bo t co eq tq tl X ba f1 f2 f3 f4 Bs n d f o q i lv S hE hB hd hf hbf hsl hBd h80 hi hlv hS hre hrb hk
