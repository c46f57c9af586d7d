theorem px_bl_y {rs : Bd → Nat → Nat → Sx → Nat × Sx} {B : Bd} {lv n a : Nat} {S : Sx} : px_bl rs B lv (n + 1) a a S = px_bl rs B lv n (a + 1) (rs B a lv S).1 (rs B a lv S).2 := if_pos rfl
theorem px_bl_n {rs : Bd → Nat → Nat → Sx → Nat × Sx} {B : Bd} {lv n a x : Nat} {S : Sx} (h : ¬ a = x) : px_bl rs B lv (n + 1) a x S = px_bl rs B lv n (a + 1) x S := if_neg h
theorem px_st_n {re : Nat → Nat → Sx → Nat × Sx} {rb : Bd → Nat → Nat → Nat → Sx → Sx} {B : Bd} {i lv : Nat} {S : Sx} (hi : i < 12) (hs : B.2.2.2.2.2.2.1 ≤ 12) : (px_st re rb B i lv S).1 ≤ 14 := by
  have h1 := bd_close_le B i
  have h2 := bd_end_le B i
  unfold px_st
  split
  · show i + 1 ≤ 14; omega
  split
  · show i + 1 ≤ 14; omega
  split
  · show bd_end B i + 1 ≤ 14; omega
  split
  · show bd_close B i + 1 ≤ 14; omega
  · show i + 1 ≤ 14; omega
set_option maxHeartbeats 4000000 in
set_option maxRecDepth 100000 in
theorem c_P_enter_none (l : Launch) (D : va_G) (cI cJ cB cZ : ClassId) (g eo bo t co : Nat) (eq tq : Nat → Nat) (tl : va_W) (X : Ex) (ba : Nat → Option Nat) (f1 f2 f3 f4 : Nat → Int64) (Bs : Nat → Bd) (n d f x y lv : Nat) (S : Sx) (hB : cBl l D cI cJ cB cZ g eo bo t co eq tq tl X ba f1 f2 f3 f4 Bs n) (hd : d + n = 51) (hf : f < 8) (hx9 : x < 64) (hy9 : y < 64) (hlv8 : lv ≤ 8) (hS9 : sx_ok S) (hbf : ba f = none) : ct_I l y_P_enter w_P_enter ({ frames := 8 * n + 10, cells := 0, slots := 0, locals := 200 * n + 260 }) D (gk_T cI cJ cB cZ) [.ref g, .int (nI f), .int (nI x), .int (nI y), .int (nI lv), .int (nI d)] (wPg cI cJ cB g eo bo t co eq tq X ba S f1 f2 f3 f4 ++ tl) (0) (0) (fun r w => r = nI (px_ent ba Bs (pg X ba Bs n).2 f x y lv S).1 ∧ w = (wPg cI cJ cB g eo bo t co eq tq X ba ((px_ent ba Bs (pg X ba Bs n).2 f x y lv S).2) f1 f2 f3 f4 ++ tl)) := by
  intro sz
  refine Met.ofW (cc := b_P_enter) (maxL := 8) (ret := (some .int)) (by decide) rfl ?_
  intro p ev9 s m args below meth c s₁ B9 hml hv
  obtain ⟨rfl, hsz, hP, hK, hN, hD0⟩ := hv
  have hx := B9.exec
  have hb := B9.bytes
  have hr := B9.returns
  have hts := atoms_spec (ws := w_P_enter) B9.pre
  have ht : ∀ w ∈ gk_big, w.before _ s = true := fun w h => hts w (List.mem_cons_of_mem _ h)
  have hown : s.vm.findClass R_P = some m.cls := findClass_of_methodNamed B9.named
  have hlocks := B9.notSynchronized
  subst hsz
  have hD := hD0.self (sz := s.heap.size)
  generalize hAe : va_A (wPg cI cJ cB g eo bo t co eq tq X ba S f1 f2 f3 f4 ++ tl) s.heap.size = A at hD ⊢
  have hA : ∀ q : Nat, s.heap.size ≤ q → A q := fun q h => by rw [← hAe]; exact Or.inr h
  generalize hHe : s.heap = H at hP ⊢
  have hS : va_S A s.heap H [] := by rw [← hHe]; exact va_S.rf
  have hP : va_P D vwCl ([(g, .inr (3, [.ref eo, .ref bo, .ref t, .ref co])), (eo, .inr (2, [.ref (eq 0), .ref (eq 1), .ref (eq 2), .ref (eq 3), .int (nI X.2.2.2.2)])), ((eq 0), .inl (cI, 80, .inl X.1)), ((eq 1), .inl (cI, 80, .inl X.2.1)), ((eq 2), .inl (cI, 80, .inl X.2.2.1)), ((eq 3), .inl (cI, 80, .inl X.2.2.2.1)), (bo, .inl (cB, 8, .inr (.inr (.inr (.inr ba))))), (t, .inr (4, [.ref (tq 0), .ref (tq 1), .ref (tq 2), .ref (tq 3), .ref (tq 4), .ref (tq 5), .ref (tq 6), .ref (tq 7), .int (nI S.1.2.2.2.2)])), ((tq 0), .inl (cI, 64, .inl (fun z9 => nI (S.1.1 z9)))), ((tq 1), .inl (cI, 64, .inl (fun z9 => nI (S.1.2.1 z9)))), ((tq 2), .inl (cI, 64, .inl (fun z9 => nI (S.1.2.2.1 z9)))), ((tq 3), .inl (cJ, 64, .inr (.inl S.1.2.2.2.1))), ((tq 4), .inl (cJ, 64, .inr (.inl f1))), ((tq 5), .inl (cJ, 64, .inr (.inl f2))), ((tq 6), .inl (cJ, 64, .inr (.inl f3))), ((tq 7), .inl (cJ, 64, .inr (.inl f4))), (co, .inl (cI, 112, .inl (fun z9 => nI (S.2 z9))))] ++ tl) H := hP
  have hD : va_D A ([(g, .inr (3, [.ref eo, .ref bo, .ref t, .ref co])), (eo, .inr (2, [.ref (eq 0), .ref (eq 1), .ref (eq 2), .ref (eq 3), .int (nI X.2.2.2.2)])), ((eq 0), .inl (cI, 80, .inl X.1)), ((eq 1), .inl (cI, 80, .inl X.2.1)), ((eq 2), .inl (cI, 80, .inl X.2.2.1)), ((eq 3), .inl (cI, 80, .inl X.2.2.2.1)), (bo, .inl (cB, 8, .inr (.inr (.inr (.inr ba))))), (t, .inr (4, [.ref (tq 0), .ref (tq 1), .ref (tq 2), .ref (tq 3), .ref (tq 4), .ref (tq 5), .ref (tq 6), .ref (tq 7), .int (nI S.1.2.2.2.2)])), ((tq 0), .inl (cI, 64, .inl (fun z9 => nI (S.1.1 z9)))), ((tq 1), .inl (cI, 64, .inl (fun z9 => nI (S.1.2.1 z9)))), ((tq 2), .inl (cI, 64, .inl (fun z9 => nI (S.1.2.2.1 z9)))), ((tq 3), .inl (cJ, 64, .inr (.inl S.1.2.2.2.1))), ((tq 4), .inl (cJ, 64, .inr (.inl f1))), ((tq 5), .inl (cJ, 64, .inr (.inl f2))), ((tq 6), .inl (cJ, 64, .inr (.inl f3))), ((tq 7), .inl (cJ, 64, .inr (.inl f4))), (co, .inl (cI, 112, .inl (fun z9 => nI (S.2 z9))))] ++ tl) := hD
  have hl := lv_entry ([.ref g, .int (nI f), .int (nI x), .int (nI y), .int (nI lv), .int (nI d)]) (n := 8) (Nat.le_of_ble_eq_true rfl)
  rw [lg_entry_eq]
  generalize (lg_sl ([.ref g, .int (nI f), .int (nI x), .int (nI y), .int (nI lv), .int (nI d)]) ++ List.replicate (8 - (lg_sl ([.ref g, .int (nI f), .int (nI x), .int (nI y), .int (nI lv), .int (nI d)])).length) Slot.unset).toArray = ls at hl ⊢
  have hl : lv_has ls 8 [(0, .ref g), (1, .int (nI f)), (2, .int (nI x)), (3, .int (nI y)), (4, .int (nI lv)), (5, .int (nI d))] := hl
  refine lv_aload_n hx hb dP_enter_0 rfl (lv_at hl 0 rfl) ?_
  refine va_get (D := D) (ci := 3) (v := .ref bo) (C := R_P) (T := F_P) (N := 4) hx hb ht i_P hown hK hP 0 rfl rfl 1 (by decide) (ht _ m_93) (fun _ h9 => h9) rfl dP_enter_1 ?_
  refine lv_iload_n hx hb dP_enter_4 rfl (lv_at hl 1 rfl) ?_
  have i5 : vp_in (nI f) 8 := gx_in (rfl : (nI f) = (nI f)) (by omega) (by decide)
  have k5 : ((nI f) : Int32).toNatClampNeg = f := gx_cl (rfl : (nI f) = (nI f)) (by omega)
  refine va_aldq hx hb hK hP 6 2 rfl rfl i5 dP_enter_5 ?_
  rw [k5]
  rw [hbf]
  refine W.eq (g2 := F0 m 6 ls [.null]) rfl ?_
  refine lv_astoreN (lv' := [(6, .null), (0, .ref g), (1, .int (nI f)), (2, .int (nI x)), (3, .int (nI y)), (4, .int (nI lv)), (5, .int (nI d))]) hx hb dP_enter_6 hl (by decide) rfl (fun ls hl => ?_)
  refine lv_aloadN hx hb dP_enter_8 (lv_at hl 0 rfl) ?_
  refine lv_ifnullN (tgt := 20) hx hb dP_enter_10 (by decide) ?_
  refine lv_iconst (v := 0) hx hb dP_enter_20 (by decide) ?_
  have hz : px_ent ba Bs (pg X ba Bs n).2 f x y lv S = (0, S) := if_pos (Or.inl hbf)
  exact W.iret (v := 0) hx hb hr (fun t9 ht9 hW => ⟨⟨0, _, rfl, ⟨by rw [hz]; rfl, by rw [hz]⟩, by rw [ht9]; exact hP, hD⟩, hS.F ht9⟩) hS.2.2 dP_enter_21

set_option maxHeartbeats 4000000 in
set_option maxRecDepth 100000 in
theorem c_P_enter_some (l : Launch) (D : va_G) (cI cJ cB cZ : ClassId) (g eo bo t co : Nat) (eq tq : Nat → Nat) (tl : va_W) (X : Ex) (ba : Nat → Option Nat) (f1 f2 f3 f4 : Nat → Int64) (Bs : Nat → Bd) (n d f x y lv : Nat) (S : Sx) (o : Nat) (q : Nat → Nat) (hB : cBl l D cI cJ cB cZ g eo bo t co eq tq tl X ba f1 f2 f3 f4 Bs n) (hd : d + n = 51) (hf : f < 8) (hx9 : x < 64) (hy9 : y < 64) (hlv8 : lv ≤ 8) (hS9 : sx_ok S) (hbf : ba f = some o) (hsl : (wB cI o q (Bs f)).Sublist tl) (hBd : bd_ok X (Bs f)) (hrb : rb_ok X (pg X ba Bs n).2) : ct_I l y_P_enter w_P_enter ({ frames := 8 * n + 10, cells := 0, slots := 0, locals := 200 * n + 260 }) D (gk_T cI cJ cB cZ) [.ref g, .int (nI f), .int (nI x), .int (nI y), .int (nI lv), .int (nI d)] (wPg cI cJ cB g eo bo t co eq tq X ba S f1 f2 f3 f4 ++ tl) (0) (0) (fun r w => r = nI (px_ent ba Bs (pg X ba Bs n).2 f x y lv S).1 ∧ w = (wPg cI cJ cB g eo bo t co eq tq X ba ((px_ent ba Bs (pg X ba Bs n).2 f x y lv S).2) f1 f2 f3 f4 ++ tl)) := by
  intro sz
  refine Met.ofW (cc := b_P_enter) (maxL := 8) (ret := (some .int)) (by decide) rfl ?_
  intro p ev9 s m args below meth c s₁ B9 hml hv
  obtain ⟨rfl, hsz, hP, hK, hN, hD0⟩ := hv
  have hx := B9.exec
  have hb := B9.bytes
  have hr := B9.returns
  have hts := atoms_spec (ws := w_P_enter) B9.pre
  have ht : ∀ w ∈ gk_big, w.before _ s = true := fun w h => hts w (List.mem_cons_of_mem _ h)
  have hown : s.vm.findClass R_P = some m.cls := findClass_of_methodNamed B9.named
  have hlocks := B9.notSynchronized
  subst hsz
  have hD := hD0.self (sz := s.heap.size)
  generalize hAe : va_A (wPg cI cJ cB g eo bo t co eq tq X ba S f1 f2 f3 f4 ++ tl) s.heap.size = A at hD ⊢
  have hA : ∀ q : Nat, s.heap.size ≤ q → A q := fun q h => by rw [← hAe]; exact Or.inr h
  generalize hHe : s.heap = H at hP ⊢
  have hS : va_S A s.heap H [] := by rw [← hHe]; exact va_S.rf
  have hP : va_P D vwCl ([(g, .inr (3, [.ref eo, .ref bo, .ref t, .ref co])), (eo, .inr (2, [.ref (eq 0), .ref (eq 1), .ref (eq 2), .ref (eq 3), .int (nI X.2.2.2.2)])), ((eq 0), .inl (cI, 80, .inl X.1)), ((eq 1), .inl (cI, 80, .inl X.2.1)), ((eq 2), .inl (cI, 80, .inl X.2.2.1)), ((eq 3), .inl (cI, 80, .inl X.2.2.2.1)), (bo, .inl (cB, 8, .inr (.inr (.inr (.inr ba))))), (t, .inr (4, [.ref (tq 0), .ref (tq 1), .ref (tq 2), .ref (tq 3), .ref (tq 4), .ref (tq 5), .ref (tq 6), .ref (tq 7), .int (nI S.1.2.2.2.2)])), ((tq 0), .inl (cI, 64, .inl (fun z9 => nI (S.1.1 z9)))), ((tq 1), .inl (cI, 64, .inl (fun z9 => nI (S.1.2.1 z9)))), ((tq 2), .inl (cI, 64, .inl (fun z9 => nI (S.1.2.2.1 z9)))), ((tq 3), .inl (cJ, 64, .inr (.inl S.1.2.2.2.1))), ((tq 4), .inl (cJ, 64, .inr (.inl f1))), ((tq 5), .inl (cJ, 64, .inr (.inl f2))), ((tq 6), .inl (cJ, 64, .inr (.inl f3))), ((tq 7), .inl (cJ, 64, .inr (.inl f4))), (co, .inl (cI, 112, .inl (fun z9 => nI (S.2 z9))))] ++ tl) H := hP
  have hD : va_D A ([(g, .inr (3, [.ref eo, .ref bo, .ref t, .ref co])), (eo, .inr (2, [.ref (eq 0), .ref (eq 1), .ref (eq 2), .ref (eq 3), .int (nI X.2.2.2.2)])), ((eq 0), .inl (cI, 80, .inl X.1)), ((eq 1), .inl (cI, 80, .inl X.2.1)), ((eq 2), .inl (cI, 80, .inl X.2.2.1)), ((eq 3), .inl (cI, 80, .inl X.2.2.2.1)), (bo, .inl (cB, 8, .inr (.inr (.inr (.inr ba))))), (t, .inr (4, [.ref (tq 0), .ref (tq 1), .ref (tq 2), .ref (tq 3), .ref (tq 4), .ref (tq 5), .ref (tq 6), .ref (tq 7), .int (nI S.1.2.2.2.2)])), ((tq 0), .inl (cI, 64, .inl (fun z9 => nI (S.1.1 z9)))), ((tq 1), .inl (cI, 64, .inl (fun z9 => nI (S.1.2.1 z9)))), ((tq 2), .inl (cI, 64, .inl (fun z9 => nI (S.1.2.2.1 z9)))), ((tq 3), .inl (cJ, 64, .inr (.inl S.1.2.2.2.1))), ((tq 4), .inl (cJ, 64, .inr (.inl f1))), ((tq 5), .inl (cJ, 64, .inr (.inl f2))), ((tq 6), .inl (cJ, 64, .inr (.inl f3))), ((tq 7), .inl (cJ, 64, .inr (.inl f4))), (co, .inl (cI, 112, .inl (fun z9 => nI (S.2 z9))))] ++ tl) := hD
  have hl := lv_entry ([.ref g, .int (nI f), .int (nI x), .int (nI y), .int (nI lv), .int (nI d)]) (n := 8) (Nat.le_of_ble_eq_true rfl)
  rw [lg_entry_eq]
  generalize (lg_sl ([.ref g, .int (nI f), .int (nI x), .int (nI y), .int (nI lv), .int (nI d)]) ++ List.replicate (8 - (lg_sl ([.ref g, .int (nI f), .int (nI x), .int (nI y), .int (nI lv), .int (nI d)])).length) Slot.unset).toArray = ls at hl ⊢
  have hl : lv_has ls 8 [(0, .ref g), (1, .int (nI f)), (2, .int (nI x)), (3, .int (nI y)), (4, .int (nI lv)), (5, .int (nI d))] := hl
  obtain ⟨j0, hj0⟩ := List.getElem?_of_mem (hsl.subset (List.mem_of_getElem? (l := wB cI o q (Bs f)) (i := 0) rfl))
  have hj0 : tl[j0]? = some (o, .inr (0, [.ref (q 0), .ref (q 1), .ref (q 2), .ref (q 3), .ref (q 4), .ref (q 5), .int (nI ((Bs f).2.2.2.2.2.2.1)), .int (nI ((Bs f).2.2.2.2.2.2.2))])) := hj0
  refine lv_aload_n hx hb dP_enter_0 rfl (lv_at hl 0 rfl) ?_
  refine va_get (D := D) (ci := 3) (v := .ref bo) (C := R_P) (T := F_P) (N := 4) hx hb ht i_P hown hK hP 0 rfl rfl 1 (by decide) (ht _ m_93) (fun _ h9 => h9) rfl dP_enter_1 ?_
  refine lv_iload_n hx hb dP_enter_4 rfl (lv_at hl 1 rfl) ?_
  have i5 : vp_in (nI f) 8 := gx_in (rfl : (nI f) = (nI f)) (by omega) (by decide)
  have k5 : ((nI f) : Int32).toNatClampNeg = f := gx_cl (rfl : (nI f) = (nI f)) (by omega)
  refine va_aldq hx hb hK hP 6 2 rfl rfl i5 dP_enter_5 ?_
  rw [k5]
  rw [hbf]
  refine W.eq (g2 := F0 m 6 ls [.ref o]) rfl ?_
  refine lv_astore (lv' := [(6, .ref o), (0, .ref g), (1, .int (nI f)), (2, .int (nI x)), (3, .int (nI y)), (4, .int (nI lv)), (5, .int (nI d))]) hx hb dP_enter_6 hl (by decide) rfl (fun ls hl => ?_)
  refine lv_aload hx hb dP_enter_8 (lv_at hl 0 rfl) ?_
  refine lv_ifnull hx hb dP_enter_10 ?_
  refine lv_iload hx hb dP_enter_13 (lv_at hl 5 rfl) ?_
  refine lv_bipush (v := 8) hx hb dP_enter_15 (by decide) ?_
  refine lv_icmp_lt (tgt := 22) hx hb dP_enter_17 (by decide) (fun c17 => ?_) (fun c17 => ?_)
  · have g17 : lv < 8 := (gx_lt (rfl : (nI lv) = (nI lv)) (rfl : (8 : Int32) = nI 8) (by omega) (by decide)).mp c17
    have hlv : lv < 8 := by omega
    have hs12 := hBd.1
    refine lv_iload hx hb dP_enter_22 (lv_at hl 5 rfl) ?_
    refine lv_bipush (v := 14) hx hb dP_enter_24 (by decide) ?_
    refine lv_imul hx hb dP_enter_26 ?_
    refine lv_topi (fun v26 e26 => ?_)
    have n26 : v26 = nI (lv * 14) := by rw [e26]; exact gx_mul (rfl : (nI lv) = (nI lv)) (rfl : (14 : Int32) = nI 14)
    subst n26
    refine lv_istore (lv' := [(7, .int (nI (lv * 14))), (6, .ref o), (0, .ref g), (1, .int (nI f)), (2, .int (nI x)), (3, .int (nI y)), (4, .int (nI lv)), (5, .int (nI d))]) hx hb dP_enter_27 hl (by decide) rfl (fun ls hl => ?_)
    refine lv_aload_n hx hb dP_enter_29 rfl (lv_at hl 2 rfl) ?_
    refine va_get (D := D) (ci := 3) (v := .ref co) (C := R_P) (T := F_P) (N := 4) hx hb ht i_P hown hK hP 0 rfl rfl 3 (by decide) (ht _ m_97) (fun _ h9 => h9) rfl dP_enter_30 ?_
    refine lv_iload hx hb dP_enter_33 (lv_at hl 0 rfl) ?_
    refine lv_iload hx hb dP_enter_35 (lv_at hl 0 rfl) ?_
    refine lv_bipush (v := 14) hx hb dP_enter_37 (by decide) ?_
    refine lv_iadd hx hb dP_enter_39 ?_
    refine lv_topi (fun v39 e39 => ?_)
    have n39 : v39 = nI ((lv * 14) + 14) := by rw [e39]; exact gx_add (rfl : (nI (lv * 14)) = (nI (lv * 14))) (rfl : (14 : Int32) = nI 14)
    subst n39
    refine lv_iconst (v := 0) hx hb dP_enter_40 (by decide) ?_
    refine gc_v (va_runS (As := [.ref co, .int (nI (lv * 14)), .int (nI ((lv * 14) + 14)), .int 0]) (rest := []) ⟨hx, hb, hml, hown, ht⟩ (c_A_fillR l D cI cJ cB cZ co 112 S.2 (lv * 14) ((lv * 14) + 14) 0 (by decide) (by omega) (by omega) H.size) (va_cwS 4 ht (gw_S m_323 m_324 m_9 m_325) rfl rfl rfl (by decide +kernel) ⟨show 1 + 1 ≤ 8 * n + 10 by omega, show 8 + (5 + 11) + (22) ≤ 200 * n + 260 by omega⟩) (gp_S hK hN (hP.sub (ws' := [(co, .inl (cI, 112, .inl (fun z9 => nI (S.2 z9))))]) [16] rfl) (hD.sub (ws' := [(co, .inl (cI, 112, .inl (fun z9 => nI (S.2 z9))))]) [16] (by decide) rfl)) rfl rfl hl.1 rfl (lv_room (Nat.le_of_ble_eq_true rfl)) dP_enter_41 ⟨Nat.le_of_ble_eq_true rfl, Nat.le_of_ble_eq_true rfl⟩) hP hD hS hA [16] rfl (by decide) (fun w h => by subst h; rfl) (fun w41 H locs p41 hP hD hS => ?_)
    subst p41
    have hP : va_P D vwCl ([(g, .inr (3, [.ref eo, .ref bo, .ref t, .ref co])), (eo, .inr (2, [.ref (eq 0), .ref (eq 1), .ref (eq 2), .ref (eq 3), .int (nI X.2.2.2.2)])), ((eq 0), .inl (cI, 80, .inl X.1)), ((eq 1), .inl (cI, 80, .inl X.2.1)), ((eq 2), .inl (cI, 80, .inl X.2.2.1)), ((eq 3), .inl (cI, 80, .inl X.2.2.2.1)), (bo, .inl (cB, 8, .inr (.inr (.inr (.inr ba))))), (t, .inr (4, [.ref (tq 0), .ref (tq 1), .ref (tq 2), .ref (tq 3), .ref (tq 4), .ref (tq 5), .ref (tq 6), .ref (tq 7), .int (nI S.1.2.2.2.2)])), ((tq 0), .inl (cI, 64, .inl (fun z9 => nI (S.1.1 z9)))), ((tq 1), .inl (cI, 64, .inl (fun z9 => nI (S.1.2.1 z9)))), ((tq 2), .inl (cI, 64, .inl (fun z9 => nI (S.1.2.2.1 z9)))), ((tq 3), .inl (cJ, 64, .inr (.inl S.1.2.2.2.1))), ((tq 4), .inl (cJ, 64, .inr (.inl f1))), ((tq 5), .inl (cJ, 64, .inr (.inl f2))), ((tq 6), .inl (cJ, 64, .inr (.inl f3))), ((tq 7), .inl (cJ, 64, .inr (.inl f4))), (co, .inl (cI, 112, .inl (fun z9 => nI ((gf_N S.2 0 (lv * 14) ((lv * 14) + 14)) z9))))] ++ tl) H := hP
    have hD : va_D A ([(g, .inr (3, [.ref eo, .ref bo, .ref t, .ref co])), (eo, .inr (2, [.ref (eq 0), .ref (eq 1), .ref (eq 2), .ref (eq 3), .int (nI X.2.2.2.2)])), ((eq 0), .inl (cI, 80, .inl X.1)), ((eq 1), .inl (cI, 80, .inl X.2.1)), ((eq 2), .inl (cI, 80, .inl X.2.2.1)), ((eq 3), .inl (cI, 80, .inl X.2.2.2.1)), (bo, .inl (cB, 8, .inr (.inr (.inr (.inr ba))))), (t, .inr (4, [.ref (tq 0), .ref (tq 1), .ref (tq 2), .ref (tq 3), .ref (tq 4), .ref (tq 5), .ref (tq 6), .ref (tq 7), .int (nI S.1.2.2.2.2)])), ((tq 0), .inl (cI, 64, .inl (fun z9 => nI (S.1.1 z9)))), ((tq 1), .inl (cI, 64, .inl (fun z9 => nI (S.1.2.1 z9)))), ((tq 2), .inl (cI, 64, .inl (fun z9 => nI (S.1.2.2.1 z9)))), ((tq 3), .inl (cJ, 64, .inr (.inl S.1.2.2.2.1))), ((tq 4), .inl (cJ, 64, .inr (.inl f1))), ((tq 5), .inl (cJ, 64, .inr (.inl f2))), ((tq 6), .inl (cJ, 64, .inr (.inl f3))), ((tq 7), .inl (cJ, 64, .inr (.inl f4))), (co, .inl (cI, 112, .inl (fun z9 => nI ((gf_N S.2 0 (lv * 14) ((lv * 14) + 14)) z9))))] ++ tl) := hD
    refine lv_aload_n hx hb dP_enter_44 rfl (lv_at hl 2 rfl) ?_
    refine va_get (D := D) (ci := 3) (v := .ref co) (C := R_P) (T := F_P) (N := 4) hx hb ht i_P hown hK hP 0 rfl rfl 3 (by decide) (ht _ m_97) (fun _ h9 => h9) rfl dP_enter_45 ?_
    refine lv_iload hx hb dP_enter_48 (lv_at hl 0 rfl) ?_
    refine lv_iload_n hx hb dP_enter_50 rfl (lv_at hl 4 rfl) ?_
    have i51 : vp_in (nI (lv * 14)) 112 := gx_in (rfl : (nI (lv * 14)) = (nI (lv * 14))) (by omega) (by decide)
    have k51 : ((nI (lv * 14)) : Int32).toNatClampNeg = (lv * 14) := gx_cl (rfl : (nI (lv * 14)) = (nI (lv * 14))) (by omega)
    refine va_iast hx hb hK hP hD hS 16 0 rfl rfl i51 dP_enter_51 (fun H locs hP hD hS => ?_)
    rw [k51] at hP hD
    have hP : va_P D vwCl ([(g, .inr (3, [.ref eo, .ref bo, .ref t, .ref co])), (eo, .inr (2, [.ref (eq 0), .ref (eq 1), .ref (eq 2), .ref (eq 3), .int (nI X.2.2.2.2)])), ((eq 0), .inl (cI, 80, .inl X.1)), ((eq 1), .inl (cI, 80, .inl X.2.1)), ((eq 2), .inl (cI, 80, .inl X.2.2.1)), ((eq 3), .inl (cI, 80, .inl X.2.2.2.1)), (bo, .inl (cB, 8, .inr (.inr (.inr (.inr ba))))), (t, .inr (4, [.ref (tq 0), .ref (tq 1), .ref (tq 2), .ref (tq 3), .ref (tq 4), .ref (tq 5), .ref (tq 6), .ref (tq 7), .int (nI S.1.2.2.2.2)])), ((tq 0), .inl (cI, 64, .inl (fun z9 => nI (S.1.1 z9)))), ((tq 1), .inl (cI, 64, .inl (fun z9 => nI (S.1.2.1 z9)))), ((tq 2), .inl (cI, 64, .inl (fun z9 => nI (S.1.2.2.1 z9)))), ((tq 3), .inl (cJ, 64, .inr (.inl S.1.2.2.2.1))), ((tq 4), .inl (cJ, 64, .inr (.inl f1))), ((tq 5), .inl (cJ, 64, .inr (.inl f2))), ((tq 6), .inl (cJ, 64, .inr (.inl f3))), ((tq 7), .inl (cJ, 64, .inr (.inl f4))), (co, .inl (cI, 112, .inl (upd (fun z9 => nI ((gf_N S.2 0 (lv * 14) ((lv * 14) + 14)) z9)) (lv * 14) (nI x))))] ++ tl) H := hP
    have hD : va_D A ([(g, .inr (3, [.ref eo, .ref bo, .ref t, .ref co])), (eo, .inr (2, [.ref (eq 0), .ref (eq 1), .ref (eq 2), .ref (eq 3), .int (nI X.2.2.2.2)])), ((eq 0), .inl (cI, 80, .inl X.1)), ((eq 1), .inl (cI, 80, .inl X.2.1)), ((eq 2), .inl (cI, 80, .inl X.2.2.1)), ((eq 3), .inl (cI, 80, .inl X.2.2.2.1)), (bo, .inl (cB, 8, .inr (.inr (.inr (.inr ba))))), (t, .inr (4, [.ref (tq 0), .ref (tq 1), .ref (tq 2), .ref (tq 3), .ref (tq 4), .ref (tq 5), .ref (tq 6), .ref (tq 7), .int (nI S.1.2.2.2.2)])), ((tq 0), .inl (cI, 64, .inl (fun z9 => nI (S.1.1 z9)))), ((tq 1), .inl (cI, 64, .inl (fun z9 => nI (S.1.2.1 z9)))), ((tq 2), .inl (cI, 64, .inl (fun z9 => nI (S.1.2.2.1 z9)))), ((tq 3), .inl (cJ, 64, .inr (.inl S.1.2.2.2.1))), ((tq 4), .inl (cJ, 64, .inr (.inl f1))), ((tq 5), .inl (cJ, 64, .inr (.inl f2))), ((tq 6), .inl (cJ, 64, .inr (.inl f3))), ((tq 7), .inl (cJ, 64, .inr (.inl f4))), (co, .inl (cI, 112, .inl (upd (fun z9 => nI ((gf_N S.2 0 (lv * 14) ((lv * 14) + 14)) z9)) (lv * 14) (nI x))))] ++ tl) := hD
    rw [gx_upd] at hP hD
    refine lv_aload_n hx hb dP_enter_52 rfl (lv_at hl 2 rfl) ?_
    refine va_get (D := D) (ci := 3) (v := .ref co) (C := R_P) (T := F_P) (N := 4) hx hb ht i_P hown hK hP 0 rfl rfl 3 (by decide) (ht _ m_97) (fun _ h9 => h9) rfl dP_enter_53 ?_
    refine lv_iload hx hb dP_enter_56 (lv_at hl 0 rfl) ?_
    refine lv_iconst (v := 1) hx hb dP_enter_58 (by decide) ?_
    refine lv_iadd hx hb dP_enter_59 ?_
    refine lv_topi (fun v59 e59 => ?_)
    have n59 : v59 = nI ((lv * 14) + 1) := by rw [e59]; exact gx_add (rfl : (nI (lv * 14)) = (nI (lv * 14))) (rfl : (1 : Int32) = nI 1)
    subst n59
    refine lv_iload_n hx hb dP_enter_60 rfl (lv_at hl 5 rfl) ?_
    have i61 : vp_in (nI ((lv * 14) + 1)) 112 := gx_in (rfl : (nI ((lv * 14) + 1)) = (nI ((lv * 14) + 1))) (by omega) (by decide)
    have k61 : ((nI ((lv * 14) + 1)) : Int32).toNatClampNeg = ((lv * 14) + 1) := gx_cl (rfl : (nI ((lv * 14) + 1)) = (nI ((lv * 14) + 1))) (by omega)
    refine va_iast hx hb hK hP hD hS 16 0 rfl rfl i61 dP_enter_61 (fun H locs hP hD hS => ?_)
    rw [k61] at hP hD
    have hP : va_P D vwCl ([(g, .inr (3, [.ref eo, .ref bo, .ref t, .ref co])), (eo, .inr (2, [.ref (eq 0), .ref (eq 1), .ref (eq 2), .ref (eq 3), .int (nI X.2.2.2.2)])), ((eq 0), .inl (cI, 80, .inl X.1)), ((eq 1), .inl (cI, 80, .inl X.2.1)), ((eq 2), .inl (cI, 80, .inl X.2.2.1)), ((eq 3), .inl (cI, 80, .inl X.2.2.2.1)), (bo, .inl (cB, 8, .inr (.inr (.inr (.inr ba))))), (t, .inr (4, [.ref (tq 0), .ref (tq 1), .ref (tq 2), .ref (tq 3), .ref (tq 4), .ref (tq 5), .ref (tq 6), .ref (tq 7), .int (nI S.1.2.2.2.2)])), ((tq 0), .inl (cI, 64, .inl (fun z9 => nI (S.1.1 z9)))), ((tq 1), .inl (cI, 64, .inl (fun z9 => nI (S.1.2.1 z9)))), ((tq 2), .inl (cI, 64, .inl (fun z9 => nI (S.1.2.2.1 z9)))), ((tq 3), .inl (cJ, 64, .inr (.inl S.1.2.2.2.1))), ((tq 4), .inl (cJ, 64, .inr (.inl f1))), ((tq 5), .inl (cJ, 64, .inr (.inl f2))), ((tq 6), .inl (cJ, 64, .inr (.inl f3))), ((tq 7), .inl (cJ, 64, .inr (.inl f4))), (co, .inl (cI, 112, .inl (upd (fun z9 => nI ((va_up (gf_N S.2 0 (lv * 14) ((lv * 14) + 14)) (lv * 14) x) z9)) ((lv * 14) + 1) (nI y))))] ++ tl) H := hP
    have hD : va_D A ([(g, .inr (3, [.ref eo, .ref bo, .ref t, .ref co])), (eo, .inr (2, [.ref (eq 0), .ref (eq 1), .ref (eq 2), .ref (eq 3), .int (nI X.2.2.2.2)])), ((eq 0), .inl (cI, 80, .inl X.1)), ((eq 1), .inl (cI, 80, .inl X.2.1)), ((eq 2), .inl (cI, 80, .inl X.2.2.1)), ((eq 3), .inl (cI, 80, .inl X.2.2.2.1)), (bo, .inl (cB, 8, .inr (.inr (.inr (.inr ba))))), (t, .inr (4, [.ref (tq 0), .ref (tq 1), .ref (tq 2), .ref (tq 3), .ref (tq 4), .ref (tq 5), .ref (tq 6), .ref (tq 7), .int (nI S.1.2.2.2.2)])), ((tq 0), .inl (cI, 64, .inl (fun z9 => nI (S.1.1 z9)))), ((tq 1), .inl (cI, 64, .inl (fun z9 => nI (S.1.2.1 z9)))), ((tq 2), .inl (cI, 64, .inl (fun z9 => nI (S.1.2.2.1 z9)))), ((tq 3), .inl (cJ, 64, .inr (.inl S.1.2.2.2.1))), ((tq 4), .inl (cJ, 64, .inr (.inl f1))), ((tq 5), .inl (cJ, 64, .inr (.inl f2))), ((tq 6), .inl (cJ, 64, .inr (.inl f3))), ((tq 7), .inl (cJ, 64, .inr (.inl f4))), (co, .inl (cI, 112, .inl (upd (fun z9 => nI ((va_up (gf_N S.2 0 (lv * 14) ((lv * 14) + 14)) (lv * 14) x) z9)) ((lv * 14) + 1) (nI y))))] ++ tl) := hD
    rw [gx_upd] at hP hD
    have hP : va_P D vwCl ([(g, .inr (3, [.ref eo, .ref bo, .ref t, .ref co])), (eo, .inr (2, [.ref (eq 0), .ref (eq 1), .ref (eq 2), .ref (eq 3), .int (nI X.2.2.2.2)])), ((eq 0), .inl (cI, 80, .inl X.1)), ((eq 1), .inl (cI, 80, .inl X.2.1)), ((eq 2), .inl (cI, 80, .inl X.2.2.1)), ((eq 3), .inl (cI, 80, .inl X.2.2.2.1)), (bo, .inl (cB, 8, .inr (.inr (.inr (.inr ba))))), (t, .inr (4, [.ref (tq 0), .ref (tq 1), .ref (tq 2), .ref (tq 3), .ref (tq 4), .ref (tq 5), .ref (tq 6), .ref (tq 7), .int (nI (((S.1, px_fr S.2 lv x y).1).2.2.2.2))])), ((tq 0), .inl (cI, 64, .inl (fun z9 => nI ((((S.1, px_fr S.2 lv x y).1).1) z9)))), ((tq 1), .inl (cI, 64, .inl (fun z9 => nI ((((S.1, px_fr S.2 lv x y).1).2.1) z9)))), ((tq 2), .inl (cI, 64, .inl (fun z9 => nI ((((S.1, px_fr S.2 lv x y).1).2.2.1) z9)))), ((tq 3), .inl (cJ, 64, .inr (.inl (((S.1, px_fr S.2 lv x y).1).2.2.2.1)))), ((tq 4), .inl (cJ, 64, .inr (.inl f1))), ((tq 5), .inl (cJ, 64, .inr (.inl f2))), ((tq 6), .inl (cJ, 64, .inr (.inl f3))), ((tq 7), .inl (cJ, 64, .inr (.inl f4))), (co, .inl (cI, 112, .inl (fun z9 => nI (((S.1, px_fr S.2 lv x y).2) z9))))] ++ tl) H := hP
    have hD : va_D A ([(g, .inr (3, [.ref eo, .ref bo, .ref t, .ref co])), (eo, .inr (2, [.ref (eq 0), .ref (eq 1), .ref (eq 2), .ref (eq 3), .int (nI X.2.2.2.2)])), ((eq 0), .inl (cI, 80, .inl X.1)), ((eq 1), .inl (cI, 80, .inl X.2.1)), ((eq 2), .inl (cI, 80, .inl X.2.2.1)), ((eq 3), .inl (cI, 80, .inl X.2.2.2.1)), (bo, .inl (cB, 8, .inr (.inr (.inr (.inr ba))))), (t, .inr (4, [.ref (tq 0), .ref (tq 1), .ref (tq 2), .ref (tq 3), .ref (tq 4), .ref (tq 5), .ref (tq 6), .ref (tq 7), .int (nI (((S.1, px_fr S.2 lv x y).1).2.2.2.2))])), ((tq 0), .inl (cI, 64, .inl (fun z9 => nI ((((S.1, px_fr S.2 lv x y).1).1) z9)))), ((tq 1), .inl (cI, 64, .inl (fun z9 => nI ((((S.1, px_fr S.2 lv x y).1).2.1) z9)))), ((tq 2), .inl (cI, 64, .inl (fun z9 => nI ((((S.1, px_fr S.2 lv x y).1).2.2.1) z9)))), ((tq 3), .inl (cJ, 64, .inr (.inl (((S.1, px_fr S.2 lv x y).1).2.2.2.1)))), ((tq 4), .inl (cJ, 64, .inr (.inl f1))), ((tq 5), .inl (cJ, 64, .inr (.inl f2))), ((tq 6), .inl (cJ, 64, .inr (.inl f3))), ((tq 7), .inl (cJ, 64, .inr (.inl f4))), (co, .inl (cI, 112, .inl (fun z9 => nI (((S.1, px_fr S.2 lv x y).2) z9))))] ++ tl) := hD
    refine lv_aload_n hx hb dP_enter_62 rfl (lv_at hl 2 rfl) ?_
    refine lv_aload hx hb dP_enter_63 (lv_at hl 1 rfl) ?_
    refine lv_iconst (v := 0) hx hb dP_enter_65 (by decide) ?_
    refine lv_aload hx hb dP_enter_66 (lv_at hl 1 rfl) ?_
    refine va_getN (D := D) (ci := 0) (v := .int (nI ((Bs f).2.2.2.2.2.2.1))) (C := R_B) (T := F_B) (N := 8) hx hb ht i_B hown hK hP (j0 + 17) hj0 rfl 6 (by decide) (va_Nw.use rfl (hN _ mn_20)) (fun _ h9 => h9) rfl dP_enter_68 ?_
    refine lv_iload hx hb dP_enter_71 (lv_at hl 6 rfl) ?_
    refine lv_iload hx hb dP_enter_73 (lv_at hl 7 rfl) ?_
    refine gc_wv (va_runV (As := [.ref o, .int 0, .int (nI ((Bs f).2.2.2.2.2.2.1)), .int (nI lv), .int (nI d)]) (rest := []) ⟨hx, hb, hml, hown, ht⟩ (hB d f o q 0 ((Bs f).2.2.2.2.2.2.1) lv (S.1, px_fr S.2 lv x y) (by omega) hf hbf hsl hBd (by omega) (by omega) hlv ⟨hS9.1, px_fr_ok hS9.2 hx9 hy9⟩ H.size) (cwV 5 ht (gw_V m_329 m_331 ms_10 m_2 m_332) rfl rfl rfl (by decide +kernel) ⟨show (8 * n + 8) + 1 ≤ 8 * n + 10 by omega, show 8 + (8 + 11) + (200 * n + 200) ≤ 200 * n + 260 by omega⟩) (gp_V (ci := 3) (q0 := 0) hK hN hP hD rfl rfl) rfl rfl hl.1 rfl (lv_room (Nat.le_of_ble_eq_true rfl)) dP_enter_75 ⟨Nat.le_of_ble_eq_true rfl, Nat.le_of_ble_eq_true rfl⟩) hP hD hS hA (fun w75 H locs p75 hP hD hS => ?_)
    subst p75
    have hP : va_P D vwCl ([(g, .inr (3, [.ref eo, .ref bo, .ref t, .ref co])), (eo, .inr (2, [.ref (eq 0), .ref (eq 1), .ref (eq 2), .ref (eq 3), .int (nI X.2.2.2.2)])), ((eq 0), .inl (cI, 80, .inl X.1)), ((eq 1), .inl (cI, 80, .inl X.2.1)), ((eq 2), .inl (cI, 80, .inl X.2.2.1)), ((eq 3), .inl (cI, 80, .inl X.2.2.2.1)), (bo, .inl (cB, 8, .inr (.inr (.inr (.inr ba))))), (t, .inr (4, [.ref (tq 0), .ref (tq 1), .ref (tq 2), .ref (tq 3), .ref (tq 4), .ref (tq 5), .ref (tq 6), .ref (tq 7), .int (nI ((((pg X ba Bs n).2 (Bs f) 0 ((Bs f).2.2.2.2.2.2.1) lv (S.1, px_fr S.2 lv x y)).1).2.2.2.2))])), ((tq 0), .inl (cI, 64, .inl (fun z9 => nI (((((pg X ba Bs n).2 (Bs f) 0 ((Bs f).2.2.2.2.2.2.1) lv (S.1, px_fr S.2 lv x y)).1).1) z9)))), ((tq 1), .inl (cI, 64, .inl (fun z9 => nI (((((pg X ba Bs n).2 (Bs f) 0 ((Bs f).2.2.2.2.2.2.1) lv (S.1, px_fr S.2 lv x y)).1).2.1) z9)))), ((tq 2), .inl (cI, 64, .inl (fun z9 => nI (((((pg X ba Bs n).2 (Bs f) 0 ((Bs f).2.2.2.2.2.2.1) lv (S.1, px_fr S.2 lv x y)).1).2.2.1) z9)))), ((tq 3), .inl (cJ, 64, .inr (.inl ((((pg X ba Bs n).2 (Bs f) 0 ((Bs f).2.2.2.2.2.2.1) lv (S.1, px_fr S.2 lv x y)).1).2.2.2.1)))), ((tq 4), .inl (cJ, 64, .inr (.inl f1))), ((tq 5), .inl (cJ, 64, .inr (.inl f2))), ((tq 6), .inl (cJ, 64, .inr (.inl f3))), ((tq 7), .inl (cJ, 64, .inr (.inl f4))), (co, .inl (cI, 112, .inl (fun z9 => nI ((((pg X ba Bs n).2 (Bs f) 0 ((Bs f).2.2.2.2.2.2.1) lv (S.1, px_fr S.2 lv x y)).2) z9))))] ++ tl) H := hP
    have hD : va_D A ([(g, .inr (3, [.ref eo, .ref bo, .ref t, .ref co])), (eo, .inr (2, [.ref (eq 0), .ref (eq 1), .ref (eq 2), .ref (eq 3), .int (nI X.2.2.2.2)])), ((eq 0), .inl (cI, 80, .inl X.1)), ((eq 1), .inl (cI, 80, .inl X.2.1)), ((eq 2), .inl (cI, 80, .inl X.2.2.1)), ((eq 3), .inl (cI, 80, .inl X.2.2.2.1)), (bo, .inl (cB, 8, .inr (.inr (.inr (.inr ba))))), (t, .inr (4, [.ref (tq 0), .ref (tq 1), .ref (tq 2), .ref (tq 3), .ref (tq 4), .ref (tq 5), .ref (tq 6), .ref (tq 7), .int (nI ((((pg X ba Bs n).2 (Bs f) 0 ((Bs f).2.2.2.2.2.2.1) lv (S.1, px_fr S.2 lv x y)).1).2.2.2.2))])), ((tq 0), .inl (cI, 64, .inl (fun z9 => nI (((((pg X ba Bs n).2 (Bs f) 0 ((Bs f).2.2.2.2.2.2.1) lv (S.1, px_fr S.2 lv x y)).1).1) z9)))), ((tq 1), .inl (cI, 64, .inl (fun z9 => nI (((((pg X ba Bs n).2 (Bs f) 0 ((Bs f).2.2.2.2.2.2.1) lv (S.1, px_fr S.2 lv x y)).1).2.1) z9)))), ((tq 2), .inl (cI, 64, .inl (fun z9 => nI (((((pg X ba Bs n).2 (Bs f) 0 ((Bs f).2.2.2.2.2.2.1) lv (S.1, px_fr S.2 lv x y)).1).2.2.1) z9)))), ((tq 3), .inl (cJ, 64, .inr (.inl ((((pg X ba Bs n).2 (Bs f) 0 ((Bs f).2.2.2.2.2.2.1) lv (S.1, px_fr S.2 lv x y)).1).2.2.2.1)))), ((tq 4), .inl (cJ, 64, .inr (.inl f1))), ((tq 5), .inl (cJ, 64, .inr (.inl f2))), ((tq 6), .inl (cJ, 64, .inr (.inl f3))), ((tq 7), .inl (cJ, 64, .inr (.inl f4))), (co, .inl (cI, 112, .inl (fun z9 => nI ((((pg X ba Bs n).2 (Bs f) 0 ((Bs f).2.2.2.2.2.2.1) lv (S.1, px_fr S.2 lv x y)).2) z9))))] ++ tl) := hD
    refine lv_aload_n hx hb dP_enter_78 rfl (lv_at hl 2 rfl) ?_
    refine va_get (D := D) (ci := 3) (v := .ref co) (C := R_P) (T := F_P) (N := 4) hx hb ht i_P hown hK hP 0 rfl rfl 3 (by decide) (ht _ m_97) (fun _ h9 => h9) rfl dP_enter_79 ?_
    refine lv_iload hx hb dP_enter_82 (lv_at hl 0 rfl) ?_
    have i84 : vp_in (nI (lv * 14)) 112 := gx_in (rfl : (nI (lv * 14)) = (nI (lv * 14))) (by omega) (by decide)
    have k84 : ((nI (lv * 14)) : Int32).toNatClampNeg = (lv * 14) := gx_cl (rfl : (nI (lv * 14)) = (nI (lv * 14))) (by omega)
    refine va_iald hx hb hK hP 16 0 rfl rfl i84 dP_enter_84 ?_
    rw [k84]
    refine lv_topi (fun v84 e84 => ?_)
    have n84 : v84 = nI ((((pg X ba Bs n).2 (Bs f) 0 ((Bs f).2.2.2.2.2.2.1) lv (S.1, px_fr S.2 lv x y)).2) (lv * 14)) := e84
    subst n84
    have hz : px_ent ba Bs (pg X ba Bs n).2 f x y lv S = (((((pg X ba Bs n).2 (Bs f) 0 ((Bs f).2.2.2.2.2.2.1) lv (S.1, px_fr S.2 lv x y)).2) (lv * 14)), (pg X ba Bs n).2 (Bs f) 0 ((Bs f).2.2.2.2.2.2.1) lv (S.1, px_fr S.2 lv x y)) := if_neg (fun z => by rcases z with z | z; (rw [hbf] at z; cases z); omega)
    exact W.iret (v := (nI ((((pg X ba Bs n).2 (Bs f) 0 ((Bs f).2.2.2.2.2.2.1) lv (S.1, px_fr S.2 lv x y)).2) (lv * 14)))) hx hb hr (fun t9 ht9 hW => ⟨⟨(nI ((((pg X ba Bs n).2 (Bs f) 0 ((Bs f).2.2.2.2.2.2.1) lv (S.1, px_fr S.2 lv x y)).2) (lv * 14))), _, rfl, ⟨by rw [hz], by rw [hz]⟩, by rw [ht9]; exact hP, hD⟩, hS.F ht9⟩) hS.2.2 dP_enter_85
  · have g17 : ¬ (lv < 8) := fun z => c17 ((gx_lt (rfl : (nI lv) = (nI lv)) (rfl : (8 : Int32) = nI 8) (by omega) (by decide)).mpr z)
    refine lv_iconst (v := 0) hx hb dP_enter_20 (by decide) ?_
    have hz : px_ent ba Bs (pg X ba Bs n).2 f x y lv S = (0, S) := if_pos (Or.inr (by omega))
    exact W.iret (v := 0) hx hb hr (fun t9 ht9 hW => ⟨⟨0, _, rfl, ⟨by rw [hz]; rfl, by rw [hz]⟩, by rw [ht9]; exact hP, hD⟩, hS.F ht9⟩) hS.2.2 dP_enter_21

set_option maxHeartbeats 4000000 in
set_option maxRecDepth 100000 in
theorem c_P_doIf (l : Launch) (D : va_G) (cI cJ cB cZ : ClassId) (g eo bo t co : Nat) (eq tq : Nat → Nat) (tl : va_W) (X : Ex) (ba : Nat → Option Nat) (f1 f2 f3 f4 : Nat → Int64) (Bs : Nat → Bd) (n d f o : Nat) (q : Nat → Nat) (i lv : Nat) (S : Sx) (ex : Nat) (hE : cE l D cI cJ cB cZ g eo bo t co eq tq tl X ba f1 f2 f3 f4 Bs n) (hB : cBl l D cI cJ cB cZ g eo bo t co eq tq tl X ba f1 f2 f3 f4 Bs n) (hd : d + (n + 1) = 51) (hf : f < 8) (hbf : ba f = some o) (hsl : (wB cI o q (Bs f)).Sublist tl) (hBd : bd_ok X (Bs f)) (hX80 : X.2.2.2.2 ≤ 80) (hi : i < (Bs f).2.2.2.2.2.2.1) (hlv : lv < 8) (hS9 : sx_ok S) (hre : re_ok X (pg X ba Bs n).1) (hrb : rb_ok X (pg X ba Bs n).2) (hex : ex < X.2.2.2.2) (hop : (Bs f).2.2.1 i = nI ex) : ct_I l y_P_doIf w_P_doIf ({ frames := 8 * n + 10, cells := 0, slots := 0, locals := 200 * n + 240 }) D (gk_T cI cJ cB cZ) [.ref g, .ref o, .int (nI i), .int (nI lv), .int (nI d)] (wPg cI cJ cB g eo bo t co eq tq X ba S f1 f2 f3 f4 ++ tl) (0) (0) (fun r w => r = nI (bd_end (Bs f) i + 1) ∧ w = (wPg cI cJ cB g eo bo t co eq tq X ba (px_if (pg X ba Bs n).1 (pg X ba Bs n).2 (Bs f) i lv S) f1 f2 f3 f4 ++ tl)) := by
  intro sz
  refine Met.ofW (cc := b_P_doIf) (maxL := 8) (ret := (some .int)) (by decide) rfl ?_
  intro p ev9 s m args below meth c s₁ B9 hml hv
  obtain ⟨rfl, hsz, hP, hK, hN, hD0⟩ := hv
  have hx := B9.exec
  have hb := B9.bytes
  have hr := B9.returns
  have hts := atoms_spec (ws := w_P_doIf) B9.pre
  have ht : ∀ w ∈ gk_big, w.before _ s = true := fun w h => hts w (List.mem_cons_of_mem _ h)
  have hown : s.vm.findClass R_P = some m.cls := findClass_of_methodNamed B9.named
  have hlocks := B9.notSynchronized
  subst hsz
  have hD := hD0.self (sz := s.heap.size)
  generalize hAe : va_A (wPg cI cJ cB g eo bo t co eq tq X ba S f1 f2 f3 f4 ++ tl) s.heap.size = A at hD ⊢
  have hA : ∀ q : Nat, s.heap.size ≤ q → A q := fun q h => by rw [← hAe]; exact Or.inr h
  generalize hHe : s.heap = H at hP ⊢
  have hS : va_S A s.heap H [] := by rw [← hHe]; exact va_S.rf
  have hP : va_P D vwCl ([(g, .inr (3, [.ref eo, .ref bo, .ref t, .ref co])), (eo, .inr (2, [.ref (eq 0), .ref (eq 1), .ref (eq 2), .ref (eq 3), .int (nI X.2.2.2.2)])), ((eq 0), .inl (cI, 80, .inl X.1)), ((eq 1), .inl (cI, 80, .inl X.2.1)), ((eq 2), .inl (cI, 80, .inl X.2.2.1)), ((eq 3), .inl (cI, 80, .inl X.2.2.2.1)), (bo, .inl (cB, 8, .inr (.inr (.inr (.inr ba))))), (t, .inr (4, [.ref (tq 0), .ref (tq 1), .ref (tq 2), .ref (tq 3), .ref (tq 4), .ref (tq 5), .ref (tq 6), .ref (tq 7), .int (nI S.1.2.2.2.2)])), ((tq 0), .inl (cI, 64, .inl (fun z9 => nI (S.1.1 z9)))), ((tq 1), .inl (cI, 64, .inl (fun z9 => nI (S.1.2.1 z9)))), ((tq 2), .inl (cI, 64, .inl (fun z9 => nI (S.1.2.2.1 z9)))), ((tq 3), .inl (cJ, 64, .inr (.inl S.1.2.2.2.1))), ((tq 4), .inl (cJ, 64, .inr (.inl f1))), ((tq 5), .inl (cJ, 64, .inr (.inl f2))), ((tq 6), .inl (cJ, 64, .inr (.inl f3))), ((tq 7), .inl (cJ, 64, .inr (.inl f4))), (co, .inl (cI, 112, .inl (fun z9 => nI (S.2 z9))))] ++ tl) H := hP
  have hD : va_D A ([(g, .inr (3, [.ref eo, .ref bo, .ref t, .ref co])), (eo, .inr (2, [.ref (eq 0), .ref (eq 1), .ref (eq 2), .ref (eq 3), .int (nI X.2.2.2.2)])), ((eq 0), .inl (cI, 80, .inl X.1)), ((eq 1), .inl (cI, 80, .inl X.2.1)), ((eq 2), .inl (cI, 80, .inl X.2.2.1)), ((eq 3), .inl (cI, 80, .inl X.2.2.2.1)), (bo, .inl (cB, 8, .inr (.inr (.inr (.inr ba))))), (t, .inr (4, [.ref (tq 0), .ref (tq 1), .ref (tq 2), .ref (tq 3), .ref (tq 4), .ref (tq 5), .ref (tq 6), .ref (tq 7), .int (nI S.1.2.2.2.2)])), ((tq 0), .inl (cI, 64, .inl (fun z9 => nI (S.1.1 z9)))), ((tq 1), .inl (cI, 64, .inl (fun z9 => nI (S.1.2.1 z9)))), ((tq 2), .inl (cI, 64, .inl (fun z9 => nI (S.1.2.2.1 z9)))), ((tq 3), .inl (cJ, 64, .inr (.inl S.1.2.2.2.1))), ((tq 4), .inl (cJ, 64, .inr (.inl f1))), ((tq 5), .inl (cJ, 64, .inr (.inl f2))), ((tq 6), .inl (cJ, 64, .inr (.inl f3))), ((tq 7), .inl (cJ, 64, .inr (.inl f4))), (co, .inl (cI, 112, .inl (fun z9 => nI (S.2 z9))))] ++ tl) := hD
  have hl := lv_entry ([.ref g, .ref o, .int (nI i), .int (nI lv), .int (nI d)]) (n := 8) (Nat.le_of_ble_eq_true rfl)
  rw [lg_entry_eq]
  generalize (lg_sl ([.ref g, .ref o, .int (nI i), .int (nI lv), .int (nI d)]) ++ List.replicate (8 - (lg_sl ([.ref g, .ref o, .int (nI i), .int (nI lv), .int (nI d)])).length) Slot.unset).toArray = ls at hl ⊢
  have hl : lv_has ls 8 [(0, .ref g), (1, .ref o), (2, .int (nI i)), (3, .int (nI lv)), (4, .int (nI d))] := hl
  have hs12 := hBd.1
  have hcl := (hBd.2.2 i hi).1
  obtain ⟨j0, hj0⟩ := List.getElem?_of_mem (hsl.subset (List.mem_of_getElem? (l := wB cI o q (Bs f)) (i := 0) rfl))
  have hj0 : tl[j0]? = some (o, .inr (0, [.ref (q 0), .ref (q 1), .ref (q 2), .ref (q 3), .ref (q 4), .ref (q 5), .int (nI ((Bs f).2.2.2.2.2.2.1)), .int (nI ((Bs f).2.2.2.2.2.2.2))])) := hj0
  obtain ⟨j3, hj3⟩ := List.getElem?_of_mem (hsl.subset (List.mem_of_getElem? (l := wB cI o q (Bs f)) (i := 3) rfl))
  have hj3 : tl[j3]? = some ((q 2), .inl (cI, 12, .inl ((Bs f).2.2.1))) := hj3
  have hbe := bd_end_le (Bs f) i
  have hbc := bd_close_le (Bs f) i
  refine lv_aload_n hx hb dP_doIf_0 rfl (lv_at hl 1 rfl) ?_
  refine lv_iload_n hx hb dP_doIf_1 rfl (lv_at hl 2 rfl) ?_
  refine gc_ri (va_runV (As := [.int (nI i)]) (rest := []) ⟨hx, hb, hml, hown, ht⟩ (c_B_closeOf l D cI cJ cB cZ o q (Bs f) i (by omega) hcl (by omega) H.size) (cwV 1 ht (gw_V m_383 m_384 m_385 m_8 m_386) rfl rfl rfl (by decide +kernel) ⟨show 1 + 1 ≤ 8 * n + 10 by omega, show 8 + (2 + 11) + (30) ≤ 200 * n + 240 by omega⟩) (gp_V (ci := 0) (q0 := 0) hK hN (gk_P_perm (fun z h => List.mem_append_right _ (hsl.subset h)) hP) (gk_D_sub (hsl.trans (List.sublist_append_right _ _)) hD) rfl rfl) rfl rfl hl.1 rfl (lv_room (Nat.le_of_ble_eq_true rfl)) dP_doIf_2 ⟨Nat.le_of_ble_eq_true rfl, Nat.le_of_ble_eq_true rfl⟩) hP hD hS hA (fun z h => List.mem_append_right _ (hsl.subset h)) (fun r w h => h.2) (fun r2 H locs p2 hP hS => ?_)
  obtain ⟨h2x, -⟩ := p2
  have h2y : r2 = nI (bd_close (Bs f) i) := h2x
  subst h2y
  refine lv_istore (lv' := [(5, .int (nI (bd_close (Bs f) i))), (0, .ref g), (1, .ref o), (2, .int (nI i)), (3, .int (nI lv)), (4, .int (nI d))]) hx hb dP_doIf_5 hl (by decide) rfl (fun ls hl => ?_)
  refine lv_aload_n hx hb dP_doIf_7 rfl (lv_at hl 2 rfl) ?_
  refine lv_iload_n hx hb dP_doIf_8 rfl (lv_at hl 3 rfl) ?_
  refine gc_ri (va_runV (As := [.int (nI i)]) (rest := []) ⟨hx, hb, hml, hown, ht⟩ (c_B_endOfIf l D cI cJ cB cZ o q (Bs f) i (by omega) hcl (fun z _ => (hBd.2.2 _ z).1) (by omega) hBd.2.1 H.size) (cwV 1 ht (gw_V m_388 m_389 m_390 m_8 m_391) rfl rfl rfl (by decide +kernel) ⟨show 2 + 1 ≤ 8 * n + 10 by omega, show 8 + (3 + 11) + (51) ≤ 200 * n + 240 by omega⟩) (gp_V (ci := 0) (q0 := 0) hK hN (gk_P_perm (fun z h => List.mem_append_right _ (hsl.subset h)) hP) (gk_D_sub (hsl.trans (List.sublist_append_right _ _)) hD) rfl rfl) rfl rfl hl.1 rfl (lv_room (Nat.le_of_ble_eq_true rfl)) dP_doIf_9 ⟨Nat.le_of_ble_eq_true rfl, Nat.le_of_ble_eq_true rfl⟩) hP hD hS hA (fun z h => List.mem_append_right _ (hsl.subset h)) (fun r w h => h.2) (fun r9 H locs p9 hP hS => ?_)
  obtain ⟨rfl, -⟩ := p9
  refine lv_istore (lv' := [(6, .int (nI (bd_end (Bs f) i))), (5, .int (nI (bd_close (Bs f) i))), (0, .ref g), (1, .ref o), (2, .int (nI i)), (3, .int (nI lv)), (4, .int (nI d))]) hx hb dP_doIf_12 hl (by decide) rfl (fun ls hl => ?_)
  refine lv_aload_n hx hb dP_doIf_14 rfl (lv_at hl 2 rfl) ?_
  refine lv_aload_n hx hb dP_doIf_15 rfl (lv_at hl 3 rfl) ?_
  refine va_getN (D := D) (ci := 0) (v := .ref (q 2)) (C := R_B) (T := F_B) (N := 8) hx hb ht i_B hown hK hP (j0 + 17) hj0 rfl 2 (by decide) (va_Nw.use rfl (hN _ mn_19)) (fun _ h9 => h9) rfl dP_doIf_16 ?_
  refine lv_iload_n hx hb dP_doIf_19 rfl (lv_at hl 4 rfl) ?_
  have i20 : vp_in (nI i) 12 := gx_in (rfl : (nI i) = (nI i)) (by omega) (by decide)
  have k20 : ((nI i) : Int32).toNatClampNeg = i := gx_cl (rfl : (nI i) = (nI i)) (by omega)
  refine va_iald hx hb hK hP (j3 + 17) 0 hj3 rfl i20 dP_doIf_20 ?_
  rw [k20]
  refine lv_topi (fun v20 e20 => ?_)
  rw [hop] at e20
  subst e20
  refine lv_iload_n hx hb dP_doIf_21 rfl (lv_at hl 5 rfl) ?_
  refine lv_iload hx hb dP_doIf_22 (lv_at hl 6 rfl) ?_
  refine lv_iconst (v := 1) hx hb dP_doIf_24 (by decide) ?_
  refine lv_iadd hx hb dP_doIf_25 ?_
  refine lv_topi (fun v25 e25 => ?_)
  have n25 : v25 = nI (d + 1) := by rw [e25]; exact gx_add (rfl : (nI d) = (nI d)) (rfl : (1 : Int32) = nI 1)
  subst n25
  refine gc_wi (va_runV (As := [.int (nI ex), .int (nI lv), .int (nI (d + 1))]) (rest := []) ⟨hx, hb, hml, hown, ht⟩ (hE (d + 1) ex lv S (by omega) (by omega) hlv hS9 H.size) (cwV 3 ht (gw_V m_337 m_339 ms_12 m_2 m_340) rfl rfl rfl (by decide +kernel) ⟨show (8 * n + 8) + 1 ≤ 8 * n + 10 by omega, show 8 + (9 + 11) + (200 * n + 200) ≤ 200 * n + 240 by omega⟩) (gp_V (ci := 3) (q0 := 0) hK hN hP hD rfl rfl) rfl rfl hl.1 rfl (lv_room (Nat.le_of_ble_eq_true rfl)) dP_doIf_26 ⟨Nat.le_of_ble_eq_true rfl, Nat.le_of_ble_eq_true rfl⟩) hP hD hS hA (fun r26 w26 H locs p26 hP hD hS => ?_)
  obtain ⟨rfl, rfl⟩ := p26
  have hP : va_P D vwCl ([(g, .inr (3, [.ref eo, .ref bo, .ref t, .ref co])), (eo, .inr (2, [.ref (eq 0), .ref (eq 1), .ref (eq 2), .ref (eq 3), .int (nI X.2.2.2.2)])), ((eq 0), .inl (cI, 80, .inl X.1)), ((eq 1), .inl (cI, 80, .inl X.2.1)), ((eq 2), .inl (cI, 80, .inl X.2.2.1)), ((eq 3), .inl (cI, 80, .inl X.2.2.2.1)), (bo, .inl (cB, 8, .inr (.inr (.inr (.inr ba))))), (t, .inr (4, [.ref (tq 0), .ref (tq 1), .ref (tq 2), .ref (tq 3), .ref (tq 4), .ref (tq 5), .ref (tq 6), .ref (tq 7), .int (nI (((((pg X ba Bs n).1 ex lv S).2).1).2.2.2.2))])), ((tq 0), .inl (cI, 64, .inl (fun z9 => nI ((((((pg X ba Bs n).1 ex lv S).2).1).1) z9)))), ((tq 1), .inl (cI, 64, .inl (fun z9 => nI ((((((pg X ba Bs n).1 ex lv S).2).1).2.1) z9)))), ((tq 2), .inl (cI, 64, .inl (fun z9 => nI ((((((pg X ba Bs n).1 ex lv S).2).1).2.2.1) z9)))), ((tq 3), .inl (cJ, 64, .inr (.inl (((((pg X ba Bs n).1 ex lv S).2).1).2.2.2.1)))), ((tq 4), .inl (cJ, 64, .inr (.inl f1))), ((tq 5), .inl (cJ, 64, .inr (.inl f2))), ((tq 6), .inl (cJ, 64, .inr (.inl f3))), ((tq 7), .inl (cJ, 64, .inr (.inl f4))), (co, .inl (cI, 112, .inl (fun z9 => nI (((((pg X ba Bs n).1 ex lv S).2).2) z9))))] ++ tl) H := hP
  have hD : va_D A ([(g, .inr (3, [.ref eo, .ref bo, .ref t, .ref co])), (eo, .inr (2, [.ref (eq 0), .ref (eq 1), .ref (eq 2), .ref (eq 3), .int (nI X.2.2.2.2)])), ((eq 0), .inl (cI, 80, .inl X.1)), ((eq 1), .inl (cI, 80, .inl X.2.1)), ((eq 2), .inl (cI, 80, .inl X.2.2.1)), ((eq 3), .inl (cI, 80, .inl X.2.2.2.1)), (bo, .inl (cB, 8, .inr (.inr (.inr (.inr ba))))), (t, .inr (4, [.ref (tq 0), .ref (tq 1), .ref (tq 2), .ref (tq 3), .ref (tq 4), .ref (tq 5), .ref (tq 6), .ref (tq 7), .int (nI (((((pg X ba Bs n).1 ex lv S).2).1).2.2.2.2))])), ((tq 0), .inl (cI, 64, .inl (fun z9 => nI ((((((pg X ba Bs n).1 ex lv S).2).1).1) z9)))), ((tq 1), .inl (cI, 64, .inl (fun z9 => nI ((((((pg X ba Bs n).1 ex lv S).2).1).2.1) z9)))), ((tq 2), .inl (cI, 64, .inl (fun z9 => nI ((((((pg X ba Bs n).1 ex lv S).2).1).2.2.1) z9)))), ((tq 3), .inl (cJ, 64, .inr (.inl (((((pg X ba Bs n).1 ex lv S).2).1).2.2.2.1)))), ((tq 4), .inl (cJ, 64, .inr (.inl f1))), ((tq 5), .inl (cJ, 64, .inr (.inl f2))), ((tq 6), .inl (cJ, 64, .inr (.inl f3))), ((tq 7), .inl (cJ, 64, .inr (.inl f4))), (co, .inl (cI, 112, .inl (fun z9 => nI (((((pg X ba Bs n).1 ex lv S).2).2) z9))))] ++ tl) := hD
  have b26 := hre ex lv S (by omega) hlv hS9
  have b26x := b26.1
  have b26y := b26.2.1
  refine lv_istore (lv' := [(7, .int (nI (((pg X ba Bs n).1 ex lv S).1))), (6, .int (nI (bd_end (Bs f) i))), (5, .int (nI (bd_close (Bs f) i))), (0, .ref g), (1, .ref o), (2, .int (nI i)), (3, .int (nI lv)), (4, .int (nI d))]) hx hb dP_doIf_29 hl (by decide) rfl (fun ls hl => ?_)
  refine lv_aload_n hx hb dP_doIf_31 rfl (lv_at hl 3 rfl) ?_
  refine va_get (D := D) (ci := 3) (v := .ref t) (C := R_P) (T := F_P) (N := 4) hx hb ht i_P hown hK hP 0 rfl rfl 2 (by decide) (ht _ m_95) (fun _ h9 => h9) rfl dP_doIf_32 ?_
  refine va_getN (D := D) (ci := 4) (v := .ref (tq 3)) (C := R_T) (T := F_T) (N := 9) hx hb ht i_T hown hK hP 7 rfl rfl 3 (by decide) (va_Nw.use rfl (hN _ mn_9)) (fun _ h9 => h9) rfl dP_doIf_35 ?_
  refine lv_iload hx hb dP_doIf_38 (lv_at hl 0 rfl) ?_
  have i40 : vp_in (nI (((pg X ba Bs n).1 ex lv S).1)) 64 := gx_in (rfl : (nI (((pg X ba Bs n).1 ex lv S).1)) = (nI (((pg X ba Bs n).1 ex lv S).1))) (by omega) (by decide)
  have k40 : ((nI (((pg X ba Bs n).1 ex lv S).1)) : Int32).toNatClampNeg = (((pg X ba Bs n).1 ex lv S).1) := gx_cl (rfl : (nI (((pg X ba Bs n).1 ex lv S).1)) = (nI (((pg X ba Bs n).1 ex lv S).1))) (by omega)
  refine va_lald hx hb hK hP 11 1 rfl rfl i40 dP_doIf_40 ?_
  rw [k40]
  refine lv_topl (fun v40 e40 => ?_)
  refine lv_lconst (v := 0) hx hb dP_doIf_41 (by decide) ?_
  refine W.lcmp hx hb dP_doIf_42 ?_
  refine lv_topi (fun v42 e42 => ?_)
  refine lv_if_le (tgt := 64) hx hb dP_doIf_43 (by decide) (fun c43 => ?_) (fun c43 => ?_)
  · have hc9 : ¬ 0 < ((pg X ba Bs n).1 ex lv S).2.1.2.2.2.1 ((pg X ba Bs n).1 ex lv S).1 := fun z => absurd ((gl_le _ _).mp (by rw [← e40, ← e42]; exact c43)) (Int64.not_le.mpr z)
    refine lv_aload_n hx hb dP_doIf_64 rfl (lv_at hl 3 rfl) ?_
    refine lv_aload_n hx hb dP_doIf_65 rfl (lv_at hl 4 rfl) ?_
    refine lv_iload hx hb dP_doIf_66 (lv_at hl 2 rfl) ?_
    refine lv_iconst (v := 1) hx hb dP_doIf_68 (by decide) ?_
    refine lv_iadd hx hb dP_doIf_69 ?_
    refine lv_topi (fun v69 e69 => ?_)
    have n69 : v69 = nI ((bd_close (Bs f) i) + 1) := by rw [e69]; exact gx_add (rfl : (nI (bd_close (Bs f) i)) = (nI (bd_close (Bs f) i))) (rfl : (1 : Int32) = nI 1)
    subst n69
    refine lv_iload hx hb dP_doIf_70 (lv_at hl 1 rfl) ?_
    refine lv_iload_n hx hb dP_doIf_72 rfl (lv_at hl 6 rfl) ?_
    refine lv_iload hx hb dP_doIf_73 (lv_at hl 7 rfl) ?_
    refine lv_iconst (v := 1) hx hb dP_doIf_75 (by decide) ?_
    refine lv_iadd hx hb dP_doIf_76 ?_
    refine lv_topi (fun v76 e76 => ?_)
    have n76 : v76 = nI (d + 1) := by rw [e76]; exact gx_add (rfl : (nI d) = (nI d)) (rfl : (1 : Int32) = nI 1)
    subst n76
    refine gc_wv (va_runV (As := [.ref o, .int (nI ((bd_close (Bs f) i) + 1)), .int (nI (bd_end (Bs f) i)), .int (nI lv), .int (nI (d + 1))]) (rest := []) ⟨hx, hb, hml, hown, ht⟩ (hB (d + 1) f o q ((bd_close (Bs f) i) + 1) (bd_end (Bs f) i) lv (((pg X ba Bs n).1 ex lv S).2) (by omega) hf hbf hsl hBd (by omega) (bd_end_le _ _) hlv b26.2 H.size) (cwV 5 ht (gw_V m_329 m_331 ms_10 m_2 m_332) rfl rfl rfl (by decide +kernel) ⟨show (8 * n + 8) + 1 ≤ 8 * n + 10 by omega, show 8 + (8 + 11) + (200 * n + 200) ≤ 200 * n + 240 by omega⟩) (gp_V (ci := 3) (q0 := 0) hK hN hP hD rfl rfl) rfl rfl hl.1 rfl (lv_room (Nat.le_of_ble_eq_true rfl)) dP_doIf_77 ⟨Nat.le_of_ble_eq_true rfl, Nat.le_of_ble_eq_true rfl⟩) hP hD hS hA (fun w77 H locs p77 hP hD hS => ?_)
    subst p77
    have hP : va_P D vwCl ([(g, .inr (3, [.ref eo, .ref bo, .ref t, .ref co])), (eo, .inr (2, [.ref (eq 0), .ref (eq 1), .ref (eq 2), .ref (eq 3), .int (nI X.2.2.2.2)])), ((eq 0), .inl (cI, 80, .inl X.1)), ((eq 1), .inl (cI, 80, .inl X.2.1)), ((eq 2), .inl (cI, 80, .inl X.2.2.1)), ((eq 3), .inl (cI, 80, .inl X.2.2.2.1)), (bo, .inl (cB, 8, .inr (.inr (.inr (.inr ba))))), (t, .inr (4, [.ref (tq 0), .ref (tq 1), .ref (tq 2), .ref (tq 3), .ref (tq 4), .ref (tq 5), .ref (tq 6), .ref (tq 7), .int (nI ((((pg X ba Bs n).2 (Bs f) ((bd_close (Bs f) i) + 1) (bd_end (Bs f) i) lv (((pg X ba Bs n).1 ex lv S).2)).1).2.2.2.2))])), ((tq 0), .inl (cI, 64, .inl (fun z9 => nI (((((pg X ba Bs n).2 (Bs f) ((bd_close (Bs f) i) + 1) (bd_end (Bs f) i) lv (((pg X ba Bs n).1 ex lv S).2)).1).1) z9)))), ((tq 1), .inl (cI, 64, .inl (fun z9 => nI (((((pg X ba Bs n).2 (Bs f) ((bd_close (Bs f) i) + 1) (bd_end (Bs f) i) lv (((pg X ba Bs n).1 ex lv S).2)).1).2.1) z9)))), ((tq 2), .inl (cI, 64, .inl (fun z9 => nI (((((pg X ba Bs n).2 (Bs f) ((bd_close (Bs f) i) + 1) (bd_end (Bs f) i) lv (((pg X ba Bs n).1 ex lv S).2)).1).2.2.1) z9)))), ((tq 3), .inl (cJ, 64, .inr (.inl ((((pg X ba Bs n).2 (Bs f) ((bd_close (Bs f) i) + 1) (bd_end (Bs f) i) lv (((pg X ba Bs n).1 ex lv S).2)).1).2.2.2.1)))), ((tq 4), .inl (cJ, 64, .inr (.inl f1))), ((tq 5), .inl (cJ, 64, .inr (.inl f2))), ((tq 6), .inl (cJ, 64, .inr (.inl f3))), ((tq 7), .inl (cJ, 64, .inr (.inl f4))), (co, .inl (cI, 112, .inl (fun z9 => nI ((((pg X ba Bs n).2 (Bs f) ((bd_close (Bs f) i) + 1) (bd_end (Bs f) i) lv (((pg X ba Bs n).1 ex lv S).2)).2) z9))))] ++ tl) H := hP
    have hD : va_D A ([(g, .inr (3, [.ref eo, .ref bo, .ref t, .ref co])), (eo, .inr (2, [.ref (eq 0), .ref (eq 1), .ref (eq 2), .ref (eq 3), .int (nI X.2.2.2.2)])), ((eq 0), .inl (cI, 80, .inl X.1)), ((eq 1), .inl (cI, 80, .inl X.2.1)), ((eq 2), .inl (cI, 80, .inl X.2.2.1)), ((eq 3), .inl (cI, 80, .inl X.2.2.2.1)), (bo, .inl (cB, 8, .inr (.inr (.inr (.inr ba))))), (t, .inr (4, [.ref (tq 0), .ref (tq 1), .ref (tq 2), .ref (tq 3), .ref (tq 4), .ref (tq 5), .ref (tq 6), .ref (tq 7), .int (nI ((((pg X ba Bs n).2 (Bs f) ((bd_close (Bs f) i) + 1) (bd_end (Bs f) i) lv (((pg X ba Bs n).1 ex lv S).2)).1).2.2.2.2))])), ((tq 0), .inl (cI, 64, .inl (fun z9 => nI (((((pg X ba Bs n).2 (Bs f) ((bd_close (Bs f) i) + 1) (bd_end (Bs f) i) lv (((pg X ba Bs n).1 ex lv S).2)).1).1) z9)))), ((tq 1), .inl (cI, 64, .inl (fun z9 => nI (((((pg X ba Bs n).2 (Bs f) ((bd_close (Bs f) i) + 1) (bd_end (Bs f) i) lv (((pg X ba Bs n).1 ex lv S).2)).1).2.1) z9)))), ((tq 2), .inl (cI, 64, .inl (fun z9 => nI (((((pg X ba Bs n).2 (Bs f) ((bd_close (Bs f) i) + 1) (bd_end (Bs f) i) lv (((pg X ba Bs n).1 ex lv S).2)).1).2.2.1) z9)))), ((tq 3), .inl (cJ, 64, .inr (.inl ((((pg X ba Bs n).2 (Bs f) ((bd_close (Bs f) i) + 1) (bd_end (Bs f) i) lv (((pg X ba Bs n).1 ex lv S).2)).1).2.2.2.1)))), ((tq 4), .inl (cJ, 64, .inr (.inl f1))), ((tq 5), .inl (cJ, 64, .inr (.inl f2))), ((tq 6), .inl (cJ, 64, .inr (.inl f3))), ((tq 7), .inl (cJ, 64, .inr (.inl f4))), (co, .inl (cI, 112, .inl (fun z9 => nI ((((pg X ba Bs n).2 (Bs f) ((bd_close (Bs f) i) + 1) (bd_end (Bs f) i) lv (((pg X ba Bs n).1 ex lv S).2)).2) z9))))] ++ tl) := hD
    refine lv_iload hx hb dP_doIf_80 (lv_at hl 1 rfl) ?_
    refine lv_iconst (v := 1) hx hb dP_doIf_82 (by decide) ?_
    refine lv_iadd hx hb dP_doIf_83 ?_
    refine lv_topi (fun v83 e83 => ?_)
    have n83 : v83 = nI ((bd_end (Bs f) i) + 1) := by rw [e83]; exact gx_add (rfl : (nI (bd_end (Bs f) i)) = (nI (bd_end (Bs f) i))) (rfl : (1 : Int32) = nI 1)
    subst n83
    have hz : px_if (pg X ba Bs n).1 (pg X ba Bs n).2 (Bs f) i lv S = (pg X ba Bs n).2 (Bs f) ((bd_close (Bs f) i) + 1) (bd_end (Bs f) i) lv (((pg X ba Bs n).1 ex lv S).2) := by unfold px_if; rw [hop, cn_nI (by omega)]; exact if_neg hc9
    exact W.iret (v := (nI ((bd_end (Bs f) i) + 1))) hx hb hr (fun t9 ht9 hW => ⟨⟨(nI ((bd_end (Bs f) i) + 1)), _, rfl, ⟨rfl, by rw [hz]⟩, by rw [ht9]; exact hP, hD⟩, hS.F ht9⟩) hS.2.2 dP_doIf_84
  · have hc9 : 0 < ((pg X ba Bs n).1 ex lv S).2.1.2.2.2.1 ((pg X ba Bs n).1 ex lv S).1 := Int64.not_le.mp (fun z => c43 (by rw [e42, e40]; exact (gl_le _ _).mpr z))
    refine lv_aload_n hx hb dP_doIf_46 rfl (lv_at hl 3 rfl) ?_
    refine lv_aload_n hx hb dP_doIf_47 rfl (lv_at hl 4 rfl) ?_
    refine lv_iload_n hx hb dP_doIf_48 rfl (lv_at hl 5 rfl) ?_
    refine lv_iconst (v := 1) hx hb dP_doIf_49 (by decide) ?_
    refine lv_iadd hx hb dP_doIf_50 ?_
    refine lv_topi (fun v50 e50 => ?_)
    have n50 : v50 = nI (i + 1) := by rw [e50]; exact gx_add (rfl : (nI i) = (nI i)) (rfl : (1 : Int32) = nI 1)
    subst n50
    refine lv_iload hx hb dP_doIf_51 (lv_at hl 2 rfl) ?_
    refine lv_iload_n hx hb dP_doIf_53 rfl (lv_at hl 6 rfl) ?_
    refine lv_iload hx hb dP_doIf_54 (lv_at hl 7 rfl) ?_
    refine lv_iconst (v := 1) hx hb dP_doIf_56 (by decide) ?_
    refine lv_iadd hx hb dP_doIf_57 ?_
    refine lv_topi (fun v57 e57 => ?_)
    have n57 : v57 = nI (d + 1) := by rw [e57]; exact gx_add (rfl : (nI d) = (nI d)) (rfl : (1 : Int32) = nI 1)
    subst n57
    refine gc_wv (va_runV (As := [.ref o, .int (nI (i + 1)), .int (nI (bd_close (Bs f) i)), .int (nI lv), .int (nI (d + 1))]) (rest := []) ⟨hx, hb, hml, hown, ht⟩ (hB (d + 1) f o q (i + 1) (bd_close (Bs f) i) lv (((pg X ba Bs n).1 ex lv S).2) (by omega) hf hbf hsl hBd (by omega) (bd_close_le _ _) hlv b26.2 H.size) (cwV 5 ht (gw_V m_329 m_331 ms_10 m_2 m_332) rfl rfl rfl (by decide +kernel) ⟨show (8 * n + 8) + 1 ≤ 8 * n + 10 by omega, show 8 + (8 + 11) + (200 * n + 200) ≤ 200 * n + 240 by omega⟩) (gp_V (ci := 3) (q0 := 0) hK hN hP hD rfl rfl) rfl rfl hl.1 rfl (lv_room (Nat.le_of_ble_eq_true rfl)) dP_doIf_58 ⟨Nat.le_of_ble_eq_true rfl, Nat.le_of_ble_eq_true rfl⟩) hP hD hS hA (fun w58 H locs p58 hP hD hS => ?_)
    subst p58
    have hP : va_P D vwCl ([(g, .inr (3, [.ref eo, .ref bo, .ref t, .ref co])), (eo, .inr (2, [.ref (eq 0), .ref (eq 1), .ref (eq 2), .ref (eq 3), .int (nI X.2.2.2.2)])), ((eq 0), .inl (cI, 80, .inl X.1)), ((eq 1), .inl (cI, 80, .inl X.2.1)), ((eq 2), .inl (cI, 80, .inl X.2.2.1)), ((eq 3), .inl (cI, 80, .inl X.2.2.2.1)), (bo, .inl (cB, 8, .inr (.inr (.inr (.inr ba))))), (t, .inr (4, [.ref (tq 0), .ref (tq 1), .ref (tq 2), .ref (tq 3), .ref (tq 4), .ref (tq 5), .ref (tq 6), .ref (tq 7), .int (nI ((((pg X ba Bs n).2 (Bs f) (i + 1) (bd_close (Bs f) i) lv (((pg X ba Bs n).1 ex lv S).2)).1).2.2.2.2))])), ((tq 0), .inl (cI, 64, .inl (fun z9 => nI (((((pg X ba Bs n).2 (Bs f) (i + 1) (bd_close (Bs f) i) lv (((pg X ba Bs n).1 ex lv S).2)).1).1) z9)))), ((tq 1), .inl (cI, 64, .inl (fun z9 => nI (((((pg X ba Bs n).2 (Bs f) (i + 1) (bd_close (Bs f) i) lv (((pg X ba Bs n).1 ex lv S).2)).1).2.1) z9)))), ((tq 2), .inl (cI, 64, .inl (fun z9 => nI (((((pg X ba Bs n).2 (Bs f) (i + 1) (bd_close (Bs f) i) lv (((pg X ba Bs n).1 ex lv S).2)).1).2.2.1) z9)))), ((tq 3), .inl (cJ, 64, .inr (.inl ((((pg X ba Bs n).2 (Bs f) (i + 1) (bd_close (Bs f) i) lv (((pg X ba Bs n).1 ex lv S).2)).1).2.2.2.1)))), ((tq 4), .inl (cJ, 64, .inr (.inl f1))), ((tq 5), .inl (cJ, 64, .inr (.inl f2))), ((tq 6), .inl (cJ, 64, .inr (.inl f3))), ((tq 7), .inl (cJ, 64, .inr (.inl f4))), (co, .inl (cI, 112, .inl (fun z9 => nI ((((pg X ba Bs n).2 (Bs f) (i + 1) (bd_close (Bs f) i) lv (((pg X ba Bs n).1 ex lv S).2)).2) z9))))] ++ tl) H := hP
    have hD : va_D A ([(g, .inr (3, [.ref eo, .ref bo, .ref t, .ref co])), (eo, .inr (2, [.ref (eq 0), .ref (eq 1), .ref (eq 2), .ref (eq 3), .int (nI X.2.2.2.2)])), ((eq 0), .inl (cI, 80, .inl X.1)), ((eq 1), .inl (cI, 80, .inl X.2.1)), ((eq 2), .inl (cI, 80, .inl X.2.2.1)), ((eq 3), .inl (cI, 80, .inl X.2.2.2.1)), (bo, .inl (cB, 8, .inr (.inr (.inr (.inr ba))))), (t, .inr (4, [.ref (tq 0), .ref (tq 1), .ref (tq 2), .ref (tq 3), .ref (tq 4), .ref (tq 5), .ref (tq 6), .ref (tq 7), .int (nI ((((pg X ba Bs n).2 (Bs f) (i + 1) (bd_close (Bs f) i) lv (((pg X ba Bs n).1 ex lv S).2)).1).2.2.2.2))])), ((tq 0), .inl (cI, 64, .inl (fun z9 => nI (((((pg X ba Bs n).2 (Bs f) (i + 1) (bd_close (Bs f) i) lv (((pg X ba Bs n).1 ex lv S).2)).1).1) z9)))), ((tq 1), .inl (cI, 64, .inl (fun z9 => nI (((((pg X ba Bs n).2 (Bs f) (i + 1) (bd_close (Bs f) i) lv (((pg X ba Bs n).1 ex lv S).2)).1).2.1) z9)))), ((tq 2), .inl (cI, 64, .inl (fun z9 => nI (((((pg X ba Bs n).2 (Bs f) (i + 1) (bd_close (Bs f) i) lv (((pg X ba Bs n).1 ex lv S).2)).1).2.2.1) z9)))), ((tq 3), .inl (cJ, 64, .inr (.inl ((((pg X ba Bs n).2 (Bs f) (i + 1) (bd_close (Bs f) i) lv (((pg X ba Bs n).1 ex lv S).2)).1).2.2.2.1)))), ((tq 4), .inl (cJ, 64, .inr (.inl f1))), ((tq 5), .inl (cJ, 64, .inr (.inl f2))), ((tq 6), .inl (cJ, 64, .inr (.inl f3))), ((tq 7), .inl (cJ, 64, .inr (.inl f4))), (co, .inl (cI, 112, .inl (fun z9 => nI ((((pg X ba Bs n).2 (Bs f) (i + 1) (bd_close (Bs f) i) lv (((pg X ba Bs n).1 ex lv S).2)).2) z9))))] ++ tl) := hD
    refine lv_goto (tgt := 80) hx hb dP_doIf_61 (by decide) ?_
    refine lv_iload hx hb dP_doIf_80 (lv_at hl 1 rfl) ?_
    refine lv_iconst (v := 1) hx hb dP_doIf_82 (by decide) ?_
    refine lv_iadd hx hb dP_doIf_83 ?_
    refine lv_topi (fun v83 e83 => ?_)
    have n83 : v83 = nI ((bd_end (Bs f) i) + 1) := by rw [e83]; exact gx_add (rfl : (nI (bd_end (Bs f) i)) = (nI (bd_end (Bs f) i))) (rfl : (1 : Int32) = nI 1)
    subst n83
    have hz : px_if (pg X ba Bs n).1 (pg X ba Bs n).2 (Bs f) i lv S = (pg X ba Bs n).2 (Bs f) (i + 1) (bd_close (Bs f) i) lv (((pg X ba Bs n).1 ex lv S).2) := by unfold px_if; rw [hop, cn_nI (by omega)]; exact if_pos hc9
    exact W.iret (v := (nI ((bd_end (Bs f) i) + 1))) hx hb hr (fun t9 ht9 hW => ⟨⟨(nI ((bd_end (Bs f) i) + 1)), _, rfl, ⟨rfl, by rw [hz]⟩, by rw [ht9]; exact hP, hD⟩, hS.F ht9⟩) hS.2.2 dP_doIf_84

set_option maxHeartbeats 4000000 in
set_option maxRecDepth 100000 in
theorem c_P_doStatement_0 (l : Launch) (D : va_G) (cI cJ cB cZ : ClassId) (g eo bo t co : Nat) (eq tq : Nat → Nat) (tl : va_W) (X : Ex) (ba : Nat → Option Nat) (f1 f2 f3 f4 : Nat → Int64) (Bs : Nat → Bd) (n d f o : Nat) (q : Nat → Nat) (i lv : Nat) (S : Sx) (tv : Nat) (ex : Nat) (hE : cE l D cI cJ cB cZ g eo bo t co eq tq tl X ba f1 f2 f3 f4 Bs n) (hB : cBl l D cI cJ cB cZ g eo bo t co eq tq tl X ba f1 f2 f3 f4 Bs n) (hd : d + (n + 1) = 51) (hf : f < 8) (hbf : ba f = some o) (hsl : (wB cI o q (Bs f)).Sublist tl) (hBd : bd_ok X (Bs f)) (hX80 : X.2.2.2.2 ≤ 80) (hi : i < (Bs f).2.2.2.2.2.2.1) (hlv : lv < 8) (hS9 : sx_ok S) (hre : re_ok X (pg X ba Bs n).1) (hrb : rb_ok X (pg X ba Bs n).2) (hk : (Bs f).1 i = 0) (htv : tv < 6) (htg : (Bs f).2.1 i = nI tv) (hex : ex < X.2.2.2.2) (hop : (Bs f).2.2.1 i = nI ex) : ct_I l y_P_doStatement w_P_doStatement ({ frames := 8 * n + 12, cells := 0, slots := 0, locals := 200 * n + 280 }) D (gk_T cI cJ cB cZ) [.ref g, .ref o, .int (nI i), .int (nI lv), .int (nI d)] (wPg cI cJ cB g eo bo t co eq tq X ba S f1 f2 f3 f4 ++ tl) (0) (0) (fun r w => r = nI (px_st (pg X ba Bs n).1 (pg X ba Bs n).2 (Bs f) i lv S).1 ∧ w = (wPg cI cJ cB g eo bo t co eq tq X ba ((px_st (pg X ba Bs n).1 (pg X ba Bs n).2 (Bs f) i lv S).2) f1 f2 f3 f4 ++ tl)) := by
  intro sz
  refine Met.ofW (cc := b_P_doStatement) (maxL := 10) (ret := (some .int)) (by decide) rfl ?_
  intro p ev9 s m args below meth c s₁ B9 hml hv
  obtain ⟨rfl, hsz, hP, hK, hN, hD0⟩ := hv
  have hx := B9.exec
  have hb := B9.bytes
  have hr := B9.returns
  have hts := atoms_spec (ws := w_P_doStatement) B9.pre
  have ht : ∀ w ∈ gk_big, w.before _ s = true := fun w h => hts w (List.mem_cons_of_mem _ h)
  have hown : s.vm.findClass R_P = some m.cls := findClass_of_methodNamed B9.named
  have hlocks := B9.notSynchronized
  subst hsz
  have hD := hD0.self (sz := s.heap.size)
  generalize hAe : va_A (wPg cI cJ cB g eo bo t co eq tq X ba S f1 f2 f3 f4 ++ tl) s.heap.size = A at hD ⊢
  have hA : ∀ q : Nat, s.heap.size ≤ q → A q := fun q h => by rw [← hAe]; exact Or.inr h
  generalize hHe : s.heap = H at hP ⊢
  have hS : va_S A s.heap H [] := by rw [← hHe]; exact va_S.rf
  have hP : va_P D vwCl ([(g, .inr (3, [.ref eo, .ref bo, .ref t, .ref co])), (eo, .inr (2, [.ref (eq 0), .ref (eq 1), .ref (eq 2), .ref (eq 3), .int (nI X.2.2.2.2)])), ((eq 0), .inl (cI, 80, .inl X.1)), ((eq 1), .inl (cI, 80, .inl X.2.1)), ((eq 2), .inl (cI, 80, .inl X.2.2.1)), ((eq 3), .inl (cI, 80, .inl X.2.2.2.1)), (bo, .inl (cB, 8, .inr (.inr (.inr (.inr ba))))), (t, .inr (4, [.ref (tq 0), .ref (tq 1), .ref (tq 2), .ref (tq 3), .ref (tq 4), .ref (tq 5), .ref (tq 6), .ref (tq 7), .int (nI S.1.2.2.2.2)])), ((tq 0), .inl (cI, 64, .inl (fun z9 => nI (S.1.1 z9)))), ((tq 1), .inl (cI, 64, .inl (fun z9 => nI (S.1.2.1 z9)))), ((tq 2), .inl (cI, 64, .inl (fun z9 => nI (S.1.2.2.1 z9)))), ((tq 3), .inl (cJ, 64, .inr (.inl S.1.2.2.2.1))), ((tq 4), .inl (cJ, 64, .inr (.inl f1))), ((tq 5), .inl (cJ, 64, .inr (.inl f2))), ((tq 6), .inl (cJ, 64, .inr (.inl f3))), ((tq 7), .inl (cJ, 64, .inr (.inl f4))), (co, .inl (cI, 112, .inl (fun z9 => nI (S.2 z9))))] ++ tl) H := hP
  have hD : va_D A ([(g, .inr (3, [.ref eo, .ref bo, .ref t, .ref co])), (eo, .inr (2, [.ref (eq 0), .ref (eq 1), .ref (eq 2), .ref (eq 3), .int (nI X.2.2.2.2)])), ((eq 0), .inl (cI, 80, .inl X.1)), ((eq 1), .inl (cI, 80, .inl X.2.1)), ((eq 2), .inl (cI, 80, .inl X.2.2.1)), ((eq 3), .inl (cI, 80, .inl X.2.2.2.1)), (bo, .inl (cB, 8, .inr (.inr (.inr (.inr ba))))), (t, .inr (4, [.ref (tq 0), .ref (tq 1), .ref (tq 2), .ref (tq 3), .ref (tq 4), .ref (tq 5), .ref (tq 6), .ref (tq 7), .int (nI S.1.2.2.2.2)])), ((tq 0), .inl (cI, 64, .inl (fun z9 => nI (S.1.1 z9)))), ((tq 1), .inl (cI, 64, .inl (fun z9 => nI (S.1.2.1 z9)))), ((tq 2), .inl (cI, 64, .inl (fun z9 => nI (S.1.2.2.1 z9)))), ((tq 3), .inl (cJ, 64, .inr (.inl S.1.2.2.2.1))), ((tq 4), .inl (cJ, 64, .inr (.inl f1))), ((tq 5), .inl (cJ, 64, .inr (.inl f2))), ((tq 6), .inl (cJ, 64, .inr (.inl f3))), ((tq 7), .inl (cJ, 64, .inr (.inl f4))), (co, .inl (cI, 112, .inl (fun z9 => nI (S.2 z9))))] ++ tl) := hD
  have hl := lv_entry ([.ref g, .ref o, .int (nI i), .int (nI lv), .int (nI d)]) (n := 10) (Nat.le_of_ble_eq_true rfl)
  rw [lg_entry_eq]
  generalize (lg_sl ([.ref g, .ref o, .int (nI i), .int (nI lv), .int (nI d)]) ++ List.replicate (10 - (lg_sl ([.ref g, .ref o, .int (nI i), .int (nI lv), .int (nI d)])).length) Slot.unset).toArray = ls at hl ⊢
  have hl : lv_has ls 10 [(0, .ref g), (1, .ref o), (2, .int (nI i)), (3, .int (nI lv)), (4, .int (nI d))] := hl
  have hs12 := hBd.1
  have hcl := (hBd.2.2 i hi).1
  obtain ⟨j0, hj0⟩ := List.getElem?_of_mem (hsl.subset (List.mem_of_getElem? (l := wB cI o q (Bs f)) (i := 0) rfl))
  have hj0 : tl[j0]? = some (o, .inr (0, [.ref (q 0), .ref (q 1), .ref (q 2), .ref (q 3), .ref (q 4), .ref (q 5), .int (nI ((Bs f).2.2.2.2.2.2.1)), .int (nI ((Bs f).2.2.2.2.2.2.2))])) := hj0
  obtain ⟨j1, hj1⟩ := List.getElem?_of_mem (hsl.subset (List.mem_of_getElem? (l := wB cI o q (Bs f)) (i := 1) rfl))
  have hj1 : tl[j1]? = some ((q 0), .inl (cI, 12, .inl (fun z9 => nI (((Bs f).1) z9)))) := hj1
  obtain ⟨j2, hj2⟩ := List.getElem?_of_mem (hsl.subset (List.mem_of_getElem? (l := wB cI o q (Bs f)) (i := 2) rfl))
  have hj2 : tl[j2]? = some ((q 1), .inl (cI, 12, .inl ((Bs f).2.1))) := hj2
  obtain ⟨j3, hj3⟩ := List.getElem?_of_mem (hsl.subset (List.mem_of_getElem? (l := wB cI o q (Bs f)) (i := 3) rfl))
  have hj3 : tl[j3]? = some ((q 2), .inl (cI, 12, .inl ((Bs f).2.2.1))) := hj3
  have hbc := bd_close_le (Bs f) i
  have hSc := hS9.2
  have hSn := hS9.1
  refine lv_aload_n hx hb dP_doStatement_0 rfl (lv_at hl 1 rfl) ?_
  refine va_getN (D := D) (ci := 0) (v := .ref (q 1)) (C := R_B) (T := F_B) (N := 8) hx hb ht i_B hown hK hP (j0 + 17) hj0 rfl 1 (by decide) (va_Nw.use rfl (hN _ mn_18)) (fun _ h9 => h9) rfl dP_doStatement_1 ?_
  refine lv_iload_n hx hb dP_doStatement_4 rfl (lv_at hl 2 rfl) ?_
  have i5 : vp_in (nI i) 12 := gx_in (rfl : (nI i) = (nI i)) (by omega) (by decide)
  have k5 : ((nI i) : Int32).toNatClampNeg = i := gx_cl (rfl : (nI i) = (nI i)) (by omega)
  refine va_iald hx hb hK hP (j2 + 17) 0 hj2 rfl i5 dP_doStatement_5 ?_
  rw [k5]
  refine lv_topi (fun v5 e5 => ?_)
  rw [htg] at e5
  subst e5
  refine lv_istore (lv' := [(5, .int (nI tv)), (0, .ref g), (1, .ref o), (2, .int (nI i)), (3, .int (nI lv)), (4, .int (nI d))]) hx hb dP_doStatement_6 hl (by decide) rfl (fun ls hl => ?_)
  refine lv_aload_n hx hb dP_doStatement_8 rfl (lv_at hl 2 rfl) ?_
  refine va_getN (D := D) (ci := 0) (v := .ref (q 2)) (C := R_B) (T := F_B) (N := 8) hx hb ht i_B hown hK hP (j0 + 17) hj0 rfl 2 (by decide) (va_Nw.use rfl (hN _ mn_19)) (fun _ h9 => h9) rfl dP_doStatement_9 ?_
  refine lv_iload_n hx hb dP_doStatement_12 rfl (lv_at hl 3 rfl) ?_
  have i13 : vp_in (nI i) 12 := gx_in (rfl : (nI i) = (nI i)) (by omega) (by decide)
  have k13 : ((nI i) : Int32).toNatClampNeg = i := gx_cl (rfl : (nI i) = (nI i)) (by omega)
  refine va_iald hx hb hK hP (j3 + 17) 0 hj3 rfl i13 dP_doStatement_13 ?_
  rw [k13]
  refine lv_topi (fun v13 e13 => ?_)
  rw [hop] at e13
  subst e13
  refine lv_istore (lv' := [(6, .int (nI ex)), (5, .int (nI tv)), (0, .ref g), (1, .ref o), (2, .int (nI i)), (3, .int (nI lv)), (4, .int (nI d))]) hx hb dP_doStatement_14 hl (by decide) rfl (fun ls hl => ?_)
  refine lv_aload_n hx hb dP_doStatement_16 rfl (lv_at hl 3 rfl) ?_
  refine va_getN (D := D) (ci := 0) (v := .ref (q 0)) (C := R_B) (T := F_B) (N := 8) hx hb ht i_B hown hK hP (j0 + 17) hj0 rfl 0 (by decide) (va_Nw.use rfl (hN _ mn_17)) (fun _ h9 => h9) rfl dP_doStatement_17 ?_
  refine lv_iload_n hx hb dP_doStatement_20 rfl (lv_at hl 4 rfl) ?_
  have i21 : vp_in (nI i) 12 := gx_in (rfl : (nI i) = (nI i)) (by omega) (by decide)
  have k21 : ((nI i) : Int32).toNatClampNeg = i := gx_cl (rfl : (nI i) = (nI i)) (by omega)
  refine va_iald hx hb hK hP (j1 + 17) 0 hj1 rfl i21 dP_doStatement_21 ?_
  rw [k21]
  refine lv_topi (fun v21 e21 => ?_)
  have n21 : v21 = nI (((Bs f).1) i) := e21
  subst n21
  rw [hk]
  refine lv_tableIn (tgt := 56) (off := 34) hx hb dP_doStatement_22 (by decide) (by decide) (by rfl) (by decide) ?_
  refine lv_aload_n hx hb dP_doStatement_56 rfl (lv_at hl 2 rfl) ?_
  refine va_get (D := D) (ci := 3) (v := .ref co) (C := R_P) (T := F_P) (N := 4) hx hb ht i_P hown hK hP 0 rfl rfl 3 (by decide) (ht _ m_97) (fun _ h9 => h9) rfl dP_doStatement_57 ?_
  refine lv_iload_n hx hb dP_doStatement_60 rfl (lv_at hl 5 rfl) ?_
  refine lv_bipush (v := 14) hx hb dP_doStatement_61 (by decide) ?_
  refine lv_imul hx hb dP_doStatement_63 ?_
  refine lv_topi (fun v63 e63 => ?_)
  have n63 : v63 = nI (lv * 14) := by rw [e63]; exact gx_mul (rfl : (nI lv) = (nI lv)) (rfl : (14 : Int32) = nI 14)
  subst n63
  refine lv_iload hx hb dP_doStatement_64 (lv_at hl 1 rfl) ?_
  refine lv_iadd hx hb dP_doStatement_66 ?_
  refine lv_topi (fun v66 e66 => ?_)
  have n66 : v66 = nI ((lv * 14) + tv) := by rw [e66]; exact gx_add (rfl : (nI (lv * 14)) = (nI (lv * 14))) (rfl : (nI tv) = (nI tv))
  subst n66
  refine lv_aload_n hx hb dP_doStatement_67 rfl (lv_at hl 2 rfl) ?_
  refine lv_iload hx hb dP_doStatement_68 (lv_at hl 0 rfl) ?_
  refine lv_iload_n hx hb dP_doStatement_70 rfl (lv_at hl 5 rfl) ?_
  refine lv_iload hx hb dP_doStatement_71 (lv_at hl 6 rfl) ?_
  refine lv_iconst (v := 1) hx hb dP_doStatement_73 (by decide) ?_
  refine lv_iadd hx hb dP_doStatement_74 ?_
  refine lv_topi (fun v74 e74 => ?_)
  have n74 : v74 = nI (d + 1) := by rw [e74]; exact gx_add (rfl : (nI d) = (nI d)) (rfl : (1 : Int32) = nI 1)
  subst n74
  refine gc_wi (va_runV (As := [.int (nI ex), .int (nI lv), .int (nI (d + 1))]) (rest := [.int (nI ((lv * 14) + tv)), .ref co]) ⟨hx, hb, hml, hown, ht⟩ (hE (d + 1) ex lv S (by omega) (by omega) hlv hS9 H.size) (cwV 3 ht (gw_V m_337 m_339 ms_12 m_2 m_340) rfl rfl rfl (by decide +kernel) ⟨show (8 * n + 8) + 1 ≤ 8 * n + 12 by omega, show 8 + (9 + 11) + (200 * n + 200) ≤ 200 * n + 280 by omega⟩) (gp_V (ci := 3) (q0 := 0) hK hN hP hD rfl rfl) rfl rfl hl.1 rfl (lv_room (Nat.le_of_ble_eq_true rfl)) dP_doStatement_75 ⟨Nat.le_of_ble_eq_true rfl, Nat.le_of_ble_eq_true rfl⟩) hP hD hS hA (fun r75 w75 H locs p75 hP hD hS => ?_)
  obtain ⟨rfl, rfl⟩ := p75
  have hP : va_P D vwCl ([(g, .inr (3, [.ref eo, .ref bo, .ref t, .ref co])), (eo, .inr (2, [.ref (eq 0), .ref (eq 1), .ref (eq 2), .ref (eq 3), .int (nI X.2.2.2.2)])), ((eq 0), .inl (cI, 80, .inl X.1)), ((eq 1), .inl (cI, 80, .inl X.2.1)), ((eq 2), .inl (cI, 80, .inl X.2.2.1)), ((eq 3), .inl (cI, 80, .inl X.2.2.2.1)), (bo, .inl (cB, 8, .inr (.inr (.inr (.inr ba))))), (t, .inr (4, [.ref (tq 0), .ref (tq 1), .ref (tq 2), .ref (tq 3), .ref (tq 4), .ref (tq 5), .ref (tq 6), .ref (tq 7), .int (nI (((((pg X ba Bs n).1 ex lv S).2).1).2.2.2.2))])), ((tq 0), .inl (cI, 64, .inl (fun z9 => nI ((((((pg X ba Bs n).1 ex lv S).2).1).1) z9)))), ((tq 1), .inl (cI, 64, .inl (fun z9 => nI ((((((pg X ba Bs n).1 ex lv S).2).1).2.1) z9)))), ((tq 2), .inl (cI, 64, .inl (fun z9 => nI ((((((pg X ba Bs n).1 ex lv S).2).1).2.2.1) z9)))), ((tq 3), .inl (cJ, 64, .inr (.inl (((((pg X ba Bs n).1 ex lv S).2).1).2.2.2.1)))), ((tq 4), .inl (cJ, 64, .inr (.inl f1))), ((tq 5), .inl (cJ, 64, .inr (.inl f2))), ((tq 6), .inl (cJ, 64, .inr (.inl f3))), ((tq 7), .inl (cJ, 64, .inr (.inl f4))), (co, .inl (cI, 112, .inl (fun z9 => nI (((((pg X ba Bs n).1 ex lv S).2).2) z9))))] ++ tl) H := hP
  have hD : va_D A ([(g, .inr (3, [.ref eo, .ref bo, .ref t, .ref co])), (eo, .inr (2, [.ref (eq 0), .ref (eq 1), .ref (eq 2), .ref (eq 3), .int (nI X.2.2.2.2)])), ((eq 0), .inl (cI, 80, .inl X.1)), ((eq 1), .inl (cI, 80, .inl X.2.1)), ((eq 2), .inl (cI, 80, .inl X.2.2.1)), ((eq 3), .inl (cI, 80, .inl X.2.2.2.1)), (bo, .inl (cB, 8, .inr (.inr (.inr (.inr ba))))), (t, .inr (4, [.ref (tq 0), .ref (tq 1), .ref (tq 2), .ref (tq 3), .ref (tq 4), .ref (tq 5), .ref (tq 6), .ref (tq 7), .int (nI (((((pg X ba Bs n).1 ex lv S).2).1).2.2.2.2))])), ((tq 0), .inl (cI, 64, .inl (fun z9 => nI ((((((pg X ba Bs n).1 ex lv S).2).1).1) z9)))), ((tq 1), .inl (cI, 64, .inl (fun z9 => nI ((((((pg X ba Bs n).1 ex lv S).2).1).2.1) z9)))), ((tq 2), .inl (cI, 64, .inl (fun z9 => nI ((((((pg X ba Bs n).1 ex lv S).2).1).2.2.1) z9)))), ((tq 3), .inl (cJ, 64, .inr (.inl (((((pg X ba Bs n).1 ex lv S).2).1).2.2.2.1)))), ((tq 4), .inl (cJ, 64, .inr (.inl f1))), ((tq 5), .inl (cJ, 64, .inr (.inl f2))), ((tq 6), .inl (cJ, 64, .inr (.inl f3))), ((tq 7), .inl (cJ, 64, .inr (.inl f4))), (co, .inl (cI, 112, .inl (fun z9 => nI (((((pg X ba Bs n).1 ex lv S).2).2) z9))))] ++ tl) := hD
  have b75 := hre ex lv S (by omega) hlv hS9
  have b75x := b75.1
  have b75y := b75.2.1
  have i78 : vp_in (nI ((lv * 14) + tv)) 112 := gx_in (rfl : (nI ((lv * 14) + tv)) = (nI ((lv * 14) + tv))) (by omega) (by decide)
  have k78 : ((nI ((lv * 14) + tv)) : Int32).toNatClampNeg = ((lv * 14) + tv) := gx_cl (rfl : (nI ((lv * 14) + tv)) = (nI ((lv * 14) + tv))) (by omega)
  refine va_iast hx hb hK hP hD hS 16 0 rfl rfl i78 dP_doStatement_78 (fun H locs hP hD hS => ?_)
  rw [k78] at hP hD
  have hP : va_P D vwCl ([(g, .inr (3, [.ref eo, .ref bo, .ref t, .ref co])), (eo, .inr (2, [.ref (eq 0), .ref (eq 1), .ref (eq 2), .ref (eq 3), .int (nI X.2.2.2.2)])), ((eq 0), .inl (cI, 80, .inl X.1)), ((eq 1), .inl (cI, 80, .inl X.2.1)), ((eq 2), .inl (cI, 80, .inl X.2.2.1)), ((eq 3), .inl (cI, 80, .inl X.2.2.2.1)), (bo, .inl (cB, 8, .inr (.inr (.inr (.inr ba))))), (t, .inr (4, [.ref (tq 0), .ref (tq 1), .ref (tq 2), .ref (tq 3), .ref (tq 4), .ref (tq 5), .ref (tq 6), .ref (tq 7), .int (nI (((((pg X ba Bs n).1 ex lv S).2).1).2.2.2.2))])), ((tq 0), .inl (cI, 64, .inl (fun z9 => nI ((((((pg X ba Bs n).1 ex lv S).2).1).1) z9)))), ((tq 1), .inl (cI, 64, .inl (fun z9 => nI ((((((pg X ba Bs n).1 ex lv S).2).1).2.1) z9)))), ((tq 2), .inl (cI, 64, .inl (fun z9 => nI ((((((pg X ba Bs n).1 ex lv S).2).1).2.2.1) z9)))), ((tq 3), .inl (cJ, 64, .inr (.inl (((((pg X ba Bs n).1 ex lv S).2).1).2.2.2.1)))), ((tq 4), .inl (cJ, 64, .inr (.inl f1))), ((tq 5), .inl (cJ, 64, .inr (.inl f2))), ((tq 6), .inl (cJ, 64, .inr (.inl f3))), ((tq 7), .inl (cJ, 64, .inr (.inl f4))), (co, .inl (cI, 112, .inl (upd (fun z9 => nI (((((pg X ba Bs n).1 ex lv S).2).2) z9)) ((lv * 14) + tv) (nI (((pg X ba Bs n).1 ex lv S).1)))))] ++ tl) H := hP
  have hD : va_D A ([(g, .inr (3, [.ref eo, .ref bo, .ref t, .ref co])), (eo, .inr (2, [.ref (eq 0), .ref (eq 1), .ref (eq 2), .ref (eq 3), .int (nI X.2.2.2.2)])), ((eq 0), .inl (cI, 80, .inl X.1)), ((eq 1), .inl (cI, 80, .inl X.2.1)), ((eq 2), .inl (cI, 80, .inl X.2.2.1)), ((eq 3), .inl (cI, 80, .inl X.2.2.2.1)), (bo, .inl (cB, 8, .inr (.inr (.inr (.inr ba))))), (t, .inr (4, [.ref (tq 0), .ref (tq 1), .ref (tq 2), .ref (tq 3), .ref (tq 4), .ref (tq 5), .ref (tq 6), .ref (tq 7), .int (nI (((((pg X ba Bs n).1 ex lv S).2).1).2.2.2.2))])), ((tq 0), .inl (cI, 64, .inl (fun z9 => nI ((((((pg X ba Bs n).1 ex lv S).2).1).1) z9)))), ((tq 1), .inl (cI, 64, .inl (fun z9 => nI ((((((pg X ba Bs n).1 ex lv S).2).1).2.1) z9)))), ((tq 2), .inl (cI, 64, .inl (fun z9 => nI ((((((pg X ba Bs n).1 ex lv S).2).1).2.2.1) z9)))), ((tq 3), .inl (cJ, 64, .inr (.inl (((((pg X ba Bs n).1 ex lv S).2).1).2.2.2.1)))), ((tq 4), .inl (cJ, 64, .inr (.inl f1))), ((tq 5), .inl (cJ, 64, .inr (.inl f2))), ((tq 6), .inl (cJ, 64, .inr (.inl f3))), ((tq 7), .inl (cJ, 64, .inr (.inl f4))), (co, .inl (cI, 112, .inl (upd (fun z9 => nI (((((pg X ba Bs n).1 ex lv S).2).2) z9)) ((lv * 14) + tv) (nI (((pg X ba Bs n).1 ex lv S).1)))))] ++ tl) := hD
  rw [gx_upd] at hP hD
  refine lv_iload_n hx hb dP_doStatement_79 rfl (lv_at hl 4 rfl) ?_
  refine lv_iconst (v := 1) hx hb dP_doStatement_80 (by decide) ?_
  refine lv_iadd hx hb dP_doStatement_81 ?_
  refine lv_topi (fun v81 e81 => ?_)
  have n81 : v81 = nI (i + 1) := by rw [e81]; exact gx_add (rfl : (nI i) = (nI i)) (rfl : (1 : Int32) = nI 1)
  subst n81
  have hz : px_st (pg X ba Bs n).1 (pg X ba Bs n).2 (Bs f) i lv S = ((i + 1), ((((pg X ba Bs n).1 ex lv S).2).1, va_up ((((pg X ba Bs n).1 ex lv S).2).2) ((lv * 14) + tv) (((pg X ba Bs n).1 ex lv S).1))) := by
    simp [px_st, hk, htg, cn_nI (show tv < 2 ^ 31 by omega), hop, cn_nI (show ex < 2 ^ 31 by omega)]
  exact W.iret (v := (nI (i + 1))) hx hb hr (fun t9 ht9 hW => ⟨⟨(nI (i + 1)), _, rfl, ⟨by rw [hz], by rw [hz]⟩, by rw [ht9]; exact hP, hD⟩, hS.F ht9⟩) hS.2.2 dP_doStatement_82

set_option maxHeartbeats 4000000 in
set_option maxRecDepth 100000 in
theorem c_P_doStatement_1 (l : Launch) (D : va_G) (cI cJ cB cZ : ClassId) (g eo bo t co : Nat) (eq tq : Nat → Nat) (tl : va_W) (X : Ex) (ba : Nat → Option Nat) (f1 f2 f3 f4 : Nat → Int64) (Bs : Nat → Bd) (n d f o : Nat) (q : Nat → Nat) (i lv : Nat) (S : Sx) (tv : Nat) (ex : Nat) (hE : cE l D cI cJ cB cZ g eo bo t co eq tq tl X ba f1 f2 f3 f4 Bs n) (hB : cBl l D cI cJ cB cZ g eo bo t co eq tq tl X ba f1 f2 f3 f4 Bs n) (hd : d + (n + 1) = 51) (hf : f < 8) (hbf : ba f = some o) (hsl : (wB cI o q (Bs f)).Sublist tl) (hBd : bd_ok X (Bs f)) (hX80 : X.2.2.2.2 ≤ 80) (hi : i < (Bs f).2.2.2.2.2.2.1) (hlv : lv < 8) (hS9 : sx_ok S) (hre : re_ok X (pg X ba Bs n).1) (hrb : rb_ok X (pg X ba Bs n).2) (hk : (Bs f).1 i = 1) (htv : tv < 2) (htg : (Bs f).2.1 i = nI tv) (hex : ex < X.2.2.2.2) (hop : (Bs f).2.2.1 i = nI ex) : ct_I l y_P_doStatement w_P_doStatement ({ frames := 8 * n + 12, cells := 0, slots := 0, locals := 200 * n + 280 }) D (gk_T cI cJ cB cZ) [.ref g, .ref o, .int (nI i), .int (nI lv), .int (nI d)] (wPg cI cJ cB g eo bo t co eq tq X ba S f1 f2 f3 f4 ++ tl) (0) (0) (fun r w => r = nI (px_st (pg X ba Bs n).1 (pg X ba Bs n).2 (Bs f) i lv S).1 ∧ w = (wPg cI cJ cB g eo bo t co eq tq X ba ((px_st (pg X ba Bs n).1 (pg X ba Bs n).2 (Bs f) i lv S).2) f1 f2 f3 f4 ++ tl)) := by
  intro sz
  refine Met.ofW (cc := b_P_doStatement) (maxL := 10) (ret := (some .int)) (by decide) rfl ?_
  intro p ev9 s m args below meth c s₁ B9 hml hv
  obtain ⟨rfl, hsz, hP, hK, hN, hD0⟩ := hv
  have hx := B9.exec
  have hb := B9.bytes
  have hr := B9.returns
  have hts := atoms_spec (ws := w_P_doStatement) B9.pre
  have ht : ∀ w ∈ gk_big, w.before _ s = true := fun w h => hts w (List.mem_cons_of_mem _ h)
  have hown : s.vm.findClass R_P = some m.cls := findClass_of_methodNamed B9.named
  have hlocks := B9.notSynchronized
  subst hsz
  have hD := hD0.self (sz := s.heap.size)
  generalize hAe : va_A (wPg cI cJ cB g eo bo t co eq tq X ba S f1 f2 f3 f4 ++ tl) s.heap.size = A at hD ⊢
  have hA : ∀ q : Nat, s.heap.size ≤ q → A q := fun q h => by rw [← hAe]; exact Or.inr h
  generalize hHe : s.heap = H at hP ⊢
  have hS : va_S A s.heap H [] := by rw [← hHe]; exact va_S.rf
  have hP : va_P D vwCl ([(g, .inr (3, [.ref eo, .ref bo, .ref t, .ref co])), (eo, .inr (2, [.ref (eq 0), .ref (eq 1), .ref (eq 2), .ref (eq 3), .int (nI X.2.2.2.2)])), ((eq 0), .inl (cI, 80, .inl X.1)), ((eq 1), .inl (cI, 80, .inl X.2.1)), ((eq 2), .inl (cI, 80, .inl X.2.2.1)), ((eq 3), .inl (cI, 80, .inl X.2.2.2.1)), (bo, .inl (cB, 8, .inr (.inr (.inr (.inr ba))))), (t, .inr (4, [.ref (tq 0), .ref (tq 1), .ref (tq 2), .ref (tq 3), .ref (tq 4), .ref (tq 5), .ref (tq 6), .ref (tq 7), .int (nI S.1.2.2.2.2)])), ((tq 0), .inl (cI, 64, .inl (fun z9 => nI (S.1.1 z9)))), ((tq 1), .inl (cI, 64, .inl (fun z9 => nI (S.1.2.1 z9)))), ((tq 2), .inl (cI, 64, .inl (fun z9 => nI (S.1.2.2.1 z9)))), ((tq 3), .inl (cJ, 64, .inr (.inl S.1.2.2.2.1))), ((tq 4), .inl (cJ, 64, .inr (.inl f1))), ((tq 5), .inl (cJ, 64, .inr (.inl f2))), ((tq 6), .inl (cJ, 64, .inr (.inl f3))), ((tq 7), .inl (cJ, 64, .inr (.inl f4))), (co, .inl (cI, 112, .inl (fun z9 => nI (S.2 z9))))] ++ tl) H := hP
  have hD : va_D A ([(g, .inr (3, [.ref eo, .ref bo, .ref t, .ref co])), (eo, .inr (2, [.ref (eq 0), .ref (eq 1), .ref (eq 2), .ref (eq 3), .int (nI X.2.2.2.2)])), ((eq 0), .inl (cI, 80, .inl X.1)), ((eq 1), .inl (cI, 80, .inl X.2.1)), ((eq 2), .inl (cI, 80, .inl X.2.2.1)), ((eq 3), .inl (cI, 80, .inl X.2.2.2.1)), (bo, .inl (cB, 8, .inr (.inr (.inr (.inr ba))))), (t, .inr (4, [.ref (tq 0), .ref (tq 1), .ref (tq 2), .ref (tq 3), .ref (tq 4), .ref (tq 5), .ref (tq 6), .ref (tq 7), .int (nI S.1.2.2.2.2)])), ((tq 0), .inl (cI, 64, .inl (fun z9 => nI (S.1.1 z9)))), ((tq 1), .inl (cI, 64, .inl (fun z9 => nI (S.1.2.1 z9)))), ((tq 2), .inl (cI, 64, .inl (fun z9 => nI (S.1.2.2.1 z9)))), ((tq 3), .inl (cJ, 64, .inr (.inl S.1.2.2.2.1))), ((tq 4), .inl (cJ, 64, .inr (.inl f1))), ((tq 5), .inl (cJ, 64, .inr (.inl f2))), ((tq 6), .inl (cJ, 64, .inr (.inl f3))), ((tq 7), .inl (cJ, 64, .inr (.inl f4))), (co, .inl (cI, 112, .inl (fun z9 => nI (S.2 z9))))] ++ tl) := hD
  have hl := lv_entry ([.ref g, .ref o, .int (nI i), .int (nI lv), .int (nI d)]) (n := 10) (Nat.le_of_ble_eq_true rfl)
  rw [lg_entry_eq]
  generalize (lg_sl ([.ref g, .ref o, .int (nI i), .int (nI lv), .int (nI d)]) ++ List.replicate (10 - (lg_sl ([.ref g, .ref o, .int (nI i), .int (nI lv), .int (nI d)])).length) Slot.unset).toArray = ls at hl ⊢
  have hl : lv_has ls 10 [(0, .ref g), (1, .ref o), (2, .int (nI i)), (3, .int (nI lv)), (4, .int (nI d))] := hl
  have hs12 := hBd.1
  have hcl := (hBd.2.2 i hi).1
  obtain ⟨j0, hj0⟩ := List.getElem?_of_mem (hsl.subset (List.mem_of_getElem? (l := wB cI o q (Bs f)) (i := 0) rfl))
  have hj0 : tl[j0]? = some (o, .inr (0, [.ref (q 0), .ref (q 1), .ref (q 2), .ref (q 3), .ref (q 4), .ref (q 5), .int (nI ((Bs f).2.2.2.2.2.2.1)), .int (nI ((Bs f).2.2.2.2.2.2.2))])) := hj0
  obtain ⟨j1, hj1⟩ := List.getElem?_of_mem (hsl.subset (List.mem_of_getElem? (l := wB cI o q (Bs f)) (i := 1) rfl))
  have hj1 : tl[j1]? = some ((q 0), .inl (cI, 12, .inl (fun z9 => nI (((Bs f).1) z9)))) := hj1
  obtain ⟨j2, hj2⟩ := List.getElem?_of_mem (hsl.subset (List.mem_of_getElem? (l := wB cI o q (Bs f)) (i := 2) rfl))
  have hj2 : tl[j2]? = some ((q 1), .inl (cI, 12, .inl ((Bs f).2.1))) := hj2
  obtain ⟨j3, hj3⟩ := List.getElem?_of_mem (hsl.subset (List.mem_of_getElem? (l := wB cI o q (Bs f)) (i := 3) rfl))
  have hj3 : tl[j3]? = some ((q 2), .inl (cI, 12, .inl ((Bs f).2.2.1))) := hj3
  have hbc := bd_close_le (Bs f) i
  have hSc := hS9.2
  have hSn := hS9.1
  refine lv_aload_n hx hb dP_doStatement_0 rfl (lv_at hl 1 rfl) ?_
  refine va_getN (D := D) (ci := 0) (v := .ref (q 1)) (C := R_B) (T := F_B) (N := 8) hx hb ht i_B hown hK hP (j0 + 17) hj0 rfl 1 (by decide) (va_Nw.use rfl (hN _ mn_18)) (fun _ h9 => h9) rfl dP_doStatement_1 ?_
  refine lv_iload_n hx hb dP_doStatement_4 rfl (lv_at hl 2 rfl) ?_
  have i5 : vp_in (nI i) 12 := gx_in (rfl : (nI i) = (nI i)) (by omega) (by decide)
  have k5 : ((nI i) : Int32).toNatClampNeg = i := gx_cl (rfl : (nI i) = (nI i)) (by omega)
  refine va_iald hx hb hK hP (j2 + 17) 0 hj2 rfl i5 dP_doStatement_5 ?_
  rw [k5]
  refine lv_topi (fun v5 e5 => ?_)
  rw [htg] at e5
  subst e5
  refine lv_istore (lv' := [(5, .int (nI tv)), (0, .ref g), (1, .ref o), (2, .int (nI i)), (3, .int (nI lv)), (4, .int (nI d))]) hx hb dP_doStatement_6 hl (by decide) rfl (fun ls hl => ?_)
  refine lv_aload_n hx hb dP_doStatement_8 rfl (lv_at hl 2 rfl) ?_
  refine va_getN (D := D) (ci := 0) (v := .ref (q 2)) (C := R_B) (T := F_B) (N := 8) hx hb ht i_B hown hK hP (j0 + 17) hj0 rfl 2 (by decide) (va_Nw.use rfl (hN _ mn_19)) (fun _ h9 => h9) rfl dP_doStatement_9 ?_
  refine lv_iload_n hx hb dP_doStatement_12 rfl (lv_at hl 3 rfl) ?_
  have i13 : vp_in (nI i) 12 := gx_in (rfl : (nI i) = (nI i)) (by omega) (by decide)
  have k13 : ((nI i) : Int32).toNatClampNeg = i := gx_cl (rfl : (nI i) = (nI i)) (by omega)
  refine va_iald hx hb hK hP (j3 + 17) 0 hj3 rfl i13 dP_doStatement_13 ?_
  rw [k13]
  refine lv_topi (fun v13 e13 => ?_)
  rw [hop] at e13
  subst e13
  refine lv_istore (lv' := [(6, .int (nI ex)), (5, .int (nI tv)), (0, .ref g), (1, .ref o), (2, .int (nI i)), (3, .int (nI lv)), (4, .int (nI d))]) hx hb dP_doStatement_14 hl (by decide) rfl (fun ls hl => ?_)
  refine lv_aload_n hx hb dP_doStatement_16 rfl (lv_at hl 3 rfl) ?_
  refine va_getN (D := D) (ci := 0) (v := .ref (q 0)) (C := R_B) (T := F_B) (N := 8) hx hb ht i_B hown hK hP (j0 + 17) hj0 rfl 0 (by decide) (va_Nw.use rfl (hN _ mn_17)) (fun _ h9 => h9) rfl dP_doStatement_17 ?_
  refine lv_iload_n hx hb dP_doStatement_20 rfl (lv_at hl 4 rfl) ?_
  have i21 : vp_in (nI i) 12 := gx_in (rfl : (nI i) = (nI i)) (by omega) (by decide)
  have k21 : ((nI i) : Int32).toNatClampNeg = i := gx_cl (rfl : (nI i) = (nI i)) (by omega)
  refine va_iald hx hb hK hP (j1 + 17) 0 hj1 rfl i21 dP_doStatement_21 ?_
  rw [k21]
  refine lv_topi (fun v21 e21 => ?_)
  have n21 : v21 = nI (((Bs f).1) i) := e21
  subst n21
  rw [hk]
  refine lv_tableIn (tgt := 83) (off := 61) hx hb dP_doStatement_22 (by decide) (by decide) (by rfl) (by decide) ?_
  refine lv_aload_n hx hb dP_doStatement_83 rfl (lv_at hl 2 rfl) ?_
  refine va_get (D := D) (ci := 3) (v := .ref co) (C := R_P) (T := F_P) (N := 4) hx hb ht i_P hown hK hP 0 rfl rfl 3 (by decide) (ht _ m_97) (fun _ h9 => h9) rfl dP_doStatement_84 ?_
  refine lv_iload_n hx hb dP_doStatement_87 rfl (lv_at hl 5 rfl) ?_
  refine lv_bipush (v := 14) hx hb dP_doStatement_88 (by decide) ?_
  refine lv_imul hx hb dP_doStatement_90 ?_
  refine lv_topi (fun v90 e90 => ?_)
  have n90 : v90 = nI (lv * 14) := by rw [e90]; exact gx_mul (rfl : (nI lv) = (nI lv)) (rfl : (14 : Int32) = nI 14)
  subst n90
  refine lv_iconst (v := 5) hx hb dP_doStatement_91 (by decide) ?_
  refine lv_iadd hx hb dP_doStatement_92 ?_
  refine lv_topi (fun v92 e92 => ?_)
  have n92 : v92 = nI ((lv * 14) + 5) := by rw [e92]; exact gx_add (rfl : (nI (lv * 14)) = (nI (lv * 14))) (rfl : (5 : Int32) = nI 5)
  subst n92
  have i93 : vp_in (nI ((lv * 14) + 5)) 112 := gx_in (rfl : (nI ((lv * 14) + 5)) = (nI ((lv * 14) + 5))) (by omega) (by decide)
  have k93 : ((nI ((lv * 14) + 5)) : Int32).toNatClampNeg = ((lv * 14) + 5) := gx_cl (rfl : (nI ((lv * 14) + 5)) = (nI ((lv * 14) + 5))) (by omega)
  refine va_iald hx hb hK hP 16 0 rfl rfl i93 dP_doStatement_93 ?_
  rw [k93]
  refine lv_topi (fun v93 e93 => ?_)
  have n93 : v93 = nI (S.2 ((lv * 14) + 5)) := e93
  subst n93
  refine lv_istore (lv' := [(7, .int (nI (S.2 ((lv * 14) + 5)))), (6, .int (nI ex)), (5, .int (nI tv)), (0, .ref g), (1, .ref o), (2, .int (nI i)), (3, .int (nI lv)), (4, .int (nI d))]) hx hb dP_doStatement_94 hl (by decide) rfl (fun ls hl => ?_)
  refine lv_aload_n hx hb dP_doStatement_96 rfl (lv_at hl 3 rfl) ?_
  refine va_get (D := D) (ci := 3) (v := .ref co) (C := R_P) (T := F_P) (N := 4) hx hb ht i_P hown hK hP 0 rfl rfl 3 (by decide) (ht _ m_97) (fun _ h9 => h9) rfl dP_doStatement_97 ?_
  refine lv_aload_n hx hb dP_doStatement_100 rfl (lv_at hl 3 rfl) ?_
  refine lv_iload_n hx hb dP_doStatement_101 rfl (lv_at hl 6 rfl) ?_
  refine lv_iload hx hb dP_doStatement_102 (lv_at hl 2 rfl) ?_
  refine lv_iload hx hb dP_doStatement_104 (lv_at hl 0 rfl) ?_
  have hsc := hS9.2 (lv * 14 + 5)
  refine gc_ri (va_runV (As := [.int (nI lv), .int (nI tv), .int (nI (S.2 ((lv * 14) + 5)))]) (rest := [.ref co]) ⟨hx, hb, hml, hown, ht⟩ (c_P_elementCell l D cI cJ cB cZ g eo bo t co eq tq tl X ba f1 f2 f3 f4 S lv tv (S.2 ((lv * 14) + 5)) (by omega) H.size) (cwV 3 ht (gw_V m_356 m_358 ms_13 m_2 m_359) rfl rfl rfl (by decide +kernel) ⟨show 0 + 1 ≤ 8 * n + 12 by omega, show 8 + (5 + 11) + (0) ≤ 200 * n + 280 by omega⟩) (gp_V (ci := 3) (q0 := 0) hK hN hP hD rfl rfl) rfl rfl hl.1 rfl (lv_room (Nat.le_of_ble_eq_true rfl)) dP_doStatement_106 ⟨Nat.le_of_ble_eq_true rfl, Nat.le_of_ble_eq_true rfl⟩) hP hD hS hA (fun q h => h) (fun r w h => h.2) (fun r106 H locs p106 hP hS => ?_)
  obtain ⟨rfl, -⟩ := p106
  refine lv_aload_n hx hb dP_doStatement_109 rfl (lv_at hl 3 rfl) ?_
  refine lv_iload hx hb dP_doStatement_110 (lv_at hl 1 rfl) ?_
  refine lv_iload_n hx hb dP_doStatement_112 rfl (lv_at hl 6 rfl) ?_
  refine lv_iload hx hb dP_doStatement_113 (lv_at hl 7 rfl) ?_
  refine lv_iconst (v := 1) hx hb dP_doStatement_115 (by decide) ?_
  refine lv_iadd hx hb dP_doStatement_116 ?_
  refine lv_topi (fun v116 e116 => ?_)
  have n116 : v116 = nI (d + 1) := by rw [e116]; exact gx_add (rfl : (nI d) = (nI d)) (rfl : (1 : Int32) = nI 1)
  subst n116
  refine gc_wi (va_runV (As := [.int (nI ex), .int (nI lv), .int (nI (d + 1))]) (rest := [.int (nI (px_el lv tv (S.2 ((lv * 14) + 5)) S.1)), .ref co]) ⟨hx, hb, hml, hown, ht⟩ (hE (d + 1) ex lv S (by omega) (by omega) hlv hS9 H.size) (cwV 3 ht (gw_V m_337 m_339 ms_12 m_2 m_340) rfl rfl rfl (by decide +kernel) ⟨show (8 * n + 8) + 1 ≤ 8 * n + 12 by omega, show 8 + (9 + 11) + (200 * n + 200) ≤ 200 * n + 280 by omega⟩) (gp_V (ci := 3) (q0 := 0) hK hN hP hD rfl rfl) rfl rfl hl.1 rfl (lv_room (Nat.le_of_ble_eq_true rfl)) dP_doStatement_117 ⟨Nat.le_of_ble_eq_true rfl, Nat.le_of_ble_eq_true rfl⟩) hP hD hS hA (fun r117 w117 H locs p117 hP hD hS => ?_)
  obtain ⟨rfl, rfl⟩ := p117
  have hP : va_P D vwCl ([(g, .inr (3, [.ref eo, .ref bo, .ref t, .ref co])), (eo, .inr (2, [.ref (eq 0), .ref (eq 1), .ref (eq 2), .ref (eq 3), .int (nI X.2.2.2.2)])), ((eq 0), .inl (cI, 80, .inl X.1)), ((eq 1), .inl (cI, 80, .inl X.2.1)), ((eq 2), .inl (cI, 80, .inl X.2.2.1)), ((eq 3), .inl (cI, 80, .inl X.2.2.2.1)), (bo, .inl (cB, 8, .inr (.inr (.inr (.inr ba))))), (t, .inr (4, [.ref (tq 0), .ref (tq 1), .ref (tq 2), .ref (tq 3), .ref (tq 4), .ref (tq 5), .ref (tq 6), .ref (tq 7), .int (nI (((((pg X ba Bs n).1 ex lv S).2).1).2.2.2.2))])), ((tq 0), .inl (cI, 64, .inl (fun z9 => nI ((((((pg X ba Bs n).1 ex lv S).2).1).1) z9)))), ((tq 1), .inl (cI, 64, .inl (fun z9 => nI ((((((pg X ba Bs n).1 ex lv S).2).1).2.1) z9)))), ((tq 2), .inl (cI, 64, .inl (fun z9 => nI ((((((pg X ba Bs n).1 ex lv S).2).1).2.2.1) z9)))), ((tq 3), .inl (cJ, 64, .inr (.inl (((((pg X ba Bs n).1 ex lv S).2).1).2.2.2.1)))), ((tq 4), .inl (cJ, 64, .inr (.inl f1))), ((tq 5), .inl (cJ, 64, .inr (.inl f2))), ((tq 6), .inl (cJ, 64, .inr (.inl f3))), ((tq 7), .inl (cJ, 64, .inr (.inl f4))), (co, .inl (cI, 112, .inl (fun z9 => nI (((((pg X ba Bs n).1 ex lv S).2).2) z9))))] ++ tl) H := hP
  have hD : va_D A ([(g, .inr (3, [.ref eo, .ref bo, .ref t, .ref co])), (eo, .inr (2, [.ref (eq 0), .ref (eq 1), .ref (eq 2), .ref (eq 3), .int (nI X.2.2.2.2)])), ((eq 0), .inl (cI, 80, .inl X.1)), ((eq 1), .inl (cI, 80, .inl X.2.1)), ((eq 2), .inl (cI, 80, .inl X.2.2.1)), ((eq 3), .inl (cI, 80, .inl X.2.2.2.1)), (bo, .inl (cB, 8, .inr (.inr (.inr (.inr ba))))), (t, .inr (4, [.ref (tq 0), .ref (tq 1), .ref (tq 2), .ref (tq 3), .ref (tq 4), .ref (tq 5), .ref (tq 6), .ref (tq 7), .int (nI (((((pg X ba Bs n).1 ex lv S).2).1).2.2.2.2))])), ((tq 0), .inl (cI, 64, .inl (fun z9 => nI ((((((pg X ba Bs n).1 ex lv S).2).1).1) z9)))), ((tq 1), .inl (cI, 64, .inl (fun z9 => nI ((((((pg X ba Bs n).1 ex lv S).2).1).2.1) z9)))), ((tq 2), .inl (cI, 64, .inl (fun z9 => nI ((((((pg X ba Bs n).1 ex lv S).2).1).2.2.1) z9)))), ((tq 3), .inl (cJ, 64, .inr (.inl (((((pg X ba Bs n).1 ex lv S).2).1).2.2.2.1)))), ((tq 4), .inl (cJ, 64, .inr (.inl f1))), ((tq 5), .inl (cJ, 64, .inr (.inl f2))), ((tq 6), .inl (cJ, 64, .inr (.inl f3))), ((tq 7), .inl (cJ, 64, .inr (.inl f4))), (co, .inl (cI, 112, .inl (fun z9 => nI (((((pg X ba Bs n).1 ex lv S).2).2) z9))))] ++ tl) := hD
  have b117 := hre ex lv S (by omega) hlv hS9
  have b117x := b117.1
  have b117y := b117.2.1
  have hel : px_el lv tv (S.2 (lv * 14 + 5)) S.1 < 112 := by have := pl_lt (S.1.2.2.2.1 (S.2 (lv * 14 + 5))); unfold px_el; omega
  have i120 : vp_in (nI (px_el lv tv (S.2 ((lv * 14) + 5)) S.1)) 112 := gx_in (rfl : (nI (px_el lv tv (S.2 ((lv * 14) + 5)) S.1)) = (nI (px_el lv tv (S.2 ((lv * 14) + 5)) S.1))) (by omega) (by decide)
  have k120 : ((nI (px_el lv tv (S.2 ((lv * 14) + 5)) S.1)) : Int32).toNatClampNeg = (px_el lv tv (S.2 ((lv * 14) + 5)) S.1) := gx_cl (rfl : (nI (px_el lv tv (S.2 ((lv * 14) + 5)) S.1)) = (nI (px_el lv tv (S.2 ((lv * 14) + 5)) S.1))) (by omega)
  refine va_iast hx hb hK hP hD hS 16 0 rfl rfl i120 dP_doStatement_120 (fun H locs hP hD hS => ?_)
  rw [k120] at hP hD
  have hP : va_P D vwCl ([(g, .inr (3, [.ref eo, .ref bo, .ref t, .ref co])), (eo, .inr (2, [.ref (eq 0), .ref (eq 1), .ref (eq 2), .ref (eq 3), .int (nI X.2.2.2.2)])), ((eq 0), .inl (cI, 80, .inl X.1)), ((eq 1), .inl (cI, 80, .inl X.2.1)), ((eq 2), .inl (cI, 80, .inl X.2.2.1)), ((eq 3), .inl (cI, 80, .inl X.2.2.2.1)), (bo, .inl (cB, 8, .inr (.inr (.inr (.inr ba))))), (t, .inr (4, [.ref (tq 0), .ref (tq 1), .ref (tq 2), .ref (tq 3), .ref (tq 4), .ref (tq 5), .ref (tq 6), .ref (tq 7), .int (nI (((((pg X ba Bs n).1 ex lv S).2).1).2.2.2.2))])), ((tq 0), .inl (cI, 64, .inl (fun z9 => nI ((((((pg X ba Bs n).1 ex lv S).2).1).1) z9)))), ((tq 1), .inl (cI, 64, .inl (fun z9 => nI ((((((pg X ba Bs n).1 ex lv S).2).1).2.1) z9)))), ((tq 2), .inl (cI, 64, .inl (fun z9 => nI ((((((pg X ba Bs n).1 ex lv S).2).1).2.2.1) z9)))), ((tq 3), .inl (cJ, 64, .inr (.inl (((((pg X ba Bs n).1 ex lv S).2).1).2.2.2.1)))), ((tq 4), .inl (cJ, 64, .inr (.inl f1))), ((tq 5), .inl (cJ, 64, .inr (.inl f2))), ((tq 6), .inl (cJ, 64, .inr (.inl f3))), ((tq 7), .inl (cJ, 64, .inr (.inl f4))), (co, .inl (cI, 112, .inl (upd (fun z9 => nI (((((pg X ba Bs n).1 ex lv S).2).2) z9)) (px_el lv tv (S.2 ((lv * 14) + 5)) S.1) (nI (((pg X ba Bs n).1 ex lv S).1)))))] ++ tl) H := hP
  have hD : va_D A ([(g, .inr (3, [.ref eo, .ref bo, .ref t, .ref co])), (eo, .inr (2, [.ref (eq 0), .ref (eq 1), .ref (eq 2), .ref (eq 3), .int (nI X.2.2.2.2)])), ((eq 0), .inl (cI, 80, .inl X.1)), ((eq 1), .inl (cI, 80, .inl X.2.1)), ((eq 2), .inl (cI, 80, .inl X.2.2.1)), ((eq 3), .inl (cI, 80, .inl X.2.2.2.1)), (bo, .inl (cB, 8, .inr (.inr (.inr (.inr ba))))), (t, .inr (4, [.ref (tq 0), .ref (tq 1), .ref (tq 2), .ref (tq 3), .ref (tq 4), .ref (tq 5), .ref (tq 6), .ref (tq 7), .int (nI (((((pg X ba Bs n).1 ex lv S).2).1).2.2.2.2))])), ((tq 0), .inl (cI, 64, .inl (fun z9 => nI ((((((pg X ba Bs n).1 ex lv S).2).1).1) z9)))), ((tq 1), .inl (cI, 64, .inl (fun z9 => nI ((((((pg X ba Bs n).1 ex lv S).2).1).2.1) z9)))), ((tq 2), .inl (cI, 64, .inl (fun z9 => nI ((((((pg X ba Bs n).1 ex lv S).2).1).2.2.1) z9)))), ((tq 3), .inl (cJ, 64, .inr (.inl (((((pg X ba Bs n).1 ex lv S).2).1).2.2.2.1)))), ((tq 4), .inl (cJ, 64, .inr (.inl f1))), ((tq 5), .inl (cJ, 64, .inr (.inl f2))), ((tq 6), .inl (cJ, 64, .inr (.inl f3))), ((tq 7), .inl (cJ, 64, .inr (.inl f4))), (co, .inl (cI, 112, .inl (upd (fun z9 => nI (((((pg X ba Bs n).1 ex lv S).2).2) z9)) (px_el lv tv (S.2 ((lv * 14) + 5)) S.1) (nI (((pg X ba Bs n).1 ex lv S).1)))))] ++ tl) := hD
  rw [gx_upd] at hP hD
  refine lv_iload_n hx hb dP_doStatement_121 rfl (lv_at hl 5 rfl) ?_
  refine lv_iconst (v := 1) hx hb dP_doStatement_122 (by decide) ?_
  refine lv_iadd hx hb dP_doStatement_123 ?_
  refine lv_topi (fun v123 e123 => ?_)
  have n123 : v123 = nI (i + 1) := by rw [e123]; exact gx_add (rfl : (nI i) = (nI i)) (rfl : (1 : Int32) = nI 1)
  subst n123
  have hz : px_st (pg X ba Bs n).1 (pg X ba Bs n).2 (Bs f) i lv S = ((i + 1), ((((pg X ba Bs n).1 ex lv S).2).1, va_up ((((pg X ba Bs n).1 ex lv S).2).2) (px_el lv tv (S.2 ((lv * 14) + 5)) S.1) (((pg X ba Bs n).1 ex lv S).1))) := by
    simp [px_st, hk, htg, cn_nI (show tv < 2 ^ 31 by omega), hop, cn_nI (show ex < 2 ^ 31 by omega)]
  exact W.iret (v := (nI (i + 1))) hx hb hr (fun t9 ht9 hW => ⟨⟨(nI (i + 1)), _, rfl, ⟨by rw [hz], by rw [hz]⟩, by rw [ht9]; exact hP, hD⟩, hS.F ht9⟩) hS.2.2 dP_doStatement_124

set_option maxHeartbeats 4000000 in
set_option maxRecDepth 100000 in
theorem c_P_doStatement_2 (l : Launch) (D : va_G) (cI cJ cB cZ : ClassId) (g eo bo t co : Nat) (eq tq : Nat → Nat) (tl : va_W) (X : Ex) (ba : Nat → Option Nat) (f1 f2 f3 f4 : Nat → Int64) (Bs : Nat → Bd) (n d f o : Nat) (q : Nat → Nat) (i lv : Nat) (S : Sx) (ex : Nat) (hE : cE l D cI cJ cB cZ g eo bo t co eq tq tl X ba f1 f2 f3 f4 Bs n) (hB : cBl l D cI cJ cB cZ g eo bo t co eq tq tl X ba f1 f2 f3 f4 Bs n) (hd : d + (n + 1) = 51) (hf : f < 8) (hbf : ba f = some o) (hsl : (wB cI o q (Bs f)).Sublist tl) (hBd : bd_ok X (Bs f)) (hX80 : X.2.2.2.2 ≤ 80) (hi : i < (Bs f).2.2.2.2.2.2.1) (hlv : lv < 8) (hS9 : sx_ok S) (hre : re_ok X (pg X ba Bs n).1) (hrb : rb_ok X (pg X ba Bs n).2) (hk : (Bs f).1 i = 2) (hex : ex < X.2.2.2.2) (hop : (Bs f).2.2.1 i = nI ex) : ct_I l y_P_doStatement w_P_doStatement ({ frames := 8 * n + 12, cells := 0, slots := 0, locals := 200 * n + 280 }) D (gk_T cI cJ cB cZ) [.ref g, .ref o, .int (nI i), .int (nI lv), .int (nI d)] (wPg cI cJ cB g eo bo t co eq tq X ba S f1 f2 f3 f4 ++ tl) (0) (0) (fun r w => r = nI (px_st (pg X ba Bs n).1 (pg X ba Bs n).2 (Bs f) i lv S).1 ∧ w = (wPg cI cJ cB g eo bo t co eq tq X ba ((px_st (pg X ba Bs n).1 (pg X ba Bs n).2 (Bs f) i lv S).2) f1 f2 f3 f4 ++ tl)) := by
  intro sz
  refine Met.ofW (cc := b_P_doStatement) (maxL := 10) (ret := (some .int)) (by decide) rfl ?_
  intro p ev9 s m args below meth c s₁ B9 hml hv
  obtain ⟨rfl, hsz, hP, hK, hN, hD0⟩ := hv
  have hx := B9.exec
  have hb := B9.bytes
  have hr := B9.returns
  have hts := atoms_spec (ws := w_P_doStatement) B9.pre
  have ht : ∀ w ∈ gk_big, w.before _ s = true := fun w h => hts w (List.mem_cons_of_mem _ h)
  have hown : s.vm.findClass R_P = some m.cls := findClass_of_methodNamed B9.named
  have hlocks := B9.notSynchronized
  subst hsz
  have hD := hD0.self (sz := s.heap.size)
  generalize hAe : va_A (wPg cI cJ cB g eo bo t co eq tq X ba S f1 f2 f3 f4 ++ tl) s.heap.size = A at hD ⊢
  have hA : ∀ q : Nat, s.heap.size ≤ q → A q := fun q h => by rw [← hAe]; exact Or.inr h
  generalize hHe : s.heap = H at hP ⊢
  have hS : va_S A s.heap H [] := by rw [← hHe]; exact va_S.rf
  have hP : va_P D vwCl ([(g, .inr (3, [.ref eo, .ref bo, .ref t, .ref co])), (eo, .inr (2, [.ref (eq 0), .ref (eq 1), .ref (eq 2), .ref (eq 3), .int (nI X.2.2.2.2)])), ((eq 0), .inl (cI, 80, .inl X.1)), ((eq 1), .inl (cI, 80, .inl X.2.1)), ((eq 2), .inl (cI, 80, .inl X.2.2.1)), ((eq 3), .inl (cI, 80, .inl X.2.2.2.1)), (bo, .inl (cB, 8, .inr (.inr (.inr (.inr ba))))), (t, .inr (4, [.ref (tq 0), .ref (tq 1), .ref (tq 2), .ref (tq 3), .ref (tq 4), .ref (tq 5), .ref (tq 6), .ref (tq 7), .int (nI S.1.2.2.2.2)])), ((tq 0), .inl (cI, 64, .inl (fun z9 => nI (S.1.1 z9)))), ((tq 1), .inl (cI, 64, .inl (fun z9 => nI (S.1.2.1 z9)))), ((tq 2), .inl (cI, 64, .inl (fun z9 => nI (S.1.2.2.1 z9)))), ((tq 3), .inl (cJ, 64, .inr (.inl S.1.2.2.2.1))), ((tq 4), .inl (cJ, 64, .inr (.inl f1))), ((tq 5), .inl (cJ, 64, .inr (.inl f2))), ((tq 6), .inl (cJ, 64, .inr (.inl f3))), ((tq 7), .inl (cJ, 64, .inr (.inl f4))), (co, .inl (cI, 112, .inl (fun z9 => nI (S.2 z9))))] ++ tl) H := hP
  have hD : va_D A ([(g, .inr (3, [.ref eo, .ref bo, .ref t, .ref co])), (eo, .inr (2, [.ref (eq 0), .ref (eq 1), .ref (eq 2), .ref (eq 3), .int (nI X.2.2.2.2)])), ((eq 0), .inl (cI, 80, .inl X.1)), ((eq 1), .inl (cI, 80, .inl X.2.1)), ((eq 2), .inl (cI, 80, .inl X.2.2.1)), ((eq 3), .inl (cI, 80, .inl X.2.2.2.1)), (bo, .inl (cB, 8, .inr (.inr (.inr (.inr ba))))), (t, .inr (4, [.ref (tq 0), .ref (tq 1), .ref (tq 2), .ref (tq 3), .ref (tq 4), .ref (tq 5), .ref (tq 6), .ref (tq 7), .int (nI S.1.2.2.2.2)])), ((tq 0), .inl (cI, 64, .inl (fun z9 => nI (S.1.1 z9)))), ((tq 1), .inl (cI, 64, .inl (fun z9 => nI (S.1.2.1 z9)))), ((tq 2), .inl (cI, 64, .inl (fun z9 => nI (S.1.2.2.1 z9)))), ((tq 3), .inl (cJ, 64, .inr (.inl S.1.2.2.2.1))), ((tq 4), .inl (cJ, 64, .inr (.inl f1))), ((tq 5), .inl (cJ, 64, .inr (.inl f2))), ((tq 6), .inl (cJ, 64, .inr (.inl f3))), ((tq 7), .inl (cJ, 64, .inr (.inl f4))), (co, .inl (cI, 112, .inl (fun z9 => nI (S.2 z9))))] ++ tl) := hD
  have hl := lv_entry ([.ref g, .ref o, .int (nI i), .int (nI lv), .int (nI d)]) (n := 10) (Nat.le_of_ble_eq_true rfl)
  rw [lg_entry_eq]
  generalize (lg_sl ([.ref g, .ref o, .int (nI i), .int (nI lv), .int (nI d)]) ++ List.replicate (10 - (lg_sl ([.ref g, .ref o, .int (nI i), .int (nI lv), .int (nI d)])).length) Slot.unset).toArray = ls at hl ⊢
  have hl : lv_has ls 10 [(0, .ref g), (1, .ref o), (2, .int (nI i)), (3, .int (nI lv)), (4, .int (nI d))] := hl
  have hs12 := hBd.1
  have hcl := (hBd.2.2 i hi).1
  obtain ⟨j0, hj0⟩ := List.getElem?_of_mem (hsl.subset (List.mem_of_getElem? (l := wB cI o q (Bs f)) (i := 0) rfl))
  have hj0 : tl[j0]? = some (o, .inr (0, [.ref (q 0), .ref (q 1), .ref (q 2), .ref (q 3), .ref (q 4), .ref (q 5), .int (nI ((Bs f).2.2.2.2.2.2.1)), .int (nI ((Bs f).2.2.2.2.2.2.2))])) := hj0
  obtain ⟨j1, hj1⟩ := List.getElem?_of_mem (hsl.subset (List.mem_of_getElem? (l := wB cI o q (Bs f)) (i := 1) rfl))
  have hj1 : tl[j1]? = some ((q 0), .inl (cI, 12, .inl (fun z9 => nI (((Bs f).1) z9)))) := hj1
  obtain ⟨j2, hj2⟩ := List.getElem?_of_mem (hsl.subset (List.mem_of_getElem? (l := wB cI o q (Bs f)) (i := 2) rfl))
  have hj2 : tl[j2]? = some ((q 1), .inl (cI, 12, .inl ((Bs f).2.1))) := hj2
  obtain ⟨j3, hj3⟩ := List.getElem?_of_mem (hsl.subset (List.mem_of_getElem? (l := wB cI o q (Bs f)) (i := 3) rfl))
  have hj3 : tl[j3]? = some ((q 2), .inl (cI, 12, .inl ((Bs f).2.2.1))) := hj3
  have hbc := bd_close_le (Bs f) i
  have hSc := hS9.2
  have hSn := hS9.1
  refine lv_aload_n hx hb dP_doStatement_0 rfl (lv_at hl 1 rfl) ?_
  refine va_getN (D := D) (ci := 0) (v := .ref (q 1)) (C := R_B) (T := F_B) (N := 8) hx hb ht i_B hown hK hP (j0 + 17) hj0 rfl 1 (by decide) (va_Nw.use rfl (hN _ mn_18)) (fun _ h9 => h9) rfl dP_doStatement_1 ?_
  refine lv_iload_n hx hb dP_doStatement_4 rfl (lv_at hl 2 rfl) ?_
  have i5 : vp_in (nI i) 12 := gx_in (rfl : (nI i) = (nI i)) (by omega) (by decide)
  have k5 : ((nI i) : Int32).toNatClampNeg = i := gx_cl (rfl : (nI i) = (nI i)) (by omega)
  refine va_iald hx hb hK hP (j2 + 17) 0 hj2 rfl i5 dP_doStatement_5 ?_
  rw [k5]
  refine lv_topi (fun v5 e5 => ?_)
  refine lv_istore (lv' := [(5, .int v5), (0, .ref g), (1, .ref o), (2, .int (nI i)), (3, .int (nI lv)), (4, .int (nI d))]) hx hb dP_doStatement_6 hl (by decide) rfl (fun ls hl => ?_)
  refine lv_aload_n hx hb dP_doStatement_8 rfl (lv_at hl 2 rfl) ?_
  refine va_getN (D := D) (ci := 0) (v := .ref (q 2)) (C := R_B) (T := F_B) (N := 8) hx hb ht i_B hown hK hP (j0 + 17) hj0 rfl 2 (by decide) (va_Nw.use rfl (hN _ mn_19)) (fun _ h9 => h9) rfl dP_doStatement_9 ?_
  refine lv_iload_n hx hb dP_doStatement_12 rfl (lv_at hl 3 rfl) ?_
  have i13 : vp_in (nI i) 12 := gx_in (rfl : (nI i) = (nI i)) (by omega) (by decide)
  have k13 : ((nI i) : Int32).toNatClampNeg = i := gx_cl (rfl : (nI i) = (nI i)) (by omega)
  refine va_iald hx hb hK hP (j3 + 17) 0 hj3 rfl i13 dP_doStatement_13 ?_
  rw [k13]
  refine lv_topi (fun v13 e13 => ?_)
  rw [hop] at e13
  subst e13
  refine lv_istore (lv' := [(6, .int (nI ex)), (5, .int v5), (0, .ref g), (1, .ref o), (2, .int (nI i)), (3, .int (nI lv)), (4, .int (nI d))]) hx hb dP_doStatement_14 hl (by decide) rfl (fun ls hl => ?_)
  refine lv_aload_n hx hb dP_doStatement_16 rfl (lv_at hl 3 rfl) ?_
  refine va_getN (D := D) (ci := 0) (v := .ref (q 0)) (C := R_B) (T := F_B) (N := 8) hx hb ht i_B hown hK hP (j0 + 17) hj0 rfl 0 (by decide) (va_Nw.use rfl (hN _ mn_17)) (fun _ h9 => h9) rfl dP_doStatement_17 ?_
  refine lv_iload_n hx hb dP_doStatement_20 rfl (lv_at hl 4 rfl) ?_
  have i21 : vp_in (nI i) 12 := gx_in (rfl : (nI i) = (nI i)) (by omega) (by decide)
  have k21 : ((nI i) : Int32).toNatClampNeg = i := gx_cl (rfl : (nI i) = (nI i)) (by omega)
  refine va_iald hx hb hK hP (j1 + 17) 0 hj1 rfl i21 dP_doStatement_21 ?_
  rw [k21]
  refine lv_topi (fun v21 e21 => ?_)
  have n21 : v21 = nI (((Bs f).1) i) := e21
  subst n21
  rw [hk]
  refine lv_tableIn (tgt := 125) (off := 103) hx hb dP_doStatement_22 (by decide) (by decide) (by rfl) (by decide) ?_
  refine lv_aload_n hx hb dP_doStatement_125 rfl (lv_at hl 2 rfl) ?_
  refine lv_aload_n hx hb dP_doStatement_126 rfl (lv_at hl 3 rfl) ?_
  refine lv_iload_n hx hb dP_doStatement_127 rfl (lv_at hl 4 rfl) ?_
  refine lv_iload_n hx hb dP_doStatement_128 rfl (lv_at hl 5 rfl) ?_
  refine lv_iload hx hb dP_doStatement_129 (lv_at hl 6 rfl) ?_
  refine gc_wi (va_runV (As := [.ref o, .int (nI i), .int (nI lv), .int (nI d)]) (rest := []) ⟨hx, hb, hml, hown, ht⟩ (c_P_doIf l D cI cJ cB cZ g eo bo t co eq tq tl X ba f1 f2 f3 f4 Bs n d f o q i lv S ex hE hB hd hf hbf hsl hBd hX80 hi hlv hS9 hre hrb hex hop H.size) (cwV 4 ht (gw_V m_379 m_381 ms_15 m_2 m_382) rfl rfl rfl (by decide +kernel) ⟨show (8 * n + 10) + 1 ≤ 8 * n + 12 by omega, show 8 + (8 + 11) + (200 * n + 240) ≤ 200 * n + 280 by omega⟩) (gp_V (ci := 3) (q0 := 0) hK hN hP hD rfl rfl) rfl rfl hl.1 rfl (lv_room (Nat.le_of_ble_eq_true rfl)) dP_doStatement_131 ⟨Nat.le_of_ble_eq_true rfl, Nat.le_of_ble_eq_true rfl⟩) hP hD hS hA (fun r131 w131 H locs p131 hP hD hS => ?_)
  obtain ⟨rfl, rfl⟩ := p131
  have hP : va_P D vwCl ([(g, .inr (3, [.ref eo, .ref bo, .ref t, .ref co])), (eo, .inr (2, [.ref (eq 0), .ref (eq 1), .ref (eq 2), .ref (eq 3), .int (nI X.2.2.2.2)])), ((eq 0), .inl (cI, 80, .inl X.1)), ((eq 1), .inl (cI, 80, .inl X.2.1)), ((eq 2), .inl (cI, 80, .inl X.2.2.1)), ((eq 3), .inl (cI, 80, .inl X.2.2.2.1)), (bo, .inl (cB, 8, .inr (.inr (.inr (.inr ba))))), (t, .inr (4, [.ref (tq 0), .ref (tq 1), .ref (tq 2), .ref (tq 3), .ref (tq 4), .ref (tq 5), .ref (tq 6), .ref (tq 7), .int (nI (((px_if (pg X ba Bs n).1 (pg X ba Bs n).2 (Bs f) i lv S).1).2.2.2.2))])), ((tq 0), .inl (cI, 64, .inl (fun z9 => nI ((((px_if (pg X ba Bs n).1 (pg X ba Bs n).2 (Bs f) i lv S).1).1) z9)))), ((tq 1), .inl (cI, 64, .inl (fun z9 => nI ((((px_if (pg X ba Bs n).1 (pg X ba Bs n).2 (Bs f) i lv S).1).2.1) z9)))), ((tq 2), .inl (cI, 64, .inl (fun z9 => nI ((((px_if (pg X ba Bs n).1 (pg X ba Bs n).2 (Bs f) i lv S).1).2.2.1) z9)))), ((tq 3), .inl (cJ, 64, .inr (.inl (((px_if (pg X ba Bs n).1 (pg X ba Bs n).2 (Bs f) i lv S).1).2.2.2.1)))), ((tq 4), .inl (cJ, 64, .inr (.inl f1))), ((tq 5), .inl (cJ, 64, .inr (.inl f2))), ((tq 6), .inl (cJ, 64, .inr (.inl f3))), ((tq 7), .inl (cJ, 64, .inr (.inl f4))), (co, .inl (cI, 112, .inl (fun z9 => nI (((px_if (pg X ba Bs n).1 (pg X ba Bs n).2 (Bs f) i lv S).2) z9))))] ++ tl) H := hP
  have hD : va_D A ([(g, .inr (3, [.ref eo, .ref bo, .ref t, .ref co])), (eo, .inr (2, [.ref (eq 0), .ref (eq 1), .ref (eq 2), .ref (eq 3), .int (nI X.2.2.2.2)])), ((eq 0), .inl (cI, 80, .inl X.1)), ((eq 1), .inl (cI, 80, .inl X.2.1)), ((eq 2), .inl (cI, 80, .inl X.2.2.1)), ((eq 3), .inl (cI, 80, .inl X.2.2.2.1)), (bo, .inl (cB, 8, .inr (.inr (.inr (.inr ba))))), (t, .inr (4, [.ref (tq 0), .ref (tq 1), .ref (tq 2), .ref (tq 3), .ref (tq 4), .ref (tq 5), .ref (tq 6), .ref (tq 7), .int (nI (((px_if (pg X ba Bs n).1 (pg X ba Bs n).2 (Bs f) i lv S).1).2.2.2.2))])), ((tq 0), .inl (cI, 64, .inl (fun z9 => nI ((((px_if (pg X ba Bs n).1 (pg X ba Bs n).2 (Bs f) i lv S).1).1) z9)))), ((tq 1), .inl (cI, 64, .inl (fun z9 => nI ((((px_if (pg X ba Bs n).1 (pg X ba Bs n).2 (Bs f) i lv S).1).2.1) z9)))), ((tq 2), .inl (cI, 64, .inl (fun z9 => nI ((((px_if (pg X ba Bs n).1 (pg X ba Bs n).2 (Bs f) i lv S).1).2.2.1) z9)))), ((tq 3), .inl (cJ, 64, .inr (.inl (((px_if (pg X ba Bs n).1 (pg X ba Bs n).2 (Bs f) i lv S).1).2.2.2.1)))), ((tq 4), .inl (cJ, 64, .inr (.inl f1))), ((tq 5), .inl (cJ, 64, .inr (.inl f2))), ((tq 6), .inl (cJ, 64, .inr (.inl f3))), ((tq 7), .inl (cJ, 64, .inr (.inl f4))), (co, .inl (cI, 112, .inl (fun z9 => nI (((px_if (pg X ba Bs n).1 (pg X ba Bs n).2 (Bs f) i lv S).2) z9))))] ++ tl) := hD
  have hz : px_st (pg X ba Bs n).1 (pg X ba Bs n).2 (Bs f) i lv S = ((bd_end (Bs f) i + 1), px_if (pg X ba Bs n).1 (pg X ba Bs n).2 (Bs f) i lv S) := by
    simp [px_st, hk]
  exact W.iret (v := (nI (bd_end (Bs f) i + 1))) hx hb hr (fun t9 ht9 hW => ⟨⟨(nI (bd_end (Bs f) i + 1)), _, rfl, ⟨by rw [hz], by rw [hz]⟩, by rw [ht9]; exact hP, hD⟩, hS.F ht9⟩) hS.2.2 dP_doStatement_134

set_option maxHeartbeats 4000000 in
set_option maxRecDepth 100000 in
theorem c_P_doStatement_3 (l : Launch) (D : va_G) (cI cJ cB cZ : ClassId) (g eo bo t co : Nat) (eq tq : Nat → Nat) (tl : va_W) (X : Ex) (ba : Nat → Option Nat) (f1 f2 f3 f4 : Nat → Int64) (Bs : Nat → Bd) (n d f o : Nat) (q : Nat → Nat) (i lv : Nat) (S : Sx) (hE : cE l D cI cJ cB cZ g eo bo t co eq tq tl X ba f1 f2 f3 f4 Bs n) (hB : cBl l D cI cJ cB cZ g eo bo t co eq tq tl X ba f1 f2 f3 f4 Bs n) (hd : d + (n + 1) = 51) (hf : f < 8) (hbf : ba f = some o) (hsl : (wB cI o q (Bs f)).Sublist tl) (hBd : bd_ok X (Bs f)) (hX80 : X.2.2.2.2 ≤ 80) (hi : i < (Bs f).2.2.2.2.2.2.1) (hlv : lv < 8) (hS9 : sx_ok S) (hre : re_ok X (pg X ba Bs n).1) (hrb : rb_ok X (pg X ba Bs n).2) (hk : (Bs f).1 i = 3) : ct_I l y_P_doStatement w_P_doStatement ({ frames := 8 * n + 12, cells := 0, slots := 0, locals := 200 * n + 280 }) D (gk_T cI cJ cB cZ) [.ref g, .ref o, .int (nI i), .int (nI lv), .int (nI d)] (wPg cI cJ cB g eo bo t co eq tq X ba S f1 f2 f3 f4 ++ tl) (0) (0) (fun r w => r = nI (px_st (pg X ba Bs n).1 (pg X ba Bs n).2 (Bs f) i lv S).1 ∧ w = (wPg cI cJ cB g eo bo t co eq tq X ba ((px_st (pg X ba Bs n).1 (pg X ba Bs n).2 (Bs f) i lv S).2) f1 f2 f3 f4 ++ tl)) := by
  intro sz
  refine Met.ofW (cc := b_P_doStatement) (maxL := 10) (ret := (some .int)) (by decide) rfl ?_
  intro p ev9 s m args below meth c s₁ B9 hml hv
  obtain ⟨rfl, hsz, hP, hK, hN, hD0⟩ := hv
  have hx := B9.exec
  have hb := B9.bytes
  have hr := B9.returns
  have hts := atoms_spec (ws := w_P_doStatement) B9.pre
  have ht : ∀ w ∈ gk_big, w.before _ s = true := fun w h => hts w (List.mem_cons_of_mem _ h)
  have hown : s.vm.findClass R_P = some m.cls := findClass_of_methodNamed B9.named
  have hlocks := B9.notSynchronized
  subst hsz
  have hD := hD0.self (sz := s.heap.size)
  generalize hAe : va_A (wPg cI cJ cB g eo bo t co eq tq X ba S f1 f2 f3 f4 ++ tl) s.heap.size = A at hD ⊢
  have hA : ∀ q : Nat, s.heap.size ≤ q → A q := fun q h => by rw [← hAe]; exact Or.inr h
  generalize hHe : s.heap = H at hP ⊢
  have hS : va_S A s.heap H [] := by rw [← hHe]; exact va_S.rf
  have hP : va_P D vwCl ([(g, .inr (3, [.ref eo, .ref bo, .ref t, .ref co])), (eo, .inr (2, [.ref (eq 0), .ref (eq 1), .ref (eq 2), .ref (eq 3), .int (nI X.2.2.2.2)])), ((eq 0), .inl (cI, 80, .inl X.1)), ((eq 1), .inl (cI, 80, .inl X.2.1)), ((eq 2), .inl (cI, 80, .inl X.2.2.1)), ((eq 3), .inl (cI, 80, .inl X.2.2.2.1)), (bo, .inl (cB, 8, .inr (.inr (.inr (.inr ba))))), (t, .inr (4, [.ref (tq 0), .ref (tq 1), .ref (tq 2), .ref (tq 3), .ref (tq 4), .ref (tq 5), .ref (tq 6), .ref (tq 7), .int (nI S.1.2.2.2.2)])), ((tq 0), .inl (cI, 64, .inl (fun z9 => nI (S.1.1 z9)))), ((tq 1), .inl (cI, 64, .inl (fun z9 => nI (S.1.2.1 z9)))), ((tq 2), .inl (cI, 64, .inl (fun z9 => nI (S.1.2.2.1 z9)))), ((tq 3), .inl (cJ, 64, .inr (.inl S.1.2.2.2.1))), ((tq 4), .inl (cJ, 64, .inr (.inl f1))), ((tq 5), .inl (cJ, 64, .inr (.inl f2))), ((tq 6), .inl (cJ, 64, .inr (.inl f3))), ((tq 7), .inl (cJ, 64, .inr (.inl f4))), (co, .inl (cI, 112, .inl (fun z9 => nI (S.2 z9))))] ++ tl) H := hP
  have hD : va_D A ([(g, .inr (3, [.ref eo, .ref bo, .ref t, .ref co])), (eo, .inr (2, [.ref (eq 0), .ref (eq 1), .ref (eq 2), .ref (eq 3), .int (nI X.2.2.2.2)])), ((eq 0), .inl (cI, 80, .inl X.1)), ((eq 1), .inl (cI, 80, .inl X.2.1)), ((eq 2), .inl (cI, 80, .inl X.2.2.1)), ((eq 3), .inl (cI, 80, .inl X.2.2.2.1)), (bo, .inl (cB, 8, .inr (.inr (.inr (.inr ba))))), (t, .inr (4, [.ref (tq 0), .ref (tq 1), .ref (tq 2), .ref (tq 3), .ref (tq 4), .ref (tq 5), .ref (tq 6), .ref (tq 7), .int (nI S.1.2.2.2.2)])), ((tq 0), .inl (cI, 64, .inl (fun z9 => nI (S.1.1 z9)))), ((tq 1), .inl (cI, 64, .inl (fun z9 => nI (S.1.2.1 z9)))), ((tq 2), .inl (cI, 64, .inl (fun z9 => nI (S.1.2.2.1 z9)))), ((tq 3), .inl (cJ, 64, .inr (.inl S.1.2.2.2.1))), ((tq 4), .inl (cJ, 64, .inr (.inl f1))), ((tq 5), .inl (cJ, 64, .inr (.inl f2))), ((tq 6), .inl (cJ, 64, .inr (.inl f3))), ((tq 7), .inl (cJ, 64, .inr (.inl f4))), (co, .inl (cI, 112, .inl (fun z9 => nI (S.2 z9))))] ++ tl) := hD
  have hl := lv_entry ([.ref g, .ref o, .int (nI i), .int (nI lv), .int (nI d)]) (n := 10) (Nat.le_of_ble_eq_true rfl)
  rw [lg_entry_eq]
  generalize (lg_sl ([.ref g, .ref o, .int (nI i), .int (nI lv), .int (nI d)]) ++ List.replicate (10 - (lg_sl ([.ref g, .ref o, .int (nI i), .int (nI lv), .int (nI d)])).length) Slot.unset).toArray = ls at hl ⊢
  have hl : lv_has ls 10 [(0, .ref g), (1, .ref o), (2, .int (nI i)), (3, .int (nI lv)), (4, .int (nI d))] := hl
  have hs12 := hBd.1
  have hcl := (hBd.2.2 i hi).1
  obtain ⟨j0, hj0⟩ := List.getElem?_of_mem (hsl.subset (List.mem_of_getElem? (l := wB cI o q (Bs f)) (i := 0) rfl))
  have hj0 : tl[j0]? = some (o, .inr (0, [.ref (q 0), .ref (q 1), .ref (q 2), .ref (q 3), .ref (q 4), .ref (q 5), .int (nI ((Bs f).2.2.2.2.2.2.1)), .int (nI ((Bs f).2.2.2.2.2.2.2))])) := hj0
  obtain ⟨j1, hj1⟩ := List.getElem?_of_mem (hsl.subset (List.mem_of_getElem? (l := wB cI o q (Bs f)) (i := 1) rfl))
  have hj1 : tl[j1]? = some ((q 0), .inl (cI, 12, .inl (fun z9 => nI (((Bs f).1) z9)))) := hj1
  obtain ⟨j2, hj2⟩ := List.getElem?_of_mem (hsl.subset (List.mem_of_getElem? (l := wB cI o q (Bs f)) (i := 2) rfl))
  have hj2 : tl[j2]? = some ((q 1), .inl (cI, 12, .inl ((Bs f).2.1))) := hj2
  obtain ⟨j3, hj3⟩ := List.getElem?_of_mem (hsl.subset (List.mem_of_getElem? (l := wB cI o q (Bs f)) (i := 3) rfl))
  have hj3 : tl[j3]? = some ((q 2), .inl (cI, 12, .inl ((Bs f).2.2.1))) := hj3
  have hbc := bd_close_le (Bs f) i
  have hSc := hS9.2
  have hSn := hS9.1
  refine lv_aload_n hx hb dP_doStatement_0 rfl (lv_at hl 1 rfl) ?_
  refine va_getN (D := D) (ci := 0) (v := .ref (q 1)) (C := R_B) (T := F_B) (N := 8) hx hb ht i_B hown hK hP (j0 + 17) hj0 rfl 1 (by decide) (va_Nw.use rfl (hN _ mn_18)) (fun _ h9 => h9) rfl dP_doStatement_1 ?_
  refine lv_iload_n hx hb dP_doStatement_4 rfl (lv_at hl 2 rfl) ?_
  have i5 : vp_in (nI i) 12 := gx_in (rfl : (nI i) = (nI i)) (by omega) (by decide)
  have k5 : ((nI i) : Int32).toNatClampNeg = i := gx_cl (rfl : (nI i) = (nI i)) (by omega)
  refine va_iald hx hb hK hP (j2 + 17) 0 hj2 rfl i5 dP_doStatement_5 ?_
  rw [k5]
  refine lv_topi (fun v5 e5 => ?_)
  refine lv_istore (lv' := [(5, .int v5), (0, .ref g), (1, .ref o), (2, .int (nI i)), (3, .int (nI lv)), (4, .int (nI d))]) hx hb dP_doStatement_6 hl (by decide) rfl (fun ls hl => ?_)
  refine lv_aload_n hx hb dP_doStatement_8 rfl (lv_at hl 2 rfl) ?_
  refine va_getN (D := D) (ci := 0) (v := .ref (q 2)) (C := R_B) (T := F_B) (N := 8) hx hb ht i_B hown hK hP (j0 + 17) hj0 rfl 2 (by decide) (va_Nw.use rfl (hN _ mn_19)) (fun _ h9 => h9) rfl dP_doStatement_9 ?_
  refine lv_iload_n hx hb dP_doStatement_12 rfl (lv_at hl 3 rfl) ?_
  have i13 : vp_in (nI i) 12 := gx_in (rfl : (nI i) = (nI i)) (by omega) (by decide)
  have k13 : ((nI i) : Int32).toNatClampNeg = i := gx_cl (rfl : (nI i) = (nI i)) (by omega)
  refine va_iald hx hb hK hP (j3 + 17) 0 hj3 rfl i13 dP_doStatement_13 ?_
  rw [k13]
  refine lv_topi (fun v13 e13 => ?_)
  refine lv_istore (lv' := [(6, .int v13), (5, .int v5), (0, .ref g), (1, .ref o), (2, .int (nI i)), (3, .int (nI lv)), (4, .int (nI d))]) hx hb dP_doStatement_14 hl (by decide) rfl (fun ls hl => ?_)
  refine lv_aload_n hx hb dP_doStatement_16 rfl (lv_at hl 3 rfl) ?_
  refine va_getN (D := D) (ci := 0) (v := .ref (q 0)) (C := R_B) (T := F_B) (N := 8) hx hb ht i_B hown hK hP (j0 + 17) hj0 rfl 0 (by decide) (va_Nw.use rfl (hN _ mn_17)) (fun _ h9 => h9) rfl dP_doStatement_17 ?_
  refine lv_iload_n hx hb dP_doStatement_20 rfl (lv_at hl 4 rfl) ?_
  have i21 : vp_in (nI i) 12 := gx_in (rfl : (nI i) = (nI i)) (by omega) (by decide)
  have k21 : ((nI i) : Int32).toNatClampNeg = i := gx_cl (rfl : (nI i) = (nI i)) (by omega)
  refine va_iald hx hb hK hP (j1 + 17) 0 hj1 rfl i21 dP_doStatement_21 ?_
  rw [k21]
  refine lv_topi (fun v21 e21 => ?_)
  have n21 : v21 = nI (((Bs f).1) i) := e21
  subst n21
  rw [hk]
  refine lv_tableIn (tgt := 178) (off := 156) hx hb dP_doStatement_22 (by decide) (by decide) (by rfl) (by decide) ?_
  refine lv_iload_n hx hb dP_doStatement_178 rfl (lv_at hl 4 rfl) ?_
  refine lv_iconst (v := 1) hx hb dP_doStatement_179 (by decide) ?_
  refine lv_iadd hx hb dP_doStatement_180 ?_
  refine lv_topi (fun v180 e180 => ?_)
  have n180 : v180 = nI (i + 1) := by rw [e180]; exact gx_add (rfl : (nI i) = (nI i)) (rfl : (1 : Int32) = nI 1)
  subst n180
  have hz : px_st (pg X ba Bs n).1 (pg X ba Bs n).2 (Bs f) i lv S = ((i + 1), S) := by
    simp [px_st, hk]
  exact W.iret (v := (nI (i + 1))) hx hb hr (fun t9 ht9 hW => ⟨⟨(nI (i + 1)), _, rfl, ⟨by rw [hz], by rw [hz]⟩, by rw [ht9]; exact hP, hD⟩, hS.F ht9⟩) hS.2.2 dP_doStatement_181

set_option maxHeartbeats 4000000 in
set_option maxRecDepth 100000 in
theorem c_P_doStatement_4 (l : Launch) (D : va_G) (cI cJ cB cZ : ClassId) (g eo bo t co : Nat) (eq tq : Nat → Nat) (tl : va_W) (X : Ex) (ba : Nat → Option Nat) (f1 f2 f3 f4 : Nat → Int64) (Bs : Nat → Bd) (n d f o : Nat) (q : Nat → Nat) (i lv : Nat) (S : Sx) (ex : Nat) (hE : cE l D cI cJ cB cZ g eo bo t co eq tq tl X ba f1 f2 f3 f4 Bs n) (hB : cBl l D cI cJ cB cZ g eo bo t co eq tq tl X ba f1 f2 f3 f4 Bs n) (hd : d + (n + 1) = 51) (hf : f < 8) (hbf : ba f = some o) (hsl : (wB cI o q (Bs f)).Sublist tl) (hBd : bd_ok X (Bs f)) (hX80 : X.2.2.2.2 ≤ 80) (hi : i < (Bs f).2.2.2.2.2.2.1) (hlv : lv < 8) (hS9 : sx_ok S) (hre : re_ok X (pg X ba Bs n).1) (hrb : rb_ok X (pg X ba Bs n).2) (hk : (Bs f).1 i = 4) (hex : ex ≤ 5) (hop : (Bs f).2.2.1 i = nI ex) : ct_I l y_P_doStatement w_P_doStatement ({ frames := 8 * n + 12, cells := 0, slots := 0, locals := 200 * n + 280 }) D (gk_T cI cJ cB cZ) [.ref g, .ref o, .int (nI i), .int (nI lv), .int (nI d)] (wPg cI cJ cB g eo bo t co eq tq X ba S f1 f2 f3 f4 ++ tl) (0) (0) (fun r w => r = nI (px_st (pg X ba Bs n).1 (pg X ba Bs n).2 (Bs f) i lv S).1 ∧ w = (wPg cI cJ cB g eo bo t co eq tq X ba ((px_st (pg X ba Bs n).1 (pg X ba Bs n).2 (Bs f) i lv S).2) f1 f2 f3 f4 ++ tl)) := by
  intro sz
  refine Met.ofW (cc := b_P_doStatement) (maxL := 10) (ret := (some .int)) (by decide) rfl ?_
  intro p ev9 s m args below meth c s₁ B9 hml hv
  obtain ⟨rfl, hsz, hP, hK, hN, hD0⟩ := hv
  have hx := B9.exec
  have hb := B9.bytes
  have hr := B9.returns
  have hts := atoms_spec (ws := w_P_doStatement) B9.pre
  have ht : ∀ w ∈ gk_big, w.before _ s = true := fun w h => hts w (List.mem_cons_of_mem _ h)
  have hown : s.vm.findClass R_P = some m.cls := findClass_of_methodNamed B9.named
  have hlocks := B9.notSynchronized
  subst hsz
  have hD := hD0.self (sz := s.heap.size)
  generalize hAe : va_A (wPg cI cJ cB g eo bo t co eq tq X ba S f1 f2 f3 f4 ++ tl) s.heap.size = A at hD ⊢
  have hA : ∀ q : Nat, s.heap.size ≤ q → A q := fun q h => by rw [← hAe]; exact Or.inr h
  generalize hHe : s.heap = H at hP ⊢
  have hS : va_S A s.heap H [] := by rw [← hHe]; exact va_S.rf
  have hP : va_P D vwCl ([(g, .inr (3, [.ref eo, .ref bo, .ref t, .ref co])), (eo, .inr (2, [.ref (eq 0), .ref (eq 1), .ref (eq 2), .ref (eq 3), .int (nI X.2.2.2.2)])), ((eq 0), .inl (cI, 80, .inl X.1)), ((eq 1), .inl (cI, 80, .inl X.2.1)), ((eq 2), .inl (cI, 80, .inl X.2.2.1)), ((eq 3), .inl (cI, 80, .inl X.2.2.2.1)), (bo, .inl (cB, 8, .inr (.inr (.inr (.inr ba))))), (t, .inr (4, [.ref (tq 0), .ref (tq 1), .ref (tq 2), .ref (tq 3), .ref (tq 4), .ref (tq 5), .ref (tq 6), .ref (tq 7), .int (nI S.1.2.2.2.2)])), ((tq 0), .inl (cI, 64, .inl (fun z9 => nI (S.1.1 z9)))), ((tq 1), .inl (cI, 64, .inl (fun z9 => nI (S.1.2.1 z9)))), ((tq 2), .inl (cI, 64, .inl (fun z9 => nI (S.1.2.2.1 z9)))), ((tq 3), .inl (cJ, 64, .inr (.inl S.1.2.2.2.1))), ((tq 4), .inl (cJ, 64, .inr (.inl f1))), ((tq 5), .inl (cJ, 64, .inr (.inl f2))), ((tq 6), .inl (cJ, 64, .inr (.inl f3))), ((tq 7), .inl (cJ, 64, .inr (.inl f4))), (co, .inl (cI, 112, .inl (fun z9 => nI (S.2 z9))))] ++ tl) H := hP
  have hD : va_D A ([(g, .inr (3, [.ref eo, .ref bo, .ref t, .ref co])), (eo, .inr (2, [.ref (eq 0), .ref (eq 1), .ref (eq 2), .ref (eq 3), .int (nI X.2.2.2.2)])), ((eq 0), .inl (cI, 80, .inl X.1)), ((eq 1), .inl (cI, 80, .inl X.2.1)), ((eq 2), .inl (cI, 80, .inl X.2.2.1)), ((eq 3), .inl (cI, 80, .inl X.2.2.2.1)), (bo, .inl (cB, 8, .inr (.inr (.inr (.inr ba))))), (t, .inr (4, [.ref (tq 0), .ref (tq 1), .ref (tq 2), .ref (tq 3), .ref (tq 4), .ref (tq 5), .ref (tq 6), .ref (tq 7), .int (nI S.1.2.2.2.2)])), ((tq 0), .inl (cI, 64, .inl (fun z9 => nI (S.1.1 z9)))), ((tq 1), .inl (cI, 64, .inl (fun z9 => nI (S.1.2.1 z9)))), ((tq 2), .inl (cI, 64, .inl (fun z9 => nI (S.1.2.2.1 z9)))), ((tq 3), .inl (cJ, 64, .inr (.inl S.1.2.2.2.1))), ((tq 4), .inl (cJ, 64, .inr (.inl f1))), ((tq 5), .inl (cJ, 64, .inr (.inl f2))), ((tq 6), .inl (cJ, 64, .inr (.inl f3))), ((tq 7), .inl (cJ, 64, .inr (.inl f4))), (co, .inl (cI, 112, .inl (fun z9 => nI (S.2 z9))))] ++ tl) := hD
  have hl := lv_entry ([.ref g, .ref o, .int (nI i), .int (nI lv), .int (nI d)]) (n := 10) (Nat.le_of_ble_eq_true rfl)
  rw [lg_entry_eq]
  generalize (lg_sl ([.ref g, .ref o, .int (nI i), .int (nI lv), .int (nI d)]) ++ List.replicate (10 - (lg_sl ([.ref g, .ref o, .int (nI i), .int (nI lv), .int (nI d)])).length) Slot.unset).toArray = ls at hl ⊢
  have hl : lv_has ls 10 [(0, .ref g), (1, .ref o), (2, .int (nI i)), (3, .int (nI lv)), (4, .int (nI d))] := hl
  have hs12 := hBd.1
  have hcl := (hBd.2.2 i hi).1
  obtain ⟨j0, hj0⟩ := List.getElem?_of_mem (hsl.subset (List.mem_of_getElem? (l := wB cI o q (Bs f)) (i := 0) rfl))
  have hj0 : tl[j0]? = some (o, .inr (0, [.ref (q 0), .ref (q 1), .ref (q 2), .ref (q 3), .ref (q 4), .ref (q 5), .int (nI ((Bs f).2.2.2.2.2.2.1)), .int (nI ((Bs f).2.2.2.2.2.2.2))])) := hj0
  obtain ⟨j1, hj1⟩ := List.getElem?_of_mem (hsl.subset (List.mem_of_getElem? (l := wB cI o q (Bs f)) (i := 1) rfl))
  have hj1 : tl[j1]? = some ((q 0), .inl (cI, 12, .inl (fun z9 => nI (((Bs f).1) z9)))) := hj1
  obtain ⟨j2, hj2⟩ := List.getElem?_of_mem (hsl.subset (List.mem_of_getElem? (l := wB cI o q (Bs f)) (i := 2) rfl))
  have hj2 : tl[j2]? = some ((q 1), .inl (cI, 12, .inl ((Bs f).2.1))) := hj2
  obtain ⟨j3, hj3⟩ := List.getElem?_of_mem (hsl.subset (List.mem_of_getElem? (l := wB cI o q (Bs f)) (i := 3) rfl))
  have hj3 : tl[j3]? = some ((q 2), .inl (cI, 12, .inl ((Bs f).2.2.1))) := hj3
  have hbc := bd_close_le (Bs f) i
  have hSc := hS9.2
  have hSn := hS9.1
  refine lv_aload_n hx hb dP_doStatement_0 rfl (lv_at hl 1 rfl) ?_
  refine va_getN (D := D) (ci := 0) (v := .ref (q 1)) (C := R_B) (T := F_B) (N := 8) hx hb ht i_B hown hK hP (j0 + 17) hj0 rfl 1 (by decide) (va_Nw.use rfl (hN _ mn_18)) (fun _ h9 => h9) rfl dP_doStatement_1 ?_
  refine lv_iload_n hx hb dP_doStatement_4 rfl (lv_at hl 2 rfl) ?_
  have i5 : vp_in (nI i) 12 := gx_in (rfl : (nI i) = (nI i)) (by omega) (by decide)
  have k5 : ((nI i) : Int32).toNatClampNeg = i := gx_cl (rfl : (nI i) = (nI i)) (by omega)
  refine va_iald hx hb hK hP (j2 + 17) 0 hj2 rfl i5 dP_doStatement_5 ?_
  rw [k5]
  refine lv_topi (fun v5 e5 => ?_)
  refine lv_istore (lv' := [(5, .int v5), (0, .ref g), (1, .ref o), (2, .int (nI i)), (3, .int (nI lv)), (4, .int (nI d))]) hx hb dP_doStatement_6 hl (by decide) rfl (fun ls hl => ?_)
  refine lv_aload_n hx hb dP_doStatement_8 rfl (lv_at hl 2 rfl) ?_
  refine va_getN (D := D) (ci := 0) (v := .ref (q 2)) (C := R_B) (T := F_B) (N := 8) hx hb ht i_B hown hK hP (j0 + 17) hj0 rfl 2 (by decide) (va_Nw.use rfl (hN _ mn_19)) (fun _ h9 => h9) rfl dP_doStatement_9 ?_
  refine lv_iload_n hx hb dP_doStatement_12 rfl (lv_at hl 3 rfl) ?_
  have i13 : vp_in (nI i) 12 := gx_in (rfl : (nI i) = (nI i)) (by omega) (by decide)
  have k13 : ((nI i) : Int32).toNatClampNeg = i := gx_cl (rfl : (nI i) = (nI i)) (by omega)
  refine va_iald hx hb hK hP (j3 + 17) 0 hj3 rfl i13 dP_doStatement_13 ?_
  rw [k13]
  refine lv_topi (fun v13 e13 => ?_)
  rw [hop] at e13
  subst e13
  refine lv_istore (lv' := [(6, .int (nI ex)), (5, .int v5), (0, .ref g), (1, .ref o), (2, .int (nI i)), (3, .int (nI lv)), (4, .int (nI d))]) hx hb dP_doStatement_14 hl (by decide) rfl (fun ls hl => ?_)
  refine lv_aload_n hx hb dP_doStatement_16 rfl (lv_at hl 3 rfl) ?_
  refine va_getN (D := D) (ci := 0) (v := .ref (q 0)) (C := R_B) (T := F_B) (N := 8) hx hb ht i_B hown hK hP (j0 + 17) hj0 rfl 0 (by decide) (va_Nw.use rfl (hN _ mn_17)) (fun _ h9 => h9) rfl dP_doStatement_17 ?_
  refine lv_iload_n hx hb dP_doStatement_20 rfl (lv_at hl 4 rfl) ?_
  have i21 : vp_in (nI i) 12 := gx_in (rfl : (nI i) = (nI i)) (by omega) (by decide)
  have k21 : ((nI i) : Int32).toNatClampNeg = i := gx_cl (rfl : (nI i) = (nI i)) (by omega)
  refine va_iald hx hb hK hP (j1 + 17) 0 hj1 rfl i21 dP_doStatement_21 ?_
  rw [k21]
  refine lv_topi (fun v21 e21 => ?_)
  have n21 : v21 = nI (((Bs f).1) i) := e21
  subst n21
  rw [hk]
  refine lv_tableIn (tgt := 135) (off := 113) hx hb dP_doStatement_22 (by decide) (by decide) (by rfl) (by decide) ?_
  refine lv_aload_n hx hb dP_doStatement_135 rfl (lv_at hl 3 rfl) ?_
  refine lv_iload_n hx hb dP_doStatement_136 rfl (lv_at hl 4 rfl) ?_
  refine gc_ri (va_runV (As := [.int (nI i)]) (rest := []) ⟨hx, hb, hml, hown, ht⟩ (c_B_closeOf l D cI cJ cB cZ o q (Bs f) i (by omega) hcl (by omega) H.size) (cwV 1 ht (gw_V m_383 m_384 m_385 m_8 m_386) rfl rfl rfl (by decide +kernel) ⟨show 1 + 1 ≤ 8 * n + 12 by omega, show 8 + (2 + 11) + (30) ≤ 200 * n + 280 by omega⟩) (gp_V (ci := 0) (q0 := 0) hK hN (gk_P_perm (fun z h => List.mem_append_right _ (hsl.subset h)) hP) (gk_D_sub (hsl.trans (List.sublist_append_right _ _)) hD) rfl rfl) rfl rfl hl.1 rfl (lv_room (Nat.le_of_ble_eq_true rfl)) dP_doStatement_137 ⟨Nat.le_of_ble_eq_true rfl, Nat.le_of_ble_eq_true rfl⟩) hP hD hS hA (fun z h => List.mem_append_right _ (hsl.subset h)) (fun r w h => h.2) (fun r137 H locs p137 hP hS => ?_)
  obtain ⟨h137x, -⟩ := p137
  have h137y : r137 = nI (bd_close (Bs f) i) := h137x
  subst h137y
  refine lv_istore (lv' := [(8, .int (nI (bd_close (Bs f) i))), (6, .int (nI ex)), (5, .int v5), (0, .ref g), (1, .ref o), (2, .int (nI i)), (3, .int (nI lv)), (4, .int (nI d))]) hx hb dP_doStatement_140 hl (by decide) rfl (fun ls hl => ?_)
  refine lv_iconst (v := 0) hx hb dP_doStatement_142 (by decide) ?_
  refine lv_istore (lv' := [(9, .int 0), (8, .int (nI (bd_close (Bs f) i))), (6, .int (nI ex)), (5, .int v5), (0, .ref g), (1, .ref o), (2, .int (nI i)), (3, .int (nI lv)), (4, .int (nI d))]) hx hb dP_doStatement_143 hl (by decide) rfl (fun ls hl => ?_)
  have lp145 : ∀ (n145 : Nat) (k : Nat), ex - k + 1 ≤ n145 → (k ≤ ex) → ∀ (H : Heap) (locs : List Loc) (ls : Array Slot), va_P D vwCl ([(g, .inr (3, [.ref eo, .ref bo, .ref t, .ref co])), (eo, .inr (2, [.ref (eq 0), .ref (eq 1), .ref (eq 2), .ref (eq 3), .int (nI X.2.2.2.2)])), ((eq 0), .inl (cI, 80, .inl X.1)), ((eq 1), .inl (cI, 80, .inl X.2.1)), ((eq 2), .inl (cI, 80, .inl X.2.2.1)), ((eq 3), .inl (cI, 80, .inl X.2.2.2.1)), (bo, .inl (cB, 8, .inr (.inr (.inr (.inr ba))))), (t, .inr (4, [.ref (tq 0), .ref (tq 1), .ref (tq 2), .ref (tq 3), .ref (tq 4), .ref (tq 5), .ref (tq 6), .ref (tq 7), .int (nI (((px_rep ((pg X ba Bs n).2 (Bs f) (i + 1) (bd_close (Bs f) i) lv) k S).1).2.2.2.2))])), ((tq 0), .inl (cI, 64, .inl (fun z9 => nI ((((px_rep ((pg X ba Bs n).2 (Bs f) (i + 1) (bd_close (Bs f) i) lv) k S).1).1) z9)))), ((tq 1), .inl (cI, 64, .inl (fun z9 => nI ((((px_rep ((pg X ba Bs n).2 (Bs f) (i + 1) (bd_close (Bs f) i) lv) k S).1).2.1) z9)))), ((tq 2), .inl (cI, 64, .inl (fun z9 => nI ((((px_rep ((pg X ba Bs n).2 (Bs f) (i + 1) (bd_close (Bs f) i) lv) k S).1).2.2.1) z9)))), ((tq 3), .inl (cJ, 64, .inr (.inl (((px_rep ((pg X ba Bs n).2 (Bs f) (i + 1) (bd_close (Bs f) i) lv) k S).1).2.2.2.1)))), ((tq 4), .inl (cJ, 64, .inr (.inl f1))), ((tq 5), .inl (cJ, 64, .inr (.inl f2))), ((tq 6), .inl (cJ, 64, .inr (.inl f3))), ((tq 7), .inl (cJ, 64, .inr (.inl f4))), (co, .inl (cI, 112, .inl (fun z9 => nI (((px_rep ((pg X ba Bs n).2 (Bs f) (i + 1) (bd_close (Bs f) i) lv) k S).2) z9))))] ++ tl) H → va_D A ([(g, .inr (3, [.ref eo, .ref bo, .ref t, .ref co])), (eo, .inr (2, [.ref (eq 0), .ref (eq 1), .ref (eq 2), .ref (eq 3), .int (nI X.2.2.2.2)])), ((eq 0), .inl (cI, 80, .inl X.1)), ((eq 1), .inl (cI, 80, .inl X.2.1)), ((eq 2), .inl (cI, 80, .inl X.2.2.1)), ((eq 3), .inl (cI, 80, .inl X.2.2.2.1)), (bo, .inl (cB, 8, .inr (.inr (.inr (.inr ba))))), (t, .inr (4, [.ref (tq 0), .ref (tq 1), .ref (tq 2), .ref (tq 3), .ref (tq 4), .ref (tq 5), .ref (tq 6), .ref (tq 7), .int (nI (((px_rep ((pg X ba Bs n).2 (Bs f) (i + 1) (bd_close (Bs f) i) lv) k S).1).2.2.2.2))])), ((tq 0), .inl (cI, 64, .inl (fun z9 => nI ((((px_rep ((pg X ba Bs n).2 (Bs f) (i + 1) (bd_close (Bs f) i) lv) k S).1).1) z9)))), ((tq 1), .inl (cI, 64, .inl (fun z9 => nI ((((px_rep ((pg X ba Bs n).2 (Bs f) (i + 1) (bd_close (Bs f) i) lv) k S).1).2.1) z9)))), ((tq 2), .inl (cI, 64, .inl (fun z9 => nI ((((px_rep ((pg X ba Bs n).2 (Bs f) (i + 1) (bd_close (Bs f) i) lv) k S).1).2.2.1) z9)))), ((tq 3), .inl (cJ, 64, .inr (.inl (((px_rep ((pg X ba Bs n).2 (Bs f) (i + 1) (bd_close (Bs f) i) lv) k S).1).2.2.2.1)))), ((tq 4), .inl (cJ, 64, .inr (.inl f1))), ((tq 5), .inl (cJ, 64, .inr (.inl f2))), ((tq 6), .inl (cJ, 64, .inr (.inl f3))), ((tq 7), .inl (cJ, 64, .inr (.inl f4))), (co, .inl (cI, 112, .inl (fun z9 => nI (((px_rep ((pg X ba Bs n).2 (Bs f) (i + 1) (bd_close (Bs f) i) lv) k S).2) z9))))] ++ tl) → va_S A s.heap H locs → lv_has ls 10 [(9, .int (nI k)), (8, .int (nI (bd_close (Bs f) i))), (6, .int (nI ex)), (5, .int v5), (0, .ref g), (1, .ref o), (2, .int (nI i)), (3, .int (nI lv)), (4, .int (nI d))] → W p l ev9 (headSpec w_P_doStatement ({ frames := 8 * n + 12, cells := 0, slots := 0, locals := 200 * n + 280 })).room s m ([.ref g, .ref o, .int (nI i), .int (nI lv), .int (nI d)] : List Value).toArray below meth c H locs 0 0 (MQ below (gq_I D A (fun r w => r = nI (px_st (pg X ba Bs n).1 (pg X ba Bs n).2 (Bs f) i lv S).1 ∧ w = (wPg cI cJ cB g eo bo t co eq tq X ba ((px_st (pg X ba Bs n).1 (pg X ba Bs n).2 (Bs f) i lv S).2) f1 f2 f3 f4 ++ tl))) ([.ref g, .ref o, .int (nI i), .int (nI lv), .int (nI d)] : List Value).toArray s (0) (0) A) (F0 m 145 ls []) := by
    intro n145
    induction n145 with
    | zero =>
      intro k hm145
      exact absurd hm145 (by omega)
    | succ n145 ih145 =>
      intro k hm145 hk9 H locs ls hP hD hS hl
      refine lv_iload hx hb dP_doStatement_145 (lv_at hl 0 rfl) ?_
      refine lv_iload hx hb dP_doStatement_147 (lv_at hl 2 rfl) ?_
      refine lv_icmp_ge (tgt := 173) hx hb dP_doStatement_149 (by decide) (fun c149 => ?_) (fun c149 => ?_)
      · have g149 : ex ≤ k := (gx_le (rfl : (nI ex) = (nI ex)) (rfl : (nI k) = (nI k)) (by omega) (by omega)).mp c149
        have zk : ex = k := by omega
        subst zk
        refine lv_iload hx hb dP_doStatement_173 (lv_at hl 1 rfl) ?_
        refine lv_iconst (v := 1) hx hb dP_doStatement_175 (by decide) ?_
        refine lv_iadd hx hb dP_doStatement_176 ?_
        refine lv_topi (fun v176 e176 => ?_)
        have n176 : v176 = nI ((bd_close (Bs f) i) + 1) := by rw [e176]; exact gx_add (rfl : (nI (bd_close (Bs f) i)) = (nI (bd_close (Bs f) i))) (rfl : (1 : Int32) = nI 1)
        subst n176
        have hz : px_st (pg X ba Bs n).1 (pg X ba Bs n).2 (Bs f) i lv S = (((bd_close (Bs f) i) + 1), px_rep ((pg X ba Bs n).2 (Bs f) (i + 1) (bd_close (Bs f) i) lv) ex S) := by
          simp [px_st, hk, hop, cn_nI (show ex < 2 ^ 31 by omega)]
        exact W.iret (v := (nI ((bd_close (Bs f) i) + 1))) hx hb hr (fun t9 ht9 hW => ⟨⟨(nI ((bd_close (Bs f) i) + 1)), _, rfl, ⟨by rw [hz], by rw [hz]⟩, by rw [ht9]; exact hP, hD⟩, hS.F ht9⟩) hS.2.2 dP_doStatement_177
      · have g149 : ¬ (ex ≤ k) := fun z => c149 ((gx_le (rfl : (nI ex) = (nI ex)) (rfl : (nI k) = (nI k)) (by omega) (by omega)).mpr z)
        refine lv_aload_n hx hb dP_doStatement_152 rfl (lv_at hl 4 rfl) ?_
        refine lv_aload_n hx hb dP_doStatement_153 rfl (lv_at hl 5 rfl) ?_
        refine lv_iload_n hx hb dP_doStatement_154 rfl (lv_at hl 6 rfl) ?_
        refine lv_iconst (v := 1) hx hb dP_doStatement_155 (by decide) ?_
        refine lv_iadd hx hb dP_doStatement_156 ?_
        refine lv_topi (fun v156 e156 => ?_)
        have n156 : v156 = nI (i + 1) := by rw [e156]; exact gx_add (rfl : (nI i) = (nI i)) (rfl : (1 : Int32) = nI 1)
        subst n156
        refine lv_iload hx hb dP_doStatement_157 (lv_at hl 1 rfl) ?_
        refine lv_iload_n hx hb dP_doStatement_159 rfl (lv_at hl 7 rfl) ?_
        refine lv_iload hx hb dP_doStatement_160 (lv_at hl 8 rfl) ?_
        refine lv_iconst (v := 1) hx hb dP_doStatement_162 (by decide) ?_
        refine lv_iadd hx hb dP_doStatement_163 ?_
        refine lv_topi (fun v163 e163 => ?_)
        have n163 : v163 = nI (d + 1) := by rw [e163]; exact gx_add (rfl : (nI d) = (nI d)) (rfl : (1 : Int32) = nI 1)
        subst n163
        refine gc_wv (va_runV (As := [.ref o, .int (nI (i + 1)), .int (nI (bd_close (Bs f) i)), .int (nI lv), .int (nI (d + 1))]) (rest := []) ⟨hx, hb, hml, hown, ht⟩ (hB (d + 1) f o q (i + 1) (bd_close (Bs f) i) lv (px_rep ((pg X ba Bs n).2 (Bs f) (i + 1) (bd_close (Bs f) i) lv) k S) (by omega) hf hbf hsl hBd (by omega) (bd_close_le _ _) hlv (px_rep_ok (fun S1 hS1 => hrb _ _ _ _ S1 hBd (bd_close_le _ _) hlv hS1) k hS9) H.size) (cwV 5 ht (gw_V m_329 m_331 ms_10 m_2 m_332) rfl rfl rfl (by decide +kernel) ⟨show (8 * n + 8) + 1 ≤ 8 * n + 12 by omega, show 8 + (8 + 11) + (200 * n + 200) ≤ 200 * n + 280 by omega⟩) (gp_V (ci := 3) (q0 := 0) hK hN hP hD rfl rfl) rfl rfl hl.1 rfl (lv_room (Nat.le_of_ble_eq_true rfl)) dP_doStatement_164 ⟨Nat.le_of_ble_eq_true rfl, Nat.le_of_ble_eq_true rfl⟩) hP hD hS hA (fun w164 H locs p164 hP hD hS => ?_)
        subst p164
        have hP : va_P D vwCl ([(g, .inr (3, [.ref eo, .ref bo, .ref t, .ref co])), (eo, .inr (2, [.ref (eq 0), .ref (eq 1), .ref (eq 2), .ref (eq 3), .int (nI X.2.2.2.2)])), ((eq 0), .inl (cI, 80, .inl X.1)), ((eq 1), .inl (cI, 80, .inl X.2.1)), ((eq 2), .inl (cI, 80, .inl X.2.2.1)), ((eq 3), .inl (cI, 80, .inl X.2.2.2.1)), (bo, .inl (cB, 8, .inr (.inr (.inr (.inr ba))))), (t, .inr (4, [.ref (tq 0), .ref (tq 1), .ref (tq 2), .ref (tq 3), .ref (tq 4), .ref (tq 5), .ref (tq 6), .ref (tq 7), .int (nI ((((pg X ba Bs n).2 (Bs f) (i + 1) (bd_close (Bs f) i) lv (px_rep ((pg X ba Bs n).2 (Bs f) (i + 1) (bd_close (Bs f) i) lv) k S)).1).2.2.2.2))])), ((tq 0), .inl (cI, 64, .inl (fun z9 => nI (((((pg X ba Bs n).2 (Bs f) (i + 1) (bd_close (Bs f) i) lv (px_rep ((pg X ba Bs n).2 (Bs f) (i + 1) (bd_close (Bs f) i) lv) k S)).1).1) z9)))), ((tq 1), .inl (cI, 64, .inl (fun z9 => nI (((((pg X ba Bs n).2 (Bs f) (i + 1) (bd_close (Bs f) i) lv (px_rep ((pg X ba Bs n).2 (Bs f) (i + 1) (bd_close (Bs f) i) lv) k S)).1).2.1) z9)))), ((tq 2), .inl (cI, 64, .inl (fun z9 => nI (((((pg X ba Bs n).2 (Bs f) (i + 1) (bd_close (Bs f) i) lv (px_rep ((pg X ba Bs n).2 (Bs f) (i + 1) (bd_close (Bs f) i) lv) k S)).1).2.2.1) z9)))), ((tq 3), .inl (cJ, 64, .inr (.inl ((((pg X ba Bs n).2 (Bs f) (i + 1) (bd_close (Bs f) i) lv (px_rep ((pg X ba Bs n).2 (Bs f) (i + 1) (bd_close (Bs f) i) lv) k S)).1).2.2.2.1)))), ((tq 4), .inl (cJ, 64, .inr (.inl f1))), ((tq 5), .inl (cJ, 64, .inr (.inl f2))), ((tq 6), .inl (cJ, 64, .inr (.inl f3))), ((tq 7), .inl (cJ, 64, .inr (.inl f4))), (co, .inl (cI, 112, .inl (fun z9 => nI ((((pg X ba Bs n).2 (Bs f) (i + 1) (bd_close (Bs f) i) lv (px_rep ((pg X ba Bs n).2 (Bs f) (i + 1) (bd_close (Bs f) i) lv) k S)).2) z9))))] ++ tl) H := hP
        have hD : va_D A ([(g, .inr (3, [.ref eo, .ref bo, .ref t, .ref co])), (eo, .inr (2, [.ref (eq 0), .ref (eq 1), .ref (eq 2), .ref (eq 3), .int (nI X.2.2.2.2)])), ((eq 0), .inl (cI, 80, .inl X.1)), ((eq 1), .inl (cI, 80, .inl X.2.1)), ((eq 2), .inl (cI, 80, .inl X.2.2.1)), ((eq 3), .inl (cI, 80, .inl X.2.2.2.1)), (bo, .inl (cB, 8, .inr (.inr (.inr (.inr ba))))), (t, .inr (4, [.ref (tq 0), .ref (tq 1), .ref (tq 2), .ref (tq 3), .ref (tq 4), .ref (tq 5), .ref (tq 6), .ref (tq 7), .int (nI ((((pg X ba Bs n).2 (Bs f) (i + 1) (bd_close (Bs f) i) lv (px_rep ((pg X ba Bs n).2 (Bs f) (i + 1) (bd_close (Bs f) i) lv) k S)).1).2.2.2.2))])), ((tq 0), .inl (cI, 64, .inl (fun z9 => nI (((((pg X ba Bs n).2 (Bs f) (i + 1) (bd_close (Bs f) i) lv (px_rep ((pg X ba Bs n).2 (Bs f) (i + 1) (bd_close (Bs f) i) lv) k S)).1).1) z9)))), ((tq 1), .inl (cI, 64, .inl (fun z9 => nI (((((pg X ba Bs n).2 (Bs f) (i + 1) (bd_close (Bs f) i) lv (px_rep ((pg X ba Bs n).2 (Bs f) (i + 1) (bd_close (Bs f) i) lv) k S)).1).2.1) z9)))), ((tq 2), .inl (cI, 64, .inl (fun z9 => nI (((((pg X ba Bs n).2 (Bs f) (i + 1) (bd_close (Bs f) i) lv (px_rep ((pg X ba Bs n).2 (Bs f) (i + 1) (bd_close (Bs f) i) lv) k S)).1).2.2.1) z9)))), ((tq 3), .inl (cJ, 64, .inr (.inl ((((pg X ba Bs n).2 (Bs f) (i + 1) (bd_close (Bs f) i) lv (px_rep ((pg X ba Bs n).2 (Bs f) (i + 1) (bd_close (Bs f) i) lv) k S)).1).2.2.2.1)))), ((tq 4), .inl (cJ, 64, .inr (.inl f1))), ((tq 5), .inl (cJ, 64, .inr (.inl f2))), ((tq 6), .inl (cJ, 64, .inr (.inl f3))), ((tq 7), .inl (cJ, 64, .inr (.inl f4))), (co, .inl (cI, 112, .inl (fun z9 => nI ((((pg X ba Bs n).2 (Bs f) (i + 1) (bd_close (Bs f) i) lv (px_rep ((pg X ba Bs n).2 (Bs f) (i + 1) (bd_close (Bs f) i) lv) k S)).2) z9))))] ++ tl) := hD
        refine lv_iinc (v := (nI (k + 1))) (lv' := [(9, .int (nI (k + 1))), (8, .int (nI (bd_close (Bs f) i))), (6, .int (nI ex)), (5, .int v5), (0, .ref g), (1, .ref o), (2, .int (nI i)), (3, .int (nI lv)), (4, .int (nI d))]) hx hb dP_doStatement_167 hl (k := 0) rfl (gx_inc (rfl : (nI k) = (nI k))) (by decide) rfl (fun ls hl => ?_)
        refine lv_goto (tgt := 145) hx hb dP_doStatement_170 (by decide) ?_
        have hP : va_P D vwCl ([(g, .inr (3, [.ref eo, .ref bo, .ref t, .ref co])), (eo, .inr (2, [.ref (eq 0), .ref (eq 1), .ref (eq 2), .ref (eq 3), .int (nI X.2.2.2.2)])), ((eq 0), .inl (cI, 80, .inl X.1)), ((eq 1), .inl (cI, 80, .inl X.2.1)), ((eq 2), .inl (cI, 80, .inl X.2.2.1)), ((eq 3), .inl (cI, 80, .inl X.2.2.2.1)), (bo, .inl (cB, 8, .inr (.inr (.inr (.inr ba))))), (t, .inr (4, [.ref (tq 0), .ref (tq 1), .ref (tq 2), .ref (tq 3), .ref (tq 4), .ref (tq 5), .ref (tq 6), .ref (tq 7), .int (nI (((px_rep ((pg X ba Bs n).2 (Bs f) (i + 1) (bd_close (Bs f) i) lv) (k + 1) S).1).2.2.2.2))])), ((tq 0), .inl (cI, 64, .inl (fun z9 => nI ((((px_rep ((pg X ba Bs n).2 (Bs f) (i + 1) (bd_close (Bs f) i) lv) (k + 1) S).1).1) z9)))), ((tq 1), .inl (cI, 64, .inl (fun z9 => nI ((((px_rep ((pg X ba Bs n).2 (Bs f) (i + 1) (bd_close (Bs f) i) lv) (k + 1) S).1).2.1) z9)))), ((tq 2), .inl (cI, 64, .inl (fun z9 => nI ((((px_rep ((pg X ba Bs n).2 (Bs f) (i + 1) (bd_close (Bs f) i) lv) (k + 1) S).1).2.2.1) z9)))), ((tq 3), .inl (cJ, 64, .inr (.inl (((px_rep ((pg X ba Bs n).2 (Bs f) (i + 1) (bd_close (Bs f) i) lv) (k + 1) S).1).2.2.2.1)))), ((tq 4), .inl (cJ, 64, .inr (.inl f1))), ((tq 5), .inl (cJ, 64, .inr (.inl f2))), ((tq 6), .inl (cJ, 64, .inr (.inl f3))), ((tq 7), .inl (cJ, 64, .inr (.inl f4))), (co, .inl (cI, 112, .inl (fun z9 => nI (((px_rep ((pg X ba Bs n).2 (Bs f) (i + 1) (bd_close (Bs f) i) lv) (k + 1) S).2) z9))))] ++ tl) H := hP
        have hD : va_D A ([(g, .inr (3, [.ref eo, .ref bo, .ref t, .ref co])), (eo, .inr (2, [.ref (eq 0), .ref (eq 1), .ref (eq 2), .ref (eq 3), .int (nI X.2.2.2.2)])), ((eq 0), .inl (cI, 80, .inl X.1)), ((eq 1), .inl (cI, 80, .inl X.2.1)), ((eq 2), .inl (cI, 80, .inl X.2.2.1)), ((eq 3), .inl (cI, 80, .inl X.2.2.2.1)), (bo, .inl (cB, 8, .inr (.inr (.inr (.inr ba))))), (t, .inr (4, [.ref (tq 0), .ref (tq 1), .ref (tq 2), .ref (tq 3), .ref (tq 4), .ref (tq 5), .ref (tq 6), .ref (tq 7), .int (nI (((px_rep ((pg X ba Bs n).2 (Bs f) (i + 1) (bd_close (Bs f) i) lv) (k + 1) S).1).2.2.2.2))])), ((tq 0), .inl (cI, 64, .inl (fun z9 => nI ((((px_rep ((pg X ba Bs n).2 (Bs f) (i + 1) (bd_close (Bs f) i) lv) (k + 1) S).1).1) z9)))), ((tq 1), .inl (cI, 64, .inl (fun z9 => nI ((((px_rep ((pg X ba Bs n).2 (Bs f) (i + 1) (bd_close (Bs f) i) lv) (k + 1) S).1).2.1) z9)))), ((tq 2), .inl (cI, 64, .inl (fun z9 => nI ((((px_rep ((pg X ba Bs n).2 (Bs f) (i + 1) (bd_close (Bs f) i) lv) (k + 1) S).1).2.2.1) z9)))), ((tq 3), .inl (cJ, 64, .inr (.inl (((px_rep ((pg X ba Bs n).2 (Bs f) (i + 1) (bd_close (Bs f) i) lv) (k + 1) S).1).2.2.2.1)))), ((tq 4), .inl (cJ, 64, .inr (.inl f1))), ((tq 5), .inl (cJ, 64, .inr (.inl f2))), ((tq 6), .inl (cJ, 64, .inr (.inl f3))), ((tq 7), .inl (cJ, 64, .inr (.inl f4))), (co, .inl (cI, 112, .inl (fun z9 => nI (((px_rep ((pg X ba Bs n).2 (Bs f) (i + 1) (bd_close (Bs f) i) lv) (k + 1) S).2) z9))))] ++ tl) := hD
        exact ih145 (k + 1) (by omega) (by omega) _ _ _ hP hD hS (lv_sub hl [0, 1, 2, 3, 4, 5, 6, 7, 8] rfl)
  exact lp145 (ex - (0) + 1) 0 (by omega) (by omega) _ _ _ hP hD hS (lv_sub hl [0, 1, 2, 3, 4, 5, 6, 7, 8] rfl)

set_option maxHeartbeats 4000000 in
set_option maxRecDepth 100000 in
theorem c_P_doStatement_5 (l : Launch) (D : va_G) (cI cJ cB cZ : ClassId) (g eo bo t co : Nat) (eq tq : Nat → Nat) (tl : va_W) (X : Ex) (ba : Nat → Option Nat) (f1 f2 f3 f4 : Nat → Int64) (Bs : Nat → Bd) (n d f o : Nat) (q : Nat → Nat) (i lv : Nat) (S : Sx) (hE : cE l D cI cJ cB cZ g eo bo t co eq tq tl X ba f1 f2 f3 f4 Bs n) (hB : cBl l D cI cJ cB cZ g eo bo t co eq tq tl X ba f1 f2 f3 f4 Bs n) (hd : d + (n + 1) = 51) (hf : f < 8) (hbf : ba f = some o) (hsl : (wB cI o q (Bs f)).Sublist tl) (hBd : bd_ok X (Bs f)) (hX80 : X.2.2.2.2 ≤ 80) (hi : i < (Bs f).2.2.2.2.2.2.1) (hlv : lv < 8) (hS9 : sx_ok S) (hre : re_ok X (pg X ba Bs n).1) (hrb : rb_ok X (pg X ba Bs n).2) (hk : (Bs f).1 i = 5) : ct_I l y_P_doStatement w_P_doStatement ({ frames := 8 * n + 12, cells := 0, slots := 0, locals := 200 * n + 280 }) D (gk_T cI cJ cB cZ) [.ref g, .ref o, .int (nI i), .int (nI lv), .int (nI d)] (wPg cI cJ cB g eo bo t co eq tq X ba S f1 f2 f3 f4 ++ tl) (0) (0) (fun r w => r = nI (px_st (pg X ba Bs n).1 (pg X ba Bs n).2 (Bs f) i lv S).1 ∧ w = (wPg cI cJ cB g eo bo t co eq tq X ba ((px_st (pg X ba Bs n).1 (pg X ba Bs n).2 (Bs f) i lv S).2) f1 f2 f3 f4 ++ tl)) := by
  intro sz
  refine Met.ofW (cc := b_P_doStatement) (maxL := 10) (ret := (some .int)) (by decide) rfl ?_
  intro p ev9 s m args below meth c s₁ B9 hml hv
  obtain ⟨rfl, hsz, hP, hK, hN, hD0⟩ := hv
  have hx := B9.exec
  have hb := B9.bytes
  have hr := B9.returns
  have hts := atoms_spec (ws := w_P_doStatement) B9.pre
  have ht : ∀ w ∈ gk_big, w.before _ s = true := fun w h => hts w (List.mem_cons_of_mem _ h)
  have hown : s.vm.findClass R_P = some m.cls := findClass_of_methodNamed B9.named
  have hlocks := B9.notSynchronized
  subst hsz
  have hD := hD0.self (sz := s.heap.size)
  generalize hAe : va_A (wPg cI cJ cB g eo bo t co eq tq X ba S f1 f2 f3 f4 ++ tl) s.heap.size = A at hD ⊢
  have hA : ∀ q : Nat, s.heap.size ≤ q → A q := fun q h => by rw [← hAe]; exact Or.inr h
  generalize hHe : s.heap = H at hP ⊢
  have hS : va_S A s.heap H [] := by rw [← hHe]; exact va_S.rf
  have hP : va_P D vwCl ([(g, .inr (3, [.ref eo, .ref bo, .ref t, .ref co])), (eo, .inr (2, [.ref (eq 0), .ref (eq 1), .ref (eq 2), .ref (eq 3), .int (nI X.2.2.2.2)])), ((eq 0), .inl (cI, 80, .inl X.1)), ((eq 1), .inl (cI, 80, .inl X.2.1)), ((eq 2), .inl (cI, 80, .inl X.2.2.1)), ((eq 3), .inl (cI, 80, .inl X.2.2.2.1)), (bo, .inl (cB, 8, .inr (.inr (.inr (.inr ba))))), (t, .inr (4, [.ref (tq 0), .ref (tq 1), .ref (tq 2), .ref (tq 3), .ref (tq 4), .ref (tq 5), .ref (tq 6), .ref (tq 7), .int (nI S.1.2.2.2.2)])), ((tq 0), .inl (cI, 64, .inl (fun z9 => nI (S.1.1 z9)))), ((tq 1), .inl (cI, 64, .inl (fun z9 => nI (S.1.2.1 z9)))), ((tq 2), .inl (cI, 64, .inl (fun z9 => nI (S.1.2.2.1 z9)))), ((tq 3), .inl (cJ, 64, .inr (.inl S.1.2.2.2.1))), ((tq 4), .inl (cJ, 64, .inr (.inl f1))), ((tq 5), .inl (cJ, 64, .inr (.inl f2))), ((tq 6), .inl (cJ, 64, .inr (.inl f3))), ((tq 7), .inl (cJ, 64, .inr (.inl f4))), (co, .inl (cI, 112, .inl (fun z9 => nI (S.2 z9))))] ++ tl) H := hP
  have hD : va_D A ([(g, .inr (3, [.ref eo, .ref bo, .ref t, .ref co])), (eo, .inr (2, [.ref (eq 0), .ref (eq 1), .ref (eq 2), .ref (eq 3), .int (nI X.2.2.2.2)])), ((eq 0), .inl (cI, 80, .inl X.1)), ((eq 1), .inl (cI, 80, .inl X.2.1)), ((eq 2), .inl (cI, 80, .inl X.2.2.1)), ((eq 3), .inl (cI, 80, .inl X.2.2.2.1)), (bo, .inl (cB, 8, .inr (.inr (.inr (.inr ba))))), (t, .inr (4, [.ref (tq 0), .ref (tq 1), .ref (tq 2), .ref (tq 3), .ref (tq 4), .ref (tq 5), .ref (tq 6), .ref (tq 7), .int (nI S.1.2.2.2.2)])), ((tq 0), .inl (cI, 64, .inl (fun z9 => nI (S.1.1 z9)))), ((tq 1), .inl (cI, 64, .inl (fun z9 => nI (S.1.2.1 z9)))), ((tq 2), .inl (cI, 64, .inl (fun z9 => nI (S.1.2.2.1 z9)))), ((tq 3), .inl (cJ, 64, .inr (.inl S.1.2.2.2.1))), ((tq 4), .inl (cJ, 64, .inr (.inl f1))), ((tq 5), .inl (cJ, 64, .inr (.inl f2))), ((tq 6), .inl (cJ, 64, .inr (.inl f3))), ((tq 7), .inl (cJ, 64, .inr (.inl f4))), (co, .inl (cI, 112, .inl (fun z9 => nI (S.2 z9))))] ++ tl) := hD
  have hl := lv_entry ([.ref g, .ref o, .int (nI i), .int (nI lv), .int (nI d)]) (n := 10) (Nat.le_of_ble_eq_true rfl)
  rw [lg_entry_eq]
  generalize (lg_sl ([.ref g, .ref o, .int (nI i), .int (nI lv), .int (nI d)]) ++ List.replicate (10 - (lg_sl ([.ref g, .ref o, .int (nI i), .int (nI lv), .int (nI d)])).length) Slot.unset).toArray = ls at hl ⊢
  have hl : lv_has ls 10 [(0, .ref g), (1, .ref o), (2, .int (nI i)), (3, .int (nI lv)), (4, .int (nI d))] := hl
  have hs12 := hBd.1
  have hcl := (hBd.2.2 i hi).1
  obtain ⟨j0, hj0⟩ := List.getElem?_of_mem (hsl.subset (List.mem_of_getElem? (l := wB cI o q (Bs f)) (i := 0) rfl))
  have hj0 : tl[j0]? = some (o, .inr (0, [.ref (q 0), .ref (q 1), .ref (q 2), .ref (q 3), .ref (q 4), .ref (q 5), .int (nI ((Bs f).2.2.2.2.2.2.1)), .int (nI ((Bs f).2.2.2.2.2.2.2))])) := hj0
  obtain ⟨j1, hj1⟩ := List.getElem?_of_mem (hsl.subset (List.mem_of_getElem? (l := wB cI o q (Bs f)) (i := 1) rfl))
  have hj1 : tl[j1]? = some ((q 0), .inl (cI, 12, .inl (fun z9 => nI (((Bs f).1) z9)))) := hj1
  obtain ⟨j2, hj2⟩ := List.getElem?_of_mem (hsl.subset (List.mem_of_getElem? (l := wB cI o q (Bs f)) (i := 2) rfl))
  have hj2 : tl[j2]? = some ((q 1), .inl (cI, 12, .inl ((Bs f).2.1))) := hj2
  obtain ⟨j3, hj3⟩ := List.getElem?_of_mem (hsl.subset (List.mem_of_getElem? (l := wB cI o q (Bs f)) (i := 3) rfl))
  have hj3 : tl[j3]? = some ((q 2), .inl (cI, 12, .inl ((Bs f).2.2.1))) := hj3
  have hbc := bd_close_le (Bs f) i
  have hSc := hS9.2
  have hSn := hS9.1
  refine lv_aload_n hx hb dP_doStatement_0 rfl (lv_at hl 1 rfl) ?_
  refine va_getN (D := D) (ci := 0) (v := .ref (q 1)) (C := R_B) (T := F_B) (N := 8) hx hb ht i_B hown hK hP (j0 + 17) hj0 rfl 1 (by decide) (va_Nw.use rfl (hN _ mn_18)) (fun _ h9 => h9) rfl dP_doStatement_1 ?_
  refine lv_iload_n hx hb dP_doStatement_4 rfl (lv_at hl 2 rfl) ?_
  have i5 : vp_in (nI i) 12 := gx_in (rfl : (nI i) = (nI i)) (by omega) (by decide)
  have k5 : ((nI i) : Int32).toNatClampNeg = i := gx_cl (rfl : (nI i) = (nI i)) (by omega)
  refine va_iald hx hb hK hP (j2 + 17) 0 hj2 rfl i5 dP_doStatement_5 ?_
  rw [k5]
  refine lv_topi (fun v5 e5 => ?_)
  refine lv_istore (lv' := [(5, .int v5), (0, .ref g), (1, .ref o), (2, .int (nI i)), (3, .int (nI lv)), (4, .int (nI d))]) hx hb dP_doStatement_6 hl (by decide) rfl (fun ls hl => ?_)
  refine lv_aload_n hx hb dP_doStatement_8 rfl (lv_at hl 2 rfl) ?_
  refine va_getN (D := D) (ci := 0) (v := .ref (q 2)) (C := R_B) (T := F_B) (N := 8) hx hb ht i_B hown hK hP (j0 + 17) hj0 rfl 2 (by decide) (va_Nw.use rfl (hN _ mn_19)) (fun _ h9 => h9) rfl dP_doStatement_9 ?_
  refine lv_iload_n hx hb dP_doStatement_12 rfl (lv_at hl 3 rfl) ?_
  have i13 : vp_in (nI i) 12 := gx_in (rfl : (nI i) = (nI i)) (by omega) (by decide)
  have k13 : ((nI i) : Int32).toNatClampNeg = i := gx_cl (rfl : (nI i) = (nI i)) (by omega)
  refine va_iald hx hb hK hP (j3 + 17) 0 hj3 rfl i13 dP_doStatement_13 ?_
  rw [k13]
  refine lv_topi (fun v13 e13 => ?_)
  refine lv_istore (lv' := [(6, .int v13), (5, .int v5), (0, .ref g), (1, .ref o), (2, .int (nI i)), (3, .int (nI lv)), (4, .int (nI d))]) hx hb dP_doStatement_14 hl (by decide) rfl (fun ls hl => ?_)
  refine lv_aload_n hx hb dP_doStatement_16 rfl (lv_at hl 3 rfl) ?_
  refine va_getN (D := D) (ci := 0) (v := .ref (q 0)) (C := R_B) (T := F_B) (N := 8) hx hb ht i_B hown hK hP (j0 + 17) hj0 rfl 0 (by decide) (va_Nw.use rfl (hN _ mn_17)) (fun _ h9 => h9) rfl dP_doStatement_17 ?_
  refine lv_iload_n hx hb dP_doStatement_20 rfl (lv_at hl 4 rfl) ?_
  have i21 : vp_in (nI i) 12 := gx_in (rfl : (nI i) = (nI i)) (by omega) (by decide)
  have k21 : ((nI i) : Int32).toNatClampNeg = i := gx_cl (rfl : (nI i) = (nI i)) (by omega)
  refine va_iald hx hb hK hP (j1 + 17) 0 hj1 rfl i21 dP_doStatement_21 ?_
  rw [k21]
  refine lv_topi (fun v21 e21 => ?_)
  have n21 : v21 = nI (((Bs f).1) i) := e21
  subst n21
  rw [hk]
  refine lv_tableOut (tgt := 178) hx hb dP_doStatement_22 (by decide) (by decide) ?_
  refine lv_iload_n hx hb dP_doStatement_178 rfl (lv_at hl 4 rfl) ?_
  refine lv_iconst (v := 1) hx hb dP_doStatement_179 (by decide) ?_
  refine lv_iadd hx hb dP_doStatement_180 ?_
  refine lv_topi (fun v180 e180 => ?_)
  have n180 : v180 = nI (i + 1) := by rw [e180]; exact gx_add (rfl : (nI i) = (nI i)) (rfl : (1 : Int32) = nI 1)
  subst n180
  have hz : px_st (pg X ba Bs n).1 (pg X ba Bs n).2 (Bs f) i lv S = ((i + 1), S) := by
    simp [px_st, hk]
  exact W.iret (v := (nI (i + 1))) hx hb hr (fun t9 ht9 hW => ⟨⟨(nI (i + 1)), _, rfl, ⟨by rw [hz], by rw [hz]⟩, by rw [ht9]; exact hP, hD⟩, hS.F ht9⟩) hS.2.2 dP_doStatement_181

