abbrev wPg (cI cJ cB : ClassId) (g eo bo t co : Nat) (eq tq : Nat → Nat) (X : Ex) (ba : Nat → Option Nat) (S : Sx) (f1 f2 f3 f4 : Nat → Int64) : va_W := [(g, .inr (3, [.ref eo, .ref bo, .ref t, .ref co])), (eo, .inr (2, [.ref (eq 0), .ref (eq 1), .ref (eq 2), .ref (eq 3), .int (nI X.2.2.2.2)])), ((eq 0), .inl (cI, 80, .inl X.1)), ((eq 1), .inl (cI, 80, .inl X.2.1)), ((eq 2), .inl (cI, 80, .inl X.2.2.1)), ((eq 3), .inl (cI, 80, .inl X.2.2.2.1)), (bo, .inl (cB, 8, .inr (.inr (.inr (.inr ba))))), (t, .inr (4, [.ref (tq 0), .ref (tq 1), .ref (tq 2), .ref (tq 3), .ref (tq 4), .ref (tq 5), .ref (tq 6), .ref (tq 7), .int (nI S.1.2.2.2.2)])), ((tq 0), .inl (cI, 64, .inl (fun z9 => nI (S.1.1 z9)))), ((tq 1), .inl (cI, 64, .inl (fun z9 => nI (S.1.2.1 z9)))), ((tq 2), .inl (cI, 64, .inl (fun z9 => nI (S.1.2.2.1 z9)))), ((tq 3), .inl (cJ, 64, .inr (.inl S.1.2.2.2.1))), ((tq 4), .inl (cJ, 64, .inr (.inl f1))), ((tq 5), .inl (cJ, 64, .inr (.inl f2))), ((tq 6), .inl (cJ, 64, .inr (.inl f3))), ((tq 7), .inl (cJ, 64, .inr (.inl f4))), (co, .inl (cI, 112, .inl (fun z9 => nI (S.2 z9))))]
def sx_ok (S : Sx) : Prop := S.1.2.2.2.2 ≤ 64 ∧ ∀ j, S.2 j < 64
def ex_ok (X : Ex) : Prop := X.2.2.2.2 ≤ 80 ∧ ∀ e, e < X.2.2.2.2 → ∃ k, k ≤ 11 ∧ X.1 e = nI k ∧ (2 ≤ k → ∃ a, a < e ∧ X.2.1 e = nI a) ∧ (px_R k → ∃ b, b < e ∧ X.2.2.1 e = nI b) ∧ (k = 1 → ∃ a, a < 6 ∧ X.2.1 e = nI a) ∧ (k = 6 → ∃ b, b ≤ 3 ∧ X.2.2.1 e = nI b) ∧ (k = 10 → ∃ b, b < 2 ∧ X.2.2.1 e = nI b) ∧ (k = 11 → ∃ c, c < 8 ∧ X.2.2.2.1 e = nI c)
def bd_ok (X : Ex) (B : Bd) : Prop := B.2.2.2.2.2.2.1 ≤ 12 ∧ (∀ i, B.1 i ≤ 5) ∧ ∀ i, i < B.2.2.2.2.2.2.1 → B.2.2.2.1 i ≤ 12 ∧ (B.1 i = 0 → ∃ v, v < 6 ∧ B.2.1 i = nI v) ∧ (B.1 i = 1 → ∃ v, v < 2 ∧ B.2.1 i = nI v) ∧ (B.1 i ≤ 2 → ∃ e, e < X.2.2.2.2 ∧ B.2.2.1 i = nI e) ∧ (B.1 i = 4 → ∃ j, j ≤ 5 ∧ B.2.2.1 i = nI j)
def pool_ok (cI : ClassId) (tl : va_W) (X : Ex) (ba : Nat → Option Nat) (Bs : Nat → Bd) : Prop := ∀ f, f < 8 → ∀ o, ba f = some o → ∃ q, (wB cI o q (Bs f)).Sublist tl ∧ bd_ok X (Bs f)
set_option maxHeartbeats 4000000 in
set_option maxRecDepth 100000 in
theorem c_P_elementCell (l : Launch) (D : va_G) (cI cJ cB cZ : ClassId) (g eo bo t co : Nat) (eq tq : Nat → Nat) (tl : va_W) (X : Ex) (ba : Nat → Option Nat) (f1 f2 f3 f4 : Nat → Int64) (S : Sx) (lv ar p9 : Nat) (hp : p9 < 64) : ct_I l y_P_elementCell w_P_elementCell ({ frames := 0, cells := 0, slots := 0, locals := 0 }) D (gk_T cI cJ cB cZ) [.ref g, .int (nI lv), .int (nI ar), .int (nI p9)] (wPg cI cJ cB g eo bo t co eq tq X ba S f1 f2 f3 f4 ++ tl) (0) (0) (fun r w => r = nI (px_el lv ar p9 S.1) ∧ w = (wPg cI cJ cB g eo bo t co eq tq X ba S f1 f2 f3 f4 ++ tl)) := by
  intro sz
  refine Met.ofW (cc := b_P_elementCell) (maxL := 5) (ret := (some .int)) (by decide) rfl ?_
  intro p ev9 s m args below meth c s₁ B9 hml hv
  obtain ⟨rfl, hsz, hP, hK, hN, hD0⟩ := hv
  have hx := B9.exec
  have hb := B9.bytes
  have hr := B9.returns
  have hts := atoms_spec (ws := w_P_elementCell) B9.pre
  have ht : ∀ w ∈ gk_big, w.before _ s = true := fun w h => hts w (List.mem_cons_of_mem _ h)
  have hown : s.vm.findClass R_P = some m.cls := findClass_of_methodNamed B9.named
  have hlocks := B9.notSynchronized
  subst hsz
  have hD := hD0.self (sz := s.heap.size)
  generalize hAe : va_A (wPg cI cJ cB g eo bo t co eq tq X ba S f1 f2 f3 f4 ++ tl) s.heap.size = A at hD ⊢
  have hA : ∀ q : Nat, s.heap.size ≤ q → A q := fun q h => by rw [← hAe]; exact Or.inr h
  generalize hHe : s.heap = H at hP ⊢
  have hS : va_S A s.heap H [] := by rw [← hHe]; exact va_S.rf
  have hP : va_P D vwCl ([(g, .inr (3, [.ref eo, .ref bo, .ref t, .ref co])), (eo, .inr (2, [.ref (eq 0), .ref (eq 1), .ref (eq 2), .ref (eq 3), .int (nI X.2.2.2.2)])), ((eq 0), .inl (cI, 80, .inl X.1)), ((eq 1), .inl (cI, 80, .inl X.2.1)), ((eq 2), .inl (cI, 80, .inl X.2.2.1)), ((eq 3), .inl (cI, 80, .inl X.2.2.2.1)), (bo, .inl (cB, 8, .inr (.inr (.inr (.inr ba))))), (t, .inr (4, [.ref (tq 0), .ref (tq 1), .ref (tq 2), .ref (tq 3), .ref (tq 4), .ref (tq 5), .ref (tq 6), .ref (tq 7), .int (nI S.1.2.2.2.2)])), ((tq 0), .inl (cI, 64, .inl (fun z9 => nI (S.1.1 z9)))), ((tq 1), .inl (cI, 64, .inl (fun z9 => nI (S.1.2.1 z9)))), ((tq 2), .inl (cI, 64, .inl (fun z9 => nI (S.1.2.2.1 z9)))), ((tq 3), .inl (cJ, 64, .inr (.inl S.1.2.2.2.1))), ((tq 4), .inl (cJ, 64, .inr (.inl f1))), ((tq 5), .inl (cJ, 64, .inr (.inl f2))), ((tq 6), .inl (cJ, 64, .inr (.inl f3))), ((tq 7), .inl (cJ, 64, .inr (.inl f4))), (co, .inl (cI, 112, .inl (fun z9 => nI (S.2 z9))))] ++ tl) H := hP
  have hD : va_D A ([(g, .inr (3, [.ref eo, .ref bo, .ref t, .ref co])), (eo, .inr (2, [.ref (eq 0), .ref (eq 1), .ref (eq 2), .ref (eq 3), .int (nI X.2.2.2.2)])), ((eq 0), .inl (cI, 80, .inl X.1)), ((eq 1), .inl (cI, 80, .inl X.2.1)), ((eq 2), .inl (cI, 80, .inl X.2.2.1)), ((eq 3), .inl (cI, 80, .inl X.2.2.2.1)), (bo, .inl (cB, 8, .inr (.inr (.inr (.inr ba))))), (t, .inr (4, [.ref (tq 0), .ref (tq 1), .ref (tq 2), .ref (tq 3), .ref (tq 4), .ref (tq 5), .ref (tq 6), .ref (tq 7), .int (nI S.1.2.2.2.2)])), ((tq 0), .inl (cI, 64, .inl (fun z9 => nI (S.1.1 z9)))), ((tq 1), .inl (cI, 64, .inl (fun z9 => nI (S.1.2.1 z9)))), ((tq 2), .inl (cI, 64, .inl (fun z9 => nI (S.1.2.2.1 z9)))), ((tq 3), .inl (cJ, 64, .inr (.inl S.1.2.2.2.1))), ((tq 4), .inl (cJ, 64, .inr (.inl f1))), ((tq 5), .inl (cJ, 64, .inr (.inl f2))), ((tq 6), .inl (cJ, 64, .inr (.inl f3))), ((tq 7), .inl (cJ, 64, .inr (.inl f4))), (co, .inl (cI, 112, .inl (fun z9 => nI (S.2 z9))))] ++ tl) := hD
  have hl := lv_entry ([.ref g, .int (nI lv), .int (nI ar), .int (nI p9)]) (n := 5) (Nat.le_of_ble_eq_true rfl)
  rw [lg_entry_eq]
  generalize (lg_sl ([.ref g, .int (nI lv), .int (nI ar), .int (nI p9)]) ++ List.replicate (5 - (lg_sl ([.ref g, .int (nI lv), .int (nI ar), .int (nI p9)])).length) Slot.unset).toArray = ls at hl ⊢
  have hl : lv_has ls 5 [(0, .ref g), (1, .int (nI lv)), (2, .int (nI ar)), (3, .int (nI p9))] := hl
  refine lv_aload_n hx hb dP_elementCell_0 rfl (lv_at hl 0 rfl) ?_
  refine va_get (D := D) (ci := 3) (v := .ref t) (C := R_P) (T := F_P) (N := 4) hx hb ht i_P hown hK hP 0 rfl rfl 2 (by decide) (ht _ m_95) (fun _ h9 => h9) rfl dP_elementCell_1 ?_
  refine va_getN (D := D) (ci := 4) (v := .ref (tq 3)) (C := R_T) (T := F_T) (N := 9) hx hb ht i_T hown hK hP 7 rfl rfl 3 (by decide) (va_Nw.use rfl (hN _ mn_9)) (fun _ h9 => h9) rfl dP_elementCell_4 ?_
  refine lv_iload_n hx hb dP_elementCell_7 rfl (lv_at hl 3 rfl) ?_
  have i8 : vp_in (nI p9) 64 := gx_in (rfl : (nI p9) = (nI p9)) (by omega) (by decide)
  have k8 : ((nI p9) : Int32).toNatClampNeg = p9 := gx_cl (rfl : (nI p9) = (nI p9)) (by omega)
  refine va_lald hx hb hK hP 11 1 rfl rfl i8 dP_elementCell_8 ?_
  rw [k8]
  refine lv_topl (fun v8 e8 => ?_)
  refine lv_ldc2 (v := 3) hx hb hown (ht _ m_360) dP_elementCell_9 ?_
  refine lv_land hx hb dP_elementCell_12 ?_
  refine lv_topl (fun v12 e12 => ?_)
  have h13 : v12.toInt32 = nI (pl (S.1.2.2.2.1 p9)) := by rw [e12, e8]; exact pl_spec _
  refine lv_l2i hx hb dP_elementCell_13 rfl ?_
  refine lv_topi (fun v13 e13 => ?_)
  rw [h13] at e13
  subst e13
  refine lv_istore (lv' := [(4, .int (nI (pl (S.1.2.2.2.1 p9)))), (0, .ref g), (1, .int (nI lv)), (2, .int (nI ar)), (3, .int (nI p9))]) hx hb dP_elementCell_14 hl (by decide) rfl (fun ls hl => ?_)
  refine lv_iload_n hx hb dP_elementCell_16 rfl (lv_at hl 2 rfl) ?_
  refine lv_bipush (v := 14) hx hb dP_elementCell_17 (by decide) ?_
  refine lv_imul hx hb dP_elementCell_19 ?_
  refine lv_topi (fun v19 e19 => ?_)
  have n19 : v19 = nI (lv * 14) := by rw [e19]; exact gx_mul (rfl : (nI lv) = (nI lv)) (rfl : (14 : Int32) = nI 14)
  subst n19
  refine lv_bipush (v := 6) hx hb dP_elementCell_20 (by decide) ?_
  refine lv_iadd hx hb dP_elementCell_22 ?_
  refine lv_topi (fun v22 e22 => ?_)
  have n22 : v22 = nI ((lv * 14) + 6) := by rw [e22]; exact gx_add (rfl : (nI (lv * 14)) = (nI (lv * 14))) (rfl : (6 : Int32) = nI 6)
  subst n22
  refine lv_iload_n hx hb dP_elementCell_23 rfl (lv_at hl 3 rfl) ?_
  refine lv_iconst (v := 4) hx hb dP_elementCell_24 (by decide) ?_
  refine lv_imul hx hb dP_elementCell_25 ?_
  refine lv_topi (fun v25 e25 => ?_)
  have n25 : v25 = nI (ar * 4) := by rw [e25]; exact gx_mul (rfl : (nI ar) = (nI ar)) (rfl : (4 : Int32) = nI 4)
  subst n25
  refine lv_iadd hx hb dP_elementCell_26 ?_
  refine lv_topi (fun v26 e26 => ?_)
  have n26 : v26 = nI (((lv * 14) + 6) + (ar * 4)) := by rw [e26]; exact gx_add (rfl : (nI ((lv * 14) + 6)) = (nI ((lv * 14) + 6))) (rfl : (nI (ar * 4)) = (nI (ar * 4)))
  subst n26
  refine lv_iload hx hb dP_elementCell_27 (lv_at hl 0 rfl) ?_
  refine lv_iadd hx hb dP_elementCell_29 ?_
  refine lv_topi (fun v29 e29 => ?_)
  have n29 : v29 = nI ((((lv * 14) + 6) + (ar * 4)) + (pl (S.1.2.2.2.1 p9))) := by rw [e29]; exact gx_add (rfl : (nI (((lv * 14) + 6) + (ar * 4))) = (nI (((lv * 14) + 6) + (ar * 4)))) (rfl : (nI (pl (S.1.2.2.2.1 p9))) = (nI (pl (S.1.2.2.2.1 p9))))
  subst n29
  exact W.iret (v := (nI ((((lv * 14) + 6) + (ar * 4)) + (pl (S.1.2.2.2.1 p9))))) hx hb hr (fun t9 ht9 hW => ⟨⟨(nI ((((lv * 14) + 6) + (ar * 4)) + (pl (S.1.2.2.2.1 p9)))), _, rfl, ⟨rfl, rfl⟩, by rw [ht9]; exact hP, hD⟩, hS.F ht9⟩) hS.2.2 dP_elementCell_30

set_option maxHeartbeats 4000000 in
set_option maxRecDepth 100000 in
theorem c_P_combine (l : Launch) (D : va_G) (cI cJ cB cZ : ClassId) (g eo bo t co : Nat) (eq tq : Nat → Nat) (tl : va_W) (X : Ex) (ba : Nat → Option Nat) (f1 f2 f3 f4 : Nat → Int64) (S : Sx) (k a b : Nat) (hk : k = 2 ∨ k = 3 ∨ k = 4 ∨ k = 5 ∨ k = 7 ∨ k = 8 ∨ k = 9) (hn : S.1.2.2.2.2 ≤ 64) (ha : a < 64) (hb9 : b < 64) : ct_I l y_P_combine w_P_combine ({ frames := 3, cells := 0, slots := 0, locals := 69 }) D (gk_T cI cJ cB cZ) [.ref g, .int (nI k), .int (nI a), .int (nI b)] (wPg cI cJ cB g eo bo t co eq tq X ba S f1 f2 f3 f4 ++ tl) (0) (0) (fun r w => r = nI (px_comb k a b S.1).1 ∧ w = (wPg cI cJ cB g eo bo t co eq tq X ba ((px_comb k a b S.1).2, S.2) f1 f2 f3 f4 ++ tl)) := by
  intro sz
  refine Met.ofW (cc := b_P_combine) (maxL := 4) (ret := (some .int)) (by decide) rfl ?_
  intro p ev9 s m args below meth c s₁ B9 hml hv
  obtain ⟨rfl, hsz, hP, hK, hN, hD0⟩ := hv
  have hx := B9.exec
  have hb := B9.bytes
  have hr := B9.returns
  have hts := atoms_spec (ws := w_P_combine) B9.pre
  have ht : ∀ w ∈ gk_big, w.before _ s = true := fun w h => hts w (List.mem_cons_of_mem _ h)
  have hown : s.vm.findClass R_P = some m.cls := findClass_of_methodNamed B9.named
  have hlocks := B9.notSynchronized
  subst hsz
  have hD := hD0.self (sz := s.heap.size)
  generalize hAe : va_A (wPg cI cJ cB g eo bo t co eq tq X ba S f1 f2 f3 f4 ++ tl) s.heap.size = A at hD ⊢
  have hA : ∀ q : Nat, s.heap.size ≤ q → A q := fun q h => by rw [← hAe]; exact Or.inr h
  generalize hHe : s.heap = H at hP ⊢
  have hS : va_S A s.heap H [] := by rw [← hHe]; exact va_S.rf
  have hP : va_P D vwCl ([(g, .inr (3, [.ref eo, .ref bo, .ref t, .ref co])), (eo, .inr (2, [.ref (eq 0), .ref (eq 1), .ref (eq 2), .ref (eq 3), .int (nI X.2.2.2.2)])), ((eq 0), .inl (cI, 80, .inl X.1)), ((eq 1), .inl (cI, 80, .inl X.2.1)), ((eq 2), .inl (cI, 80, .inl X.2.2.1)), ((eq 3), .inl (cI, 80, .inl X.2.2.2.1)), (bo, .inl (cB, 8, .inr (.inr (.inr (.inr ba))))), (t, .inr (4, [.ref (tq 0), .ref (tq 1), .ref (tq 2), .ref (tq 3), .ref (tq 4), .ref (tq 5), .ref (tq 6), .ref (tq 7), .int (nI S.1.2.2.2.2)])), ((tq 0), .inl (cI, 64, .inl (fun z9 => nI (S.1.1 z9)))), ((tq 1), .inl (cI, 64, .inl (fun z9 => nI (S.1.2.1 z9)))), ((tq 2), .inl (cI, 64, .inl (fun z9 => nI (S.1.2.2.1 z9)))), ((tq 3), .inl (cJ, 64, .inr (.inl S.1.2.2.2.1))), ((tq 4), .inl (cJ, 64, .inr (.inl f1))), ((tq 5), .inl (cJ, 64, .inr (.inl f2))), ((tq 6), .inl (cJ, 64, .inr (.inl f3))), ((tq 7), .inl (cJ, 64, .inr (.inl f4))), (co, .inl (cI, 112, .inl (fun z9 => nI (S.2 z9))))] ++ tl) H := hP
  have hD : va_D A ([(g, .inr (3, [.ref eo, .ref bo, .ref t, .ref co])), (eo, .inr (2, [.ref (eq 0), .ref (eq 1), .ref (eq 2), .ref (eq 3), .int (nI X.2.2.2.2)])), ((eq 0), .inl (cI, 80, .inl X.1)), ((eq 1), .inl (cI, 80, .inl X.2.1)), ((eq 2), .inl (cI, 80, .inl X.2.2.1)), ((eq 3), .inl (cI, 80, .inl X.2.2.2.1)), (bo, .inl (cB, 8, .inr (.inr (.inr (.inr ba))))), (t, .inr (4, [.ref (tq 0), .ref (tq 1), .ref (tq 2), .ref (tq 3), .ref (tq 4), .ref (tq 5), .ref (tq 6), .ref (tq 7), .int (nI S.1.2.2.2.2)])), ((tq 0), .inl (cI, 64, .inl (fun z9 => nI (S.1.1 z9)))), ((tq 1), .inl (cI, 64, .inl (fun z9 => nI (S.1.2.1 z9)))), ((tq 2), .inl (cI, 64, .inl (fun z9 => nI (S.1.2.2.1 z9)))), ((tq 3), .inl (cJ, 64, .inr (.inl S.1.2.2.2.1))), ((tq 4), .inl (cJ, 64, .inr (.inl f1))), ((tq 5), .inl (cJ, 64, .inr (.inl f2))), ((tq 6), .inl (cJ, 64, .inr (.inl f3))), ((tq 7), .inl (cJ, 64, .inr (.inl f4))), (co, .inl (cI, 112, .inl (fun z9 => nI (S.2 z9))))] ++ tl) := hD
  have hl := lv_entry ([.ref g, .int (nI k), .int (nI a), .int (nI b)]) (n := 4) (Nat.le_of_ble_eq_true rfl)
  rw [lg_entry_eq]
  generalize (lg_sl ([.ref g, .int (nI k), .int (nI a), .int (nI b)]) ++ List.replicate (4 - (lg_sl ([.ref g, .int (nI k), .int (nI a), .int (nI b)])).length) Slot.unset).toArray = ls at hl ⊢
  have hl : lv_has ls 4 [(0, .ref g), (1, .int (nI k)), (2, .int (nI a)), (3, .int (nI b))] := hl
  refine lv_iload_n hx hb dP_combine_0 rfl (lv_at hl 1 rfl) ?_
  by_cases s1_0 : (nI k) = 2
  · have hs1 : k = 2 := (gx_eq (rfl : (nI k) = (nI k)) (rfl : (2 : Int32) = nI 2) (by omega) (by decide)).mp s1_0
    refine lv_tableIn (tgt := 48) hx hb dP_combine_1 (by rw [s1_0]; decide) (by rw [s1_0]; decide) (by rw [s1_0] <;> rfl) (by decide) ?_
    refine lv_aload_n hx hb dP_combine_48 rfl (lv_at hl 0 rfl) ?_
    refine va_get (D := D) (ci := 3) (v := .ref t) (C := R_P) (T := F_P) (N := 4) hx hb ht i_P hown hK hP 0 rfl rfl 2 (by decide) (ht _ m_95) (fun _ h9 => h9) rfl dP_combine_49 ?_
    refine lv_iload_n hx hb dP_combine_52 rfl (lv_at hl 2 rfl) ?_
    refine lv_iload_n hx hb dP_combine_53 rfl (lv_at hl 3 rfl) ?_
    refine gc_i (va_runV (As := [.int (nI a), .int (nI b)]) (rest := []) ⟨hx, hb, hml, hown, ht⟩ (c_T_sum l D cI cJ cB cZ t tq S.1 f1 f2 f3 f4 a b (by omega) (by omega) (by omega) H.size) (cwV 2 ht (gw_V m_365 m_366 m_367 m_4 m_368) rfl rfl rfl (by decide +kernel) ⟨Nat.le_of_ble_eq_true rfl, Nat.le_of_ble_eq_true rfl⟩) (gp_V (ci := 4) (q0 := 0) hK hN (hP.sub (ws' := (wTr cI cJ t tq S.1 f1 f2 f3 f4)) [7, 8, 9, 10, 11, 12, 13, 14, 15] rfl) (hD.sub (ws' := (wTr cI cJ t tq S.1 f1 f2 f3 f4)) [7, 8, 9, 10, 11, 12, 13, 14, 15] (by decide) rfl) rfl rfl) rfl rfl hl.1 rfl (lv_room (Nat.le_of_ble_eq_true rfl)) dP_combine_54 ⟨Nat.le_of_ble_eq_true rfl, Nat.le_of_ble_eq_true rfl⟩) hP hD hS hA [7, 8, 9, 10, 11, 12, 13, 14, 15] rfl (by decide) (fun r w h => by obtain ⟨_, rfl⟩ := h; rfl) (fun r54 w54 H locs p54 hP hD hS => ?_)
    obtain ⟨rfl, rfl⟩ := p54
    have hP : va_P D vwCl ([(g, .inr (3, [.ref eo, .ref bo, .ref t, .ref co])), (eo, .inr (2, [.ref (eq 0), .ref (eq 1), .ref (eq 2), .ref (eq 3), .int (nI X.2.2.2.2)])), ((eq 0), .inl (cI, 80, .inl X.1)), ((eq 1), .inl (cI, 80, .inl X.2.1)), ((eq 2), .inl (cI, 80, .inl X.2.2.1)), ((eq 3), .inl (cI, 80, .inl X.2.2.2.1)), (bo, .inl (cB, 8, .inr (.inr (.inr (.inr ba))))), (t, .inr (4, [.ref (tq 0), .ref (tq 1), .ref (tq 2), .ref (tq 3), .ref (tq 4), .ref (tq 5), .ref (tq 6), .ref (tq 7), .int (nI ((tr_sum S.1 a b).2.2.2.2))])), ((tq 0), .inl (cI, 64, .inl (fun z9 => nI (((tr_sum S.1 a b).1) z9)))), ((tq 1), .inl (cI, 64, .inl (fun z9 => nI (((tr_sum S.1 a b).2.1) z9)))), ((tq 2), .inl (cI, 64, .inl (fun z9 => nI (((tr_sum S.1 a b).2.2.1) z9)))), ((tq 3), .inl (cJ, 64, .inr (.inl ((tr_sum S.1 a b).2.2.2.1)))), ((tq 4), .inl (cJ, 64, .inr (.inl f1))), ((tq 5), .inl (cJ, 64, .inr (.inl f2))), ((tq 6), .inl (cJ, 64, .inr (.inl f3))), ((tq 7), .inl (cJ, 64, .inr (.inl f4))), (co, .inl (cI, 112, .inl (fun z9 => nI (S.2 z9))))] ++ tl) H := hP
    have hD : va_D A ([(g, .inr (3, [.ref eo, .ref bo, .ref t, .ref co])), (eo, .inr (2, [.ref (eq 0), .ref (eq 1), .ref (eq 2), .ref (eq 3), .int (nI X.2.2.2.2)])), ((eq 0), .inl (cI, 80, .inl X.1)), ((eq 1), .inl (cI, 80, .inl X.2.1)), ((eq 2), .inl (cI, 80, .inl X.2.2.1)), ((eq 3), .inl (cI, 80, .inl X.2.2.2.1)), (bo, .inl (cB, 8, .inr (.inr (.inr (.inr ba))))), (t, .inr (4, [.ref (tq 0), .ref (tq 1), .ref (tq 2), .ref (tq 3), .ref (tq 4), .ref (tq 5), .ref (tq 6), .ref (tq 7), .int (nI ((tr_sum S.1 a b).2.2.2.2))])), ((tq 0), .inl (cI, 64, .inl (fun z9 => nI (((tr_sum S.1 a b).1) z9)))), ((tq 1), .inl (cI, 64, .inl (fun z9 => nI (((tr_sum S.1 a b).2.1) z9)))), ((tq 2), .inl (cI, 64, .inl (fun z9 => nI (((tr_sum S.1 a b).2.2.1) z9)))), ((tq 3), .inl (cJ, 64, .inr (.inl ((tr_sum S.1 a b).2.2.2.1)))), ((tq 4), .inl (cJ, 64, .inr (.inl f1))), ((tq 5), .inl (cJ, 64, .inr (.inl f2))), ((tq 6), .inl (cJ, 64, .inr (.inl f3))), ((tq 7), .inl (cJ, 64, .inr (.inl f4))), (co, .inl (cI, 112, .inl (fun z9 => nI (S.2 z9))))] ++ tl) := hD
    have hz : px_comb k a b S.1 = ((tr_ix S.1), (tr_sum S.1 a b)) := by unfold px_comb; rw [if_pos hs1]
    exact W.iret (v := (nI (tr_ix S.1))) hx hb hr (fun t9 ht9 hW => ⟨⟨(nI (tr_ix S.1)), _, rfl, ⟨by rw [hz], by rw [hz]⟩, by rw [ht9]; exact hP, hD⟩, hS.F ht9⟩) hS.2.2 dP_combine_57
  by_cases s1_1 : (nI k) = 3
  · have hs1 : k = 3 := (gx_eq (rfl : (nI k) = (nI k)) (rfl : (3 : Int32) = nI 3) (by omega) (by decide)).mp s1_1
    refine lv_tableIn (tgt := 58) hx hb dP_combine_1 (by rw [s1_1]; decide) (by rw [s1_1]; decide) (by rw [s1_1] <;> rfl) (by decide) ?_
    refine lv_aload_n hx hb dP_combine_58 rfl (lv_at hl 0 rfl) ?_
    refine va_get (D := D) (ci := 3) (v := .ref t) (C := R_P) (T := F_P) (N := 4) hx hb ht i_P hown hK hP 0 rfl rfl 2 (by decide) (ht _ m_95) (fun _ h9 => h9) rfl dP_combine_59 ?_
    refine lv_iload_n hx hb dP_combine_62 rfl (lv_at hl 2 rfl) ?_
    refine lv_iload_n hx hb dP_combine_63 rfl (lv_at hl 3 rfl) ?_
    refine gc_i (va_runV (As := [.int (nI a), .int (nI b)]) (rest := []) ⟨hx, hb, hml, hown, ht⟩ (c_T_difference l D cI cJ cB cZ t tq S.1 f1 f2 f3 f4 a b (by omega) (by omega) (by omega) H.size) (cwV 2 ht (gw_V m_369 m_370 m_371 m_4 m_372) rfl rfl rfl (by decide +kernel) ⟨Nat.le_of_ble_eq_true rfl, Nat.le_of_ble_eq_true rfl⟩) (gp_V (ci := 4) (q0 := 0) hK hN (hP.sub (ws' := (wTr cI cJ t tq S.1 f1 f2 f3 f4)) [7, 8, 9, 10, 11, 12, 13, 14, 15] rfl) (hD.sub (ws' := (wTr cI cJ t tq S.1 f1 f2 f3 f4)) [7, 8, 9, 10, 11, 12, 13, 14, 15] (by decide) rfl) rfl rfl) rfl rfl hl.1 rfl (lv_room (Nat.le_of_ble_eq_true rfl)) dP_combine_64 ⟨Nat.le_of_ble_eq_true rfl, Nat.le_of_ble_eq_true rfl⟩) hP hD hS hA [7, 8, 9, 10, 11, 12, 13, 14, 15] rfl (by decide) (fun r w h => by obtain ⟨_, rfl⟩ := h; rfl) (fun r64 w64 H locs p64 hP hD hS => ?_)
    obtain ⟨rfl, rfl⟩ := p64
    have hP : va_P D vwCl ([(g, .inr (3, [.ref eo, .ref bo, .ref t, .ref co])), (eo, .inr (2, [.ref (eq 0), .ref (eq 1), .ref (eq 2), .ref (eq 3), .int (nI X.2.2.2.2)])), ((eq 0), .inl (cI, 80, .inl X.1)), ((eq 1), .inl (cI, 80, .inl X.2.1)), ((eq 2), .inl (cI, 80, .inl X.2.2.1)), ((eq 3), .inl (cI, 80, .inl X.2.2.2.1)), (bo, .inl (cB, 8, .inr (.inr (.inr (.inr ba))))), (t, .inr (4, [.ref (tq 0), .ref (tq 1), .ref (tq 2), .ref (tq 3), .ref (tq 4), .ref (tq 5), .ref (tq 6), .ref (tq 7), .int (nI ((tr_dif S.1 a b).2.2.2.2))])), ((tq 0), .inl (cI, 64, .inl (fun z9 => nI (((tr_dif S.1 a b).1) z9)))), ((tq 1), .inl (cI, 64, .inl (fun z9 => nI (((tr_dif S.1 a b).2.1) z9)))), ((tq 2), .inl (cI, 64, .inl (fun z9 => nI (((tr_dif S.1 a b).2.2.1) z9)))), ((tq 3), .inl (cJ, 64, .inr (.inl ((tr_dif S.1 a b).2.2.2.1)))), ((tq 4), .inl (cJ, 64, .inr (.inl f1))), ((tq 5), .inl (cJ, 64, .inr (.inl f2))), ((tq 6), .inl (cJ, 64, .inr (.inl f3))), ((tq 7), .inl (cJ, 64, .inr (.inl f4))), (co, .inl (cI, 112, .inl (fun z9 => nI (S.2 z9))))] ++ tl) H := hP
    have hD : va_D A ([(g, .inr (3, [.ref eo, .ref bo, .ref t, .ref co])), (eo, .inr (2, [.ref (eq 0), .ref (eq 1), .ref (eq 2), .ref (eq 3), .int (nI X.2.2.2.2)])), ((eq 0), .inl (cI, 80, .inl X.1)), ((eq 1), .inl (cI, 80, .inl X.2.1)), ((eq 2), .inl (cI, 80, .inl X.2.2.1)), ((eq 3), .inl (cI, 80, .inl X.2.2.2.1)), (bo, .inl (cB, 8, .inr (.inr (.inr (.inr ba))))), (t, .inr (4, [.ref (tq 0), .ref (tq 1), .ref (tq 2), .ref (tq 3), .ref (tq 4), .ref (tq 5), .ref (tq 6), .ref (tq 7), .int (nI ((tr_dif S.1 a b).2.2.2.2))])), ((tq 0), .inl (cI, 64, .inl (fun z9 => nI (((tr_dif S.1 a b).1) z9)))), ((tq 1), .inl (cI, 64, .inl (fun z9 => nI (((tr_dif S.1 a b).2.1) z9)))), ((tq 2), .inl (cI, 64, .inl (fun z9 => nI (((tr_dif S.1 a b).2.2.1) z9)))), ((tq 3), .inl (cJ, 64, .inr (.inl ((tr_dif S.1 a b).2.2.2.1)))), ((tq 4), .inl (cJ, 64, .inr (.inl f1))), ((tq 5), .inl (cJ, 64, .inr (.inl f2))), ((tq 6), .inl (cJ, 64, .inr (.inl f3))), ((tq 7), .inl (cJ, 64, .inr (.inl f4))), (co, .inl (cI, 112, .inl (fun z9 => nI (S.2 z9))))] ++ tl) := hD
    have hz : px_comb k a b S.1 = ((tr_ix S.1), (tr_dif S.1 a b)) := by unfold px_comb; rw [if_neg (show ¬ k = 2 by omega), if_pos hs1]
    exact W.iret (v := (nI (tr_ix S.1))) hx hb hr (fun t9 ht9 hW => ⟨⟨(nI (tr_ix S.1)), _, rfl, ⟨by rw [hz], by rw [hz]⟩, by rw [ht9]; exact hP, hD⟩, hS.F ht9⟩) hS.2.2 dP_combine_67
  by_cases s1_2 : (nI k) = 4
  · have hs1 : k = 4 := (gx_eq (rfl : (nI k) = (nI k)) (rfl : (4 : Int32) = nI 4) (by omega) (by decide)).mp s1_2
    refine lv_tableIn (tgt := 68) hx hb dP_combine_1 (by rw [s1_2]; decide) (by rw [s1_2]; decide) (by rw [s1_2] <;> rfl) (by decide) ?_
    refine lv_aload_n hx hb dP_combine_68 rfl (lv_at hl 0 rfl) ?_
    refine va_get (D := D) (ci := 3) (v := .ref t) (C := R_P) (T := F_P) (N := 4) hx hb ht i_P hown hK hP 0 rfl rfl 2 (by decide) (ht _ m_95) (fun _ h9 => h9) rfl dP_combine_69 ?_
    refine lv_iload_n hx hb dP_combine_72 rfl (lv_at hl 2 rfl) ?_
    refine lv_iload_n hx hb dP_combine_73 rfl (lv_at hl 3 rfl) ?_
    refine gc_i (va_runV (As := [.int (nI a), .int (nI b)]) (rest := []) ⟨hx, hb, hml, hown, ht⟩ (c_T_product l D cI cJ cB cZ t tq S.1 f1 f2 f3 f4 a b (by omega) (by omega) (by omega) H.size) (cwV 2 ht (gw_V m_373 m_353 m_354 m_4 m_355) rfl rfl rfl (by decide +kernel) ⟨Nat.le_of_ble_eq_true rfl, Nat.le_of_ble_eq_true rfl⟩) (gp_V (ci := 4) (q0 := 0) hK hN (hP.sub (ws' := (wTr cI cJ t tq S.1 f1 f2 f3 f4)) [7, 8, 9, 10, 11, 12, 13, 14, 15] rfl) (hD.sub (ws' := (wTr cI cJ t tq S.1 f1 f2 f3 f4)) [7, 8, 9, 10, 11, 12, 13, 14, 15] (by decide) rfl) rfl rfl) rfl rfl hl.1 rfl (lv_room (Nat.le_of_ble_eq_true rfl)) dP_combine_74 ⟨Nat.le_of_ble_eq_true rfl, Nat.le_of_ble_eq_true rfl⟩) hP hD hS hA [7, 8, 9, 10, 11, 12, 13, 14, 15] rfl (by decide) (fun r w h => by obtain ⟨_, rfl⟩ := h; rfl) (fun r74 w74 H locs p74 hP hD hS => ?_)
    obtain ⟨rfl, rfl⟩ := p74
    have hP : va_P D vwCl ([(g, .inr (3, [.ref eo, .ref bo, .ref t, .ref co])), (eo, .inr (2, [.ref (eq 0), .ref (eq 1), .ref (eq 2), .ref (eq 3), .int (nI X.2.2.2.2)])), ((eq 0), .inl (cI, 80, .inl X.1)), ((eq 1), .inl (cI, 80, .inl X.2.1)), ((eq 2), .inl (cI, 80, .inl X.2.2.1)), ((eq 3), .inl (cI, 80, .inl X.2.2.2.1)), (bo, .inl (cB, 8, .inr (.inr (.inr (.inr ba))))), (t, .inr (4, [.ref (tq 0), .ref (tq 1), .ref (tq 2), .ref (tq 3), .ref (tq 4), .ref (tq 5), .ref (tq 6), .ref (tq 7), .int (nI ((tr_mul S.1 a b).2.2.2.2))])), ((tq 0), .inl (cI, 64, .inl (fun z9 => nI (((tr_mul S.1 a b).1) z9)))), ((tq 1), .inl (cI, 64, .inl (fun z9 => nI (((tr_mul S.1 a b).2.1) z9)))), ((tq 2), .inl (cI, 64, .inl (fun z9 => nI (((tr_mul S.1 a b).2.2.1) z9)))), ((tq 3), .inl (cJ, 64, .inr (.inl ((tr_mul S.1 a b).2.2.2.1)))), ((tq 4), .inl (cJ, 64, .inr (.inl f1))), ((tq 5), .inl (cJ, 64, .inr (.inl f2))), ((tq 6), .inl (cJ, 64, .inr (.inl f3))), ((tq 7), .inl (cJ, 64, .inr (.inl f4))), (co, .inl (cI, 112, .inl (fun z9 => nI (S.2 z9))))] ++ tl) H := hP
    have hD : va_D A ([(g, .inr (3, [.ref eo, .ref bo, .ref t, .ref co])), (eo, .inr (2, [.ref (eq 0), .ref (eq 1), .ref (eq 2), .ref (eq 3), .int (nI X.2.2.2.2)])), ((eq 0), .inl (cI, 80, .inl X.1)), ((eq 1), .inl (cI, 80, .inl X.2.1)), ((eq 2), .inl (cI, 80, .inl X.2.2.1)), ((eq 3), .inl (cI, 80, .inl X.2.2.2.1)), (bo, .inl (cB, 8, .inr (.inr (.inr (.inr ba))))), (t, .inr (4, [.ref (tq 0), .ref (tq 1), .ref (tq 2), .ref (tq 3), .ref (tq 4), .ref (tq 5), .ref (tq 6), .ref (tq 7), .int (nI ((tr_mul S.1 a b).2.2.2.2))])), ((tq 0), .inl (cI, 64, .inl (fun z9 => nI (((tr_mul S.1 a b).1) z9)))), ((tq 1), .inl (cI, 64, .inl (fun z9 => nI (((tr_mul S.1 a b).2.1) z9)))), ((tq 2), .inl (cI, 64, .inl (fun z9 => nI (((tr_mul S.1 a b).2.2.1) z9)))), ((tq 3), .inl (cJ, 64, .inr (.inl ((tr_mul S.1 a b).2.2.2.1)))), ((tq 4), .inl (cJ, 64, .inr (.inl f1))), ((tq 5), .inl (cJ, 64, .inr (.inl f2))), ((tq 6), .inl (cJ, 64, .inr (.inl f3))), ((tq 7), .inl (cJ, 64, .inr (.inl f4))), (co, .inl (cI, 112, .inl (fun z9 => nI (S.2 z9))))] ++ tl) := hD
    have hz : px_comb k a b S.1 = ((tr_ix S.1), (tr_mul S.1 a b)) := by unfold px_comb; rw [if_neg (show ¬ k = 2 by omega), if_neg (show ¬ k = 3 by omega), if_pos hs1]
    exact W.iret (v := (nI (tr_ix S.1))) hx hb hr (fun t9 ht9 hW => ⟨⟨(nI (tr_ix S.1)), _, rfl, ⟨by rw [hz], by rw [hz]⟩, by rw [ht9]; exact hP, hD⟩, hS.F ht9⟩) hS.2.2 dP_combine_77
  by_cases s1_3 : (nI k) = 5
  · have hs1 : k = 5 := (gx_eq (rfl : (nI k) = (nI k)) (rfl : (5 : Int32) = nI 5) (by omega) (by decide)).mp s1_3
    refine lv_tableIn (tgt := 78) hx hb dP_combine_1 (by rw [s1_3]; decide) (by rw [s1_3]; decide) (by rw [s1_3] <;> rfl) (by decide) ?_
    refine lv_aload_n hx hb dP_combine_78 rfl (lv_at hl 0 rfl) ?_
    refine va_get (D := D) (ci := 3) (v := .ref t) (C := R_P) (T := F_P) (N := 4) hx hb ht i_P hown hK hP 0 rfl rfl 2 (by decide) (ht _ m_95) (fun _ h9 => h9) rfl dP_combine_79 ?_
    refine lv_iconst (v := 0) hx hb dP_combine_82 (by decide) ?_
    refine lv_iload_n hx hb dP_combine_83 rfl (lv_at hl 2 rfl) ?_
    refine gc_i (va_runV (As := [.int 0, .int (nI a)]) (rest := []) ⟨hx, hb, hml, hown, ht⟩ (c_T_difference l D cI cJ cB cZ t tq S.1 f1 f2 f3 f4 0 a (by omega) (by omega) (by omega) H.size) (cwV 2 ht (gw_V m_369 m_370 m_371 m_4 m_372) rfl rfl rfl (by decide +kernel) ⟨Nat.le_of_ble_eq_true rfl, Nat.le_of_ble_eq_true rfl⟩) (gp_V (ci := 4) (q0 := 0) hK hN (hP.sub (ws' := (wTr cI cJ t tq S.1 f1 f2 f3 f4)) [7, 8, 9, 10, 11, 12, 13, 14, 15] rfl) (hD.sub (ws' := (wTr cI cJ t tq S.1 f1 f2 f3 f4)) [7, 8, 9, 10, 11, 12, 13, 14, 15] (by decide) rfl) rfl rfl) rfl rfl hl.1 rfl (lv_room (Nat.le_of_ble_eq_true rfl)) dP_combine_84 ⟨Nat.le_of_ble_eq_true rfl, Nat.le_of_ble_eq_true rfl⟩) hP hD hS hA [7, 8, 9, 10, 11, 12, 13, 14, 15] rfl (by decide) (fun r w h => by obtain ⟨_, rfl⟩ := h; rfl) (fun r84 w84 H locs p84 hP hD hS => ?_)
    obtain ⟨rfl, rfl⟩ := p84
    have hP : va_P D vwCl ([(g, .inr (3, [.ref eo, .ref bo, .ref t, .ref co])), (eo, .inr (2, [.ref (eq 0), .ref (eq 1), .ref (eq 2), .ref (eq 3), .int (nI X.2.2.2.2)])), ((eq 0), .inl (cI, 80, .inl X.1)), ((eq 1), .inl (cI, 80, .inl X.2.1)), ((eq 2), .inl (cI, 80, .inl X.2.2.1)), ((eq 3), .inl (cI, 80, .inl X.2.2.2.1)), (bo, .inl (cB, 8, .inr (.inr (.inr (.inr ba))))), (t, .inr (4, [.ref (tq 0), .ref (tq 1), .ref (tq 2), .ref (tq 3), .ref (tq 4), .ref (tq 5), .ref (tq 6), .ref (tq 7), .int (nI ((tr_dif S.1 0 a).2.2.2.2))])), ((tq 0), .inl (cI, 64, .inl (fun z9 => nI (((tr_dif S.1 0 a).1) z9)))), ((tq 1), .inl (cI, 64, .inl (fun z9 => nI (((tr_dif S.1 0 a).2.1) z9)))), ((tq 2), .inl (cI, 64, .inl (fun z9 => nI (((tr_dif S.1 0 a).2.2.1) z9)))), ((tq 3), .inl (cJ, 64, .inr (.inl ((tr_dif S.1 0 a).2.2.2.1)))), ((tq 4), .inl (cJ, 64, .inr (.inl f1))), ((tq 5), .inl (cJ, 64, .inr (.inl f2))), ((tq 6), .inl (cJ, 64, .inr (.inl f3))), ((tq 7), .inl (cJ, 64, .inr (.inl f4))), (co, .inl (cI, 112, .inl (fun z9 => nI (S.2 z9))))] ++ tl) H := hP
    have hD : va_D A ([(g, .inr (3, [.ref eo, .ref bo, .ref t, .ref co])), (eo, .inr (2, [.ref (eq 0), .ref (eq 1), .ref (eq 2), .ref (eq 3), .int (nI X.2.2.2.2)])), ((eq 0), .inl (cI, 80, .inl X.1)), ((eq 1), .inl (cI, 80, .inl X.2.1)), ((eq 2), .inl (cI, 80, .inl X.2.2.1)), ((eq 3), .inl (cI, 80, .inl X.2.2.2.1)), (bo, .inl (cB, 8, .inr (.inr (.inr (.inr ba))))), (t, .inr (4, [.ref (tq 0), .ref (tq 1), .ref (tq 2), .ref (tq 3), .ref (tq 4), .ref (tq 5), .ref (tq 6), .ref (tq 7), .int (nI ((tr_dif S.1 0 a).2.2.2.2))])), ((tq 0), .inl (cI, 64, .inl (fun z9 => nI (((tr_dif S.1 0 a).1) z9)))), ((tq 1), .inl (cI, 64, .inl (fun z9 => nI (((tr_dif S.1 0 a).2.1) z9)))), ((tq 2), .inl (cI, 64, .inl (fun z9 => nI (((tr_dif S.1 0 a).2.2.1) z9)))), ((tq 3), .inl (cJ, 64, .inr (.inl ((tr_dif S.1 0 a).2.2.2.1)))), ((tq 4), .inl (cJ, 64, .inr (.inl f1))), ((tq 5), .inl (cJ, 64, .inr (.inl f2))), ((tq 6), .inl (cJ, 64, .inr (.inl f3))), ((tq 7), .inl (cJ, 64, .inr (.inl f4))), (co, .inl (cI, 112, .inl (fun z9 => nI (S.2 z9))))] ++ tl) := hD
    have hz : px_comb k a b S.1 = ((tr_ix S.1), (tr_dif S.1 0 a)) := by unfold px_comb; rw [if_neg (show ¬ k = 2 by omega), if_neg (show ¬ k = 3 by omega), if_neg (show ¬ k = 4 by omega), if_pos hs1]
    exact W.iret (v := (nI (tr_ix S.1))) hx hb hr (fun t9 ht9 hW => ⟨⟨(nI (tr_ix S.1)), _, rfl, ⟨by rw [hz], by rw [hz]⟩, by rw [ht9]; exact hP, hD⟩, hS.F ht9⟩) hS.2.2 dP_combine_87
  by_cases s1_4 : (nI k) = 6
  · exact absurd (show k = 6 from (gx_eq (rfl : (nI k) = (nI k)) (rfl : (6 : Int32) = nI 6) (by omega) (by decide)).mp s1_4) (by omega)
  by_cases s1_5 : (nI k) = 7
  · have hs1 : k = 7 := (gx_eq (rfl : (nI k) = (nI k)) (rfl : (7 : Int32) = nI 7) (by omega) (by decide)).mp s1_5
    refine lv_tableIn (tgt := 88) hx hb dP_combine_1 (by rw [s1_5]; decide) (by rw [s1_5]; decide) (by rw [s1_5] <;> rfl) (by decide) ?_
    refine lv_aload_n hx hb dP_combine_88 rfl (lv_at hl 0 rfl) ?_
    refine va_get (D := D) (ci := 3) (v := .ref t) (C := R_P) (T := F_P) (N := 4) hx hb ht i_P hown hK hP 0 rfl rfl 2 (by decide) (ht _ m_95) (fun _ h9 => h9) rfl dP_combine_89 ?_
    refine lv_iload_n hx hb dP_combine_92 rfl (lv_at hl 2 rfl) ?_
    refine gc_i (va_runV (As := [.int (nI a)]) (rest := []) ⟨hx, hb, hml, hown, ht⟩ (c_T_magnitude l D cI cJ cB cZ t tq S.1 f1 f2 f3 f4 a (by omega) (by omega) H.size) (cwV 1 ht (gw_V m_374 m_375 m_376 m_4 m_377) rfl rfl rfl (by decide +kernel) ⟨Nat.le_of_ble_eq_true rfl, Nat.le_of_ble_eq_true rfl⟩) (gp_V (ci := 4) (q0 := 0) hK hN (hP.sub (ws' := (wTr cI cJ t tq S.1 f1 f2 f3 f4)) [7, 8, 9, 10, 11, 12, 13, 14, 15] rfl) (hD.sub (ws' := (wTr cI cJ t tq S.1 f1 f2 f3 f4)) [7, 8, 9, 10, 11, 12, 13, 14, 15] (by decide) rfl) rfl rfl) rfl rfl hl.1 rfl (lv_room (Nat.le_of_ble_eq_true rfl)) dP_combine_93 ⟨Nat.le_of_ble_eq_true rfl, Nat.le_of_ble_eq_true rfl⟩) hP hD hS hA [7, 8, 9, 10, 11, 12, 13, 14, 15] rfl (by decide) (fun r w h => by obtain ⟨_, rfl⟩ := h; rfl) (fun r93 w93 H locs p93 hP hD hS => ?_)
    obtain ⟨rfl, rfl⟩ := p93
    have hP : va_P D vwCl ([(g, .inr (3, [.ref eo, .ref bo, .ref t, .ref co])), (eo, .inr (2, [.ref (eq 0), .ref (eq 1), .ref (eq 2), .ref (eq 3), .int (nI X.2.2.2.2)])), ((eq 0), .inl (cI, 80, .inl X.1)), ((eq 1), .inl (cI, 80, .inl X.2.1)), ((eq 2), .inl (cI, 80, .inl X.2.2.1)), ((eq 3), .inl (cI, 80, .inl X.2.2.2.1)), (bo, .inl (cB, 8, .inr (.inr (.inr (.inr ba))))), (t, .inr (4, [.ref (tq 0), .ref (tq 1), .ref (tq 2), .ref (tq 3), .ref (tq 4), .ref (tq 5), .ref (tq 6), .ref (tq 7), .int (nI (((tr_mag S.1 a).1).2.2.2.2))])), ((tq 0), .inl (cI, 64, .inl (fun z9 => nI ((((tr_mag S.1 a).1).1) z9)))), ((tq 1), .inl (cI, 64, .inl (fun z9 => nI ((((tr_mag S.1 a).1).2.1) z9)))), ((tq 2), .inl (cI, 64, .inl (fun z9 => nI ((((tr_mag S.1 a).1).2.2.1) z9)))), ((tq 3), .inl (cJ, 64, .inr (.inl (((tr_mag S.1 a).1).2.2.2.1)))), ((tq 4), .inl (cJ, 64, .inr (.inl f1))), ((tq 5), .inl (cJ, 64, .inr (.inl f2))), ((tq 6), .inl (cJ, 64, .inr (.inl f3))), ((tq 7), .inl (cJ, 64, .inr (.inl f4))), (co, .inl (cI, 112, .inl (fun z9 => nI (S.2 z9))))] ++ tl) H := hP
    have hD : va_D A ([(g, .inr (3, [.ref eo, .ref bo, .ref t, .ref co])), (eo, .inr (2, [.ref (eq 0), .ref (eq 1), .ref (eq 2), .ref (eq 3), .int (nI X.2.2.2.2)])), ((eq 0), .inl (cI, 80, .inl X.1)), ((eq 1), .inl (cI, 80, .inl X.2.1)), ((eq 2), .inl (cI, 80, .inl X.2.2.1)), ((eq 3), .inl (cI, 80, .inl X.2.2.2.1)), (bo, .inl (cB, 8, .inr (.inr (.inr (.inr ba))))), (t, .inr (4, [.ref (tq 0), .ref (tq 1), .ref (tq 2), .ref (tq 3), .ref (tq 4), .ref (tq 5), .ref (tq 6), .ref (tq 7), .int (nI (((tr_mag S.1 a).1).2.2.2.2))])), ((tq 0), .inl (cI, 64, .inl (fun z9 => nI ((((tr_mag S.1 a).1).1) z9)))), ((tq 1), .inl (cI, 64, .inl (fun z9 => nI ((((tr_mag S.1 a).1).2.1) z9)))), ((tq 2), .inl (cI, 64, .inl (fun z9 => nI ((((tr_mag S.1 a).1).2.2.1) z9)))), ((tq 3), .inl (cJ, 64, .inr (.inl (((tr_mag S.1 a).1).2.2.2.1)))), ((tq 4), .inl (cJ, 64, .inr (.inl f1))), ((tq 5), .inl (cJ, 64, .inr (.inl f2))), ((tq 6), .inl (cJ, 64, .inr (.inl f3))), ((tq 7), .inl (cJ, 64, .inr (.inl f4))), (co, .inl (cI, 112, .inl (fun z9 => nI (S.2 z9))))] ++ tl) := hD
    have hz : px_comb k a b S.1 = (((tr_mag S.1 a).2), ((tr_mag S.1 a).1)) := by unfold px_comb; rw [if_neg (show ¬ k = 2 by omega), if_neg (show ¬ k = 3 by omega), if_neg (show ¬ k = 4 by omega), if_neg (show ¬ k = 5 by omega), if_pos hs1]
    exact W.iret (v := (nI ((tr_mag S.1 a).2))) hx hb hr (fun t9 ht9 hW => ⟨⟨(nI ((tr_mag S.1 a).2)), _, rfl, ⟨by rw [hz], by rw [hz]⟩, by rw [ht9]; exact hP, hD⟩, hS.F ht9⟩) hS.2.2 dP_combine_96
  by_cases s1_6 : (nI k) = 8
  · have hs1 : k = 8 := (gx_eq (rfl : (nI k) = (nI k)) (rfl : (8 : Int32) = nI 8) (by omega) (by decide)).mp s1_6
    refine lv_tableIn (tgt := 97) hx hb dP_combine_1 (by rw [s1_6]; decide) (by rw [s1_6]; decide) (by rw [s1_6] <;> rfl) (by decide) ?_
    refine lv_aload_n hx hb dP_combine_97 rfl (lv_at hl 0 rfl) ?_
    refine va_get (D := D) (ci := 3) (v := .ref t) (C := R_P) (T := F_P) (N := 4) hx hb ht i_P hown hK hP 0 rfl rfl 2 (by decide) (ht _ m_95) (fun _ h9 => h9) rfl dP_combine_98 ?_
    refine va_getN (D := D) (ci := 4) (v := .ref (tq 3)) (C := R_T) (T := F_T) (N := 9) hx hb ht i_T hown hK hP 7 rfl rfl 3 (by decide) (va_Nw.use rfl (hN _ mn_9)) (fun _ h9 => h9) rfl dP_combine_101 ?_
    refine lv_iload_n hx hb dP_combine_104 rfl (lv_at hl 2 rfl) ?_
    have i105 : vp_in (nI a) 64 := gx_in (rfl : (nI a) = (nI a)) (by omega) (by decide)
    have k105 : ((nI a) : Int32).toNatClampNeg = a := gx_cl (rfl : (nI a) = (nI a)) (by omega)
    refine va_lald hx hb hK hP 11 1 rfl rfl i105 dP_combine_105 ?_
    rw [k105]
    refine lv_topl (fun v105 e105 => ?_)
    refine lv_aload_n hx hb dP_combine_106 rfl (lv_at hl 0 rfl) ?_
    refine va_get (D := D) (ci := 3) (v := .ref t) (C := R_P) (T := F_P) (N := 4) hx hb ht i_P hown hK hP 0 rfl rfl 2 (by decide) (ht _ m_95) (fun _ h9 => h9) rfl dP_combine_107 ?_
    refine va_getN (D := D) (ci := 4) (v := .ref (tq 3)) (C := R_T) (T := F_T) (N := 9) hx hb ht i_T hown hK hP 7 rfl rfl 3 (by decide) (va_Nw.use rfl (hN _ mn_9)) (fun _ h9 => h9) rfl dP_combine_110 ?_
    refine lv_iload_n hx hb dP_combine_113 rfl (lv_at hl 3 rfl) ?_
    have i114 : vp_in (nI b) 64 := gx_in (rfl : (nI b) = (nI b)) (by omega) (by decide)
    have k114 : ((nI b) : Int32).toNatClampNeg = b := gx_cl (rfl : (nI b) = (nI b)) (by omega)
    refine va_lald hx hb hK hP 11 1 rfl rfl i114 dP_combine_114 ?_
    rw [k114]
    refine lv_topl (fun v114 e114 => ?_)
    refine W.lcmp hx hb dP_combine_115 ?_
    refine lv_topi (fun v115 e115 => ?_)
    refine lv_if_gt (tgt := 123) hx hb dP_combine_116 (by decide) (fun c116 => ?_) (fun c116 => ?_)
    · refine lv_iload_n hx hb dP_combine_123 rfl (lv_at hl 3 rfl) ?_
      have hz : px_comb k a b S.1 = (b, S.1) := by unfold px_comb; rw [if_neg (show ¬ k = 2 by omega), if_neg (show ¬ k = 3 by omega), if_neg (show ¬ k = 4 by omega), if_neg (show ¬ k = 5 by omega), if_neg (show ¬ k = 7 by omega), if_pos hs1, if_neg (fun z => absurd c116 (Int32.not_lt.mpr (by rw [e115, e105, e114]; exact (gl_le _ _).mpr z)))]
      exact W.iret (v := (nI b)) hx hb hr (fun t9 ht9 hW => ⟨⟨(nI b), _, rfl, ⟨by rw [hz], by rw [hz]⟩, by rw [ht9]; exact hP, hD⟩, hS.F ht9⟩) hS.2.2 dP_combine_124
    · refine lv_iload_n hx hb dP_combine_119 rfl (lv_at hl 2 rfl) ?_
      refine lv_goto (tgt := 124) hx hb dP_combine_120 (by decide) ?_
      have hz : px_comb k a b S.1 = (a, S.1) := by unfold px_comb; rw [if_neg (show ¬ k = 2 by omega), if_neg (show ¬ k = 3 by omega), if_neg (show ¬ k = 4 by omega), if_neg (show ¬ k = 5 by omega), if_neg (show ¬ k = 7 by omega), if_pos hs1, if_pos ((gl_le _ _).mp (Int32.not_lt.mp (by rw [← e105, ← e114, ← e115]; exact c116)))]
      exact W.iret (v := (nI a)) hx hb hr (fun t9 ht9 hW => ⟨⟨(nI a), _, rfl, ⟨by rw [hz], by rw [hz]⟩, by rw [ht9]; exact hP, hD⟩, hS.F ht9⟩) hS.2.2 dP_combine_124
  by_cases s1_7 : (nI k) = 9
  · have hs1 : k = 9 := (gx_eq (rfl : (nI k) = (nI k)) (rfl : (9 : Int32) = nI 9) (by omega) (by decide)).mp s1_7
    refine lv_tableIn (tgt := 125) hx hb dP_combine_1 (by rw [s1_7]; decide) (by rw [s1_7]; decide) (by rw [s1_7] <;> rfl) (by decide) ?_
    refine lv_aload_n hx hb dP_combine_125 rfl (lv_at hl 0 rfl) ?_
    refine va_get (D := D) (ci := 3) (v := .ref t) (C := R_P) (T := F_P) (N := 4) hx hb ht i_P hown hK hP 0 rfl rfl 2 (by decide) (ht _ m_95) (fun _ h9 => h9) rfl dP_combine_126 ?_
    refine va_getN (D := D) (ci := 4) (v := .ref (tq 3)) (C := R_T) (T := F_T) (N := 9) hx hb ht i_T hown hK hP 7 rfl rfl 3 (by decide) (va_Nw.use rfl (hN _ mn_9)) (fun _ h9 => h9) rfl dP_combine_129 ?_
    refine lv_iload_n hx hb dP_combine_132 rfl (lv_at hl 2 rfl) ?_
    have i133 : vp_in (nI a) 64 := gx_in (rfl : (nI a) = (nI a)) (by omega) (by decide)
    have k133 : ((nI a) : Int32).toNatClampNeg = a := gx_cl (rfl : (nI a) = (nI a)) (by omega)
    refine va_lald hx hb hK hP 11 1 rfl rfl i133 dP_combine_133 ?_
    rw [k133]
    refine lv_topl (fun v133 e133 => ?_)
    refine lv_aload_n hx hb dP_combine_134 rfl (lv_at hl 0 rfl) ?_
    refine va_get (D := D) (ci := 3) (v := .ref t) (C := R_P) (T := F_P) (N := 4) hx hb ht i_P hown hK hP 0 rfl rfl 2 (by decide) (ht _ m_95) (fun _ h9 => h9) rfl dP_combine_135 ?_
    refine va_getN (D := D) (ci := 4) (v := .ref (tq 3)) (C := R_T) (T := F_T) (N := 9) hx hb ht i_T hown hK hP 7 rfl rfl 3 (by decide) (va_Nw.use rfl (hN _ mn_9)) (fun _ h9 => h9) rfl dP_combine_138 ?_
    refine lv_iload_n hx hb dP_combine_141 rfl (lv_at hl 3 rfl) ?_
    have i142 : vp_in (nI b) 64 := gx_in (rfl : (nI b) = (nI b)) (by omega) (by decide)
    have k142 : ((nI b) : Int32).toNatClampNeg = b := gx_cl (rfl : (nI b) = (nI b)) (by omega)
    refine va_lald hx hb hK hP 11 1 rfl rfl i142 dP_combine_142 ?_
    rw [k142]
    refine lv_topl (fun v142 e142 => ?_)
    refine W.lcmp hx hb dP_combine_143 ?_
    refine lv_topi (fun v143 e143 => ?_)
    refine lv_if_lt (tgt := 151) hx hb dP_combine_144 (by decide) (fun c144 => ?_) (fun c144 => ?_)
    · refine lv_iload_n hx hb dP_combine_151 rfl (lv_at hl 3 rfl) ?_
      have hz : px_comb k a b S.1 = (b, S.1) := by unfold px_comb; rw [if_neg (show ¬ k = 2 by omega), if_neg (show ¬ k = 3 by omega), if_neg (show ¬ k = 4 by omega), if_neg (show ¬ k = 5 by omega), if_neg (show ¬ k = 7 by omega), if_neg (show ¬ k = 8 by omega), if_pos hs1, if_neg (fun z => absurd c144 (Int32.not_lt.mpr (by rw [e143, e133, e142]; exact (gl_ge _ _).mpr z)))]
      exact W.iret (v := (nI b)) hx hb hr (fun t9 ht9 hW => ⟨⟨(nI b), _, rfl, ⟨by rw [hz], by rw [hz]⟩, by rw [ht9]; exact hP, hD⟩, hS.F ht9⟩) hS.2.2 dP_combine_152
    · refine lv_iload_n hx hb dP_combine_147 rfl (lv_at hl 2 rfl) ?_
      refine lv_goto (tgt := 152) hx hb dP_combine_148 (by decide) ?_
      have hz : px_comb k a b S.1 = (a, S.1) := by unfold px_comb; rw [if_neg (show ¬ k = 2 by omega), if_neg (show ¬ k = 3 by omega), if_neg (show ¬ k = 4 by omega), if_neg (show ¬ k = 5 by omega), if_neg (show ¬ k = 7 by omega), if_neg (show ¬ k = 8 by omega), if_pos hs1, if_pos ((gl_ge _ _).mp (Int32.not_lt.mp (by rw [← e133, ← e142, ← e143]; exact c144)))]
      exact W.iret (v := (nI a)) hx hb hr (fun t9 ht9 hW => ⟨⟨(nI a), _, rfl, ⟨by rw [hz], by rw [hz]⟩, by rw [ht9]; exact hP, hD⟩, hS.F ht9⟩) hS.2.2 dP_combine_152
  have hn1_0 : ¬ k = 2 := fun z => s1_0 ((gx_eq (rfl : (nI k) = (nI k)) (rfl : (2 : Int32) = nI 2) (by omega) (by decide)).mpr z)
  have hn1_1 : ¬ k = 3 := fun z => s1_1 ((gx_eq (rfl : (nI k) = (nI k)) (rfl : (3 : Int32) = nI 3) (by omega) (by decide)).mpr z)
  have hn1_2 : ¬ k = 4 := fun z => s1_2 ((gx_eq (rfl : (nI k) = (nI k)) (rfl : (4 : Int32) = nI 4) (by omega) (by decide)).mpr z)
  have hn1_3 : ¬ k = 5 := fun z => s1_3 ((gx_eq (rfl : (nI k) = (nI k)) (rfl : (5 : Int32) = nI 5) (by omega) (by decide)).mpr z)
  have hn1_5 : ¬ k = 7 := fun z => s1_5 ((gx_eq (rfl : (nI k) = (nI k)) (rfl : (7 : Int32) = nI 7) (by omega) (by decide)).mpr z)
  have hn1_6 : ¬ k = 8 := fun z => s1_6 ((gx_eq (rfl : (nI k) = (nI k)) (rfl : (8 : Int32) = nI 8) (by omega) (by decide)).mpr z)
  have hn1_7 : ¬ k = 9 := fun z => s1_7 ((gx_eq (rfl : (nI k) = (nI k)) (rfl : (9 : Int32) = nI 9) (by omega) (by decide)).mpr z)
  exfalso; omega

