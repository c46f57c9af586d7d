section GWH
variable {p : Program} {l : Launch} {e : Env} {R : Room} {s : State} {m : MethodId} {args : Array Value} {below : List Frame} {meth : Method} {c : Code} {H : Heap} {locs : List Loc} {cells slots : Nat} {Q : State → Prop}
variable {pc : Nat} {ls : Array Slot} {rest st0 : List Value} {a : Array Value} {A : Nat → Prop} {H0 : Heap} {D : va_G} {ws : va_W}
/-- a call whose callee has the whole world -/
theorem gc_wi {Post : Int32 → va_W → Prop} (hr : va_Run p l e R s m args below meth c H locs cells slots 0 0 (F0 m pc ls st0) rest (gq_I D (va_A ws H.size) Post a) (va_A ws H.size)) (hP : va_P D vwCl ws H) (hD : va_D A ws) (hS : va_S A H0 H locs) (hA : ∀ q, H0.size ≤ q → A q)
    (kk : ∀ (r : Int32) (w : va_W) (H1 : Heap) (locs1 : List Loc), Post r w → va_P D vwCl w H1 → va_D A w → va_S A H0 H1 locs1 → W p l e R s m args below meth c H1 locs1 cells slots Q (F0 m (pc + 3) ls (.int r :: rest))) : W p l e R s m args below meth c H locs cells slots Q (F0 m pc ls st0) := by
  have hF := gr_free (W0 := ws) hD hS hA (fun q h => h)
  refine va_calli hr hS (fun q _ h => hF q h) hF (fun r w t H1 locs1 ht hvm hw hB hz1 hk1 hS => ?_)
  obtain ⟨hP1, hD1⟩ := hB
  rw [ht] at hP1
  exact kk r w H1 locs1 hw hP1 (hD1.weaken (fun k q _ h => hF q.1 h)) hS
theorem gc_wl {Post : Int64 → va_W → Prop} (hr : va_Run p l e R s m args below meth c H locs cells slots 0 0 (F0 m pc ls st0) rest (gq_L D (va_A ws H.size) Post a) (va_A ws H.size)) (hP : va_P D vwCl ws H) (hD : va_D A ws) (hS : va_S A H0 H locs) (hA : ∀ q, H0.size ≤ q → A q)
    (kk : ∀ (r : Int64) (w : va_W) (H1 : Heap) (locs1 : List Loc), Post r w → va_P D vwCl w H1 → va_D A w → va_S A H0 H1 locs1 → W p l e R s m args below meth c H1 locs1 cells slots Q (F0 m (pc + 3) ls (.long r :: rest))) : W p l e R s m args below meth c H locs cells slots Q (F0 m pc ls st0) := by
  have hF := gr_free (W0 := ws) hD hS hA (fun q h => h)
  refine va_calll hr hS (fun q _ h => hF q h) hF (fun r w t H1 locs1 ht hvm hw hB hz1 hk1 hS => ?_)
  obtain ⟨hP1, hD1⟩ := hB
  rw [ht] at hP1
  exact kk r w H1 locs1 hw hP1 (hD1.weaken (fun k q _ h => hF q.1 h)) hS
theorem gc_wv {Post : va_W → Prop} (hr : va_Run p l e R s m args below meth c H locs cells slots 0 0 (F0 m pc ls st0) rest (gq_V D (va_A ws H.size) Post a) (va_A ws H.size)) (hP : va_P D vwCl ws H) (hD : va_D A ws) (hS : va_S A H0 H locs) (hA : ∀ q, H0.size ≤ q → A q)
    (kk : ∀ (w : va_W) (H1 : Heap) (locs1 : List Loc), Post w → va_P D vwCl w H1 → va_D A w → va_S A H0 H1 locs1 → W p l e R s m args below meth c H1 locs1 cells slots Q (F0 m (pc + 3) ls rest)) : W p l e R s m args below meth c H locs cells slots Q (F0 m pc ls st0) := by
  have hF := gr_free (W0 := ws) hD hS hA (fun q h => h)
  refine va_callv hr hS (fun q _ h => hF q h) hF (fun w t H1 locs1 ht hvm hw hB hz1 hk1 hS => ?_)
  obtain ⟨hP1, hD1⟩ := hB
  rw [ht] at hP1
  exact kk w H1 locs1 hw hP1 (hD1.weaken (fun k q _ h => hF q.1 h)) hS
end GWH
/-- evaluate, with so much depth left -/
def cE (l : Launch) (D : va_G) (cI cJ cB cZ : ClassId) (g eo bo t co : Nat) (eq tq : Nat → Nat) (tl : va_W) (X : Ex) (ba : Nat → Option Nat) (f1 f2 f3 f4 : Nat → Int64) (Bs : Nat → Bd) (n : Nat) : Prop := ∀ (d e lv : Nat) (S : Sx), d + n = 51 → e < X.2.2.2.2 → lv < 8 → sx_ok S → ct_I l y_P_evaluate w_P_evaluate ({ frames := 8 * n + 8, cells := 0, slots := 0, locals := 200 * n + 200 }) D (gk_T cI cJ cB cZ) [.ref g, .int (nI e), .int (nI lv), .int (nI d)] (wPg cI cJ cB g eo bo t co eq tq X ba S f1 f2 f3 f4 ++ tl) 0 0 (fun r w => r = nI ((pg X ba Bs n).1 e lv S).1 ∧ w = (wPg cI cJ cB g eo bo t co eq tq X ba (((pg X ba Bs n).1 e lv S).2) f1 f2 f3 f4 ++ tl))
/-- doBlock -/
def cBl (l : Launch) (D : va_G) (cI cJ cB cZ : ClassId) (g eo bo t co : Nat) (eq tq : Nat → Nat) (tl : va_W) (X : Ex) (ba : Nat → Option Nat) (f1 f2 f3 f4 : Nat → Int64) (Bs : Nat → Bd) (n : Nat) : Prop := ∀ (d f o : Nat) (q : Nat → Nat) (i j lv : Nat) (S : Sx), d + n = 51 → f < 8 → ba f = some o → (wB cI o q (Bs f)).Sublist tl → bd_ok X (Bs f) → i ≤ 14 → j ≤ (Bs f).2.2.2.2.2.2.1 → lv < 8 → sx_ok S → ct_V l y_P_doBlock w_P_doBlock ({ frames := 8 * n + 8, cells := 0, slots := 0, locals := 200 * n + 200 }) D (gk_T cI cJ cB cZ) [.ref g, .ref o, .int (nI i), .int (nI j), .int (nI lv), .int (nI d)] (wPg cI cJ cB g eo bo t co eq tq X ba S f1 f2 f3 f4 ++ tl) 0 0 (fun w => w = (wPg cI cJ cB g eo bo t co eq tq X ba ((pg X ba Bs n).2 (Bs f) i j lv S) f1 f2 f3 f4 ++ tl))
/-- enter -/
def cN (l : Launch) (D : va_G) (cI cJ cB cZ : ClassId) (g eo bo t co : Nat) (eq tq : Nat → Nat) (tl : va_W) (X : Ex) (ba : Nat → Option Nat) (f1 f2 f3 f4 : Nat → Int64) (Bs : Nat → Bd) (n : Nat) : Prop := ∀ (d f x y lv : Nat) (S : Sx), d + n = 51 → f < 8 → x < 64 → y < 64 → lv ≤ 8 → sx_ok S → ct_I l y_P_enter w_P_enter ({ frames := 8 * n + 10, cells := 0, slots := 0, locals := 200 * n + 260 }) D (gk_T cI cJ cB cZ) [.ref g, .int (nI f), .int (nI x), .int (nI y), .int (nI lv), .int (nI d)] (wPg cI cJ cB g eo bo t co eq tq X ba S f1 f2 f3 f4 ++ tl) 0 0 (fun r w => r = nI (px_ent ba Bs (pg X ba Bs n).2 f x y lv S).1 ∧ w = (wPg cI cJ cB g eo bo t co eq tq X ba ((px_ent ba Bs (pg X ba Bs n).2 f x y lv S).2) f1 f2 f3 f4 ++ tl))
set_option maxHeartbeats 4000000 in
set_option maxRecDepth 100000 in
theorem c_P_evaluate_0 (l : Launch) (D : va_G) (cI cJ cB cZ : ClassId) (g eo bo t co : Nat) (eq tq : Nat → Nat) (tl : va_W) (X : Ex) (ba : Nat → Option Nat) (f1 f2 f3 f4 : Nat → Int64) (Bs : Nat → Bd) (n d e lv : Nat) (S : Sx) (hE : cE l D cI cJ cB cZ g eo bo t co eq tq tl X ba f1 f2 f3 f4 Bs n) (hN9 : cN l D cI cJ cB cZ g eo bo t co eq tq tl X ba f1 f2 f3 f4 Bs n) (hd : d + (n + 1) = 51) (hX80 : X.2.2.2.2 ≤ 80) (he : e < X.2.2.2.2) (hlv : lv < 8) (hS9 : sx_ok S) (hre : re_ok X (pg X ba Bs n).1) (hke : X.1 e = 0) : ct_I l y_P_evaluate w_P_evaluate ({ frames := 8 * (n + 1) + 8, cells := 0, slots := 0, locals := 200 * (n + 1) + 200 }) D (gk_T cI cJ cB cZ) [.ref g, .int (nI e), .int (nI lv), .int (nI d)] (wPg cI cJ cB g eo bo t co eq tq X ba S f1 f2 f3 f4 ++ tl) (0) (0) (fun r w => r = nI ((pg X ba Bs (n + 1)).1 e lv S).1 ∧ w = (wPg cI cJ cB g eo bo t co eq tq X ba (((pg X ba Bs (n + 1)).1 e lv S).2) f1 f2 f3 f4 ++ tl)) := by
  intro sz
  refine Met.ofW (cc := b_P_evaluate) (maxL := 9) (ret := (some .int)) (by decide) rfl ?_
  intro p ev9 s m args below meth c s₁ B9 hml hv
  obtain ⟨rfl, hsz, hP, hK, hN, hD0⟩ := hv
  have hx := B9.exec
  have hb := B9.bytes
  have hr := B9.returns
  have hts := atoms_spec (ws := w_P_evaluate) B9.pre
  have ht : ∀ w ∈ gk_big, w.before _ s = true := fun w h => hts w (List.mem_cons_of_mem _ h)
  have hown : s.vm.findClass R_P = some m.cls := findClass_of_methodNamed B9.named
  have hlocks := B9.notSynchronized
  subst hsz
  have hD := hD0.self (sz := s.heap.size)
  generalize hAe : va_A (wPg cI cJ cB g eo bo t co eq tq X ba S f1 f2 f3 f4 ++ tl) s.heap.size = A at hD ⊢
  have hA : ∀ q : Nat, s.heap.size ≤ q → A q := fun q h => by rw [← hAe]; exact Or.inr h
  generalize hHe : s.heap = H at hP ⊢
  have hS : va_S A s.heap H [] := by rw [← hHe]; exact va_S.rf
  have hP : va_P D vwCl ([(g, .inr (3, [.ref eo, .ref bo, .ref t, .ref co])), (eo, .inr (2, [.ref (eq 0), .ref (eq 1), .ref (eq 2), .ref (eq 3), .int (nI X.2.2.2.2)])), ((eq 0), .inl (cI, 80, .inl X.1)), ((eq 1), .inl (cI, 80, .inl X.2.1)), ((eq 2), .inl (cI, 80, .inl X.2.2.1)), ((eq 3), .inl (cI, 80, .inl X.2.2.2.1)), (bo, .inl (cB, 8, .inr (.inr (.inr (.inr ba))))), (t, .inr (4, [.ref (tq 0), .ref (tq 1), .ref (tq 2), .ref (tq 3), .ref (tq 4), .ref (tq 5), .ref (tq 6), .ref (tq 7), .int (nI S.1.2.2.2.2)])), ((tq 0), .inl (cI, 64, .inl (fun z9 => nI (S.1.1 z9)))), ((tq 1), .inl (cI, 64, .inl (fun z9 => nI (S.1.2.1 z9)))), ((tq 2), .inl (cI, 64, .inl (fun z9 => nI (S.1.2.2.1 z9)))), ((tq 3), .inl (cJ, 64, .inr (.inl S.1.2.2.2.1))), ((tq 4), .inl (cJ, 64, .inr (.inl f1))), ((tq 5), .inl (cJ, 64, .inr (.inl f2))), ((tq 6), .inl (cJ, 64, .inr (.inl f3))), ((tq 7), .inl (cJ, 64, .inr (.inl f4))), (co, .inl (cI, 112, .inl (fun z9 => nI (S.2 z9))))] ++ tl) H := hP
  have hD : va_D A ([(g, .inr (3, [.ref eo, .ref bo, .ref t, .ref co])), (eo, .inr (2, [.ref (eq 0), .ref (eq 1), .ref (eq 2), .ref (eq 3), .int (nI X.2.2.2.2)])), ((eq 0), .inl (cI, 80, .inl X.1)), ((eq 1), .inl (cI, 80, .inl X.2.1)), ((eq 2), .inl (cI, 80, .inl X.2.2.1)), ((eq 3), .inl (cI, 80, .inl X.2.2.2.1)), (bo, .inl (cB, 8, .inr (.inr (.inr (.inr ba))))), (t, .inr (4, [.ref (tq 0), .ref (tq 1), .ref (tq 2), .ref (tq 3), .ref (tq 4), .ref (tq 5), .ref (tq 6), .ref (tq 7), .int (nI S.1.2.2.2.2)])), ((tq 0), .inl (cI, 64, .inl (fun z9 => nI (S.1.1 z9)))), ((tq 1), .inl (cI, 64, .inl (fun z9 => nI (S.1.2.1 z9)))), ((tq 2), .inl (cI, 64, .inl (fun z9 => nI (S.1.2.2.1 z9)))), ((tq 3), .inl (cJ, 64, .inr (.inl S.1.2.2.2.1))), ((tq 4), .inl (cJ, 64, .inr (.inl f1))), ((tq 5), .inl (cJ, 64, .inr (.inl f2))), ((tq 6), .inl (cJ, 64, .inr (.inl f3))), ((tq 7), .inl (cJ, 64, .inr (.inl f4))), (co, .inl (cI, 112, .inl (fun z9 => nI (S.2 z9))))] ++ tl) := hD
  have hl := lv_entry ([.ref g, .int (nI e), .int (nI lv), .int (nI d)]) (n := 9) (Nat.le_of_ble_eq_true rfl)
  rw [lg_entry_eq]
  generalize (lg_sl ([.ref g, .int (nI e), .int (nI lv), .int (nI d)]) ++ List.replicate (9 - (lg_sl ([.ref g, .int (nI e), .int (nI lv), .int (nI d)])).length) Slot.unset).toArray = ls at hl ⊢
  have hl : lv_has ls 9 [(0, .ref g), (1, .int (nI e)), (2, .int (nI lv)), (3, .int (nI d))] := hl
  have hSn := hS9.1
  have hSc := hS9.2
  refine lv_iload_n hx hb dP_evaluate_0 rfl (lv_at hl 3 rfl) ?_
  refine lv_bipush (v := 50) hx hb dP_evaluate_1 (by decide) ?_
  refine lv_icmp_le (tgt := 8) hx hb dP_evaluate_3 (by decide) (fun c3 => ?_) (fun c3 => ?_)
  · have g3 : d ≤ 50 := (gx_le (rfl : (nI d) = (nI d)) (rfl : (50 : Int32) = nI 50) (by omega) (by decide)).mp c3
    refine lv_aload_n hx hb dP_evaluate_8 rfl (lv_at hl 0 rfl) ?_
    refine va_get (D := D) (ci := 3) (v := .ref eo) (C := R_P) (T := F_P) (N := 4) hx hb ht i_P hown hK hP 0 rfl rfl 0 (by decide) (ht _ m_91) (fun _ h9 => h9) rfl dP_evaluate_9 ?_
    refine va_getN (D := D) (ci := 2) (v := .ref (eq 0)) (C := R_E) (T := F_E) (N := 5) hx hb ht i_E hown hK hP 1 rfl rfl 0 (by decide) (va_Nw.use rfl (hN _ mn_2)) (fun _ h9 => h9) rfl dP_evaluate_12 ?_
    refine lv_iload_n hx hb dP_evaluate_15 rfl (lv_at hl 1 rfl) ?_
    have i16 : vp_in (nI e) 80 := gx_in (rfl : (nI e) = (nI e)) (by omega) (by decide)
    have k16 : ((nI e) : Int32).toNatClampNeg = e := gx_cl (rfl : (nI e) = (nI e)) (by omega)
    refine va_iald hx hb hK hP 2 0 rfl rfl i16 dP_evaluate_16 ?_
    rw [k16]
    refine lv_topi (fun v16 e16 => ?_)
    rw [hke] at e16
    subst e16
    refine lv_istore (lv' := [(4, .int 0), (0, .ref g), (1, .int (nI e)), (2, .int (nI lv)), (3, .int (nI d))]) hx hb dP_evaluate_17 hl (by decide) rfl (fun ls hl => ?_)
    refine lv_aload_n hx hb dP_evaluate_19 rfl (lv_at hl 1 rfl) ?_
    refine va_get (D := D) (ci := 3) (v := .ref eo) (C := R_P) (T := F_P) (N := 4) hx hb ht i_P hown hK hP 0 rfl rfl 0 (by decide) (ht _ m_91) (fun _ h9 => h9) rfl dP_evaluate_20 ?_
    refine va_getN (D := D) (ci := 2) (v := .ref (eq 1)) (C := R_E) (T := F_E) (N := 5) hx hb ht i_E hown hK hP 1 rfl rfl 1 (by decide) (va_Nw.use rfl (hN _ mn_3)) (fun _ h9 => h9) rfl dP_evaluate_23 ?_
    refine lv_iload_n hx hb dP_evaluate_26 rfl (lv_at hl 2 rfl) ?_
    have i27 : vp_in (nI e) 80 := gx_in (rfl : (nI e) = (nI e)) (by omega) (by decide)
    have k27 : ((nI e) : Int32).toNatClampNeg = e := gx_cl (rfl : (nI e) = (nI e)) (by omega)
    refine va_iald hx hb hK hP 3 0 rfl rfl i27 dP_evaluate_27 ?_
    rw [k27]
    refine lv_topi (fun v27 e27 => ?_)
    refine lv_istore (lv' := [(5, .int v27), (4, .int 0), (0, .ref g), (1, .int (nI e)), (2, .int (nI lv)), (3, .int (nI d))]) hx hb dP_evaluate_28 hl (by decide) rfl (fun ls hl => ?_)
    refine lv_aload_n hx hb dP_evaluate_30 rfl (lv_at hl 2 rfl) ?_
    refine va_get (D := D) (ci := 3) (v := .ref eo) (C := R_P) (T := F_P) (N := 4) hx hb ht i_P hown hK hP 0 rfl rfl 0 (by decide) (ht _ m_91) (fun _ h9 => h9) rfl dP_evaluate_31 ?_
    refine va_getN (D := D) (ci := 2) (v := .ref (eq 2)) (C := R_E) (T := F_E) (N := 5) hx hb ht i_E hown hK hP 1 rfl rfl 2 (by decide) (va_Nw.use rfl (hN _ mn_4)) (fun _ h9 => h9) rfl dP_evaluate_34 ?_
    refine lv_iload_n hx hb dP_evaluate_37 rfl (lv_at hl 3 rfl) ?_
    have i38 : vp_in (nI e) 80 := gx_in (rfl : (nI e) = (nI e)) (by omega) (by decide)
    have k38 : ((nI e) : Int32).toNatClampNeg = e := gx_cl (rfl : (nI e) = (nI e)) (by omega)
    refine va_iald hx hb hK hP 4 0 rfl rfl i38 dP_evaluate_38 ?_
    rw [k38]
    refine lv_topi (fun v38 e38 => ?_)
    refine lv_istore (lv' := [(6, .int v38), (5, .int v27), (4, .int 0), (0, .ref g), (1, .int (nI e)), (2, .int (nI lv)), (3, .int (nI d))]) hx hb dP_evaluate_39 hl (by decide) rfl (fun ls hl => ?_)
    refine lv_iload hx hb dP_evaluate_41 (lv_at hl 2 rfl) ?_
    refine gc_i (va_runS (As := [.int 0]) (rest := []) ⟨hx, hb, hml, hown, ht⟩ (c_E_hasLeft l D cI cJ cB cZ 0 H.size) (va_cwS 1 ht (gw_S m_341 m_165 m_3 m_166) rfl rfl rfl (by decide +kernel) ⟨show 0 + 1 ≤ 8 * (n + 1) + 8 by omega, show 8 + (1 + 11) + (0) ≤ 200 * (n + 1) + 200 by omega⟩) (gp_S hK hN (hP.sub (ws' := ([] : va_W)) [] rfl) (hD.sub (ws' := ([] : va_W)) [] (by decide) rfl)) rfl rfl hl.1 rfl (lv_room (Nat.le_of_ble_eq_true rfl)) dP_evaluate_43 ⟨Nat.le_of_ble_eq_true rfl, Nat.le_of_ble_eq_true rfl⟩) hP hD hS hA [] rfl (by decide) (fun r w h => by obtain ⟨_, rfl⟩ := h; rfl) (fun r43 w43 H locs p43 hP hD hS => ?_)
    obtain ⟨rfl, rfl⟩ := p43
    have hP : va_P D vwCl ([(g, .inr (3, [.ref eo, .ref bo, .ref t, .ref co])), (eo, .inr (2, [.ref (eq 0), .ref (eq 1), .ref (eq 2), .ref (eq 3), .int (nI X.2.2.2.2)])), ((eq 0), .inl (cI, 80, .inl X.1)), ((eq 1), .inl (cI, 80, .inl X.2.1)), ((eq 2), .inl (cI, 80, .inl X.2.2.1)), ((eq 3), .inl (cI, 80, .inl X.2.2.2.1)), (bo, .inl (cB, 8, .inr (.inr (.inr (.inr ba))))), (t, .inr (4, [.ref (tq 0), .ref (tq 1), .ref (tq 2), .ref (tq 3), .ref (tq 4), .ref (tq 5), .ref (tq 6), .ref (tq 7), .int (nI S.1.2.2.2.2)])), ((tq 0), .inl (cI, 64, .inl (fun z9 => nI (S.1.1 z9)))), ((tq 1), .inl (cI, 64, .inl (fun z9 => nI (S.1.2.1 z9)))), ((tq 2), .inl (cI, 64, .inl (fun z9 => nI (S.1.2.2.1 z9)))), ((tq 3), .inl (cJ, 64, .inr (.inl S.1.2.2.2.1))), ((tq 4), .inl (cJ, 64, .inr (.inl f1))), ((tq 5), .inl (cJ, 64, .inr (.inl f2))), ((tq 6), .inl (cJ, 64, .inr (.inl f3))), ((tq 7), .inl (cJ, 64, .inr (.inl f4))), (co, .inl (cI, 112, .inl (fun z9 => nI (S.2 z9))))] ++ tl) H := hP
    have hD : va_D A ([(g, .inr (3, [.ref eo, .ref bo, .ref t, .ref co])), (eo, .inr (2, [.ref (eq 0), .ref (eq 1), .ref (eq 2), .ref (eq 3), .int (nI X.2.2.2.2)])), ((eq 0), .inl (cI, 80, .inl X.1)), ((eq 1), .inl (cI, 80, .inl X.2.1)), ((eq 2), .inl (cI, 80, .inl X.2.2.1)), ((eq 3), .inl (cI, 80, .inl X.2.2.2.1)), (bo, .inl (cB, 8, .inr (.inr (.inr (.inr ba))))), (t, .inr (4, [.ref (tq 0), .ref (tq 1), .ref (tq 2), .ref (tq 3), .ref (tq 4), .ref (tq 5), .ref (tq 6), .ref (tq 7), .int (nI S.1.2.2.2.2)])), ((tq 0), .inl (cI, 64, .inl (fun z9 => nI (S.1.1 z9)))), ((tq 1), .inl (cI, 64, .inl (fun z9 => nI (S.1.2.1 z9)))), ((tq 2), .inl (cI, 64, .inl (fun z9 => nI (S.1.2.2.1 z9)))), ((tq 3), .inl (cJ, 64, .inr (.inl S.1.2.2.2.1))), ((tq 4), .inl (cJ, 64, .inr (.inl f1))), ((tq 5), .inl (cJ, 64, .inr (.inl f2))), ((tq 6), .inl (cJ, 64, .inr (.inl f3))), ((tq 7), .inl (cJ, 64, .inr (.inl f4))), (co, .inl (cI, 112, .inl (fun z9 => nI (S.2 z9))))] ++ tl) := hD
    refine lv_if_eq (tgt := 62) hx hb dP_evaluate_46 (by decide) (fun c46 => ?_) (fun c46 => ?_)
    · refine lv_iconst (v := 0) hx hb dP_evaluate_62 (by decide) ?_
      refine lv_istore (lv' := [(7, .int 0), (6, .int v38), (5, .int v27), (4, .int 0), (0, .ref g), (1, .int (nI e)), (2, .int (nI lv)), (3, .int (nI d))]) hx hb dP_evaluate_63 hl (by decide) rfl (fun ls hl => ?_)
      refine lv_iload hx hb dP_evaluate_65 (lv_at hl 3 rfl) ?_
      refine gc_i (va_runS (As := [.int 0]) (rest := []) ⟨hx, hb, hml, hown, ht⟩ (c_E_hasRight l D cI cJ cB cZ 0 H.size) (va_cwS 1 ht (gw_S m_342 m_175 m_3 m_176) rfl rfl rfl (by decide +kernel) ⟨show 0 + 1 ≤ 8 * (n + 1) + 8 by omega, show 8 + (1 + 11) + (0) ≤ 200 * (n + 1) + 200 by omega⟩) (gp_S hK hN (hP.sub (ws' := ([] : va_W)) [] rfl) (hD.sub (ws' := ([] : va_W)) [] (by decide) rfl)) rfl rfl hl.1 rfl (lv_room (Nat.le_of_ble_eq_true rfl)) dP_evaluate_67 ⟨Nat.le_of_ble_eq_true rfl, Nat.le_of_ble_eq_true rfl⟩) hP hD hS hA [] rfl (by decide) (fun r w h => by obtain ⟨_, rfl⟩ := h; rfl) (fun r67 w67 H locs p67 hP hD hS => ?_)
      obtain ⟨rfl, rfl⟩ := p67
      have hP : va_P D vwCl ([(g, .inr (3, [.ref eo, .ref bo, .ref t, .ref co])), (eo, .inr (2, [.ref (eq 0), .ref (eq 1), .ref (eq 2), .ref (eq 3), .int (nI X.2.2.2.2)])), ((eq 0), .inl (cI, 80, .inl X.1)), ((eq 1), .inl (cI, 80, .inl X.2.1)), ((eq 2), .inl (cI, 80, .inl X.2.2.1)), ((eq 3), .inl (cI, 80, .inl X.2.2.2.1)), (bo, .inl (cB, 8, .inr (.inr (.inr (.inr ba))))), (t, .inr (4, [.ref (tq 0), .ref (tq 1), .ref (tq 2), .ref (tq 3), .ref (tq 4), .ref (tq 5), .ref (tq 6), .ref (tq 7), .int (nI S.1.2.2.2.2)])), ((tq 0), .inl (cI, 64, .inl (fun z9 => nI (S.1.1 z9)))), ((tq 1), .inl (cI, 64, .inl (fun z9 => nI (S.1.2.1 z9)))), ((tq 2), .inl (cI, 64, .inl (fun z9 => nI (S.1.2.2.1 z9)))), ((tq 3), .inl (cJ, 64, .inr (.inl S.1.2.2.2.1))), ((tq 4), .inl (cJ, 64, .inr (.inl f1))), ((tq 5), .inl (cJ, 64, .inr (.inl f2))), ((tq 6), .inl (cJ, 64, .inr (.inl f3))), ((tq 7), .inl (cJ, 64, .inr (.inl f4))), (co, .inl (cI, 112, .inl (fun z9 => nI (S.2 z9))))] ++ tl) H := hP
      have hD : va_D A ([(g, .inr (3, [.ref eo, .ref bo, .ref t, .ref co])), (eo, .inr (2, [.ref (eq 0), .ref (eq 1), .ref (eq 2), .ref (eq 3), .int (nI X.2.2.2.2)])), ((eq 0), .inl (cI, 80, .inl X.1)), ((eq 1), .inl (cI, 80, .inl X.2.1)), ((eq 2), .inl (cI, 80, .inl X.2.2.1)), ((eq 3), .inl (cI, 80, .inl X.2.2.2.1)), (bo, .inl (cB, 8, .inr (.inr (.inr (.inr ba))))), (t, .inr (4, [.ref (tq 0), .ref (tq 1), .ref (tq 2), .ref (tq 3), .ref (tq 4), .ref (tq 5), .ref (tq 6), .ref (tq 7), .int (nI S.1.2.2.2.2)])), ((tq 0), .inl (cI, 64, .inl (fun z9 => nI (S.1.1 z9)))), ((tq 1), .inl (cI, 64, .inl (fun z9 => nI (S.1.2.1 z9)))), ((tq 2), .inl (cI, 64, .inl (fun z9 => nI (S.1.2.2.1 z9)))), ((tq 3), .inl (cJ, 64, .inr (.inl S.1.2.2.2.1))), ((tq 4), .inl (cJ, 64, .inr (.inl f1))), ((tq 5), .inl (cJ, 64, .inr (.inl f2))), ((tq 6), .inl (cJ, 64, .inr (.inl f3))), ((tq 7), .inl (cJ, 64, .inr (.inl f4))), (co, .inl (cI, 112, .inl (fun z9 => nI (S.2 z9))))] ++ tl) := hD
      refine lv_if_eq (tgt := 86) hx hb dP_evaluate_70 (by decide) (fun c70 => ?_) (fun c70 => ?_)
      · refine lv_iconst (v := 0) hx hb dP_evaluate_86 (by decide) ?_
        refine lv_istore (lv' := [(8, .int 0), (7, .int 0), (6, .int v38), (5, .int v27), (4, .int 0), (0, .ref g), (1, .int (nI e)), (2, .int (nI lv)), (3, .int (nI d))]) hx hb dP_evaluate_87 hl (by decide) rfl (fun ls hl => ?_)
        refine lv_iload hx hb dP_evaluate_89 (lv_at hl 4 rfl) ?_
        refine lv_tableIn (tgt := 152) (off := 61) hx hb dP_evaluate_91 (by decide) (by decide) (by rfl) (by decide) ?_
        refine lv_aload_n hx hb dP_evaluate_152 rfl (lv_at hl 5 rfl) ?_
        refine va_get (D := D) (ci := 3) (v := .ref t) (C := R_P) (T := F_P) (N := 4) hx hb ht i_P hown hK hP 0 rfl rfl 2 (by decide) (ht _ m_95) (fun _ h9 => h9) rfl dP_evaluate_153 ?_
        refine lv_iload hx hb dP_evaluate_156 (lv_at hl 3 rfl) ?_
        refine lv_i2l hx hb dP_evaluate_158 rfl ?_
        refine lv_topl (fun v158 e158 => ?_)
        rw [e27] at e158
        subst e158
        refine gc_i (va_runV (As := [.long ((X.2.1 e).toInt64)]) (rest := []) ⟨hx, hb, hml, hown, ht⟩ (c_T_constant l D cI cJ cB cZ t tq S.1 f1 f2 f3 f4 ((X.2.1 e).toInt64) (by omega) H.size) (cwV 1 ht (gw_V m_343 m_344 m_345 m_4 m_346) rfl rfl rfl (by decide +kernel) ⟨show 1 + 1 ≤ 8 * (n + 1) + 8 by omega, show 8 + (3 + 11) + (26) ≤ 200 * (n + 1) + 200 by omega⟩) (gp_V (ci := 4) (q0 := 0) hK hN (hP.sub (ws' := (wTr cI cJ t tq S.1 f1 f2 f3 f4)) [7, 8, 9, 10, 11, 12, 13, 14, 15] rfl) (hD.sub (ws' := (wTr cI cJ t tq S.1 f1 f2 f3 f4)) [7, 8, 9, 10, 11, 12, 13, 14, 15] (by decide) rfl) rfl rfl) rfl rfl hl.1 rfl (lv_room (Nat.le_of_ble_eq_true rfl)) dP_evaluate_159 ⟨Nat.le_of_ble_eq_true rfl, Nat.le_of_ble_eq_true rfl⟩) hP hD hS hA [7, 8, 9, 10, 11, 12, 13, 14, 15] rfl (by decide) (fun r w h => by obtain ⟨_, rfl⟩ := h; rfl) (fun r159 w159 H locs p159 hP hD hS => ?_)
        obtain ⟨rfl, rfl⟩ := p159
        have hP : va_P D vwCl ([(g, .inr (3, [.ref eo, .ref bo, .ref t, .ref co])), (eo, .inr (2, [.ref (eq 0), .ref (eq 1), .ref (eq 2), .ref (eq 3), .int (nI X.2.2.2.2)])), ((eq 0), .inl (cI, 80, .inl X.1)), ((eq 1), .inl (cI, 80, .inl X.2.1)), ((eq 2), .inl (cI, 80, .inl X.2.2.1)), ((eq 3), .inl (cI, 80, .inl X.2.2.2.1)), (bo, .inl (cB, 8, .inr (.inr (.inr (.inr ba))))), (t, .inr (4, [.ref (tq 0), .ref (tq 1), .ref (tq 2), .ref (tq 3), .ref (tq 4), .ref (tq 5), .ref (tq 6), .ref (tq 7), .int (nI ((tr_add S.1 0 0 0 ((X.2.1 e).toInt64)).2.2.2.2))])), ((tq 0), .inl (cI, 64, .inl (fun z9 => nI (((tr_add S.1 0 0 0 ((X.2.1 e).toInt64)).1) z9)))), ((tq 1), .inl (cI, 64, .inl (fun z9 => nI (((tr_add S.1 0 0 0 ((X.2.1 e).toInt64)).2.1) z9)))), ((tq 2), .inl (cI, 64, .inl (fun z9 => nI (((tr_add S.1 0 0 0 ((X.2.1 e).toInt64)).2.2.1) z9)))), ((tq 3), .inl (cJ, 64, .inr (.inl ((tr_add S.1 0 0 0 ((X.2.1 e).toInt64)).2.2.2.1)))), ((tq 4), .inl (cJ, 64, .inr (.inl f1))), ((tq 5), .inl (cJ, 64, .inr (.inl f2))), ((tq 6), .inl (cJ, 64, .inr (.inl f3))), ((tq 7), .inl (cJ, 64, .inr (.inl f4))), (co, .inl (cI, 112, .inl (fun z9 => nI (S.2 z9))))] ++ tl) H := hP
        have hD : va_D A ([(g, .inr (3, [.ref eo, .ref bo, .ref t, .ref co])), (eo, .inr (2, [.ref (eq 0), .ref (eq 1), .ref (eq 2), .ref (eq 3), .int (nI X.2.2.2.2)])), ((eq 0), .inl (cI, 80, .inl X.1)), ((eq 1), .inl (cI, 80, .inl X.2.1)), ((eq 2), .inl (cI, 80, .inl X.2.2.1)), ((eq 3), .inl (cI, 80, .inl X.2.2.2.1)), (bo, .inl (cB, 8, .inr (.inr (.inr (.inr ba))))), (t, .inr (4, [.ref (tq 0), .ref (tq 1), .ref (tq 2), .ref (tq 3), .ref (tq 4), .ref (tq 5), .ref (tq 6), .ref (tq 7), .int (nI ((tr_add S.1 0 0 0 ((X.2.1 e).toInt64)).2.2.2.2))])), ((tq 0), .inl (cI, 64, .inl (fun z9 => nI (((tr_add S.1 0 0 0 ((X.2.1 e).toInt64)).1) z9)))), ((tq 1), .inl (cI, 64, .inl (fun z9 => nI (((tr_add S.1 0 0 0 ((X.2.1 e).toInt64)).2.1) z9)))), ((tq 2), .inl (cI, 64, .inl (fun z9 => nI (((tr_add S.1 0 0 0 ((X.2.1 e).toInt64)).2.2.1) z9)))), ((tq 3), .inl (cJ, 64, .inr (.inl ((tr_add S.1 0 0 0 ((X.2.1 e).toInt64)).2.2.2.1)))), ((tq 4), .inl (cJ, 64, .inr (.inl f1))), ((tq 5), .inl (cJ, 64, .inr (.inl f2))), ((tq 6), .inl (cJ, 64, .inr (.inl f3))), ((tq 7), .inl (cJ, 64, .inr (.inl f4))), (co, .inl (cI, 112, .inl (fun z9 => nI (S.2 z9))))] ++ tl) := hD
        have hz : (pg X ba Bs (n + 1)).1 e lv S = ((tr_ix S.1), (tr_add S.1 0 0 0 ((X.2.1 e).toInt64), S.2)) := by
          show px_ev X (pg X ba Bs n).1 (px_ent ba Bs (pg X ba Bs n).2) e lv S = _
          simp [px_ev, px_r1, px_r2, px_R, hke, show cn (0 : Int32) = 0 from rfl]
        exact W.iret (v := (nI (tr_ix S.1))) hx hb hr (fun t9 ht9 hW => ⟨⟨(nI (tr_ix S.1)), _, rfl, ⟨by rw [hz], by rw [hz]⟩, by rw [ht9]; exact hP, hD⟩, hS.F ht9⟩) hS.2.2 dP_evaluate_162
      · exact absurd (gb_1.mpr (by decide)) c70
    · exact absurd (gb_1.mpr (by decide)) c46
  · have g3 : ¬ (d ≤ 50) := fun z => c3 ((gx_le (rfl : (nI d) = (nI d)) (rfl : (50 : Int32) = nI 50) (by omega) (by decide)).mpr z)
    exact absurd g3 (by omega)

set_option maxHeartbeats 4000000 in
set_option maxRecDepth 100000 in
theorem c_P_evaluate_1 (l : Launch) (D : va_G) (cI cJ cB cZ : ClassId) (g eo bo t co : Nat) (eq tq : Nat → Nat) (tl : va_W) (X : Ex) (ba : Nat → Option Nat) (f1 f2 f3 f4 : Nat → Int64) (Bs : Nat → Bd) (n d e lv : Nat) (S : Sx) (a : Nat) (hE : cE l D cI cJ cB cZ g eo bo t co eq tq tl X ba f1 f2 f3 f4 Bs n) (hN9 : cN l D cI cJ cB cZ g eo bo t co eq tq tl X ba f1 f2 f3 f4 Bs n) (hd : d + (n + 1) = 51) (hX80 : X.2.2.2.2 ≤ 80) (he : e < X.2.2.2.2) (hlv : lv < 8) (hS9 : sx_ok S) (hre : re_ok X (pg X ba Bs n).1) (hke : X.1 e = 1) (ha : a < 6) (hea : X.2.1 e = nI a) : ct_I l y_P_evaluate w_P_evaluate ({ frames := 8 * (n + 1) + 8, cells := 0, slots := 0, locals := 200 * (n + 1) + 200 }) D (gk_T cI cJ cB cZ) [.ref g, .int (nI e), .int (nI lv), .int (nI d)] (wPg cI cJ cB g eo bo t co eq tq X ba S f1 f2 f3 f4 ++ tl) (0) (0) (fun r w => r = nI ((pg X ba Bs (n + 1)).1 e lv S).1 ∧ w = (wPg cI cJ cB g eo bo t co eq tq X ba (((pg X ba Bs (n + 1)).1 e lv S).2) f1 f2 f3 f4 ++ tl)) := by
  intro sz
  refine Met.ofW (cc := b_P_evaluate) (maxL := 9) (ret := (some .int)) (by decide) rfl ?_
  intro p ev9 s m args below meth c s₁ B9 hml hv
  obtain ⟨rfl, hsz, hP, hK, hN, hD0⟩ := hv
  have hx := B9.exec
  have hb := B9.bytes
  have hr := B9.returns
  have hts := atoms_spec (ws := w_P_evaluate) B9.pre
  have ht : ∀ w ∈ gk_big, w.before _ s = true := fun w h => hts w (List.mem_cons_of_mem _ h)
  have hown : s.vm.findClass R_P = some m.cls := findClass_of_methodNamed B9.named
  have hlocks := B9.notSynchronized
  subst hsz
  have hD := hD0.self (sz := s.heap.size)
  generalize hAe : va_A (wPg cI cJ cB g eo bo t co eq tq X ba S f1 f2 f3 f4 ++ tl) s.heap.size = A at hD ⊢
  have hA : ∀ q : Nat, s.heap.size ≤ q → A q := fun q h => by rw [← hAe]; exact Or.inr h
  generalize hHe : s.heap = H at hP ⊢
  have hS : va_S A s.heap H [] := by rw [← hHe]; exact va_S.rf
  have hP : va_P D vwCl ([(g, .inr (3, [.ref eo, .ref bo, .ref t, .ref co])), (eo, .inr (2, [.ref (eq 0), .ref (eq 1), .ref (eq 2), .ref (eq 3), .int (nI X.2.2.2.2)])), ((eq 0), .inl (cI, 80, .inl X.1)), ((eq 1), .inl (cI, 80, .inl X.2.1)), ((eq 2), .inl (cI, 80, .inl X.2.2.1)), ((eq 3), .inl (cI, 80, .inl X.2.2.2.1)), (bo, .inl (cB, 8, .inr (.inr (.inr (.inr ba))))), (t, .inr (4, [.ref (tq 0), .ref (tq 1), .ref (tq 2), .ref (tq 3), .ref (tq 4), .ref (tq 5), .ref (tq 6), .ref (tq 7), .int (nI S.1.2.2.2.2)])), ((tq 0), .inl (cI, 64, .inl (fun z9 => nI (S.1.1 z9)))), ((tq 1), .inl (cI, 64, .inl (fun z9 => nI (S.1.2.1 z9)))), ((tq 2), .inl (cI, 64, .inl (fun z9 => nI (S.1.2.2.1 z9)))), ((tq 3), .inl (cJ, 64, .inr (.inl S.1.2.2.2.1))), ((tq 4), .inl (cJ, 64, .inr (.inl f1))), ((tq 5), .inl (cJ, 64, .inr (.inl f2))), ((tq 6), .inl (cJ, 64, .inr (.inl f3))), ((tq 7), .inl (cJ, 64, .inr (.inl f4))), (co, .inl (cI, 112, .inl (fun z9 => nI (S.2 z9))))] ++ tl) H := hP
  have hD : va_D A ([(g, .inr (3, [.ref eo, .ref bo, .ref t, .ref co])), (eo, .inr (2, [.ref (eq 0), .ref (eq 1), .ref (eq 2), .ref (eq 3), .int (nI X.2.2.2.2)])), ((eq 0), .inl (cI, 80, .inl X.1)), ((eq 1), .inl (cI, 80, .inl X.2.1)), ((eq 2), .inl (cI, 80, .inl X.2.2.1)), ((eq 3), .inl (cI, 80, .inl X.2.2.2.1)), (bo, .inl (cB, 8, .inr (.inr (.inr (.inr ba))))), (t, .inr (4, [.ref (tq 0), .ref (tq 1), .ref (tq 2), .ref (tq 3), .ref (tq 4), .ref (tq 5), .ref (tq 6), .ref (tq 7), .int (nI S.1.2.2.2.2)])), ((tq 0), .inl (cI, 64, .inl (fun z9 => nI (S.1.1 z9)))), ((tq 1), .inl (cI, 64, .inl (fun z9 => nI (S.1.2.1 z9)))), ((tq 2), .inl (cI, 64, .inl (fun z9 => nI (S.1.2.2.1 z9)))), ((tq 3), .inl (cJ, 64, .inr (.inl S.1.2.2.2.1))), ((tq 4), .inl (cJ, 64, .inr (.inl f1))), ((tq 5), .inl (cJ, 64, .inr (.inl f2))), ((tq 6), .inl (cJ, 64, .inr (.inl f3))), ((tq 7), .inl (cJ, 64, .inr (.inl f4))), (co, .inl (cI, 112, .inl (fun z9 => nI (S.2 z9))))] ++ tl) := hD
  have hl := lv_entry ([.ref g, .int (nI e), .int (nI lv), .int (nI d)]) (n := 9) (Nat.le_of_ble_eq_true rfl)
  rw [lg_entry_eq]
  generalize (lg_sl ([.ref g, .int (nI e), .int (nI lv), .int (nI d)]) ++ List.replicate (9 - (lg_sl ([.ref g, .int (nI e), .int (nI lv), .int (nI d)])).length) Slot.unset).toArray = ls at hl ⊢
  have hl : lv_has ls 9 [(0, .ref g), (1, .int (nI e)), (2, .int (nI lv)), (3, .int (nI d))] := hl
  have hSn := hS9.1
  have hSc := hS9.2
  refine lv_iload_n hx hb dP_evaluate_0 rfl (lv_at hl 3 rfl) ?_
  refine lv_bipush (v := 50) hx hb dP_evaluate_1 (by decide) ?_
  refine lv_icmp_le (tgt := 8) hx hb dP_evaluate_3 (by decide) (fun c3 => ?_) (fun c3 => ?_)
  · have g3 : d ≤ 50 := (gx_le (rfl : (nI d) = (nI d)) (rfl : (50 : Int32) = nI 50) (by omega) (by decide)).mp c3
    refine lv_aload_n hx hb dP_evaluate_8 rfl (lv_at hl 0 rfl) ?_
    refine va_get (D := D) (ci := 3) (v := .ref eo) (C := R_P) (T := F_P) (N := 4) hx hb ht i_P hown hK hP 0 rfl rfl 0 (by decide) (ht _ m_91) (fun _ h9 => h9) rfl dP_evaluate_9 ?_
    refine va_getN (D := D) (ci := 2) (v := .ref (eq 0)) (C := R_E) (T := F_E) (N := 5) hx hb ht i_E hown hK hP 1 rfl rfl 0 (by decide) (va_Nw.use rfl (hN _ mn_2)) (fun _ h9 => h9) rfl dP_evaluate_12 ?_
    refine lv_iload_n hx hb dP_evaluate_15 rfl (lv_at hl 1 rfl) ?_
    have i16 : vp_in (nI e) 80 := gx_in (rfl : (nI e) = (nI e)) (by omega) (by decide)
    have k16 : ((nI e) : Int32).toNatClampNeg = e := gx_cl (rfl : (nI e) = (nI e)) (by omega)
    refine va_iald hx hb hK hP 2 0 rfl rfl i16 dP_evaluate_16 ?_
    rw [k16]
    refine lv_topi (fun v16 e16 => ?_)
    rw [hke] at e16
    subst e16
    refine lv_istore (lv' := [(4, .int 1), (0, .ref g), (1, .int (nI e)), (2, .int (nI lv)), (3, .int (nI d))]) hx hb dP_evaluate_17 hl (by decide) rfl (fun ls hl => ?_)
    refine lv_aload_n hx hb dP_evaluate_19 rfl (lv_at hl 1 rfl) ?_
    refine va_get (D := D) (ci := 3) (v := .ref eo) (C := R_P) (T := F_P) (N := 4) hx hb ht i_P hown hK hP 0 rfl rfl 0 (by decide) (ht _ m_91) (fun _ h9 => h9) rfl dP_evaluate_20 ?_
    refine va_getN (D := D) (ci := 2) (v := .ref (eq 1)) (C := R_E) (T := F_E) (N := 5) hx hb ht i_E hown hK hP 1 rfl rfl 1 (by decide) (va_Nw.use rfl (hN _ mn_3)) (fun _ h9 => h9) rfl dP_evaluate_23 ?_
    refine lv_iload_n hx hb dP_evaluate_26 rfl (lv_at hl 2 rfl) ?_
    have i27 : vp_in (nI e) 80 := gx_in (rfl : (nI e) = (nI e)) (by omega) (by decide)
    have k27 : ((nI e) : Int32).toNatClampNeg = e := gx_cl (rfl : (nI e) = (nI e)) (by omega)
    refine va_iald hx hb hK hP 3 0 rfl rfl i27 dP_evaluate_27 ?_
    rw [k27]
    refine lv_topi (fun v27 e27 => ?_)
    rw [hea] at e27
    subst e27
    refine lv_istore (lv' := [(5, .int (nI a)), (4, .int 1), (0, .ref g), (1, .int (nI e)), (2, .int (nI lv)), (3, .int (nI d))]) hx hb dP_evaluate_28 hl (by decide) rfl (fun ls hl => ?_)
    refine lv_aload_n hx hb dP_evaluate_30 rfl (lv_at hl 2 rfl) ?_
    refine va_get (D := D) (ci := 3) (v := .ref eo) (C := R_P) (T := F_P) (N := 4) hx hb ht i_P hown hK hP 0 rfl rfl 0 (by decide) (ht _ m_91) (fun _ h9 => h9) rfl dP_evaluate_31 ?_
    refine va_getN (D := D) (ci := 2) (v := .ref (eq 2)) (C := R_E) (T := F_E) (N := 5) hx hb ht i_E hown hK hP 1 rfl rfl 2 (by decide) (va_Nw.use rfl (hN _ mn_4)) (fun _ h9 => h9) rfl dP_evaluate_34 ?_
    refine lv_iload_n hx hb dP_evaluate_37 rfl (lv_at hl 3 rfl) ?_
    have i38 : vp_in (nI e) 80 := gx_in (rfl : (nI e) = (nI e)) (by omega) (by decide)
    have k38 : ((nI e) : Int32).toNatClampNeg = e := gx_cl (rfl : (nI e) = (nI e)) (by omega)
    refine va_iald hx hb hK hP 4 0 rfl rfl i38 dP_evaluate_38 ?_
    rw [k38]
    refine lv_topi (fun v38 e38 => ?_)
    refine lv_istore (lv' := [(6, .int v38), (5, .int (nI a)), (4, .int 1), (0, .ref g), (1, .int (nI e)), (2, .int (nI lv)), (3, .int (nI d))]) hx hb dP_evaluate_39 hl (by decide) rfl (fun ls hl => ?_)
    refine lv_iload hx hb dP_evaluate_41 (lv_at hl 2 rfl) ?_
    refine gc_i (va_runS (As := [.int 1]) (rest := []) ⟨hx, hb, hml, hown, ht⟩ (c_E_hasLeft l D cI cJ cB cZ 1 H.size) (va_cwS 1 ht (gw_S m_341 m_165 m_3 m_166) rfl rfl rfl (by decide +kernel) ⟨show 0 + 1 ≤ 8 * (n + 1) + 8 by omega, show 8 + (1 + 11) + (0) ≤ 200 * (n + 1) + 200 by omega⟩) (gp_S hK hN (hP.sub (ws' := ([] : va_W)) [] rfl) (hD.sub (ws' := ([] : va_W)) [] (by decide) rfl)) rfl rfl hl.1 rfl (lv_room (Nat.le_of_ble_eq_true rfl)) dP_evaluate_43 ⟨Nat.le_of_ble_eq_true rfl, Nat.le_of_ble_eq_true rfl⟩) hP hD hS hA [] rfl (by decide) (fun r w h => by obtain ⟨_, rfl⟩ := h; rfl) (fun r43 w43 H locs p43 hP hD hS => ?_)
    obtain ⟨rfl, rfl⟩ := p43
    have hP : va_P D vwCl ([(g, .inr (3, [.ref eo, .ref bo, .ref t, .ref co])), (eo, .inr (2, [.ref (eq 0), .ref (eq 1), .ref (eq 2), .ref (eq 3), .int (nI X.2.2.2.2)])), ((eq 0), .inl (cI, 80, .inl X.1)), ((eq 1), .inl (cI, 80, .inl X.2.1)), ((eq 2), .inl (cI, 80, .inl X.2.2.1)), ((eq 3), .inl (cI, 80, .inl X.2.2.2.1)), (bo, .inl (cB, 8, .inr (.inr (.inr (.inr ba))))), (t, .inr (4, [.ref (tq 0), .ref (tq 1), .ref (tq 2), .ref (tq 3), .ref (tq 4), .ref (tq 5), .ref (tq 6), .ref (tq 7), .int (nI S.1.2.2.2.2)])), ((tq 0), .inl (cI, 64, .inl (fun z9 => nI (S.1.1 z9)))), ((tq 1), .inl (cI, 64, .inl (fun z9 => nI (S.1.2.1 z9)))), ((tq 2), .inl (cI, 64, .inl (fun z9 => nI (S.1.2.2.1 z9)))), ((tq 3), .inl (cJ, 64, .inr (.inl S.1.2.2.2.1))), ((tq 4), .inl (cJ, 64, .inr (.inl f1))), ((tq 5), .inl (cJ, 64, .inr (.inl f2))), ((tq 6), .inl (cJ, 64, .inr (.inl f3))), ((tq 7), .inl (cJ, 64, .inr (.inl f4))), (co, .inl (cI, 112, .inl (fun z9 => nI (S.2 z9))))] ++ tl) H := hP
    have hD : va_D A ([(g, .inr (3, [.ref eo, .ref bo, .ref t, .ref co])), (eo, .inr (2, [.ref (eq 0), .ref (eq 1), .ref (eq 2), .ref (eq 3), .int (nI X.2.2.2.2)])), ((eq 0), .inl (cI, 80, .inl X.1)), ((eq 1), .inl (cI, 80, .inl X.2.1)), ((eq 2), .inl (cI, 80, .inl X.2.2.1)), ((eq 3), .inl (cI, 80, .inl X.2.2.2.1)), (bo, .inl (cB, 8, .inr (.inr (.inr (.inr ba))))), (t, .inr (4, [.ref (tq 0), .ref (tq 1), .ref (tq 2), .ref (tq 3), .ref (tq 4), .ref (tq 5), .ref (tq 6), .ref (tq 7), .int (nI S.1.2.2.2.2)])), ((tq 0), .inl (cI, 64, .inl (fun z9 => nI (S.1.1 z9)))), ((tq 1), .inl (cI, 64, .inl (fun z9 => nI (S.1.2.1 z9)))), ((tq 2), .inl (cI, 64, .inl (fun z9 => nI (S.1.2.2.1 z9)))), ((tq 3), .inl (cJ, 64, .inr (.inl S.1.2.2.2.1))), ((tq 4), .inl (cJ, 64, .inr (.inl f1))), ((tq 5), .inl (cJ, 64, .inr (.inl f2))), ((tq 6), .inl (cJ, 64, .inr (.inl f3))), ((tq 7), .inl (cJ, 64, .inr (.inl f4))), (co, .inl (cI, 112, .inl (fun z9 => nI (S.2 z9))))] ++ tl) := hD
    refine lv_if_eq (tgt := 62) hx hb dP_evaluate_46 (by decide) (fun c46 => ?_) (fun c46 => ?_)
    · refine lv_iconst (v := 0) hx hb dP_evaluate_62 (by decide) ?_
      refine lv_istore (lv' := [(7, .int 0), (6, .int v38), (5, .int (nI a)), (4, .int 1), (0, .ref g), (1, .int (nI e)), (2, .int (nI lv)), (3, .int (nI d))]) hx hb dP_evaluate_63 hl (by decide) rfl (fun ls hl => ?_)
      refine lv_iload hx hb dP_evaluate_65 (lv_at hl 3 rfl) ?_
      refine gc_i (va_runS (As := [.int 1]) (rest := []) ⟨hx, hb, hml, hown, ht⟩ (c_E_hasRight l D cI cJ cB cZ 1 H.size) (va_cwS 1 ht (gw_S m_342 m_175 m_3 m_176) rfl rfl rfl (by decide +kernel) ⟨show 0 + 1 ≤ 8 * (n + 1) + 8 by omega, show 8 + (1 + 11) + (0) ≤ 200 * (n + 1) + 200 by omega⟩) (gp_S hK hN (hP.sub (ws' := ([] : va_W)) [] rfl) (hD.sub (ws' := ([] : va_W)) [] (by decide) rfl)) rfl rfl hl.1 rfl (lv_room (Nat.le_of_ble_eq_true rfl)) dP_evaluate_67 ⟨Nat.le_of_ble_eq_true rfl, Nat.le_of_ble_eq_true rfl⟩) hP hD hS hA [] rfl (by decide) (fun r w h => by obtain ⟨_, rfl⟩ := h; rfl) (fun r67 w67 H locs p67 hP hD hS => ?_)
      obtain ⟨rfl, rfl⟩ := p67
      have hP : va_P D vwCl ([(g, .inr (3, [.ref eo, .ref bo, .ref t, .ref co])), (eo, .inr (2, [.ref (eq 0), .ref (eq 1), .ref (eq 2), .ref (eq 3), .int (nI X.2.2.2.2)])), ((eq 0), .inl (cI, 80, .inl X.1)), ((eq 1), .inl (cI, 80, .inl X.2.1)), ((eq 2), .inl (cI, 80, .inl X.2.2.1)), ((eq 3), .inl (cI, 80, .inl X.2.2.2.1)), (bo, .inl (cB, 8, .inr (.inr (.inr (.inr ba))))), (t, .inr (4, [.ref (tq 0), .ref (tq 1), .ref (tq 2), .ref (tq 3), .ref (tq 4), .ref (tq 5), .ref (tq 6), .ref (tq 7), .int (nI S.1.2.2.2.2)])), ((tq 0), .inl (cI, 64, .inl (fun z9 => nI (S.1.1 z9)))), ((tq 1), .inl (cI, 64, .inl (fun z9 => nI (S.1.2.1 z9)))), ((tq 2), .inl (cI, 64, .inl (fun z9 => nI (S.1.2.2.1 z9)))), ((tq 3), .inl (cJ, 64, .inr (.inl S.1.2.2.2.1))), ((tq 4), .inl (cJ, 64, .inr (.inl f1))), ((tq 5), .inl (cJ, 64, .inr (.inl f2))), ((tq 6), .inl (cJ, 64, .inr (.inl f3))), ((tq 7), .inl (cJ, 64, .inr (.inl f4))), (co, .inl (cI, 112, .inl (fun z9 => nI (S.2 z9))))] ++ tl) H := hP
      have hD : va_D A ([(g, .inr (3, [.ref eo, .ref bo, .ref t, .ref co])), (eo, .inr (2, [.ref (eq 0), .ref (eq 1), .ref (eq 2), .ref (eq 3), .int (nI X.2.2.2.2)])), ((eq 0), .inl (cI, 80, .inl X.1)), ((eq 1), .inl (cI, 80, .inl X.2.1)), ((eq 2), .inl (cI, 80, .inl X.2.2.1)), ((eq 3), .inl (cI, 80, .inl X.2.2.2.1)), (bo, .inl (cB, 8, .inr (.inr (.inr (.inr ba))))), (t, .inr (4, [.ref (tq 0), .ref (tq 1), .ref (tq 2), .ref (tq 3), .ref (tq 4), .ref (tq 5), .ref (tq 6), .ref (tq 7), .int (nI S.1.2.2.2.2)])), ((tq 0), .inl (cI, 64, .inl (fun z9 => nI (S.1.1 z9)))), ((tq 1), .inl (cI, 64, .inl (fun z9 => nI (S.1.2.1 z9)))), ((tq 2), .inl (cI, 64, .inl (fun z9 => nI (S.1.2.2.1 z9)))), ((tq 3), .inl (cJ, 64, .inr (.inl S.1.2.2.2.1))), ((tq 4), .inl (cJ, 64, .inr (.inl f1))), ((tq 5), .inl (cJ, 64, .inr (.inl f2))), ((tq 6), .inl (cJ, 64, .inr (.inl f3))), ((tq 7), .inl (cJ, 64, .inr (.inl f4))), (co, .inl (cI, 112, .inl (fun z9 => nI (S.2 z9))))] ++ tl) := hD
      refine lv_if_eq (tgt := 86) hx hb dP_evaluate_70 (by decide) (fun c70 => ?_) (fun c70 => ?_)
      · refine lv_iconst (v := 0) hx hb dP_evaluate_86 (by decide) ?_
        refine lv_istore (lv' := [(8, .int 0), (7, .int 0), (6, .int v38), (5, .int (nI a)), (4, .int 1), (0, .ref g), (1, .int (nI e)), (2, .int (nI lv)), (3, .int (nI d))]) hx hb dP_evaluate_87 hl (by decide) rfl (fun ls hl => ?_)
        refine lv_iload hx hb dP_evaluate_89 (lv_at hl 4 rfl) ?_
        refine lv_tableIn (tgt := 163) (off := 72) hx hb dP_evaluate_91 (by decide) (by decide) (by rfl) (by decide) ?_
        refine lv_aload_n hx hb dP_evaluate_163 rfl (lv_at hl 5 rfl) ?_
        refine va_get (D := D) (ci := 3) (v := .ref co) (C := R_P) (T := F_P) (N := 4) hx hb ht i_P hown hK hP 0 rfl rfl 3 (by decide) (ht _ m_97) (fun _ h9 => h9) rfl dP_evaluate_164 ?_
        refine lv_iload_n hx hb dP_evaluate_167 rfl (lv_at hl 7 rfl) ?_
        refine lv_bipush (v := 14) hx hb dP_evaluate_168 (by decide) ?_
        refine lv_imul hx hb dP_evaluate_170 ?_
        refine lv_topi (fun v170 e170 => ?_)
        have n170 : v170 = nI (lv * 14) := by rw [e170]; exact gx_mul (rfl : (nI lv) = (nI lv)) (rfl : (14 : Int32) = nI 14)
        subst n170
        refine lv_iload hx hb dP_evaluate_171 (lv_at hl 3 rfl) ?_
        refine lv_iadd hx hb dP_evaluate_173 ?_
        refine lv_topi (fun v173 e173 => ?_)
        have n173 : v173 = nI ((lv * 14) + a) := by rw [e173]; exact gx_add (rfl : (nI (lv * 14)) = (nI (lv * 14))) (rfl : (nI a) = (nI a))
        subst n173
        have hx174 : lv * 14 + a < 112 := by omega
        have i174 : vp_in (nI ((lv * 14) + a)) 112 := gx_in (rfl : (nI ((lv * 14) + a)) = (nI ((lv * 14) + a))) (by omega) (by decide)
        have k174 : ((nI ((lv * 14) + a)) : Int32).toNatClampNeg = ((lv * 14) + a) := gx_cl (rfl : (nI ((lv * 14) + a)) = (nI ((lv * 14) + a))) (by omega)
        refine va_iald hx hb hK hP 16 0 rfl rfl i174 dP_evaluate_174 ?_
        rw [k174]
        refine lv_topi (fun v174 e174 => ?_)
        have n174 : v174 = nI (S.2 ((lv * 14) + a)) := e174
        subst n174
        have hz : (pg X ba Bs (n + 1)).1 e lv S = ((S.2 ((lv * 14) + a)), S) := by
          show px_ev X (pg X ba Bs n).1 (px_ent ba Bs (pg X ba Bs n).2) e lv S = _
          simp [px_ev, px_r1, px_r2, px_R, hke, hea, show cn (1 : Int32) = 1 from rfl, cn_nI (show a < 2 ^ 31 by omega)]
        exact W.iret (v := (nI (S.2 ((lv * 14) + a)))) hx hb hr (fun t9 ht9 hW => ⟨⟨(nI (S.2 ((lv * 14) + a))), _, rfl, ⟨by rw [hz], by rw [hz]⟩, by rw [ht9]; exact hP, hD⟩, hS.F ht9⟩) hS.2.2 dP_evaluate_175
      · exact absurd (gb_1.mpr (by decide)) c70
    · exact absurd (gb_1.mpr (by decide)) c46
  · have g3 : ¬ (d ≤ 50) := fun z => c3 ((gx_le (rfl : (nI d) = (nI d)) (rfl : (50 : Int32) = nI 50) (by omega) (by decide)).mpr z)
    exact absurd g3 (by omega)

set_option maxHeartbeats 4000000 in
set_option maxRecDepth 100000 in
theorem c_P_evaluate_2 (l : Launch) (D : va_G) (cI cJ cB cZ : ClassId) (g eo bo t co : Nat) (eq tq : Nat → Nat) (tl : va_W) (X : Ex) (ba : Nat → Option Nat) (f1 f2 f3 f4 : Nat → Int64) (Bs : Nat → Bd) (n d e lv : Nat) (S : Sx) (a : Nat) (b : Nat) (hE : cE l D cI cJ cB cZ g eo bo t co eq tq tl X ba f1 f2 f3 f4 Bs n) (hN9 : cN l D cI cJ cB cZ g eo bo t co eq tq tl X ba f1 f2 f3 f4 Bs n) (hd : d + (n + 1) = 51) (hX80 : X.2.2.2.2 ≤ 80) (he : e < X.2.2.2.2) (hlv : lv < 8) (hS9 : sx_ok S) (hre : re_ok X (pg X ba Bs n).1) (hke : X.1 e = 2) (ha : a < e) (hea : X.2.1 e = nI a) (hb8 : b < e) (heb : X.2.2.1 e = nI b) : ct_I l y_P_evaluate w_P_evaluate ({ frames := 8 * (n + 1) + 8, cells := 0, slots := 0, locals := 200 * (n + 1) + 200 }) D (gk_T cI cJ cB cZ) [.ref g, .int (nI e), .int (nI lv), .int (nI d)] (wPg cI cJ cB g eo bo t co eq tq X ba S f1 f2 f3 f4 ++ tl) (0) (0) (fun r w => r = nI ((pg X ba Bs (n + 1)).1 e lv S).1 ∧ w = (wPg cI cJ cB g eo bo t co eq tq X ba (((pg X ba Bs (n + 1)).1 e lv S).2) f1 f2 f3 f4 ++ tl)) := by
  intro sz
  refine Met.ofW (cc := b_P_evaluate) (maxL := 9) (ret := (some .int)) (by decide) rfl ?_
  intro p ev9 s m args below meth c s₁ B9 hml hv
  obtain ⟨rfl, hsz, hP, hK, hN, hD0⟩ := hv
  have hx := B9.exec
  have hb := B9.bytes
  have hr := B9.returns
  have hts := atoms_spec (ws := w_P_evaluate) B9.pre
  have ht : ∀ w ∈ gk_big, w.before _ s = true := fun w h => hts w (List.mem_cons_of_mem _ h)
  have hown : s.vm.findClass R_P = some m.cls := findClass_of_methodNamed B9.named
  have hlocks := B9.notSynchronized
  subst hsz
  have hD := hD0.self (sz := s.heap.size)
  generalize hAe : va_A (wPg cI cJ cB g eo bo t co eq tq X ba S f1 f2 f3 f4 ++ tl) s.heap.size = A at hD ⊢
  have hA : ∀ q : Nat, s.heap.size ≤ q → A q := fun q h => by rw [← hAe]; exact Or.inr h
  generalize hHe : s.heap = H at hP ⊢
  have hS : va_S A s.heap H [] := by rw [← hHe]; exact va_S.rf
  have hP : va_P D vwCl ([(g, .inr (3, [.ref eo, .ref bo, .ref t, .ref co])), (eo, .inr (2, [.ref (eq 0), .ref (eq 1), .ref (eq 2), .ref (eq 3), .int (nI X.2.2.2.2)])), ((eq 0), .inl (cI, 80, .inl X.1)), ((eq 1), .inl (cI, 80, .inl X.2.1)), ((eq 2), .inl (cI, 80, .inl X.2.2.1)), ((eq 3), .inl (cI, 80, .inl X.2.2.2.1)), (bo, .inl (cB, 8, .inr (.inr (.inr (.inr ba))))), (t, .inr (4, [.ref (tq 0), .ref (tq 1), .ref (tq 2), .ref (tq 3), .ref (tq 4), .ref (tq 5), .ref (tq 6), .ref (tq 7), .int (nI S.1.2.2.2.2)])), ((tq 0), .inl (cI, 64, .inl (fun z9 => nI (S.1.1 z9)))), ((tq 1), .inl (cI, 64, .inl (fun z9 => nI (S.1.2.1 z9)))), ((tq 2), .inl (cI, 64, .inl (fun z9 => nI (S.1.2.2.1 z9)))), ((tq 3), .inl (cJ, 64, .inr (.inl S.1.2.2.2.1))), ((tq 4), .inl (cJ, 64, .inr (.inl f1))), ((tq 5), .inl (cJ, 64, .inr (.inl f2))), ((tq 6), .inl (cJ, 64, .inr (.inl f3))), ((tq 7), .inl (cJ, 64, .inr (.inl f4))), (co, .inl (cI, 112, .inl (fun z9 => nI (S.2 z9))))] ++ tl) H := hP
  have hD : va_D A ([(g, .inr (3, [.ref eo, .ref bo, .ref t, .ref co])), (eo, .inr (2, [.ref (eq 0), .ref (eq 1), .ref (eq 2), .ref (eq 3), .int (nI X.2.2.2.2)])), ((eq 0), .inl (cI, 80, .inl X.1)), ((eq 1), .inl (cI, 80, .inl X.2.1)), ((eq 2), .inl (cI, 80, .inl X.2.2.1)), ((eq 3), .inl (cI, 80, .inl X.2.2.2.1)), (bo, .inl (cB, 8, .inr (.inr (.inr (.inr ba))))), (t, .inr (4, [.ref (tq 0), .ref (tq 1), .ref (tq 2), .ref (tq 3), .ref (tq 4), .ref (tq 5), .ref (tq 6), .ref (tq 7), .int (nI S.1.2.2.2.2)])), ((tq 0), .inl (cI, 64, .inl (fun z9 => nI (S.1.1 z9)))), ((tq 1), .inl (cI, 64, .inl (fun z9 => nI (S.1.2.1 z9)))), ((tq 2), .inl (cI, 64, .inl (fun z9 => nI (S.1.2.2.1 z9)))), ((tq 3), .inl (cJ, 64, .inr (.inl S.1.2.2.2.1))), ((tq 4), .inl (cJ, 64, .inr (.inl f1))), ((tq 5), .inl (cJ, 64, .inr (.inl f2))), ((tq 6), .inl (cJ, 64, .inr (.inl f3))), ((tq 7), .inl (cJ, 64, .inr (.inl f4))), (co, .inl (cI, 112, .inl (fun z9 => nI (S.2 z9))))] ++ tl) := hD
  have hl := lv_entry ([.ref g, .int (nI e), .int (nI lv), .int (nI d)]) (n := 9) (Nat.le_of_ble_eq_true rfl)
  rw [lg_entry_eq]
  generalize (lg_sl ([.ref g, .int (nI e), .int (nI lv), .int (nI d)]) ++ List.replicate (9 - (lg_sl ([.ref g, .int (nI e), .int (nI lv), .int (nI d)])).length) Slot.unset).toArray = ls at hl ⊢
  have hl : lv_has ls 9 [(0, .ref g), (1, .int (nI e)), (2, .int (nI lv)), (3, .int (nI d))] := hl
  have hSn := hS9.1
  have hSc := hS9.2
  refine lv_iload_n hx hb dP_evaluate_0 rfl (lv_at hl 3 rfl) ?_
  refine lv_bipush (v := 50) hx hb dP_evaluate_1 (by decide) ?_
  refine lv_icmp_le (tgt := 8) hx hb dP_evaluate_3 (by decide) (fun c3 => ?_) (fun c3 => ?_)
  · have g3 : d ≤ 50 := (gx_le (rfl : (nI d) = (nI d)) (rfl : (50 : Int32) = nI 50) (by omega) (by decide)).mp c3
    refine lv_aload_n hx hb dP_evaluate_8 rfl (lv_at hl 0 rfl) ?_
    refine va_get (D := D) (ci := 3) (v := .ref eo) (C := R_P) (T := F_P) (N := 4) hx hb ht i_P hown hK hP 0 rfl rfl 0 (by decide) (ht _ m_91) (fun _ h9 => h9) rfl dP_evaluate_9 ?_
    refine va_getN (D := D) (ci := 2) (v := .ref (eq 0)) (C := R_E) (T := F_E) (N := 5) hx hb ht i_E hown hK hP 1 rfl rfl 0 (by decide) (va_Nw.use rfl (hN _ mn_2)) (fun _ h9 => h9) rfl dP_evaluate_12 ?_
    refine lv_iload_n hx hb dP_evaluate_15 rfl (lv_at hl 1 rfl) ?_
    have i16 : vp_in (nI e) 80 := gx_in (rfl : (nI e) = (nI e)) (by omega) (by decide)
    have k16 : ((nI e) : Int32).toNatClampNeg = e := gx_cl (rfl : (nI e) = (nI e)) (by omega)
    refine va_iald hx hb hK hP 2 0 rfl rfl i16 dP_evaluate_16 ?_
    rw [k16]
    refine lv_topi (fun v16 e16 => ?_)
    rw [hke] at e16
    subst e16
    refine lv_istore (lv' := [(4, .int 2), (0, .ref g), (1, .int (nI e)), (2, .int (nI lv)), (3, .int (nI d))]) hx hb dP_evaluate_17 hl (by decide) rfl (fun ls hl => ?_)
    refine lv_aload_n hx hb dP_evaluate_19 rfl (lv_at hl 1 rfl) ?_
    refine va_get (D := D) (ci := 3) (v := .ref eo) (C := R_P) (T := F_P) (N := 4) hx hb ht i_P hown hK hP 0 rfl rfl 0 (by decide) (ht _ m_91) (fun _ h9 => h9) rfl dP_evaluate_20 ?_
    refine va_getN (D := D) (ci := 2) (v := .ref (eq 1)) (C := R_E) (T := F_E) (N := 5) hx hb ht i_E hown hK hP 1 rfl rfl 1 (by decide) (va_Nw.use rfl (hN _ mn_3)) (fun _ h9 => h9) rfl dP_evaluate_23 ?_
    refine lv_iload_n hx hb dP_evaluate_26 rfl (lv_at hl 2 rfl) ?_
    have i27 : vp_in (nI e) 80 := gx_in (rfl : (nI e) = (nI e)) (by omega) (by decide)
    have k27 : ((nI e) : Int32).toNatClampNeg = e := gx_cl (rfl : (nI e) = (nI e)) (by omega)
    refine va_iald hx hb hK hP 3 0 rfl rfl i27 dP_evaluate_27 ?_
    rw [k27]
    refine lv_topi (fun v27 e27 => ?_)
    rw [hea] at e27
    subst e27
    refine lv_istore (lv' := [(5, .int (nI a)), (4, .int 2), (0, .ref g), (1, .int (nI e)), (2, .int (nI lv)), (3, .int (nI d))]) hx hb dP_evaluate_28 hl (by decide) rfl (fun ls hl => ?_)
    refine lv_aload_n hx hb dP_evaluate_30 rfl (lv_at hl 2 rfl) ?_
    refine va_get (D := D) (ci := 3) (v := .ref eo) (C := R_P) (T := F_P) (N := 4) hx hb ht i_P hown hK hP 0 rfl rfl 0 (by decide) (ht _ m_91) (fun _ h9 => h9) rfl dP_evaluate_31 ?_
    refine va_getN (D := D) (ci := 2) (v := .ref (eq 2)) (C := R_E) (T := F_E) (N := 5) hx hb ht i_E hown hK hP 1 rfl rfl 2 (by decide) (va_Nw.use rfl (hN _ mn_4)) (fun _ h9 => h9) rfl dP_evaluate_34 ?_
    refine lv_iload_n hx hb dP_evaluate_37 rfl (lv_at hl 3 rfl) ?_
    have i38 : vp_in (nI e) 80 := gx_in (rfl : (nI e) = (nI e)) (by omega) (by decide)
    have k38 : ((nI e) : Int32).toNatClampNeg = e := gx_cl (rfl : (nI e) = (nI e)) (by omega)
    refine va_iald hx hb hK hP 4 0 rfl rfl i38 dP_evaluate_38 ?_
    rw [k38]
    refine lv_topi (fun v38 e38 => ?_)
    rw [heb] at e38
    subst e38
    refine lv_istore (lv' := [(6, .int (nI b)), (5, .int (nI a)), (4, .int 2), (0, .ref g), (1, .int (nI e)), (2, .int (nI lv)), (3, .int (nI d))]) hx hb dP_evaluate_39 hl (by decide) rfl (fun ls hl => ?_)
    refine lv_iload hx hb dP_evaluate_41 (lv_at hl 2 rfl) ?_
    refine gc_i (va_runS (As := [.int 2]) (rest := []) ⟨hx, hb, hml, hown, ht⟩ (c_E_hasLeft l D cI cJ cB cZ 2 H.size) (va_cwS 1 ht (gw_S m_341 m_165 m_3 m_166) rfl rfl rfl (by decide +kernel) ⟨show 0 + 1 ≤ 8 * (n + 1) + 8 by omega, show 8 + (1 + 11) + (0) ≤ 200 * (n + 1) + 200 by omega⟩) (gp_S hK hN (hP.sub (ws' := ([] : va_W)) [] rfl) (hD.sub (ws' := ([] : va_W)) [] (by decide) rfl)) rfl rfl hl.1 rfl (lv_room (Nat.le_of_ble_eq_true rfl)) dP_evaluate_43 ⟨Nat.le_of_ble_eq_true rfl, Nat.le_of_ble_eq_true rfl⟩) hP hD hS hA [] rfl (by decide) (fun r w h => by obtain ⟨_, rfl⟩ := h; rfl) (fun r43 w43 H locs p43 hP hD hS => ?_)
    obtain ⟨rfl, rfl⟩ := p43
    have hP : va_P D vwCl ([(g, .inr (3, [.ref eo, .ref bo, .ref t, .ref co])), (eo, .inr (2, [.ref (eq 0), .ref (eq 1), .ref (eq 2), .ref (eq 3), .int (nI X.2.2.2.2)])), ((eq 0), .inl (cI, 80, .inl X.1)), ((eq 1), .inl (cI, 80, .inl X.2.1)), ((eq 2), .inl (cI, 80, .inl X.2.2.1)), ((eq 3), .inl (cI, 80, .inl X.2.2.2.1)), (bo, .inl (cB, 8, .inr (.inr (.inr (.inr ba))))), (t, .inr (4, [.ref (tq 0), .ref (tq 1), .ref (tq 2), .ref (tq 3), .ref (tq 4), .ref (tq 5), .ref (tq 6), .ref (tq 7), .int (nI S.1.2.2.2.2)])), ((tq 0), .inl (cI, 64, .inl (fun z9 => nI (S.1.1 z9)))), ((tq 1), .inl (cI, 64, .inl (fun z9 => nI (S.1.2.1 z9)))), ((tq 2), .inl (cI, 64, .inl (fun z9 => nI (S.1.2.2.1 z9)))), ((tq 3), .inl (cJ, 64, .inr (.inl S.1.2.2.2.1))), ((tq 4), .inl (cJ, 64, .inr (.inl f1))), ((tq 5), .inl (cJ, 64, .inr (.inl f2))), ((tq 6), .inl (cJ, 64, .inr (.inl f3))), ((tq 7), .inl (cJ, 64, .inr (.inl f4))), (co, .inl (cI, 112, .inl (fun z9 => nI (S.2 z9))))] ++ tl) H := hP
    have hD : va_D A ([(g, .inr (3, [.ref eo, .ref bo, .ref t, .ref co])), (eo, .inr (2, [.ref (eq 0), .ref (eq 1), .ref (eq 2), .ref (eq 3), .int (nI X.2.2.2.2)])), ((eq 0), .inl (cI, 80, .inl X.1)), ((eq 1), .inl (cI, 80, .inl X.2.1)), ((eq 2), .inl (cI, 80, .inl X.2.2.1)), ((eq 3), .inl (cI, 80, .inl X.2.2.2.1)), (bo, .inl (cB, 8, .inr (.inr (.inr (.inr ba))))), (t, .inr (4, [.ref (tq 0), .ref (tq 1), .ref (tq 2), .ref (tq 3), .ref (tq 4), .ref (tq 5), .ref (tq 6), .ref (tq 7), .int (nI S.1.2.2.2.2)])), ((tq 0), .inl (cI, 64, .inl (fun z9 => nI (S.1.1 z9)))), ((tq 1), .inl (cI, 64, .inl (fun z9 => nI (S.1.2.1 z9)))), ((tq 2), .inl (cI, 64, .inl (fun z9 => nI (S.1.2.2.1 z9)))), ((tq 3), .inl (cJ, 64, .inr (.inl S.1.2.2.2.1))), ((tq 4), .inl (cJ, 64, .inr (.inl f1))), ((tq 5), .inl (cJ, 64, .inr (.inl f2))), ((tq 6), .inl (cJ, 64, .inr (.inl f3))), ((tq 7), .inl (cJ, 64, .inr (.inl f4))), (co, .inl (cI, 112, .inl (fun z9 => nI (S.2 z9))))] ++ tl) := hD
    refine lv_if_eq (tgt := 62) hx hb dP_evaluate_46 (by decide) (fun c46 => ?_) (fun c46 => ?_)
    · exact (gb_1.mp c46 (by decide)).elim
    · refine lv_aload_n hx hb dP_evaluate_49 rfl (lv_at hl 3 rfl) ?_
      refine lv_iload hx hb dP_evaluate_50 (lv_at hl 1 rfl) ?_
      refine lv_iload_n hx hb dP_evaluate_52 rfl (lv_at hl 5 rfl) ?_
      refine lv_iload_n hx hb dP_evaluate_53 rfl (lv_at hl 6 rfl) ?_
      refine lv_iconst (v := 1) hx hb dP_evaluate_54 (by decide) ?_
      refine lv_iadd hx hb dP_evaluate_55 ?_
      refine lv_topi (fun v55 e55 => ?_)
      have n55 : v55 = nI (d + 1) := by rw [e55]; exact gx_add (rfl : (nI d) = (nI d)) (rfl : (1 : Int32) = nI 1)
      subst n55
      refine gc_wi (va_runV (As := [.int (nI a), .int (nI lv), .int (nI (d + 1))]) (rest := []) ⟨hx, hb, hml, hown, ht⟩ (hE (d + 1) a lv S (by omega) (by omega) hlv hS9 H.size) (cwV 3 ht (gw_V m_337 m_339 ms_12 m_2 m_340) rfl rfl rfl (by decide +kernel) ⟨show (8 * n + 8) + 1 ≤ 8 * (n + 1) + 8 by omega, show 8 + (9 + 11) + (200 * n + 200) ≤ 200 * (n + 1) + 200 by omega⟩) (gp_V (ci := 3) (q0 := 0) hK hN hP hD rfl rfl) rfl rfl hl.1 rfl (lv_room (Nat.le_of_ble_eq_true rfl)) dP_evaluate_56 ⟨Nat.le_of_ble_eq_true rfl, Nat.le_of_ble_eq_true rfl⟩) hP hD hS hA (fun r56 w56 H locs p56 hP hD hS => ?_)
      obtain ⟨rfl, rfl⟩ := p56
      have hP : va_P D vwCl ([(g, .inr (3, [.ref eo, .ref bo, .ref t, .ref co])), (eo, .inr (2, [.ref (eq 0), .ref (eq 1), .ref (eq 2), .ref (eq 3), .int (nI X.2.2.2.2)])), ((eq 0), .inl (cI, 80, .inl X.1)), ((eq 1), .inl (cI, 80, .inl X.2.1)), ((eq 2), .inl (cI, 80, .inl X.2.2.1)), ((eq 3), .inl (cI, 80, .inl X.2.2.2.1)), (bo, .inl (cB, 8, .inr (.inr (.inr (.inr ba))))), (t, .inr (4, [.ref (tq 0), .ref (tq 1), .ref (tq 2), .ref (tq 3), .ref (tq 4), .ref (tq 5), .ref (tq 6), .ref (tq 7), .int (nI (((((pg X ba Bs n).1 a lv S).2).1).2.2.2.2))])), ((tq 0), .inl (cI, 64, .inl (fun z9 => nI ((((((pg X ba Bs n).1 a lv S).2).1).1) z9)))), ((tq 1), .inl (cI, 64, .inl (fun z9 => nI ((((((pg X ba Bs n).1 a lv S).2).1).2.1) z9)))), ((tq 2), .inl (cI, 64, .inl (fun z9 => nI ((((((pg X ba Bs n).1 a lv S).2).1).2.2.1) z9)))), ((tq 3), .inl (cJ, 64, .inr (.inl (((((pg X ba Bs n).1 a lv S).2).1).2.2.2.1)))), ((tq 4), .inl (cJ, 64, .inr (.inl f1))), ((tq 5), .inl (cJ, 64, .inr (.inl f2))), ((tq 6), .inl (cJ, 64, .inr (.inl f3))), ((tq 7), .inl (cJ, 64, .inr (.inl f4))), (co, .inl (cI, 112, .inl (fun z9 => nI (((((pg X ba Bs n).1 a lv S).2).2) z9))))] ++ tl) H := hP
      have hD : va_D A ([(g, .inr (3, [.ref eo, .ref bo, .ref t, .ref co])), (eo, .inr (2, [.ref (eq 0), .ref (eq 1), .ref (eq 2), .ref (eq 3), .int (nI X.2.2.2.2)])), ((eq 0), .inl (cI, 80, .inl X.1)), ((eq 1), .inl (cI, 80, .inl X.2.1)), ((eq 2), .inl (cI, 80, .inl X.2.2.1)), ((eq 3), .inl (cI, 80, .inl X.2.2.2.1)), (bo, .inl (cB, 8, .inr (.inr (.inr (.inr ba))))), (t, .inr (4, [.ref (tq 0), .ref (tq 1), .ref (tq 2), .ref (tq 3), .ref (tq 4), .ref (tq 5), .ref (tq 6), .ref (tq 7), .int (nI (((((pg X ba Bs n).1 a lv S).2).1).2.2.2.2))])), ((tq 0), .inl (cI, 64, .inl (fun z9 => nI ((((((pg X ba Bs n).1 a lv S).2).1).1) z9)))), ((tq 1), .inl (cI, 64, .inl (fun z9 => nI ((((((pg X ba Bs n).1 a lv S).2).1).2.1) z9)))), ((tq 2), .inl (cI, 64, .inl (fun z9 => nI ((((((pg X ba Bs n).1 a lv S).2).1).2.2.1) z9)))), ((tq 3), .inl (cJ, 64, .inr (.inl (((((pg X ba Bs n).1 a lv S).2).1).2.2.2.1)))), ((tq 4), .inl (cJ, 64, .inr (.inl f1))), ((tq 5), .inl (cJ, 64, .inr (.inl f2))), ((tq 6), .inl (cJ, 64, .inr (.inl f3))), ((tq 7), .inl (cJ, 64, .inr (.inl f4))), (co, .inl (cI, 112, .inl (fun z9 => nI (((((pg X ba Bs n).1 a lv S).2).2) z9))))] ++ tl) := hD
      have b56 := hre a lv S (by omega) hlv hS9
      have b56x := b56.1
      have b56y := b56.2.1
      refine lv_goto (tgt := 63) hx hb dP_evaluate_59 (by decide) ?_
      refine lv_istore (lv' := [(7, .int (nI (((pg X ba Bs n).1 a lv S).1))), (6, .int (nI b)), (5, .int (nI a)), (4, .int 2), (0, .ref g), (1, .int (nI e)), (2, .int (nI lv)), (3, .int (nI d))]) hx hb dP_evaluate_63 hl (by decide) rfl (fun ls hl => ?_)
      refine lv_iload hx hb dP_evaluate_65 (lv_at hl 3 rfl) ?_
      refine gc_i (va_runS (As := [.int 2]) (rest := []) ⟨hx, hb, hml, hown, ht⟩ (c_E_hasRight l D cI cJ cB cZ 2 H.size) (va_cwS 1 ht (gw_S m_342 m_175 m_3 m_176) rfl rfl rfl (by decide +kernel) ⟨show 0 + 1 ≤ 8 * (n + 1) + 8 by omega, show 8 + (1 + 11) + (0) ≤ 200 * (n + 1) + 200 by omega⟩) (gp_S hK hN (hP.sub (ws' := ([] : va_W)) [] rfl) (hD.sub (ws' := ([] : va_W)) [] (by decide) rfl)) rfl rfl hl.1 rfl (lv_room (Nat.le_of_ble_eq_true rfl)) dP_evaluate_67 ⟨Nat.le_of_ble_eq_true rfl, Nat.le_of_ble_eq_true rfl⟩) hP hD hS hA [] rfl (by decide) (fun r w h => by obtain ⟨_, rfl⟩ := h; rfl) (fun r67 w67 H locs p67 hP hD hS => ?_)
      obtain ⟨rfl, rfl⟩ := p67
      have hP : va_P D vwCl ([(g, .inr (3, [.ref eo, .ref bo, .ref t, .ref co])), (eo, .inr (2, [.ref (eq 0), .ref (eq 1), .ref (eq 2), .ref (eq 3), .int (nI X.2.2.2.2)])), ((eq 0), .inl (cI, 80, .inl X.1)), ((eq 1), .inl (cI, 80, .inl X.2.1)), ((eq 2), .inl (cI, 80, .inl X.2.2.1)), ((eq 3), .inl (cI, 80, .inl X.2.2.2.1)), (bo, .inl (cB, 8, .inr (.inr (.inr (.inr ba))))), (t, .inr (4, [.ref (tq 0), .ref (tq 1), .ref (tq 2), .ref (tq 3), .ref (tq 4), .ref (tq 5), .ref (tq 6), .ref (tq 7), .int (nI (((((pg X ba Bs n).1 a lv S).2).1).2.2.2.2))])), ((tq 0), .inl (cI, 64, .inl (fun z9 => nI ((((((pg X ba Bs n).1 a lv S).2).1).1) z9)))), ((tq 1), .inl (cI, 64, .inl (fun z9 => nI ((((((pg X ba Bs n).1 a lv S).2).1).2.1) z9)))), ((tq 2), .inl (cI, 64, .inl (fun z9 => nI ((((((pg X ba Bs n).1 a lv S).2).1).2.2.1) z9)))), ((tq 3), .inl (cJ, 64, .inr (.inl (((((pg X ba Bs n).1 a lv S).2).1).2.2.2.1)))), ((tq 4), .inl (cJ, 64, .inr (.inl f1))), ((tq 5), .inl (cJ, 64, .inr (.inl f2))), ((tq 6), .inl (cJ, 64, .inr (.inl f3))), ((tq 7), .inl (cJ, 64, .inr (.inl f4))), (co, .inl (cI, 112, .inl (fun z9 => nI (((((pg X ba Bs n).1 a lv S).2).2) z9))))] ++ tl) H := hP
      have hD : va_D A ([(g, .inr (3, [.ref eo, .ref bo, .ref t, .ref co])), (eo, .inr (2, [.ref (eq 0), .ref (eq 1), .ref (eq 2), .ref (eq 3), .int (nI X.2.2.2.2)])), ((eq 0), .inl (cI, 80, .inl X.1)), ((eq 1), .inl (cI, 80, .inl X.2.1)), ((eq 2), .inl (cI, 80, .inl X.2.2.1)), ((eq 3), .inl (cI, 80, .inl X.2.2.2.1)), (bo, .inl (cB, 8, .inr (.inr (.inr (.inr ba))))), (t, .inr (4, [.ref (tq 0), .ref (tq 1), .ref (tq 2), .ref (tq 3), .ref (tq 4), .ref (tq 5), .ref (tq 6), .ref (tq 7), .int (nI (((((pg X ba Bs n).1 a lv S).2).1).2.2.2.2))])), ((tq 0), .inl (cI, 64, .inl (fun z9 => nI ((((((pg X ba Bs n).1 a lv S).2).1).1) z9)))), ((tq 1), .inl (cI, 64, .inl (fun z9 => nI ((((((pg X ba Bs n).1 a lv S).2).1).2.1) z9)))), ((tq 2), .inl (cI, 64, .inl (fun z9 => nI ((((((pg X ba Bs n).1 a lv S).2).1).2.2.1) z9)))), ((tq 3), .inl (cJ, 64, .inr (.inl (((((pg X ba Bs n).1 a lv S).2).1).2.2.2.1)))), ((tq 4), .inl (cJ, 64, .inr (.inl f1))), ((tq 5), .inl (cJ, 64, .inr (.inl f2))), ((tq 6), .inl (cJ, 64, .inr (.inl f3))), ((tq 7), .inl (cJ, 64, .inr (.inl f4))), (co, .inl (cI, 112, .inl (fun z9 => nI (((((pg X ba Bs n).1 a lv S).2).2) z9))))] ++ tl) := hD
      refine lv_if_eq (tgt := 86) hx hb dP_evaluate_70 (by decide) (fun c70 => ?_) (fun c70 => ?_)
      · exact (gb_1.mp c70 (by decide)).elim
      · refine lv_aload_n hx hb dP_evaluate_73 rfl (lv_at hl 4 rfl) ?_
        refine lv_iload hx hb dP_evaluate_74 (lv_at hl 1 rfl) ?_
        refine lv_iload_n hx hb dP_evaluate_76 rfl (lv_at hl 6 rfl) ?_
        refine lv_iload_n hx hb dP_evaluate_77 rfl (lv_at hl 7 rfl) ?_
        refine lv_iconst (v := 1) hx hb dP_evaluate_78 (by decide) ?_
        refine lv_iadd hx hb dP_evaluate_79 ?_
        refine lv_topi (fun v79 e79 => ?_)
        have n79 : v79 = nI (d + 1) := by rw [e79]; exact gx_add (rfl : (nI d) = (nI d)) (rfl : (1 : Int32) = nI 1)
        subst n79
        refine gc_wi (va_runV (As := [.int (nI b), .int (nI lv), .int (nI (d + 1))]) (rest := []) ⟨hx, hb, hml, hown, ht⟩ (hE (d + 1) b lv (((pg X ba Bs n).1 a lv S).2) (by omega) (by omega) hlv b56.2 H.size) (cwV 3 ht (gw_V m_337 m_339 ms_12 m_2 m_340) rfl rfl rfl (by decide +kernel) ⟨show (8 * n + 8) + 1 ≤ 8 * (n + 1) + 8 by omega, show 8 + (9 + 11) + (200 * n + 200) ≤ 200 * (n + 1) + 200 by omega⟩) (gp_V (ci := 3) (q0 := 0) hK hN hP hD rfl rfl) rfl rfl hl.1 rfl (lv_room (Nat.le_of_ble_eq_true rfl)) dP_evaluate_80 ⟨Nat.le_of_ble_eq_true rfl, Nat.le_of_ble_eq_true rfl⟩) hP hD hS hA (fun r80 w80 H locs p80 hP hD hS => ?_)
        obtain ⟨rfl, rfl⟩ := p80
        have hP : va_P D vwCl ([(g, .inr (3, [.ref eo, .ref bo, .ref t, .ref co])), (eo, .inr (2, [.ref (eq 0), .ref (eq 1), .ref (eq 2), .ref (eq 3), .int (nI X.2.2.2.2)])), ((eq 0), .inl (cI, 80, .inl X.1)), ((eq 1), .inl (cI, 80, .inl X.2.1)), ((eq 2), .inl (cI, 80, .inl X.2.2.1)), ((eq 3), .inl (cI, 80, .inl X.2.2.2.1)), (bo, .inl (cB, 8, .inr (.inr (.inr (.inr ba))))), (t, .inr (4, [.ref (tq 0), .ref (tq 1), .ref (tq 2), .ref (tq 3), .ref (tq 4), .ref (tq 5), .ref (tq 6), .ref (tq 7), .int (nI (((((pg X ba Bs n).1 b lv (((pg X ba Bs n).1 a lv S).2)).2).1).2.2.2.2))])), ((tq 0), .inl (cI, 64, .inl (fun z9 => nI ((((((pg X ba Bs n).1 b lv (((pg X ba Bs n).1 a lv S).2)).2).1).1) z9)))), ((tq 1), .inl (cI, 64, .inl (fun z9 => nI ((((((pg X ba Bs n).1 b lv (((pg X ba Bs n).1 a lv S).2)).2).1).2.1) z9)))), ((tq 2), .inl (cI, 64, .inl (fun z9 => nI ((((((pg X ba Bs n).1 b lv (((pg X ba Bs n).1 a lv S).2)).2).1).2.2.1) z9)))), ((tq 3), .inl (cJ, 64, .inr (.inl (((((pg X ba Bs n).1 b lv (((pg X ba Bs n).1 a lv S).2)).2).1).2.2.2.1)))), ((tq 4), .inl (cJ, 64, .inr (.inl f1))), ((tq 5), .inl (cJ, 64, .inr (.inl f2))), ((tq 6), .inl (cJ, 64, .inr (.inl f3))), ((tq 7), .inl (cJ, 64, .inr (.inl f4))), (co, .inl (cI, 112, .inl (fun z9 => nI (((((pg X ba Bs n).1 b lv (((pg X ba Bs n).1 a lv S).2)).2).2) z9))))] ++ tl) H := hP
        have hD : va_D A ([(g, .inr (3, [.ref eo, .ref bo, .ref t, .ref co])), (eo, .inr (2, [.ref (eq 0), .ref (eq 1), .ref (eq 2), .ref (eq 3), .int (nI X.2.2.2.2)])), ((eq 0), .inl (cI, 80, .inl X.1)), ((eq 1), .inl (cI, 80, .inl X.2.1)), ((eq 2), .inl (cI, 80, .inl X.2.2.1)), ((eq 3), .inl (cI, 80, .inl X.2.2.2.1)), (bo, .inl (cB, 8, .inr (.inr (.inr (.inr ba))))), (t, .inr (4, [.ref (tq 0), .ref (tq 1), .ref (tq 2), .ref (tq 3), .ref (tq 4), .ref (tq 5), .ref (tq 6), .ref (tq 7), .int (nI (((((pg X ba Bs n).1 b lv (((pg X ba Bs n).1 a lv S).2)).2).1).2.2.2.2))])), ((tq 0), .inl (cI, 64, .inl (fun z9 => nI ((((((pg X ba Bs n).1 b lv (((pg X ba Bs n).1 a lv S).2)).2).1).1) z9)))), ((tq 1), .inl (cI, 64, .inl (fun z9 => nI ((((((pg X ba Bs n).1 b lv (((pg X ba Bs n).1 a lv S).2)).2).1).2.1) z9)))), ((tq 2), .inl (cI, 64, .inl (fun z9 => nI ((((((pg X ba Bs n).1 b lv (((pg X ba Bs n).1 a lv S).2)).2).1).2.2.1) z9)))), ((tq 3), .inl (cJ, 64, .inr (.inl (((((pg X ba Bs n).1 b lv (((pg X ba Bs n).1 a lv S).2)).2).1).2.2.2.1)))), ((tq 4), .inl (cJ, 64, .inr (.inl f1))), ((tq 5), .inl (cJ, 64, .inr (.inl f2))), ((tq 6), .inl (cJ, 64, .inr (.inl f3))), ((tq 7), .inl (cJ, 64, .inr (.inl f4))), (co, .inl (cI, 112, .inl (fun z9 => nI (((((pg X ba Bs n).1 b lv (((pg X ba Bs n).1 a lv S).2)).2).2) z9))))] ++ tl) := hD
        have b80 := hre b lv (((pg X ba Bs n).1 a lv S).2) (by omega) hlv b56.2
        have b80x := b80.1
        have b80y := b80.2.1
        refine lv_goto (tgt := 87) hx hb dP_evaluate_83 (by decide) ?_
        refine lv_istore (lv' := [(8, .int (nI (((pg X ba Bs n).1 b lv (((pg X ba Bs n).1 a lv S).2)).1))), (7, .int (nI (((pg X ba Bs n).1 a lv S).1))), (6, .int (nI b)), (5, .int (nI a)), (4, .int 2), (0, .ref g), (1, .int (nI e)), (2, .int (nI lv)), (3, .int (nI d))]) hx hb dP_evaluate_87 hl (by decide) rfl (fun ls hl => ?_)
        refine lv_iload hx hb dP_evaluate_89 (lv_at hl 4 rfl) ?_
        refine lv_tableIn (tgt := 227) (off := 136) hx hb dP_evaluate_91 (by decide) (by decide) (by rfl) (by decide) ?_
        refine lv_aload_n hx hb dP_evaluate_227 rfl (lv_at hl 5 rfl) ?_
        refine lv_iload hx hb dP_evaluate_228 (lv_at hl 4 rfl) ?_
        refine lv_iload hx hb dP_evaluate_230 (lv_at hl 1 rfl) ?_
        refine lv_iload hx hb dP_evaluate_232 (lv_at hl 0 rfl) ?_
        refine gc_wi (va_runV (As := [.int 2, .int (nI (((pg X ba Bs n).1 a lv S).1)), .int (nI (((pg X ba Bs n).1 b lv (((pg X ba Bs n).1 a lv S).2)).1))]) (rest := []) ⟨hx, hb, hml, hown, ht⟩ (c_P_combine l D cI cJ cB cZ g eo bo t co eq tq tl X ba f1 f2 f3 f4 (((pg X ba Bs n).1 b lv (((pg X ba Bs n).1 a lv S).2)).2) 2 (((pg X ba Bs n).1 a lv S).1) (((pg X ba Bs n).1 b lv (((pg X ba Bs n).1 a lv S).2)).1) (by omega) b80.2.1 (by omega) (by omega) H.size) (cwV 3 ht (gw_V m_361 m_363 ms_14 m_2 m_364) rfl rfl rfl (by decide +kernel) ⟨show 3 + 1 ≤ 8 * (n + 1) + 8 by omega, show 8 + (4 + 11) + (69) ≤ 200 * (n + 1) + 200 by omega⟩) (gp_V (ci := 3) (q0 := 0) hK hN hP hD rfl rfl) rfl rfl hl.1 rfl (lv_room (Nat.le_of_ble_eq_true rfl)) dP_evaluate_234 ⟨Nat.le_of_ble_eq_true rfl, Nat.le_of_ble_eq_true rfl⟩) hP hD hS hA (fun r234 w234 H locs p234 hP hD hS => ?_)
        obtain ⟨rfl, rfl⟩ := p234
        have hP : va_P D vwCl ([(g, .inr (3, [.ref eo, .ref bo, .ref t, .ref co])), (eo, .inr (2, [.ref (eq 0), .ref (eq 1), .ref (eq 2), .ref (eq 3), .int (nI X.2.2.2.2)])), ((eq 0), .inl (cI, 80, .inl X.1)), ((eq 1), .inl (cI, 80, .inl X.2.1)), ((eq 2), .inl (cI, 80, .inl X.2.2.1)), ((eq 3), .inl (cI, 80, .inl X.2.2.2.1)), (bo, .inl (cB, 8, .inr (.inr (.inr (.inr ba))))), (t, .inr (4, [.ref (tq 0), .ref (tq 1), .ref (tq 2), .ref (tq 3), .ref (tq 4), .ref (tq 5), .ref (tq 6), .ref (tq 7), .int (nI ((((px_comb 2 (((pg X ba Bs n).1 a lv S).1) (((pg X ba Bs n).1 b lv (((pg X ba Bs n).1 a lv S).2)).1) ((((pg X ba Bs n).1 b lv (((pg X ba Bs n).1 a lv S).2)).2).1)).2, ((((pg X ba Bs n).1 b lv (((pg X ba Bs n).1 a lv S).2)).2).2)).1).2.2.2.2))])), ((tq 0), .inl (cI, 64, .inl (fun z9 => nI (((((px_comb 2 (((pg X ba Bs n).1 a lv S).1) (((pg X ba Bs n).1 b lv (((pg X ba Bs n).1 a lv S).2)).1) ((((pg X ba Bs n).1 b lv (((pg X ba Bs n).1 a lv S).2)).2).1)).2, ((((pg X ba Bs n).1 b lv (((pg X ba Bs n).1 a lv S).2)).2).2)).1).1) z9)))), ((tq 1), .inl (cI, 64, .inl (fun z9 => nI (((((px_comb 2 (((pg X ba Bs n).1 a lv S).1) (((pg X ba Bs n).1 b lv (((pg X ba Bs n).1 a lv S).2)).1) ((((pg X ba Bs n).1 b lv (((pg X ba Bs n).1 a lv S).2)).2).1)).2, ((((pg X ba Bs n).1 b lv (((pg X ba Bs n).1 a lv S).2)).2).2)).1).2.1) z9)))), ((tq 2), .inl (cI, 64, .inl (fun z9 => nI (((((px_comb 2 (((pg X ba Bs n).1 a lv S).1) (((pg X ba Bs n).1 b lv (((pg X ba Bs n).1 a lv S).2)).1) ((((pg X ba Bs n).1 b lv (((pg X ba Bs n).1 a lv S).2)).2).1)).2, ((((pg X ba Bs n).1 b lv (((pg X ba Bs n).1 a lv S).2)).2).2)).1).2.2.1) z9)))), ((tq 3), .inl (cJ, 64, .inr (.inl ((((px_comb 2 (((pg X ba Bs n).1 a lv S).1) (((pg X ba Bs n).1 b lv (((pg X ba Bs n).1 a lv S).2)).1) ((((pg X ba Bs n).1 b lv (((pg X ba Bs n).1 a lv S).2)).2).1)).2, ((((pg X ba Bs n).1 b lv (((pg X ba Bs n).1 a lv S).2)).2).2)).1).2.2.2.1)))), ((tq 4), .inl (cJ, 64, .inr (.inl f1))), ((tq 5), .inl (cJ, 64, .inr (.inl f2))), ((tq 6), .inl (cJ, 64, .inr (.inl f3))), ((tq 7), .inl (cJ, 64, .inr (.inl f4))), (co, .inl (cI, 112, .inl (fun z9 => nI ((((px_comb 2 (((pg X ba Bs n).1 a lv S).1) (((pg X ba Bs n).1 b lv (((pg X ba Bs n).1 a lv S).2)).1) ((((pg X ba Bs n).1 b lv (((pg X ba Bs n).1 a lv S).2)).2).1)).2, ((((pg X ba Bs n).1 b lv (((pg X ba Bs n).1 a lv S).2)).2).2)).2) z9))))] ++ tl) H := hP
        have hD : va_D A ([(g, .inr (3, [.ref eo, .ref bo, .ref t, .ref co])), (eo, .inr (2, [.ref (eq 0), .ref (eq 1), .ref (eq 2), .ref (eq 3), .int (nI X.2.2.2.2)])), ((eq 0), .inl (cI, 80, .inl X.1)), ((eq 1), .inl (cI, 80, .inl X.2.1)), ((eq 2), .inl (cI, 80, .inl X.2.2.1)), ((eq 3), .inl (cI, 80, .inl X.2.2.2.1)), (bo, .inl (cB, 8, .inr (.inr (.inr (.inr ba))))), (t, .inr (4, [.ref (tq 0), .ref (tq 1), .ref (tq 2), .ref (tq 3), .ref (tq 4), .ref (tq 5), .ref (tq 6), .ref (tq 7), .int (nI ((((px_comb 2 (((pg X ba Bs n).1 a lv S).1) (((pg X ba Bs n).1 b lv (((pg X ba Bs n).1 a lv S).2)).1) ((((pg X ba Bs n).1 b lv (((pg X ba Bs n).1 a lv S).2)).2).1)).2, ((((pg X ba Bs n).1 b lv (((pg X ba Bs n).1 a lv S).2)).2).2)).1).2.2.2.2))])), ((tq 0), .inl (cI, 64, .inl (fun z9 => nI (((((px_comb 2 (((pg X ba Bs n).1 a lv S).1) (((pg X ba Bs n).1 b lv (((pg X ba Bs n).1 a lv S).2)).1) ((((pg X ba Bs n).1 b lv (((pg X ba Bs n).1 a lv S).2)).2).1)).2, ((((pg X ba Bs n).1 b lv (((pg X ba Bs n).1 a lv S).2)).2).2)).1).1) z9)))), ((tq 1), .inl (cI, 64, .inl (fun z9 => nI (((((px_comb 2 (((pg X ba Bs n).1 a lv S).1) (((pg X ba Bs n).1 b lv (((pg X ba Bs n).1 a lv S).2)).1) ((((pg X ba Bs n).1 b lv (((pg X ba Bs n).1 a lv S).2)).2).1)).2, ((((pg X ba Bs n).1 b lv (((pg X ba Bs n).1 a lv S).2)).2).2)).1).2.1) z9)))), ((tq 2), .inl (cI, 64, .inl (fun z9 => nI (((((px_comb 2 (((pg X ba Bs n).1 a lv S).1) (((pg X ba Bs n).1 b lv (((pg X ba Bs n).1 a lv S).2)).1) ((((pg X ba Bs n).1 b lv (((pg X ba Bs n).1 a lv S).2)).2).1)).2, ((((pg X ba Bs n).1 b lv (((pg X ba Bs n).1 a lv S).2)).2).2)).1).2.2.1) z9)))), ((tq 3), .inl (cJ, 64, .inr (.inl ((((px_comb 2 (((pg X ba Bs n).1 a lv S).1) (((pg X ba Bs n).1 b lv (((pg X ba Bs n).1 a lv S).2)).1) ((((pg X ba Bs n).1 b lv (((pg X ba Bs n).1 a lv S).2)).2).1)).2, ((((pg X ba Bs n).1 b lv (((pg X ba Bs n).1 a lv S).2)).2).2)).1).2.2.2.1)))), ((tq 4), .inl (cJ, 64, .inr (.inl f1))), ((tq 5), .inl (cJ, 64, .inr (.inl f2))), ((tq 6), .inl (cJ, 64, .inr (.inl f3))), ((tq 7), .inl (cJ, 64, .inr (.inl f4))), (co, .inl (cI, 112, .inl (fun z9 => nI ((((px_comb 2 (((pg X ba Bs n).1 a lv S).1) (((pg X ba Bs n).1 b lv (((pg X ba Bs n).1 a lv S).2)).1) ((((pg X ba Bs n).1 b lv (((pg X ba Bs n).1 a lv S).2)).2).1)).2, ((((pg X ba Bs n).1 b lv (((pg X ba Bs n).1 a lv S).2)).2).2)).2) z9))))] ++ tl) := hD
        have hz : (pg X ba Bs (n + 1)).1 e lv S = (((px_comb 2 (((pg X ba Bs n).1 a lv S).1) (((pg X ba Bs n).1 b lv (((pg X ba Bs n).1 a lv S).2)).1) ((((pg X ba Bs n).1 b lv (((pg X ba Bs n).1 a lv S).2)).2).1)).1), (px_comb 2 (((pg X ba Bs n).1 a lv S).1) (((pg X ba Bs n).1 b lv (((pg X ba Bs n).1 a lv S).2)).1) ((((pg X ba Bs n).1 b lv (((pg X ba Bs n).1 a lv S).2)).2).1)).2, ((((pg X ba Bs n).1 b lv (((pg X ba Bs n).1 a lv S).2)).2).2)) := by
          show px_ev X (pg X ba Bs n).1 (px_ent ba Bs (pg X ba Bs n).2) e lv S = _
          simp [px_ev, px_r1, px_r2, px_R, hke, hea, heb, show cn (2 : Int32) = 2 from rfl, cn_nI (show a < 2 ^ 31 by omega), cn_nI (show b < 2 ^ 31 by omega)]
        exact W.iret (v := (nI ((px_comb 2 (((pg X ba Bs n).1 a lv S).1) (((pg X ba Bs n).1 b lv (((pg X ba Bs n).1 a lv S).2)).1) ((((pg X ba Bs n).1 b lv (((pg X ba Bs n).1 a lv S).2)).2).1)).1))) hx hb hr (fun t9 ht9 hW => ⟨⟨(nI ((px_comb 2 (((pg X ba Bs n).1 a lv S).1) (((pg X ba Bs n).1 b lv (((pg X ba Bs n).1 a lv S).2)).1) ((((pg X ba Bs n).1 b lv (((pg X ba Bs n).1 a lv S).2)).2).1)).1)), _, rfl, ⟨by rw [hz], by rw [hz]⟩, by rw [ht9]; exact hP, hD⟩, hS.F ht9⟩) hS.2.2 dP_evaluate_237
  · have g3 : ¬ (d ≤ 50) := fun z => c3 ((gx_le (rfl : (nI d) = (nI d)) (rfl : (50 : Int32) = nI 50) (by omega) (by decide)).mpr z)
    exact absurd g3 (by omega)

set_option maxHeartbeats 4000000 in
set_option maxRecDepth 100000 in
theorem c_P_evaluate_3 (l : Launch) (D : va_G) (cI cJ cB cZ : ClassId) (g eo bo t co : Nat) (eq tq : Nat → Nat) (tl : va_W) (X : Ex) (ba : Nat → Option Nat) (f1 f2 f3 f4 : Nat → Int64) (Bs : Nat → Bd) (n d e lv : Nat) (S : Sx) (a : Nat) (b : Nat) (hE : cE l D cI cJ cB cZ g eo bo t co eq tq tl X ba f1 f2 f3 f4 Bs n) (hN9 : cN l D cI cJ cB cZ g eo bo t co eq tq tl X ba f1 f2 f3 f4 Bs n) (hd : d + (n + 1) = 51) (hX80 : X.2.2.2.2 ≤ 80) (he : e < X.2.2.2.2) (hlv : lv < 8) (hS9 : sx_ok S) (hre : re_ok X (pg X ba Bs n).1) (hke : X.1 e = 3) (ha : a < e) (hea : X.2.1 e = nI a) (hb8 : b < e) (heb : X.2.2.1 e = nI b) : ct_I l y_P_evaluate w_P_evaluate ({ frames := 8 * (n + 1) + 8, cells := 0, slots := 0, locals := 200 * (n + 1) + 200 }) D (gk_T cI cJ cB cZ) [.ref g, .int (nI e), .int (nI lv), .int (nI d)] (wPg cI cJ cB g eo bo t co eq tq X ba S f1 f2 f3 f4 ++ tl) (0) (0) (fun r w => r = nI ((pg X ba Bs (n + 1)).1 e lv S).1 ∧ w = (wPg cI cJ cB g eo bo t co eq tq X ba (((pg X ba Bs (n + 1)).1 e lv S).2) f1 f2 f3 f4 ++ tl)) := by
  intro sz
  refine Met.ofW (cc := b_P_evaluate) (maxL := 9) (ret := (some .int)) (by decide) rfl ?_
  intro p ev9 s m args below meth c s₁ B9 hml hv
  obtain ⟨rfl, hsz, hP, hK, hN, hD0⟩ := hv
  have hx := B9.exec
  have hb := B9.bytes
  have hr := B9.returns
  have hts := atoms_spec (ws := w_P_evaluate) B9.pre
  have ht : ∀ w ∈ gk_big, w.before _ s = true := fun w h => hts w (List.mem_cons_of_mem _ h)
  have hown : s.vm.findClass R_P = some m.cls := findClass_of_methodNamed B9.named
  have hlocks := B9.notSynchronized
  subst hsz
  have hD := hD0.self (sz := s.heap.size)
  generalize hAe : va_A (wPg cI cJ cB g eo bo t co eq tq X ba S f1 f2 f3 f4 ++ tl) s.heap.size = A at hD ⊢
  have hA : ∀ q : Nat, s.heap.size ≤ q → A q := fun q h => by rw [← hAe]; exact Or.inr h
  generalize hHe : s.heap = H at hP ⊢
  have hS : va_S A s.heap H [] := by rw [← hHe]; exact va_S.rf
  have hP : va_P D vwCl ([(g, .inr (3, [.ref eo, .ref bo, .ref t, .ref co])), (eo, .inr (2, [.ref (eq 0), .ref (eq 1), .ref (eq 2), .ref (eq 3), .int (nI X.2.2.2.2)])), ((eq 0), .inl (cI, 80, .inl X.1)), ((eq 1), .inl (cI, 80, .inl X.2.1)), ((eq 2), .inl (cI, 80, .inl X.2.2.1)), ((eq 3), .inl (cI, 80, .inl X.2.2.2.1)), (bo, .inl (cB, 8, .inr (.inr (.inr (.inr ba))))), (t, .inr (4, [.ref (tq 0), .ref (tq 1), .ref (tq 2), .ref (tq 3), .ref (tq 4), .ref (tq 5), .ref (tq 6), .ref (tq 7), .int (nI S.1.2.2.2.2)])), ((tq 0), .inl (cI, 64, .inl (fun z9 => nI (S.1.1 z9)))), ((tq 1), .inl (cI, 64, .inl (fun z9 => nI (S.1.2.1 z9)))), ((tq 2), .inl (cI, 64, .inl (fun z9 => nI (S.1.2.2.1 z9)))), ((tq 3), .inl (cJ, 64, .inr (.inl S.1.2.2.2.1))), ((tq 4), .inl (cJ, 64, .inr (.inl f1))), ((tq 5), .inl (cJ, 64, .inr (.inl f2))), ((tq 6), .inl (cJ, 64, .inr (.inl f3))), ((tq 7), .inl (cJ, 64, .inr (.inl f4))), (co, .inl (cI, 112, .inl (fun z9 => nI (S.2 z9))))] ++ tl) H := hP
  have hD : va_D A ([(g, .inr (3, [.ref eo, .ref bo, .ref t, .ref co])), (eo, .inr (2, [.ref (eq 0), .ref (eq 1), .ref (eq 2), .ref (eq 3), .int (nI X.2.2.2.2)])), ((eq 0), .inl (cI, 80, .inl X.1)), ((eq 1), .inl (cI, 80, .inl X.2.1)), ((eq 2), .inl (cI, 80, .inl X.2.2.1)), ((eq 3), .inl (cI, 80, .inl X.2.2.2.1)), (bo, .inl (cB, 8, .inr (.inr (.inr (.inr ba))))), (t, .inr (4, [.ref (tq 0), .ref (tq 1), .ref (tq 2), .ref (tq 3), .ref (tq 4), .ref (tq 5), .ref (tq 6), .ref (tq 7), .int (nI S.1.2.2.2.2)])), ((tq 0), .inl (cI, 64, .inl (fun z9 => nI (S.1.1 z9)))), ((tq 1), .inl (cI, 64, .inl (fun z9 => nI (S.1.2.1 z9)))), ((tq 2), .inl (cI, 64, .inl (fun z9 => nI (S.1.2.2.1 z9)))), ((tq 3), .inl (cJ, 64, .inr (.inl S.1.2.2.2.1))), ((tq 4), .inl (cJ, 64, .inr (.inl f1))), ((tq 5), .inl (cJ, 64, .inr (.inl f2))), ((tq 6), .inl (cJ, 64, .inr (.inl f3))), ((tq 7), .inl (cJ, 64, .inr (.inl f4))), (co, .inl (cI, 112, .inl (fun z9 => nI (S.2 z9))))] ++ tl) := hD
  have hl := lv_entry ([.ref g, .int (nI e), .int (nI lv), .int (nI d)]) (n := 9) (Nat.le_of_ble_eq_true rfl)
  rw [lg_entry_eq]
  generalize (lg_sl ([.ref g, .int (nI e), .int (nI lv), .int (nI d)]) ++ List.replicate (9 - (lg_sl ([.ref g, .int (nI e), .int (nI lv), .int (nI d)])).length) Slot.unset).toArray = ls at hl ⊢
  have hl : lv_has ls 9 [(0, .ref g), (1, .int (nI e)), (2, .int (nI lv)), (3, .int (nI d))] := hl
  have hSn := hS9.1
  have hSc := hS9.2
  refine lv_iload_n hx hb dP_evaluate_0 rfl (lv_at hl 3 rfl) ?_
  refine lv_bipush (v := 50) hx hb dP_evaluate_1 (by decide) ?_
  refine lv_icmp_le (tgt := 8) hx hb dP_evaluate_3 (by decide) (fun c3 => ?_) (fun c3 => ?_)
  · have g3 : d ≤ 50 := (gx_le (rfl : (nI d) = (nI d)) (rfl : (50 : Int32) = nI 50) (by omega) (by decide)).mp c3
    refine lv_aload_n hx hb dP_evaluate_8 rfl (lv_at hl 0 rfl) ?_
    refine va_get (D := D) (ci := 3) (v := .ref eo) (C := R_P) (T := F_P) (N := 4) hx hb ht i_P hown hK hP 0 rfl rfl 0 (by decide) (ht _ m_91) (fun _ h9 => h9) rfl dP_evaluate_9 ?_
    refine va_getN (D := D) (ci := 2) (v := .ref (eq 0)) (C := R_E) (T := F_E) (N := 5) hx hb ht i_E hown hK hP 1 rfl rfl 0 (by decide) (va_Nw.use rfl (hN _ mn_2)) (fun _ h9 => h9) rfl dP_evaluate_12 ?_
    refine lv_iload_n hx hb dP_evaluate_15 rfl (lv_at hl 1 rfl) ?_
    have i16 : vp_in (nI e) 80 := gx_in (rfl : (nI e) = (nI e)) (by omega) (by decide)
    have k16 : ((nI e) : Int32).toNatClampNeg = e := gx_cl (rfl : (nI e) = (nI e)) (by omega)
    refine va_iald hx hb hK hP 2 0 rfl rfl i16 dP_evaluate_16 ?_
    rw [k16]
    refine lv_topi (fun v16 e16 => ?_)
    rw [hke] at e16
    subst e16
    refine lv_istore (lv' := [(4, .int 3), (0, .ref g), (1, .int (nI e)), (2, .int (nI lv)), (3, .int (nI d))]) hx hb dP_evaluate_17 hl (by decide) rfl (fun ls hl => ?_)
    refine lv_aload_n hx hb dP_evaluate_19 rfl (lv_at hl 1 rfl) ?_
    refine va_get (D := D) (ci := 3) (v := .ref eo) (C := R_P) (T := F_P) (N := 4) hx hb ht i_P hown hK hP 0 rfl rfl 0 (by decide) (ht _ m_91) (fun _ h9 => h9) rfl dP_evaluate_20 ?_
    refine va_getN (D := D) (ci := 2) (v := .ref (eq 1)) (C := R_E) (T := F_E) (N := 5) hx hb ht i_E hown hK hP 1 rfl rfl 1 (by decide) (va_Nw.use rfl (hN _ mn_3)) (fun _ h9 => h9) rfl dP_evaluate_23 ?_
    refine lv_iload_n hx hb dP_evaluate_26 rfl (lv_at hl 2 rfl) ?_
    have i27 : vp_in (nI e) 80 := gx_in (rfl : (nI e) = (nI e)) (by omega) (by decide)
    have k27 : ((nI e) : Int32).toNatClampNeg = e := gx_cl (rfl : (nI e) = (nI e)) (by omega)
    refine va_iald hx hb hK hP 3 0 rfl rfl i27 dP_evaluate_27 ?_
    rw [k27]
    refine lv_topi (fun v27 e27 => ?_)
    rw [hea] at e27
    subst e27
    refine lv_istore (lv' := [(5, .int (nI a)), (4, .int 3), (0, .ref g), (1, .int (nI e)), (2, .int (nI lv)), (3, .int (nI d))]) hx hb dP_evaluate_28 hl (by decide) rfl (fun ls hl => ?_)
    refine lv_aload_n hx hb dP_evaluate_30 rfl (lv_at hl 2 rfl) ?_
    refine va_get (D := D) (ci := 3) (v := .ref eo) (C := R_P) (T := F_P) (N := 4) hx hb ht i_P hown hK hP 0 rfl rfl 0 (by decide) (ht _ m_91) (fun _ h9 => h9) rfl dP_evaluate_31 ?_
    refine va_getN (D := D) (ci := 2) (v := .ref (eq 2)) (C := R_E) (T := F_E) (N := 5) hx hb ht i_E hown hK hP 1 rfl rfl 2 (by decide) (va_Nw.use rfl (hN _ mn_4)) (fun _ h9 => h9) rfl dP_evaluate_34 ?_
    refine lv_iload_n hx hb dP_evaluate_37 rfl (lv_at hl 3 rfl) ?_
    have i38 : vp_in (nI e) 80 := gx_in (rfl : (nI e) = (nI e)) (by omega) (by decide)
    have k38 : ((nI e) : Int32).toNatClampNeg = e := gx_cl (rfl : (nI e) = (nI e)) (by omega)
    refine va_iald hx hb hK hP 4 0 rfl rfl i38 dP_evaluate_38 ?_
    rw [k38]
    refine lv_topi (fun v38 e38 => ?_)
    rw [heb] at e38
    subst e38
    refine lv_istore (lv' := [(6, .int (nI b)), (5, .int (nI a)), (4, .int 3), (0, .ref g), (1, .int (nI e)), (2, .int (nI lv)), (3, .int (nI d))]) hx hb dP_evaluate_39 hl (by decide) rfl (fun ls hl => ?_)
    refine lv_iload hx hb dP_evaluate_41 (lv_at hl 2 rfl) ?_
    refine gc_i (va_runS (As := [.int 3]) (rest := []) ⟨hx, hb, hml, hown, ht⟩ (c_E_hasLeft l D cI cJ cB cZ 3 H.size) (va_cwS 1 ht (gw_S m_341 m_165 m_3 m_166) rfl rfl rfl (by decide +kernel) ⟨show 0 + 1 ≤ 8 * (n + 1) + 8 by omega, show 8 + (1 + 11) + (0) ≤ 200 * (n + 1) + 200 by omega⟩) (gp_S hK hN (hP.sub (ws' := ([] : va_W)) [] rfl) (hD.sub (ws' := ([] : va_W)) [] (by decide) rfl)) rfl rfl hl.1 rfl (lv_room (Nat.le_of_ble_eq_true rfl)) dP_evaluate_43 ⟨Nat.le_of_ble_eq_true rfl, Nat.le_of_ble_eq_true rfl⟩) hP hD hS hA [] rfl (by decide) (fun r w h => by obtain ⟨_, rfl⟩ := h; rfl) (fun r43 w43 H locs p43 hP hD hS => ?_)
    obtain ⟨rfl, rfl⟩ := p43
    have hP : va_P D vwCl ([(g, .inr (3, [.ref eo, .ref bo, .ref t, .ref co])), (eo, .inr (2, [.ref (eq 0), .ref (eq 1), .ref (eq 2), .ref (eq 3), .int (nI X.2.2.2.2)])), ((eq 0), .inl (cI, 80, .inl X.1)), ((eq 1), .inl (cI, 80, .inl X.2.1)), ((eq 2), .inl (cI, 80, .inl X.2.2.1)), ((eq 3), .inl (cI, 80, .inl X.2.2.2.1)), (bo, .inl (cB, 8, .inr (.inr (.inr (.inr ba))))), (t, .inr (4, [.ref (tq 0), .ref (tq 1), .ref (tq 2), .ref (tq 3), .ref (tq 4), .ref (tq 5), .ref (tq 6), .ref (tq 7), .int (nI S.1.2.2.2.2)])), ((tq 0), .inl (cI, 64, .inl (fun z9 => nI (S.1.1 z9)))), ((tq 1), .inl (cI, 64, .inl (fun z9 => nI (S.1.2.1 z9)))), ((tq 2), .inl (cI, 64, .inl (fun z9 => nI (S.1.2.2.1 z9)))), ((tq 3), .inl (cJ, 64, .inr (.inl S.1.2.2.2.1))), ((tq 4), .inl (cJ, 64, .inr (.inl f1))), ((tq 5), .inl (cJ, 64, .inr (.inl f2))), ((tq 6), .inl (cJ, 64, .inr (.inl f3))), ((tq 7), .inl (cJ, 64, .inr (.inl f4))), (co, .inl (cI, 112, .inl (fun z9 => nI (S.2 z9))))] ++ tl) H := hP
    have hD : va_D A ([(g, .inr (3, [.ref eo, .ref bo, .ref t, .ref co])), (eo, .inr (2, [.ref (eq 0), .ref (eq 1), .ref (eq 2), .ref (eq 3), .int (nI X.2.2.2.2)])), ((eq 0), .inl (cI, 80, .inl X.1)), ((eq 1), .inl (cI, 80, .inl X.2.1)), ((eq 2), .inl (cI, 80, .inl X.2.2.1)), ((eq 3), .inl (cI, 80, .inl X.2.2.2.1)), (bo, .inl (cB, 8, .inr (.inr (.inr (.inr ba))))), (t, .inr (4, [.ref (tq 0), .ref (tq 1), .ref (tq 2), .ref (tq 3), .ref (tq 4), .ref (tq 5), .ref (tq 6), .ref (tq 7), .int (nI S.1.2.2.2.2)])), ((tq 0), .inl (cI, 64, .inl (fun z9 => nI (S.1.1 z9)))), ((tq 1), .inl (cI, 64, .inl (fun z9 => nI (S.1.2.1 z9)))), ((tq 2), .inl (cI, 64, .inl (fun z9 => nI (S.1.2.2.1 z9)))), ((tq 3), .inl (cJ, 64, .inr (.inl S.1.2.2.2.1))), ((tq 4), .inl (cJ, 64, .inr (.inl f1))), ((tq 5), .inl (cJ, 64, .inr (.inl f2))), ((tq 6), .inl (cJ, 64, .inr (.inl f3))), ((tq 7), .inl (cJ, 64, .inr (.inl f4))), (co, .inl (cI, 112, .inl (fun z9 => nI (S.2 z9))))] ++ tl) := hD
    refine lv_if_eq (tgt := 62) hx hb dP_evaluate_46 (by decide) (fun c46 => ?_) (fun c46 => ?_)
    · exact (gb_1.mp c46 (by decide)).elim
    · refine lv_aload_n hx hb dP_evaluate_49 rfl (lv_at hl 3 rfl) ?_
      refine lv_iload hx hb dP_evaluate_50 (lv_at hl 1 rfl) ?_
      refine lv_iload_n hx hb dP_evaluate_52 rfl (lv_at hl 5 rfl) ?_
      refine lv_iload_n hx hb dP_evaluate_53 rfl (lv_at hl 6 rfl) ?_
      refine lv_iconst (v := 1) hx hb dP_evaluate_54 (by decide) ?_
      refine lv_iadd hx hb dP_evaluate_55 ?_
      refine lv_topi (fun v55 e55 => ?_)
      have n55 : v55 = nI (d + 1) := by rw [e55]; exact gx_add (rfl : (nI d) = (nI d)) (rfl : (1 : Int32) = nI 1)
      subst n55
      refine gc_wi (va_runV (As := [.int (nI a), .int (nI lv), .int (nI (d + 1))]) (rest := []) ⟨hx, hb, hml, hown, ht⟩ (hE (d + 1) a lv S (by omega) (by omega) hlv hS9 H.size) (cwV 3 ht (gw_V m_337 m_339 ms_12 m_2 m_340) rfl rfl rfl (by decide +kernel) ⟨show (8 * n + 8) + 1 ≤ 8 * (n + 1) + 8 by omega, show 8 + (9 + 11) + (200 * n + 200) ≤ 200 * (n + 1) + 200 by omega⟩) (gp_V (ci := 3) (q0 := 0) hK hN hP hD rfl rfl) rfl rfl hl.1 rfl (lv_room (Nat.le_of_ble_eq_true rfl)) dP_evaluate_56 ⟨Nat.le_of_ble_eq_true rfl, Nat.le_of_ble_eq_true rfl⟩) hP hD hS hA (fun r56 w56 H locs p56 hP hD hS => ?_)
      obtain ⟨rfl, rfl⟩ := p56
      have hP : va_P D vwCl ([(g, .inr (3, [.ref eo, .ref bo, .ref t, .ref co])), (eo, .inr (2, [.ref (eq 0), .ref (eq 1), .ref (eq 2), .ref (eq 3), .int (nI X.2.2.2.2)])), ((eq 0), .inl (cI, 80, .inl X.1)), ((eq 1), .inl (cI, 80, .inl X.2.1)), ((eq 2), .inl (cI, 80, .inl X.2.2.1)), ((eq 3), .inl (cI, 80, .inl X.2.2.2.1)), (bo, .inl (cB, 8, .inr (.inr (.inr (.inr ba))))), (t, .inr (4, [.ref (tq 0), .ref (tq 1), .ref (tq 2), .ref (tq 3), .ref (tq 4), .ref (tq 5), .ref (tq 6), .ref (tq 7), .int (nI (((((pg X ba Bs n).1 a lv S).2).1).2.2.2.2))])), ((tq 0), .inl (cI, 64, .inl (fun z9 => nI ((((((pg X ba Bs n).1 a lv S).2).1).1) z9)))), ((tq 1), .inl (cI, 64, .inl (fun z9 => nI ((((((pg X ba Bs n).1 a lv S).2).1).2.1) z9)))), ((tq 2), .inl (cI, 64, .inl (fun z9 => nI ((((((pg X ba Bs n).1 a lv S).2).1).2.2.1) z9)))), ((tq 3), .inl (cJ, 64, .inr (.inl (((((pg X ba Bs n).1 a lv S).2).1).2.2.2.1)))), ((tq 4), .inl (cJ, 64, .inr (.inl f1))), ((tq 5), .inl (cJ, 64, .inr (.inl f2))), ((tq 6), .inl (cJ, 64, .inr (.inl f3))), ((tq 7), .inl (cJ, 64, .inr (.inl f4))), (co, .inl (cI, 112, .inl (fun z9 => nI (((((pg X ba Bs n).1 a lv S).2).2) z9))))] ++ tl) H := hP
      have hD : va_D A ([(g, .inr (3, [.ref eo, .ref bo, .ref t, .ref co])), (eo, .inr (2, [.ref (eq 0), .ref (eq 1), .ref (eq 2), .ref (eq 3), .int (nI X.2.2.2.2)])), ((eq 0), .inl (cI, 80, .inl X.1)), ((eq 1), .inl (cI, 80, .inl X.2.1)), ((eq 2), .inl (cI, 80, .inl X.2.2.1)), ((eq 3), .inl (cI, 80, .inl X.2.2.2.1)), (bo, .inl (cB, 8, .inr (.inr (.inr (.inr ba))))), (t, .inr (4, [.ref (tq 0), .ref (tq 1), .ref (tq 2), .ref (tq 3), .ref (tq 4), .ref (tq 5), .ref (tq 6), .ref (tq 7), .int (nI (((((pg X ba Bs n).1 a lv S).2).1).2.2.2.2))])), ((tq 0), .inl (cI, 64, .inl (fun z9 => nI ((((((pg X ba Bs n).1 a lv S).2).1).1) z9)))), ((tq 1), .inl (cI, 64, .inl (fun z9 => nI ((((((pg X ba Bs n).1 a lv S).2).1).2.1) z9)))), ((tq 2), .inl (cI, 64, .inl (fun z9 => nI ((((((pg X ba Bs n).1 a lv S).2).1).2.2.1) z9)))), ((tq 3), .inl (cJ, 64, .inr (.inl (((((pg X ba Bs n).1 a lv S).2).1).2.2.2.1)))), ((tq 4), .inl (cJ, 64, .inr (.inl f1))), ((tq 5), .inl (cJ, 64, .inr (.inl f2))), ((tq 6), .inl (cJ, 64, .inr (.inl f3))), ((tq 7), .inl (cJ, 64, .inr (.inl f4))), (co, .inl (cI, 112, .inl (fun z9 => nI (((((pg X ba Bs n).1 a lv S).2).2) z9))))] ++ tl) := hD
      have b56 := hre a lv S (by omega) hlv hS9
      have b56x := b56.1
      have b56y := b56.2.1
      refine lv_goto (tgt := 63) hx hb dP_evaluate_59 (by decide) ?_
      refine lv_istore (lv' := [(7, .int (nI (((pg X ba Bs n).1 a lv S).1))), (6, .int (nI b)), (5, .int (nI a)), (4, .int 3), (0, .ref g), (1, .int (nI e)), (2, .int (nI lv)), (3, .int (nI d))]) hx hb dP_evaluate_63 hl (by decide) rfl (fun ls hl => ?_)
      refine lv_iload hx hb dP_evaluate_65 (lv_at hl 3 rfl) ?_
      refine gc_i (va_runS (As := [.int 3]) (rest := []) ⟨hx, hb, hml, hown, ht⟩ (c_E_hasRight l D cI cJ cB cZ 3 H.size) (va_cwS 1 ht (gw_S m_342 m_175 m_3 m_176) rfl rfl rfl (by decide +kernel) ⟨show 0 + 1 ≤ 8 * (n + 1) + 8 by omega, show 8 + (1 + 11) + (0) ≤ 200 * (n + 1) + 200 by omega⟩) (gp_S hK hN (hP.sub (ws' := ([] : va_W)) [] rfl) (hD.sub (ws' := ([] : va_W)) [] (by decide) rfl)) rfl rfl hl.1 rfl (lv_room (Nat.le_of_ble_eq_true rfl)) dP_evaluate_67 ⟨Nat.le_of_ble_eq_true rfl, Nat.le_of_ble_eq_true rfl⟩) hP hD hS hA [] rfl (by decide) (fun r w h => by obtain ⟨_, rfl⟩ := h; rfl) (fun r67 w67 H locs p67 hP hD hS => ?_)
      obtain ⟨rfl, rfl⟩ := p67
      have hP : va_P D vwCl ([(g, .inr (3, [.ref eo, .ref bo, .ref t, .ref co])), (eo, .inr (2, [.ref (eq 0), .ref (eq 1), .ref (eq 2), .ref (eq 3), .int (nI X.2.2.2.2)])), ((eq 0), .inl (cI, 80, .inl X.1)), ((eq 1), .inl (cI, 80, .inl X.2.1)), ((eq 2), .inl (cI, 80, .inl X.2.2.1)), ((eq 3), .inl (cI, 80, .inl X.2.2.2.1)), (bo, .inl (cB, 8, .inr (.inr (.inr (.inr ba))))), (t, .inr (4, [.ref (tq 0), .ref (tq 1), .ref (tq 2), .ref (tq 3), .ref (tq 4), .ref (tq 5), .ref (tq 6), .ref (tq 7), .int (nI (((((pg X ba Bs n).1 a lv S).2).1).2.2.2.2))])), ((tq 0), .inl (cI, 64, .inl (fun z9 => nI ((((((pg X ba Bs n).1 a lv S).2).1).1) z9)))), ((tq 1), .inl (cI, 64, .inl (fun z9 => nI ((((((pg X ba Bs n).1 a lv S).2).1).2.1) z9)))), ((tq 2), .inl (cI, 64, .inl (fun z9 => nI ((((((pg X ba Bs n).1 a lv S).2).1).2.2.1) z9)))), ((tq 3), .inl (cJ, 64, .inr (.inl (((((pg X ba Bs n).1 a lv S).2).1).2.2.2.1)))), ((tq 4), .inl (cJ, 64, .inr (.inl f1))), ((tq 5), .inl (cJ, 64, .inr (.inl f2))), ((tq 6), .inl (cJ, 64, .inr (.inl f3))), ((tq 7), .inl (cJ, 64, .inr (.inl f4))), (co, .inl (cI, 112, .inl (fun z9 => nI (((((pg X ba Bs n).1 a lv S).2).2) z9))))] ++ tl) H := hP
      have hD : va_D A ([(g, .inr (3, [.ref eo, .ref bo, .ref t, .ref co])), (eo, .inr (2, [.ref (eq 0), .ref (eq 1), .ref (eq 2), .ref (eq 3), .int (nI X.2.2.2.2)])), ((eq 0), .inl (cI, 80, .inl X.1)), ((eq 1), .inl (cI, 80, .inl X.2.1)), ((eq 2), .inl (cI, 80, .inl X.2.2.1)), ((eq 3), .inl (cI, 80, .inl X.2.2.2.1)), (bo, .inl (cB, 8, .inr (.inr (.inr (.inr ba))))), (t, .inr (4, [.ref (tq 0), .ref (tq 1), .ref (tq 2), .ref (tq 3), .ref (tq 4), .ref (tq 5), .ref (tq 6), .ref (tq 7), .int (nI (((((pg X ba Bs n).1 a lv S).2).1).2.2.2.2))])), ((tq 0), .inl (cI, 64, .inl (fun z9 => nI ((((((pg X ba Bs n).1 a lv S).2).1).1) z9)))), ((tq 1), .inl (cI, 64, .inl (fun z9 => nI ((((((pg X ba Bs n).1 a lv S).2).1).2.1) z9)))), ((tq 2), .inl (cI, 64, .inl (fun z9 => nI ((((((pg X ba Bs n).1 a lv S).2).1).2.2.1) z9)))), ((tq 3), .inl (cJ, 64, .inr (.inl (((((pg X ba Bs n).1 a lv S).2).1).2.2.2.1)))), ((tq 4), .inl (cJ, 64, .inr (.inl f1))), ((tq 5), .inl (cJ, 64, .inr (.inl f2))), ((tq 6), .inl (cJ, 64, .inr (.inl f3))), ((tq 7), .inl (cJ, 64, .inr (.inl f4))), (co, .inl (cI, 112, .inl (fun z9 => nI (((((pg X ba Bs n).1 a lv S).2).2) z9))))] ++ tl) := hD
      refine lv_if_eq (tgt := 86) hx hb dP_evaluate_70 (by decide) (fun c70 => ?_) (fun c70 => ?_)
      · exact (gb_1.mp c70 (by decide)).elim
      · refine lv_aload_n hx hb dP_evaluate_73 rfl (lv_at hl 4 rfl) ?_
        refine lv_iload hx hb dP_evaluate_74 (lv_at hl 1 rfl) ?_
        refine lv_iload_n hx hb dP_evaluate_76 rfl (lv_at hl 6 rfl) ?_
        refine lv_iload_n hx hb dP_evaluate_77 rfl (lv_at hl 7 rfl) ?_
        refine lv_iconst (v := 1) hx hb dP_evaluate_78 (by decide) ?_
        refine lv_iadd hx hb dP_evaluate_79 ?_
        refine lv_topi (fun v79 e79 => ?_)
        have n79 : v79 = nI (d + 1) := by rw [e79]; exact gx_add (rfl : (nI d) = (nI d)) (rfl : (1 : Int32) = nI 1)
        subst n79
        refine gc_wi (va_runV (As := [.int (nI b), .int (nI lv), .int (nI (d + 1))]) (rest := []) ⟨hx, hb, hml, hown, ht⟩ (hE (d + 1) b lv (((pg X ba Bs n).1 a lv S).2) (by omega) (by omega) hlv b56.2 H.size) (cwV 3 ht (gw_V m_337 m_339 ms_12 m_2 m_340) rfl rfl rfl (by decide +kernel) ⟨show (8 * n + 8) + 1 ≤ 8 * (n + 1) + 8 by omega, show 8 + (9 + 11) + (200 * n + 200) ≤ 200 * (n + 1) + 200 by omega⟩) (gp_V (ci := 3) (q0 := 0) hK hN hP hD rfl rfl) rfl rfl hl.1 rfl (lv_room (Nat.le_of_ble_eq_true rfl)) dP_evaluate_80 ⟨Nat.le_of_ble_eq_true rfl, Nat.le_of_ble_eq_true rfl⟩) hP hD hS hA (fun r80 w80 H locs p80 hP hD hS => ?_)
        obtain ⟨rfl, rfl⟩ := p80
        have hP : va_P D vwCl ([(g, .inr (3, [.ref eo, .ref bo, .ref t, .ref co])), (eo, .inr (2, [.ref (eq 0), .ref (eq 1), .ref (eq 2), .ref (eq 3), .int (nI X.2.2.2.2)])), ((eq 0), .inl (cI, 80, .inl X.1)), ((eq 1), .inl (cI, 80, .inl X.2.1)), ((eq 2), .inl (cI, 80, .inl X.2.2.1)), ((eq 3), .inl (cI, 80, .inl X.2.2.2.1)), (bo, .inl (cB, 8, .inr (.inr (.inr (.inr ba))))), (t, .inr (4, [.ref (tq 0), .ref (tq 1), .ref (tq 2), .ref (tq 3), .ref (tq 4), .ref (tq 5), .ref (tq 6), .ref (tq 7), .int (nI (((((pg X ba Bs n).1 b lv (((pg X ba Bs n).1 a lv S).2)).2).1).2.2.2.2))])), ((tq 0), .inl (cI, 64, .inl (fun z9 => nI ((((((pg X ba Bs n).1 b lv (((pg X ba Bs n).1 a lv S).2)).2).1).1) z9)))), ((tq 1), .inl (cI, 64, .inl (fun z9 => nI ((((((pg X ba Bs n).1 b lv (((pg X ba Bs n).1 a lv S).2)).2).1).2.1) z9)))), ((tq 2), .inl (cI, 64, .inl (fun z9 => nI ((((((pg X ba Bs n).1 b lv (((pg X ba Bs n).1 a lv S).2)).2).1).2.2.1) z9)))), ((tq 3), .inl (cJ, 64, .inr (.inl (((((pg X ba Bs n).1 b lv (((pg X ba Bs n).1 a lv S).2)).2).1).2.2.2.1)))), ((tq 4), .inl (cJ, 64, .inr (.inl f1))), ((tq 5), .inl (cJ, 64, .inr (.inl f2))), ((tq 6), .inl (cJ, 64, .inr (.inl f3))), ((tq 7), .inl (cJ, 64, .inr (.inl f4))), (co, .inl (cI, 112, .inl (fun z9 => nI (((((pg X ba Bs n).1 b lv (((pg X ba Bs n).1 a lv S).2)).2).2) z9))))] ++ tl) H := hP
        have hD : va_D A ([(g, .inr (3, [.ref eo, .ref bo, .ref t, .ref co])), (eo, .inr (2, [.ref (eq 0), .ref (eq 1), .ref (eq 2), .ref (eq 3), .int (nI X.2.2.2.2)])), ((eq 0), .inl (cI, 80, .inl X.1)), ((eq 1), .inl (cI, 80, .inl X.2.1)), ((eq 2), .inl (cI, 80, .inl X.2.2.1)), ((eq 3), .inl (cI, 80, .inl X.2.2.2.1)), (bo, .inl (cB, 8, .inr (.inr (.inr (.inr ba))))), (t, .inr (4, [.ref (tq 0), .ref (tq 1), .ref (tq 2), .ref (tq 3), .ref (tq 4), .ref (tq 5), .ref (tq 6), .ref (tq 7), .int (nI (((((pg X ba Bs n).1 b lv (((pg X ba Bs n).1 a lv S).2)).2).1).2.2.2.2))])), ((tq 0), .inl (cI, 64, .inl (fun z9 => nI ((((((pg X ba Bs n).1 b lv (((pg X ba Bs n).1 a lv S).2)).2).1).1) z9)))), ((tq 1), .inl (cI, 64, .inl (fun z9 => nI ((((((pg X ba Bs n).1 b lv (((pg X ba Bs n).1 a lv S).2)).2).1).2.1) z9)))), ((tq 2), .inl (cI, 64, .inl (fun z9 => nI ((((((pg X ba Bs n).1 b lv (((pg X ba Bs n).1 a lv S).2)).2).1).2.2.1) z9)))), ((tq 3), .inl (cJ, 64, .inr (.inl (((((pg X ba Bs n).1 b lv (((pg X ba Bs n).1 a lv S).2)).2).1).2.2.2.1)))), ((tq 4), .inl (cJ, 64, .inr (.inl f1))), ((tq 5), .inl (cJ, 64, .inr (.inl f2))), ((tq 6), .inl (cJ, 64, .inr (.inl f3))), ((tq 7), .inl (cJ, 64, .inr (.inl f4))), (co, .inl (cI, 112, .inl (fun z9 => nI (((((pg X ba Bs n).1 b lv (((pg X ba Bs n).1 a lv S).2)).2).2) z9))))] ++ tl) := hD
        have b80 := hre b lv (((pg X ba Bs n).1 a lv S).2) (by omega) hlv b56.2
        have b80x := b80.1
        have b80y := b80.2.1
        refine lv_goto (tgt := 87) hx hb dP_evaluate_83 (by decide) ?_
        refine lv_istore (lv' := [(8, .int (nI (((pg X ba Bs n).1 b lv (((pg X ba Bs n).1 a lv S).2)).1))), (7, .int (nI (((pg X ba Bs n).1 a lv S).1))), (6, .int (nI b)), (5, .int (nI a)), (4, .int 3), (0, .ref g), (1, .int (nI e)), (2, .int (nI lv)), (3, .int (nI d))]) hx hb dP_evaluate_87 hl (by decide) rfl (fun ls hl => ?_)
        refine lv_iload hx hb dP_evaluate_89 (lv_at hl 4 rfl) ?_
        refine lv_tableIn (tgt := 227) (off := 136) hx hb dP_evaluate_91 (by decide) (by decide) (by rfl) (by decide) ?_
        refine lv_aload_n hx hb dP_evaluate_227 rfl (lv_at hl 5 rfl) ?_
        refine lv_iload hx hb dP_evaluate_228 (lv_at hl 4 rfl) ?_
        refine lv_iload hx hb dP_evaluate_230 (lv_at hl 1 rfl) ?_
        refine lv_iload hx hb dP_evaluate_232 (lv_at hl 0 rfl) ?_
        refine gc_wi (va_runV (As := [.int 3, .int (nI (((pg X ba Bs n).1 a lv S).1)), .int (nI (((pg X ba Bs n).1 b lv (((pg X ba Bs n).1 a lv S).2)).1))]) (rest := []) ⟨hx, hb, hml, hown, ht⟩ (c_P_combine l D cI cJ cB cZ g eo bo t co eq tq tl X ba f1 f2 f3 f4 (((pg X ba Bs n).1 b lv (((pg X ba Bs n).1 a lv S).2)).2) 3 (((pg X ba Bs n).1 a lv S).1) (((pg X ba Bs n).1 b lv (((pg X ba Bs n).1 a lv S).2)).1) (by omega) b80.2.1 (by omega) (by omega) H.size) (cwV 3 ht (gw_V m_361 m_363 ms_14 m_2 m_364) rfl rfl rfl (by decide +kernel) ⟨show 3 + 1 ≤ 8 * (n + 1) + 8 by omega, show 8 + (4 + 11) + (69) ≤ 200 * (n + 1) + 200 by omega⟩) (gp_V (ci := 3) (q0 := 0) hK hN hP hD rfl rfl) rfl rfl hl.1 rfl (lv_room (Nat.le_of_ble_eq_true rfl)) dP_evaluate_234 ⟨Nat.le_of_ble_eq_true rfl, Nat.le_of_ble_eq_true rfl⟩) hP hD hS hA (fun r234 w234 H locs p234 hP hD hS => ?_)
        obtain ⟨rfl, rfl⟩ := p234
        have hP : va_P D vwCl ([(g, .inr (3, [.ref eo, .ref bo, .ref t, .ref co])), (eo, .inr (2, [.ref (eq 0), .ref (eq 1), .ref (eq 2), .ref (eq 3), .int (nI X.2.2.2.2)])), ((eq 0), .inl (cI, 80, .inl X.1)), ((eq 1), .inl (cI, 80, .inl X.2.1)), ((eq 2), .inl (cI, 80, .inl X.2.2.1)), ((eq 3), .inl (cI, 80, .inl X.2.2.2.1)), (bo, .inl (cB, 8, .inr (.inr (.inr (.inr ba))))), (t, .inr (4, [.ref (tq 0), .ref (tq 1), .ref (tq 2), .ref (tq 3), .ref (tq 4), .ref (tq 5), .ref (tq 6), .ref (tq 7), .int (nI ((((px_comb 3 (((pg X ba Bs n).1 a lv S).1) (((pg X ba Bs n).1 b lv (((pg X ba Bs n).1 a lv S).2)).1) ((((pg X ba Bs n).1 b lv (((pg X ba Bs n).1 a lv S).2)).2).1)).2, ((((pg X ba Bs n).1 b lv (((pg X ba Bs n).1 a lv S).2)).2).2)).1).2.2.2.2))])), ((tq 0), .inl (cI, 64, .inl (fun z9 => nI (((((px_comb 3 (((pg X ba Bs n).1 a lv S).1) (((pg X ba Bs n).1 b lv (((pg X ba Bs n).1 a lv S).2)).1) ((((pg X ba Bs n).1 b lv (((pg X ba Bs n).1 a lv S).2)).2).1)).2, ((((pg X ba Bs n).1 b lv (((pg X ba Bs n).1 a lv S).2)).2).2)).1).1) z9)))), ((tq 1), .inl (cI, 64, .inl (fun z9 => nI (((((px_comb 3 (((pg X ba Bs n).1 a lv S).1) (((pg X ba Bs n).1 b lv (((pg X ba Bs n).1 a lv S).2)).1) ((((pg X ba Bs n).1 b lv (((pg X ba Bs n).1 a lv S).2)).2).1)).2, ((((pg X ba Bs n).1 b lv (((pg X ba Bs n).1 a lv S).2)).2).2)).1).2.1) z9)))), ((tq 2), .inl (cI, 64, .inl (fun z9 => nI (((((px_comb 3 (((pg X ba Bs n).1 a lv S).1) (((pg X ba Bs n).1 b lv (((pg X ba Bs n).1 a lv S).2)).1) ((((pg X ba Bs n).1 b lv (((pg X ba Bs n).1 a lv S).2)).2).1)).2, ((((pg X ba Bs n).1 b lv (((pg X ba Bs n).1 a lv S).2)).2).2)).1).2.2.1) z9)))), ((tq 3), .inl (cJ, 64, .inr (.inl ((((px_comb 3 (((pg X ba Bs n).1 a lv S).1) (((pg X ba Bs n).1 b lv (((pg X ba Bs n).1 a lv S).2)).1) ((((pg X ba Bs n).1 b lv (((pg X ba Bs n).1 a lv S).2)).2).1)).2, ((((pg X ba Bs n).1 b lv (((pg X ba Bs n).1 a lv S).2)).2).2)).1).2.2.2.1)))), ((tq 4), .inl (cJ, 64, .inr (.inl f1))), ((tq 5), .inl (cJ, 64, .inr (.inl f2))), ((tq 6), .inl (cJ, 64, .inr (.inl f3))), ((tq 7), .inl (cJ, 64, .inr (.inl f4))), (co, .inl (cI, 112, .inl (fun z9 => nI ((((px_comb 3 (((pg X ba Bs n).1 a lv S).1) (((pg X ba Bs n).1 b lv (((pg X ba Bs n).1 a lv S).2)).1) ((((pg X ba Bs n).1 b lv (((pg X ba Bs n).1 a lv S).2)).2).1)).2, ((((pg X ba Bs n).1 b lv (((pg X ba Bs n).1 a lv S).2)).2).2)).2) z9))))] ++ tl) H := hP
        have hD : va_D A ([(g, .inr (3, [.ref eo, .ref bo, .ref t, .ref co])), (eo, .inr (2, [.ref (eq 0), .ref (eq 1), .ref (eq 2), .ref (eq 3), .int (nI X.2.2.2.2)])), ((eq 0), .inl (cI, 80, .inl X.1)), ((eq 1), .inl (cI, 80, .inl X.2.1)), ((eq 2), .inl (cI, 80, .inl X.2.2.1)), ((eq 3), .inl (cI, 80, .inl X.2.2.2.1)), (bo, .inl (cB, 8, .inr (.inr (.inr (.inr ba))))), (t, .inr (4, [.ref (tq 0), .ref (tq 1), .ref (tq 2), .ref (tq 3), .ref (tq 4), .ref (tq 5), .ref (tq 6), .ref (tq 7), .int (nI ((((px_comb 3 (((pg X ba Bs n).1 a lv S).1) (((pg X ba Bs n).1 b lv (((pg X ba Bs n).1 a lv S).2)).1) ((((pg X ba Bs n).1 b lv (((pg X ba Bs n).1 a lv S).2)).2).1)).2, ((((pg X ba Bs n).1 b lv (((pg X ba Bs n).1 a lv S).2)).2).2)).1).2.2.2.2))])), ((tq 0), .inl (cI, 64, .inl (fun z9 => nI (((((px_comb 3 (((pg X ba Bs n).1 a lv S).1) (((pg X ba Bs n).1 b lv (((pg X ba Bs n).1 a lv S).2)).1) ((((pg X ba Bs n).1 b lv (((pg X ba Bs n).1 a lv S).2)).2).1)).2, ((((pg X ba Bs n).1 b lv (((pg X ba Bs n).1 a lv S).2)).2).2)).1).1) z9)))), ((tq 1), .inl (cI, 64, .inl (fun z9 => nI (((((px_comb 3 (((pg X ba Bs n).1 a lv S).1) (((pg X ba Bs n).1 b lv (((pg X ba Bs n).1 a lv S).2)).1) ((((pg X ba Bs n).1 b lv (((pg X ba Bs n).1 a lv S).2)).2).1)).2, ((((pg X ba Bs n).1 b lv (((pg X ba Bs n).1 a lv S).2)).2).2)).1).2.1) z9)))), ((tq 2), .inl (cI, 64, .inl (fun z9 => nI (((((px_comb 3 (((pg X ba Bs n).1 a lv S).1) (((pg X ba Bs n).1 b lv (((pg X ba Bs n).1 a lv S).2)).1) ((((pg X ba Bs n).1 b lv (((pg X ba Bs n).1 a lv S).2)).2).1)).2, ((((pg X ba Bs n).1 b lv (((pg X ba Bs n).1 a lv S).2)).2).2)).1).2.2.1) z9)))), ((tq 3), .inl (cJ, 64, .inr (.inl ((((px_comb 3 (((pg X ba Bs n).1 a lv S).1) (((pg X ba Bs n).1 b lv (((pg X ba Bs n).1 a lv S).2)).1) ((((pg X ba Bs n).1 b lv (((pg X ba Bs n).1 a lv S).2)).2).1)).2, ((((pg X ba Bs n).1 b lv (((pg X ba Bs n).1 a lv S).2)).2).2)).1).2.2.2.1)))), ((tq 4), .inl (cJ, 64, .inr (.inl f1))), ((tq 5), .inl (cJ, 64, .inr (.inl f2))), ((tq 6), .inl (cJ, 64, .inr (.inl f3))), ((tq 7), .inl (cJ, 64, .inr (.inl f4))), (co, .inl (cI, 112, .inl (fun z9 => nI ((((px_comb 3 (((pg X ba Bs n).1 a lv S).1) (((pg X ba Bs n).1 b lv (((pg X ba Bs n).1 a lv S).2)).1) ((((pg X ba Bs n).1 b lv (((pg X ba Bs n).1 a lv S).2)).2).1)).2, ((((pg X ba Bs n).1 b lv (((pg X ba Bs n).1 a lv S).2)).2).2)).2) z9))))] ++ tl) := hD
        have hz : (pg X ba Bs (n + 1)).1 e lv S = (((px_comb 3 (((pg X ba Bs n).1 a lv S).1) (((pg X ba Bs n).1 b lv (((pg X ba Bs n).1 a lv S).2)).1) ((((pg X ba Bs n).1 b lv (((pg X ba Bs n).1 a lv S).2)).2).1)).1), (px_comb 3 (((pg X ba Bs n).1 a lv S).1) (((pg X ba Bs n).1 b lv (((pg X ba Bs n).1 a lv S).2)).1) ((((pg X ba Bs n).1 b lv (((pg X ba Bs n).1 a lv S).2)).2).1)).2, ((((pg X ba Bs n).1 b lv (((pg X ba Bs n).1 a lv S).2)).2).2)) := by
          show px_ev X (pg X ba Bs n).1 (px_ent ba Bs (pg X ba Bs n).2) e lv S = _
          simp [px_ev, px_r1, px_r2, px_R, hke, hea, heb, show cn (3 : Int32) = 3 from rfl, cn_nI (show a < 2 ^ 31 by omega), cn_nI (show b < 2 ^ 31 by omega)]
        exact W.iret (v := (nI ((px_comb 3 (((pg X ba Bs n).1 a lv S).1) (((pg X ba Bs n).1 b lv (((pg X ba Bs n).1 a lv S).2)).1) ((((pg X ba Bs n).1 b lv (((pg X ba Bs n).1 a lv S).2)).2).1)).1))) hx hb hr (fun t9 ht9 hW => ⟨⟨(nI ((px_comb 3 (((pg X ba Bs n).1 a lv S).1) (((pg X ba Bs n).1 b lv (((pg X ba Bs n).1 a lv S).2)).1) ((((pg X ba Bs n).1 b lv (((pg X ba Bs n).1 a lv S).2)).2).1)).1)), _, rfl, ⟨by rw [hz], by rw [hz]⟩, by rw [ht9]; exact hP, hD⟩, hS.F ht9⟩) hS.2.2 dP_evaluate_237
  · have g3 : ¬ (d ≤ 50) := fun z => c3 ((gx_le (rfl : (nI d) = (nI d)) (rfl : (50 : Int32) = nI 50) (by omega) (by decide)).mpr z)
    exact absurd g3 (by omega)

set_option maxHeartbeats 4000000 in
set_option maxRecDepth 100000 in
theorem c_P_evaluate_4 (l : Launch) (D : va_G) (cI cJ cB cZ : ClassId) (g eo bo t co : Nat) (eq tq : Nat → Nat) (tl : va_W) (X : Ex) (ba : Nat → Option Nat) (f1 f2 f3 f4 : Nat → Int64) (Bs : Nat → Bd) (n d e lv : Nat) (S : Sx) (a : Nat) (b : Nat) (hE : cE l D cI cJ cB cZ g eo bo t co eq tq tl X ba f1 f2 f3 f4 Bs n) (hN9 : cN l D cI cJ cB cZ g eo bo t co eq tq tl X ba f1 f2 f3 f4 Bs n) (hd : d + (n + 1) = 51) (hX80 : X.2.2.2.2 ≤ 80) (he : e < X.2.2.2.2) (hlv : lv < 8) (hS9 : sx_ok S) (hre : re_ok X (pg X ba Bs n).1) (hke : X.1 e = 4) (ha : a < e) (hea : X.2.1 e = nI a) (hb8 : b < e) (heb : X.2.2.1 e = nI b) : ct_I l y_P_evaluate w_P_evaluate ({ frames := 8 * (n + 1) + 8, cells := 0, slots := 0, locals := 200 * (n + 1) + 200 }) D (gk_T cI cJ cB cZ) [.ref g, .int (nI e), .int (nI lv), .int (nI d)] (wPg cI cJ cB g eo bo t co eq tq X ba S f1 f2 f3 f4 ++ tl) (0) (0) (fun r w => r = nI ((pg X ba Bs (n + 1)).1 e lv S).1 ∧ w = (wPg cI cJ cB g eo bo t co eq tq X ba (((pg X ba Bs (n + 1)).1 e lv S).2) f1 f2 f3 f4 ++ tl)) := by
  intro sz
  refine Met.ofW (cc := b_P_evaluate) (maxL := 9) (ret := (some .int)) (by decide) rfl ?_
  intro p ev9 s m args below meth c s₁ B9 hml hv
  obtain ⟨rfl, hsz, hP, hK, hN, hD0⟩ := hv
  have hx := B9.exec
  have hb := B9.bytes
  have hr := B9.returns
  have hts := atoms_spec (ws := w_P_evaluate) B9.pre
  have ht : ∀ w ∈ gk_big, w.before _ s = true := fun w h => hts w (List.mem_cons_of_mem _ h)
  have hown : s.vm.findClass R_P = some m.cls := findClass_of_methodNamed B9.named
  have hlocks := B9.notSynchronized
  subst hsz
  have hD := hD0.self (sz := s.heap.size)
  generalize hAe : va_A (wPg cI cJ cB g eo bo t co eq tq X ba S f1 f2 f3 f4 ++ tl) s.heap.size = A at hD ⊢
  have hA : ∀ q : Nat, s.heap.size ≤ q → A q := fun q h => by rw [← hAe]; exact Or.inr h
  generalize hHe : s.heap = H at hP ⊢
  have hS : va_S A s.heap H [] := by rw [← hHe]; exact va_S.rf
  have hP : va_P D vwCl ([(g, .inr (3, [.ref eo, .ref bo, .ref t, .ref co])), (eo, .inr (2, [.ref (eq 0), .ref (eq 1), .ref (eq 2), .ref (eq 3), .int (nI X.2.2.2.2)])), ((eq 0), .inl (cI, 80, .inl X.1)), ((eq 1), .inl (cI, 80, .inl X.2.1)), ((eq 2), .inl (cI, 80, .inl X.2.2.1)), ((eq 3), .inl (cI, 80, .inl X.2.2.2.1)), (bo, .inl (cB, 8, .inr (.inr (.inr (.inr ba))))), (t, .inr (4, [.ref (tq 0), .ref (tq 1), .ref (tq 2), .ref (tq 3), .ref (tq 4), .ref (tq 5), .ref (tq 6), .ref (tq 7), .int (nI S.1.2.2.2.2)])), ((tq 0), .inl (cI, 64, .inl (fun z9 => nI (S.1.1 z9)))), ((tq 1), .inl (cI, 64, .inl (fun z9 => nI (S.1.2.1 z9)))), ((tq 2), .inl (cI, 64, .inl (fun z9 => nI (S.1.2.2.1 z9)))), ((tq 3), .inl (cJ, 64, .inr (.inl S.1.2.2.2.1))), ((tq 4), .inl (cJ, 64, .inr (.inl f1))), ((tq 5), .inl (cJ, 64, .inr (.inl f2))), ((tq 6), .inl (cJ, 64, .inr (.inl f3))), ((tq 7), .inl (cJ, 64, .inr (.inl f4))), (co, .inl (cI, 112, .inl (fun z9 => nI (S.2 z9))))] ++ tl) H := hP
  have hD : va_D A ([(g, .inr (3, [.ref eo, .ref bo, .ref t, .ref co])), (eo, .inr (2, [.ref (eq 0), .ref (eq 1), .ref (eq 2), .ref (eq 3), .int (nI X.2.2.2.2)])), ((eq 0), .inl (cI, 80, .inl X.1)), ((eq 1), .inl (cI, 80, .inl X.2.1)), ((eq 2), .inl (cI, 80, .inl X.2.2.1)), ((eq 3), .inl (cI, 80, .inl X.2.2.2.1)), (bo, .inl (cB, 8, .inr (.inr (.inr (.inr ba))))), (t, .inr (4, [.ref (tq 0), .ref (tq 1), .ref (tq 2), .ref (tq 3), .ref (tq 4), .ref (tq 5), .ref (tq 6), .ref (tq 7), .int (nI S.1.2.2.2.2)])), ((tq 0), .inl (cI, 64, .inl (fun z9 => nI (S.1.1 z9)))), ((tq 1), .inl (cI, 64, .inl (fun z9 => nI (S.1.2.1 z9)))), ((tq 2), .inl (cI, 64, .inl (fun z9 => nI (S.1.2.2.1 z9)))), ((tq 3), .inl (cJ, 64, .inr (.inl S.1.2.2.2.1))), ((tq 4), .inl (cJ, 64, .inr (.inl f1))), ((tq 5), .inl (cJ, 64, .inr (.inl f2))), ((tq 6), .inl (cJ, 64, .inr (.inl f3))), ((tq 7), .inl (cJ, 64, .inr (.inl f4))), (co, .inl (cI, 112, .inl (fun z9 => nI (S.2 z9))))] ++ tl) := hD
  have hl := lv_entry ([.ref g, .int (nI e), .int (nI lv), .int (nI d)]) (n := 9) (Nat.le_of_ble_eq_true rfl)
  rw [lg_entry_eq]
  generalize (lg_sl ([.ref g, .int (nI e), .int (nI lv), .int (nI d)]) ++ List.replicate (9 - (lg_sl ([.ref g, .int (nI e), .int (nI lv), .int (nI d)])).length) Slot.unset).toArray = ls at hl ⊢
  have hl : lv_has ls 9 [(0, .ref g), (1, .int (nI e)), (2, .int (nI lv)), (3, .int (nI d))] := hl
  have hSn := hS9.1
  have hSc := hS9.2
  refine lv_iload_n hx hb dP_evaluate_0 rfl (lv_at hl 3 rfl) ?_
  refine lv_bipush (v := 50) hx hb dP_evaluate_1 (by decide) ?_
  refine lv_icmp_le (tgt := 8) hx hb dP_evaluate_3 (by decide) (fun c3 => ?_) (fun c3 => ?_)
  · have g3 : d ≤ 50 := (gx_le (rfl : (nI d) = (nI d)) (rfl : (50 : Int32) = nI 50) (by omega) (by decide)).mp c3
    refine lv_aload_n hx hb dP_evaluate_8 rfl (lv_at hl 0 rfl) ?_
    refine va_get (D := D) (ci := 3) (v := .ref eo) (C := R_P) (T := F_P) (N := 4) hx hb ht i_P hown hK hP 0 rfl rfl 0 (by decide) (ht _ m_91) (fun _ h9 => h9) rfl dP_evaluate_9 ?_
    refine va_getN (D := D) (ci := 2) (v := .ref (eq 0)) (C := R_E) (T := F_E) (N := 5) hx hb ht i_E hown hK hP 1 rfl rfl 0 (by decide) (va_Nw.use rfl (hN _ mn_2)) (fun _ h9 => h9) rfl dP_evaluate_12 ?_
    refine lv_iload_n hx hb dP_evaluate_15 rfl (lv_at hl 1 rfl) ?_
    have i16 : vp_in (nI e) 80 := gx_in (rfl : (nI e) = (nI e)) (by omega) (by decide)
    have k16 : ((nI e) : Int32).toNatClampNeg = e := gx_cl (rfl : (nI e) = (nI e)) (by omega)
    refine va_iald hx hb hK hP 2 0 rfl rfl i16 dP_evaluate_16 ?_
    rw [k16]
    refine lv_topi (fun v16 e16 => ?_)
    rw [hke] at e16
    subst e16
    refine lv_istore (lv' := [(4, .int 4), (0, .ref g), (1, .int (nI e)), (2, .int (nI lv)), (3, .int (nI d))]) hx hb dP_evaluate_17 hl (by decide) rfl (fun ls hl => ?_)
    refine lv_aload_n hx hb dP_evaluate_19 rfl (lv_at hl 1 rfl) ?_
    refine va_get (D := D) (ci := 3) (v := .ref eo) (C := R_P) (T := F_P) (N := 4) hx hb ht i_P hown hK hP 0 rfl rfl 0 (by decide) (ht _ m_91) (fun _ h9 => h9) rfl dP_evaluate_20 ?_
    refine va_getN (D := D) (ci := 2) (v := .ref (eq 1)) (C := R_E) (T := F_E) (N := 5) hx hb ht i_E hown hK hP 1 rfl rfl 1 (by decide) (va_Nw.use rfl (hN _ mn_3)) (fun _ h9 => h9) rfl dP_evaluate_23 ?_
    refine lv_iload_n hx hb dP_evaluate_26 rfl (lv_at hl 2 rfl) ?_
    have i27 : vp_in (nI e) 80 := gx_in (rfl : (nI e) = (nI e)) (by omega) (by decide)
    have k27 : ((nI e) : Int32).toNatClampNeg = e := gx_cl (rfl : (nI e) = (nI e)) (by omega)
    refine va_iald hx hb hK hP 3 0 rfl rfl i27 dP_evaluate_27 ?_
    rw [k27]
    refine lv_topi (fun v27 e27 => ?_)
    rw [hea] at e27
    subst e27
    refine lv_istore (lv' := [(5, .int (nI a)), (4, .int 4), (0, .ref g), (1, .int (nI e)), (2, .int (nI lv)), (3, .int (nI d))]) hx hb dP_evaluate_28 hl (by decide) rfl (fun ls hl => ?_)
    refine lv_aload_n hx hb dP_evaluate_30 rfl (lv_at hl 2 rfl) ?_
    refine va_get (D := D) (ci := 3) (v := .ref eo) (C := R_P) (T := F_P) (N := 4) hx hb ht i_P hown hK hP 0 rfl rfl 0 (by decide) (ht _ m_91) (fun _ h9 => h9) rfl dP_evaluate_31 ?_
    refine va_getN (D := D) (ci := 2) (v := .ref (eq 2)) (C := R_E) (T := F_E) (N := 5) hx hb ht i_E hown hK hP 1 rfl rfl 2 (by decide) (va_Nw.use rfl (hN _ mn_4)) (fun _ h9 => h9) rfl dP_evaluate_34 ?_
    refine lv_iload_n hx hb dP_evaluate_37 rfl (lv_at hl 3 rfl) ?_
    have i38 : vp_in (nI e) 80 := gx_in (rfl : (nI e) = (nI e)) (by omega) (by decide)
    have k38 : ((nI e) : Int32).toNatClampNeg = e := gx_cl (rfl : (nI e) = (nI e)) (by omega)
    refine va_iald hx hb hK hP 4 0 rfl rfl i38 dP_evaluate_38 ?_
    rw [k38]
    refine lv_topi (fun v38 e38 => ?_)
    rw [heb] at e38
    subst e38
    refine lv_istore (lv' := [(6, .int (nI b)), (5, .int (nI a)), (4, .int 4), (0, .ref g), (1, .int (nI e)), (2, .int (nI lv)), (3, .int (nI d))]) hx hb dP_evaluate_39 hl (by decide) rfl (fun ls hl => ?_)
    refine lv_iload hx hb dP_evaluate_41 (lv_at hl 2 rfl) ?_
    refine gc_i (va_runS (As := [.int 4]) (rest := []) ⟨hx, hb, hml, hown, ht⟩ (c_E_hasLeft l D cI cJ cB cZ 4 H.size) (va_cwS 1 ht (gw_S m_341 m_165 m_3 m_166) rfl rfl rfl (by decide +kernel) ⟨show 0 + 1 ≤ 8 * (n + 1) + 8 by omega, show 8 + (1 + 11) + (0) ≤ 200 * (n + 1) + 200 by omega⟩) (gp_S hK hN (hP.sub (ws' := ([] : va_W)) [] rfl) (hD.sub (ws' := ([] : va_W)) [] (by decide) rfl)) rfl rfl hl.1 rfl (lv_room (Nat.le_of_ble_eq_true rfl)) dP_evaluate_43 ⟨Nat.le_of_ble_eq_true rfl, Nat.le_of_ble_eq_true rfl⟩) hP hD hS hA [] rfl (by decide) (fun r w h => by obtain ⟨_, rfl⟩ := h; rfl) (fun r43 w43 H locs p43 hP hD hS => ?_)
    obtain ⟨rfl, rfl⟩ := p43
    have hP : va_P D vwCl ([(g, .inr (3, [.ref eo, .ref bo, .ref t, .ref co])), (eo, .inr (2, [.ref (eq 0), .ref (eq 1), .ref (eq 2), .ref (eq 3), .int (nI X.2.2.2.2)])), ((eq 0), .inl (cI, 80, .inl X.1)), ((eq 1), .inl (cI, 80, .inl X.2.1)), ((eq 2), .inl (cI, 80, .inl X.2.2.1)), ((eq 3), .inl (cI, 80, .inl X.2.2.2.1)), (bo, .inl (cB, 8, .inr (.inr (.inr (.inr ba))))), (t, .inr (4, [.ref (tq 0), .ref (tq 1), .ref (tq 2), .ref (tq 3), .ref (tq 4), .ref (tq 5), .ref (tq 6), .ref (tq 7), .int (nI S.1.2.2.2.2)])), ((tq 0), .inl (cI, 64, .inl (fun z9 => nI (S.1.1 z9)))), ((tq 1), .inl (cI, 64, .inl (fun z9 => nI (S.1.2.1 z9)))), ((tq 2), .inl (cI, 64, .inl (fun z9 => nI (S.1.2.2.1 z9)))), ((tq 3), .inl (cJ, 64, .inr (.inl S.1.2.2.2.1))), ((tq 4), .inl (cJ, 64, .inr (.inl f1))), ((tq 5), .inl (cJ, 64, .inr (.inl f2))), ((tq 6), .inl (cJ, 64, .inr (.inl f3))), ((tq 7), .inl (cJ, 64, .inr (.inl f4))), (co, .inl (cI, 112, .inl (fun z9 => nI (S.2 z9))))] ++ tl) H := hP
    have hD : va_D A ([(g, .inr (3, [.ref eo, .ref bo, .ref t, .ref co])), (eo, .inr (2, [.ref (eq 0), .ref (eq 1), .ref (eq 2), .ref (eq 3), .int (nI X.2.2.2.2)])), ((eq 0), .inl (cI, 80, .inl X.1)), ((eq 1), .inl (cI, 80, .inl X.2.1)), ((eq 2), .inl (cI, 80, .inl X.2.2.1)), ((eq 3), .inl (cI, 80, .inl X.2.2.2.1)), (bo, .inl (cB, 8, .inr (.inr (.inr (.inr ba))))), (t, .inr (4, [.ref (tq 0), .ref (tq 1), .ref (tq 2), .ref (tq 3), .ref (tq 4), .ref (tq 5), .ref (tq 6), .ref (tq 7), .int (nI S.1.2.2.2.2)])), ((tq 0), .inl (cI, 64, .inl (fun z9 => nI (S.1.1 z9)))), ((tq 1), .inl (cI, 64, .inl (fun z9 => nI (S.1.2.1 z9)))), ((tq 2), .inl (cI, 64, .inl (fun z9 => nI (S.1.2.2.1 z9)))), ((tq 3), .inl (cJ, 64, .inr (.inl S.1.2.2.2.1))), ((tq 4), .inl (cJ, 64, .inr (.inl f1))), ((tq 5), .inl (cJ, 64, .inr (.inl f2))), ((tq 6), .inl (cJ, 64, .inr (.inl f3))), ((tq 7), .inl (cJ, 64, .inr (.inl f4))), (co, .inl (cI, 112, .inl (fun z9 => nI (S.2 z9))))] ++ tl) := hD
    refine lv_if_eq (tgt := 62) hx hb dP_evaluate_46 (by decide) (fun c46 => ?_) (fun c46 => ?_)
    · exact (gb_1.mp c46 (by decide)).elim
    · refine lv_aload_n hx hb dP_evaluate_49 rfl (lv_at hl 3 rfl) ?_
      refine lv_iload hx hb dP_evaluate_50 (lv_at hl 1 rfl) ?_
      refine lv_iload_n hx hb dP_evaluate_52 rfl (lv_at hl 5 rfl) ?_
      refine lv_iload_n hx hb dP_evaluate_53 rfl (lv_at hl 6 rfl) ?_
      refine lv_iconst (v := 1) hx hb dP_evaluate_54 (by decide) ?_
      refine lv_iadd hx hb dP_evaluate_55 ?_
      refine lv_topi (fun v55 e55 => ?_)
      have n55 : v55 = nI (d + 1) := by rw [e55]; exact gx_add (rfl : (nI d) = (nI d)) (rfl : (1 : Int32) = nI 1)
      subst n55
      refine gc_wi (va_runV (As := [.int (nI a), .int (nI lv), .int (nI (d + 1))]) (rest := []) ⟨hx, hb, hml, hown, ht⟩ (hE (d + 1) a lv S (by omega) (by omega) hlv hS9 H.size) (cwV 3 ht (gw_V m_337 m_339 ms_12 m_2 m_340) rfl rfl rfl (by decide +kernel) ⟨show (8 * n + 8) + 1 ≤ 8 * (n + 1) + 8 by omega, show 8 + (9 + 11) + (200 * n + 200) ≤ 200 * (n + 1) + 200 by omega⟩) (gp_V (ci := 3) (q0 := 0) hK hN hP hD rfl rfl) rfl rfl hl.1 rfl (lv_room (Nat.le_of_ble_eq_true rfl)) dP_evaluate_56 ⟨Nat.le_of_ble_eq_true rfl, Nat.le_of_ble_eq_true rfl⟩) hP hD hS hA (fun r56 w56 H locs p56 hP hD hS => ?_)
      obtain ⟨rfl, rfl⟩ := p56
      have hP : va_P D vwCl ([(g, .inr (3, [.ref eo, .ref bo, .ref t, .ref co])), (eo, .inr (2, [.ref (eq 0), .ref (eq 1), .ref (eq 2), .ref (eq 3), .int (nI X.2.2.2.2)])), ((eq 0), .inl (cI, 80, .inl X.1)), ((eq 1), .inl (cI, 80, .inl X.2.1)), ((eq 2), .inl (cI, 80, .inl X.2.2.1)), ((eq 3), .inl (cI, 80, .inl X.2.2.2.1)), (bo, .inl (cB, 8, .inr (.inr (.inr (.inr ba))))), (t, .inr (4, [.ref (tq 0), .ref (tq 1), .ref (tq 2), .ref (tq 3), .ref (tq 4), .ref (tq 5), .ref (tq 6), .ref (tq 7), .int (nI (((((pg X ba Bs n).1 a lv S).2).1).2.2.2.2))])), ((tq 0), .inl (cI, 64, .inl (fun z9 => nI ((((((pg X ba Bs n).1 a lv S).2).1).1) z9)))), ((tq 1), .inl (cI, 64, .inl (fun z9 => nI ((((((pg X ba Bs n).1 a lv S).2).1).2.1) z9)))), ((tq 2), .inl (cI, 64, .inl (fun z9 => nI ((((((pg X ba Bs n).1 a lv S).2).1).2.2.1) z9)))), ((tq 3), .inl (cJ, 64, .inr (.inl (((((pg X ba Bs n).1 a lv S).2).1).2.2.2.1)))), ((tq 4), .inl (cJ, 64, .inr (.inl f1))), ((tq 5), .inl (cJ, 64, .inr (.inl f2))), ((tq 6), .inl (cJ, 64, .inr (.inl f3))), ((tq 7), .inl (cJ, 64, .inr (.inl f4))), (co, .inl (cI, 112, .inl (fun z9 => nI (((((pg X ba Bs n).1 a lv S).2).2) z9))))] ++ tl) H := hP
      have hD : va_D A ([(g, .inr (3, [.ref eo, .ref bo, .ref t, .ref co])), (eo, .inr (2, [.ref (eq 0), .ref (eq 1), .ref (eq 2), .ref (eq 3), .int (nI X.2.2.2.2)])), ((eq 0), .inl (cI, 80, .inl X.1)), ((eq 1), .inl (cI, 80, .inl X.2.1)), ((eq 2), .inl (cI, 80, .inl X.2.2.1)), ((eq 3), .inl (cI, 80, .inl X.2.2.2.1)), (bo, .inl (cB, 8, .inr (.inr (.inr (.inr ba))))), (t, .inr (4, [.ref (tq 0), .ref (tq 1), .ref (tq 2), .ref (tq 3), .ref (tq 4), .ref (tq 5), .ref (tq 6), .ref (tq 7), .int (nI (((((pg X ba Bs n).1 a lv S).2).1).2.2.2.2))])), ((tq 0), .inl (cI, 64, .inl (fun z9 => nI ((((((pg X ba Bs n).1 a lv S).2).1).1) z9)))), ((tq 1), .inl (cI, 64, .inl (fun z9 => nI ((((((pg X ba Bs n).1 a lv S).2).1).2.1) z9)))), ((tq 2), .inl (cI, 64, .inl (fun z9 => nI ((((((pg X ba Bs n).1 a lv S).2).1).2.2.1) z9)))), ((tq 3), .inl (cJ, 64, .inr (.inl (((((pg X ba Bs n).1 a lv S).2).1).2.2.2.1)))), ((tq 4), .inl (cJ, 64, .inr (.inl f1))), ((tq 5), .inl (cJ, 64, .inr (.inl f2))), ((tq 6), .inl (cJ, 64, .inr (.inl f3))), ((tq 7), .inl (cJ, 64, .inr (.inl f4))), (co, .inl (cI, 112, .inl (fun z9 => nI (((((pg X ba Bs n).1 a lv S).2).2) z9))))] ++ tl) := hD
      have b56 := hre a lv S (by omega) hlv hS9
      have b56x := b56.1
      have b56y := b56.2.1
      refine lv_goto (tgt := 63) hx hb dP_evaluate_59 (by decide) ?_
      refine lv_istore (lv' := [(7, .int (nI (((pg X ba Bs n).1 a lv S).1))), (6, .int (nI b)), (5, .int (nI a)), (4, .int 4), (0, .ref g), (1, .int (nI e)), (2, .int (nI lv)), (3, .int (nI d))]) hx hb dP_evaluate_63 hl (by decide) rfl (fun ls hl => ?_)
      refine lv_iload hx hb dP_evaluate_65 (lv_at hl 3 rfl) ?_
      refine gc_i (va_runS (As := [.int 4]) (rest := []) ⟨hx, hb, hml, hown, ht⟩ (c_E_hasRight l D cI cJ cB cZ 4 H.size) (va_cwS 1 ht (gw_S m_342 m_175 m_3 m_176) rfl rfl rfl (by decide +kernel) ⟨show 0 + 1 ≤ 8 * (n + 1) + 8 by omega, show 8 + (1 + 11) + (0) ≤ 200 * (n + 1) + 200 by omega⟩) (gp_S hK hN (hP.sub (ws' := ([] : va_W)) [] rfl) (hD.sub (ws' := ([] : va_W)) [] (by decide) rfl)) rfl rfl hl.1 rfl (lv_room (Nat.le_of_ble_eq_true rfl)) dP_evaluate_67 ⟨Nat.le_of_ble_eq_true rfl, Nat.le_of_ble_eq_true rfl⟩) hP hD hS hA [] rfl (by decide) (fun r w h => by obtain ⟨_, rfl⟩ := h; rfl) (fun r67 w67 H locs p67 hP hD hS => ?_)
      obtain ⟨rfl, rfl⟩ := p67
      have hP : va_P D vwCl ([(g, .inr (3, [.ref eo, .ref bo, .ref t, .ref co])), (eo, .inr (2, [.ref (eq 0), .ref (eq 1), .ref (eq 2), .ref (eq 3), .int (nI X.2.2.2.2)])), ((eq 0), .inl (cI, 80, .inl X.1)), ((eq 1), .inl (cI, 80, .inl X.2.1)), ((eq 2), .inl (cI, 80, .inl X.2.2.1)), ((eq 3), .inl (cI, 80, .inl X.2.2.2.1)), (bo, .inl (cB, 8, .inr (.inr (.inr (.inr ba))))), (t, .inr (4, [.ref (tq 0), .ref (tq 1), .ref (tq 2), .ref (tq 3), .ref (tq 4), .ref (tq 5), .ref (tq 6), .ref (tq 7), .int (nI (((((pg X ba Bs n).1 a lv S).2).1).2.2.2.2))])), ((tq 0), .inl (cI, 64, .inl (fun z9 => nI ((((((pg X ba Bs n).1 a lv S).2).1).1) z9)))), ((tq 1), .inl (cI, 64, .inl (fun z9 => nI ((((((pg X ba Bs n).1 a lv S).2).1).2.1) z9)))), ((tq 2), .inl (cI, 64, .inl (fun z9 => nI ((((((pg X ba Bs n).1 a lv S).2).1).2.2.1) z9)))), ((tq 3), .inl (cJ, 64, .inr (.inl (((((pg X ba Bs n).1 a lv S).2).1).2.2.2.1)))), ((tq 4), .inl (cJ, 64, .inr (.inl f1))), ((tq 5), .inl (cJ, 64, .inr (.inl f2))), ((tq 6), .inl (cJ, 64, .inr (.inl f3))), ((tq 7), .inl (cJ, 64, .inr (.inl f4))), (co, .inl (cI, 112, .inl (fun z9 => nI (((((pg X ba Bs n).1 a lv S).2).2) z9))))] ++ tl) H := hP
      have hD : va_D A ([(g, .inr (3, [.ref eo, .ref bo, .ref t, .ref co])), (eo, .inr (2, [.ref (eq 0), .ref (eq 1), .ref (eq 2), .ref (eq 3), .int (nI X.2.2.2.2)])), ((eq 0), .inl (cI, 80, .inl X.1)), ((eq 1), .inl (cI, 80, .inl X.2.1)), ((eq 2), .inl (cI, 80, .inl X.2.2.1)), ((eq 3), .inl (cI, 80, .inl X.2.2.2.1)), (bo, .inl (cB, 8, .inr (.inr (.inr (.inr ba))))), (t, .inr (4, [.ref (tq 0), .ref (tq 1), .ref (tq 2), .ref (tq 3), .ref (tq 4), .ref (tq 5), .ref (tq 6), .ref (tq 7), .int (nI (((((pg X ba Bs n).1 a lv S).2).1).2.2.2.2))])), ((tq 0), .inl (cI, 64, .inl (fun z9 => nI ((((((pg X ba Bs n).1 a lv S).2).1).1) z9)))), ((tq 1), .inl (cI, 64, .inl (fun z9 => nI ((((((pg X ba Bs n).1 a lv S).2).1).2.1) z9)))), ((tq 2), .inl (cI, 64, .inl (fun z9 => nI ((((((pg X ba Bs n).1 a lv S).2).1).2.2.1) z9)))), ((tq 3), .inl (cJ, 64, .inr (.inl (((((pg X ba Bs n).1 a lv S).2).1).2.2.2.1)))), ((tq 4), .inl (cJ, 64, .inr (.inl f1))), ((tq 5), .inl (cJ, 64, .inr (.inl f2))), ((tq 6), .inl (cJ, 64, .inr (.inl f3))), ((tq 7), .inl (cJ, 64, .inr (.inl f4))), (co, .inl (cI, 112, .inl (fun z9 => nI (((((pg X ba Bs n).1 a lv S).2).2) z9))))] ++ tl) := hD
      refine lv_if_eq (tgt := 86) hx hb dP_evaluate_70 (by decide) (fun c70 => ?_) (fun c70 => ?_)
      · exact (gb_1.mp c70 (by decide)).elim
      · refine lv_aload_n hx hb dP_evaluate_73 rfl (lv_at hl 4 rfl) ?_
        refine lv_iload hx hb dP_evaluate_74 (lv_at hl 1 rfl) ?_
        refine lv_iload_n hx hb dP_evaluate_76 rfl (lv_at hl 6 rfl) ?_
        refine lv_iload_n hx hb dP_evaluate_77 rfl (lv_at hl 7 rfl) ?_
        refine lv_iconst (v := 1) hx hb dP_evaluate_78 (by decide) ?_
        refine lv_iadd hx hb dP_evaluate_79 ?_
        refine lv_topi (fun v79 e79 => ?_)
        have n79 : v79 = nI (d + 1) := by rw [e79]; exact gx_add (rfl : (nI d) = (nI d)) (rfl : (1 : Int32) = nI 1)
        subst n79
        refine gc_wi (va_runV (As := [.int (nI b), .int (nI lv), .int (nI (d + 1))]) (rest := []) ⟨hx, hb, hml, hown, ht⟩ (hE (d + 1) b lv (((pg X ba Bs n).1 a lv S).2) (by omega) (by omega) hlv b56.2 H.size) (cwV 3 ht (gw_V m_337 m_339 ms_12 m_2 m_340) rfl rfl rfl (by decide +kernel) ⟨show (8 * n + 8) + 1 ≤ 8 * (n + 1) + 8 by omega, show 8 + (9 + 11) + (200 * n + 200) ≤ 200 * (n + 1) + 200 by omega⟩) (gp_V (ci := 3) (q0 := 0) hK hN hP hD rfl rfl) rfl rfl hl.1 rfl (lv_room (Nat.le_of_ble_eq_true rfl)) dP_evaluate_80 ⟨Nat.le_of_ble_eq_true rfl, Nat.le_of_ble_eq_true rfl⟩) hP hD hS hA (fun r80 w80 H locs p80 hP hD hS => ?_)
        obtain ⟨rfl, rfl⟩ := p80
        have hP : va_P D vwCl ([(g, .inr (3, [.ref eo, .ref bo, .ref t, .ref co])), (eo, .inr (2, [.ref (eq 0), .ref (eq 1), .ref (eq 2), .ref (eq 3), .int (nI X.2.2.2.2)])), ((eq 0), .inl (cI, 80, .inl X.1)), ((eq 1), .inl (cI, 80, .inl X.2.1)), ((eq 2), .inl (cI, 80, .inl X.2.2.1)), ((eq 3), .inl (cI, 80, .inl X.2.2.2.1)), (bo, .inl (cB, 8, .inr (.inr (.inr (.inr ba))))), (t, .inr (4, [.ref (tq 0), .ref (tq 1), .ref (tq 2), .ref (tq 3), .ref (tq 4), .ref (tq 5), .ref (tq 6), .ref (tq 7), .int (nI (((((pg X ba Bs n).1 b lv (((pg X ba Bs n).1 a lv S).2)).2).1).2.2.2.2))])), ((tq 0), .inl (cI, 64, .inl (fun z9 => nI ((((((pg X ba Bs n).1 b lv (((pg X ba Bs n).1 a lv S).2)).2).1).1) z9)))), ((tq 1), .inl (cI, 64, .inl (fun z9 => nI ((((((pg X ba Bs n).1 b lv (((pg X ba Bs n).1 a lv S).2)).2).1).2.1) z9)))), ((tq 2), .inl (cI, 64, .inl (fun z9 => nI ((((((pg X ba Bs n).1 b lv (((pg X ba Bs n).1 a lv S).2)).2).1).2.2.1) z9)))), ((tq 3), .inl (cJ, 64, .inr (.inl (((((pg X ba Bs n).1 b lv (((pg X ba Bs n).1 a lv S).2)).2).1).2.2.2.1)))), ((tq 4), .inl (cJ, 64, .inr (.inl f1))), ((tq 5), .inl (cJ, 64, .inr (.inl f2))), ((tq 6), .inl (cJ, 64, .inr (.inl f3))), ((tq 7), .inl (cJ, 64, .inr (.inl f4))), (co, .inl (cI, 112, .inl (fun z9 => nI (((((pg X ba Bs n).1 b lv (((pg X ba Bs n).1 a lv S).2)).2).2) z9))))] ++ tl) H := hP
        have hD : va_D A ([(g, .inr (3, [.ref eo, .ref bo, .ref t, .ref co])), (eo, .inr (2, [.ref (eq 0), .ref (eq 1), .ref (eq 2), .ref (eq 3), .int (nI X.2.2.2.2)])), ((eq 0), .inl (cI, 80, .inl X.1)), ((eq 1), .inl (cI, 80, .inl X.2.1)), ((eq 2), .inl (cI, 80, .inl X.2.2.1)), ((eq 3), .inl (cI, 80, .inl X.2.2.2.1)), (bo, .inl (cB, 8, .inr (.inr (.inr (.inr ba))))), (t, .inr (4, [.ref (tq 0), .ref (tq 1), .ref (tq 2), .ref (tq 3), .ref (tq 4), .ref (tq 5), .ref (tq 6), .ref (tq 7), .int (nI (((((pg X ba Bs n).1 b lv (((pg X ba Bs n).1 a lv S).2)).2).1).2.2.2.2))])), ((tq 0), .inl (cI, 64, .inl (fun z9 => nI ((((((pg X ba Bs n).1 b lv (((pg X ba Bs n).1 a lv S).2)).2).1).1) z9)))), ((tq 1), .inl (cI, 64, .inl (fun z9 => nI ((((((pg X ba Bs n).1 b lv (((pg X ba Bs n).1 a lv S).2)).2).1).2.1) z9)))), ((tq 2), .inl (cI, 64, .inl (fun z9 => nI ((((((pg X ba Bs n).1 b lv (((pg X ba Bs n).1 a lv S).2)).2).1).2.2.1) z9)))), ((tq 3), .inl (cJ, 64, .inr (.inl (((((pg X ba Bs n).1 b lv (((pg X ba Bs n).1 a lv S).2)).2).1).2.2.2.1)))), ((tq 4), .inl (cJ, 64, .inr (.inl f1))), ((tq 5), .inl (cJ, 64, .inr (.inl f2))), ((tq 6), .inl (cJ, 64, .inr (.inl f3))), ((tq 7), .inl (cJ, 64, .inr (.inl f4))), (co, .inl (cI, 112, .inl (fun z9 => nI (((((pg X ba Bs n).1 b lv (((pg X ba Bs n).1 a lv S).2)).2).2) z9))))] ++ tl) := hD
        have b80 := hre b lv (((pg X ba Bs n).1 a lv S).2) (by omega) hlv b56.2
        have b80x := b80.1
        have b80y := b80.2.1
        refine lv_goto (tgt := 87) hx hb dP_evaluate_83 (by decide) ?_
        refine lv_istore (lv' := [(8, .int (nI (((pg X ba Bs n).1 b lv (((pg X ba Bs n).1 a lv S).2)).1))), (7, .int (nI (((pg X ba Bs n).1 a lv S).1))), (6, .int (nI b)), (5, .int (nI a)), (4, .int 4), (0, .ref g), (1, .int (nI e)), (2, .int (nI lv)), (3, .int (nI d))]) hx hb dP_evaluate_87 hl (by decide) rfl (fun ls hl => ?_)
        refine lv_iload hx hb dP_evaluate_89 (lv_at hl 4 rfl) ?_
        refine lv_tableIn (tgt := 227) (off := 136) hx hb dP_evaluate_91 (by decide) (by decide) (by rfl) (by decide) ?_
        refine lv_aload_n hx hb dP_evaluate_227 rfl (lv_at hl 5 rfl) ?_
        refine lv_iload hx hb dP_evaluate_228 (lv_at hl 4 rfl) ?_
        refine lv_iload hx hb dP_evaluate_230 (lv_at hl 1 rfl) ?_
        refine lv_iload hx hb dP_evaluate_232 (lv_at hl 0 rfl) ?_
        refine gc_wi (va_runV (As := [.int 4, .int (nI (((pg X ba Bs n).1 a lv S).1)), .int (nI (((pg X ba Bs n).1 b lv (((pg X ba Bs n).1 a lv S).2)).1))]) (rest := []) ⟨hx, hb, hml, hown, ht⟩ (c_P_combine l D cI cJ cB cZ g eo bo t co eq tq tl X ba f1 f2 f3 f4 (((pg X ba Bs n).1 b lv (((pg X ba Bs n).1 a lv S).2)).2) 4 (((pg X ba Bs n).1 a lv S).1) (((pg X ba Bs n).1 b lv (((pg X ba Bs n).1 a lv S).2)).1) (by omega) b80.2.1 (by omega) (by omega) H.size) (cwV 3 ht (gw_V m_361 m_363 ms_14 m_2 m_364) rfl rfl rfl (by decide +kernel) ⟨show 3 + 1 ≤ 8 * (n + 1) + 8 by omega, show 8 + (4 + 11) + (69) ≤ 200 * (n + 1) + 200 by omega⟩) (gp_V (ci := 3) (q0 := 0) hK hN hP hD rfl rfl) rfl rfl hl.1 rfl (lv_room (Nat.le_of_ble_eq_true rfl)) dP_evaluate_234 ⟨Nat.le_of_ble_eq_true rfl, Nat.le_of_ble_eq_true rfl⟩) hP hD hS hA (fun r234 w234 H locs p234 hP hD hS => ?_)
        obtain ⟨rfl, rfl⟩ := p234
        have hP : va_P D vwCl ([(g, .inr (3, [.ref eo, .ref bo, .ref t, .ref co])), (eo, .inr (2, [.ref (eq 0), .ref (eq 1), .ref (eq 2), .ref (eq 3), .int (nI X.2.2.2.2)])), ((eq 0), .inl (cI, 80, .inl X.1)), ((eq 1), .inl (cI, 80, .inl X.2.1)), ((eq 2), .inl (cI, 80, .inl X.2.2.1)), ((eq 3), .inl (cI, 80, .inl X.2.2.2.1)), (bo, .inl (cB, 8, .inr (.inr (.inr (.inr ba))))), (t, .inr (4, [.ref (tq 0), .ref (tq 1), .ref (tq 2), .ref (tq 3), .ref (tq 4), .ref (tq 5), .ref (tq 6), .ref (tq 7), .int (nI ((((px_comb 4 (((pg X ba Bs n).1 a lv S).1) (((pg X ba Bs n).1 b lv (((pg X ba Bs n).1 a lv S).2)).1) ((((pg X ba Bs n).1 b lv (((pg X ba Bs n).1 a lv S).2)).2).1)).2, ((((pg X ba Bs n).1 b lv (((pg X ba Bs n).1 a lv S).2)).2).2)).1).2.2.2.2))])), ((tq 0), .inl (cI, 64, .inl (fun z9 => nI (((((px_comb 4 (((pg X ba Bs n).1 a lv S).1) (((pg X ba Bs n).1 b lv (((pg X ba Bs n).1 a lv S).2)).1) ((((pg X ba Bs n).1 b lv (((pg X ba Bs n).1 a lv S).2)).2).1)).2, ((((pg X ba Bs n).1 b lv (((pg X ba Bs n).1 a lv S).2)).2).2)).1).1) z9)))), ((tq 1), .inl (cI, 64, .inl (fun z9 => nI (((((px_comb 4 (((pg X ba Bs n).1 a lv S).1) (((pg X ba Bs n).1 b lv (((pg X ba Bs n).1 a lv S).2)).1) ((((pg X ba Bs n).1 b lv (((pg X ba Bs n).1 a lv S).2)).2).1)).2, ((((pg X ba Bs n).1 b lv (((pg X ba Bs n).1 a lv S).2)).2).2)).1).2.1) z9)))), ((tq 2), .inl (cI, 64, .inl (fun z9 => nI (((((px_comb 4 (((pg X ba Bs n).1 a lv S).1) (((pg X ba Bs n).1 b lv (((pg X ba Bs n).1 a lv S).2)).1) ((((pg X ba Bs n).1 b lv (((pg X ba Bs n).1 a lv S).2)).2).1)).2, ((((pg X ba Bs n).1 b lv (((pg X ba Bs n).1 a lv S).2)).2).2)).1).2.2.1) z9)))), ((tq 3), .inl (cJ, 64, .inr (.inl ((((px_comb 4 (((pg X ba Bs n).1 a lv S).1) (((pg X ba Bs n).1 b lv (((pg X ba Bs n).1 a lv S).2)).1) ((((pg X ba Bs n).1 b lv (((pg X ba Bs n).1 a lv S).2)).2).1)).2, ((((pg X ba Bs n).1 b lv (((pg X ba Bs n).1 a lv S).2)).2).2)).1).2.2.2.1)))), ((tq 4), .inl (cJ, 64, .inr (.inl f1))), ((tq 5), .inl (cJ, 64, .inr (.inl f2))), ((tq 6), .inl (cJ, 64, .inr (.inl f3))), ((tq 7), .inl (cJ, 64, .inr (.inl f4))), (co, .inl (cI, 112, .inl (fun z9 => nI ((((px_comb 4 (((pg X ba Bs n).1 a lv S).1) (((pg X ba Bs n).1 b lv (((pg X ba Bs n).1 a lv S).2)).1) ((((pg X ba Bs n).1 b lv (((pg X ba Bs n).1 a lv S).2)).2).1)).2, ((((pg X ba Bs n).1 b lv (((pg X ba Bs n).1 a lv S).2)).2).2)).2) z9))))] ++ tl) H := hP
        have hD : va_D A ([(g, .inr (3, [.ref eo, .ref bo, .ref t, .ref co])), (eo, .inr (2, [.ref (eq 0), .ref (eq 1), .ref (eq 2), .ref (eq 3), .int (nI X.2.2.2.2)])), ((eq 0), .inl (cI, 80, .inl X.1)), ((eq 1), .inl (cI, 80, .inl X.2.1)), ((eq 2), .inl (cI, 80, .inl X.2.2.1)), ((eq 3), .inl (cI, 80, .inl X.2.2.2.1)), (bo, .inl (cB, 8, .inr (.inr (.inr (.inr ba))))), (t, .inr (4, [.ref (tq 0), .ref (tq 1), .ref (tq 2), .ref (tq 3), .ref (tq 4), .ref (tq 5), .ref (tq 6), .ref (tq 7), .int (nI ((((px_comb 4 (((pg X ba Bs n).1 a lv S).1) (((pg X ba Bs n).1 b lv (((pg X ba Bs n).1 a lv S).2)).1) ((((pg X ba Bs n).1 b lv (((pg X ba Bs n).1 a lv S).2)).2).1)).2, ((((pg X ba Bs n).1 b lv (((pg X ba Bs n).1 a lv S).2)).2).2)).1).2.2.2.2))])), ((tq 0), .inl (cI, 64, .inl (fun z9 => nI (((((px_comb 4 (((pg X ba Bs n).1 a lv S).1) (((pg X ba Bs n).1 b lv (((pg X ba Bs n).1 a lv S).2)).1) ((((pg X ba Bs n).1 b lv (((pg X ba Bs n).1 a lv S).2)).2).1)).2, ((((pg X ba Bs n).1 b lv (((pg X ba Bs n).1 a lv S).2)).2).2)).1).1) z9)))), ((tq 1), .inl (cI, 64, .inl (fun z9 => nI (((((px_comb 4 (((pg X ba Bs n).1 a lv S).1) (((pg X ba Bs n).1 b lv (((pg X ba Bs n).1 a lv S).2)).1) ((((pg X ba Bs n).1 b lv (((pg X ba Bs n).1 a lv S).2)).2).1)).2, ((((pg X ba Bs n).1 b lv (((pg X ba Bs n).1 a lv S).2)).2).2)).1).2.1) z9)))), ((tq 2), .inl (cI, 64, .inl (fun z9 => nI (((((px_comb 4 (((pg X ba Bs n).1 a lv S).1) (((pg X ba Bs n).1 b lv (((pg X ba Bs n).1 a lv S).2)).1) ((((pg X ba Bs n).1 b lv (((pg X ba Bs n).1 a lv S).2)).2).1)).2, ((((pg X ba Bs n).1 b lv (((pg X ba Bs n).1 a lv S).2)).2).2)).1).2.2.1) z9)))), ((tq 3), .inl (cJ, 64, .inr (.inl ((((px_comb 4 (((pg X ba Bs n).1 a lv S).1) (((pg X ba Bs n).1 b lv (((pg X ba Bs n).1 a lv S).2)).1) ((((pg X ba Bs n).1 b lv (((pg X ba Bs n).1 a lv S).2)).2).1)).2, ((((pg X ba Bs n).1 b lv (((pg X ba Bs n).1 a lv S).2)).2).2)).1).2.2.2.1)))), ((tq 4), .inl (cJ, 64, .inr (.inl f1))), ((tq 5), .inl (cJ, 64, .inr (.inl f2))), ((tq 6), .inl (cJ, 64, .inr (.inl f3))), ((tq 7), .inl (cJ, 64, .inr (.inl f4))), (co, .inl (cI, 112, .inl (fun z9 => nI ((((px_comb 4 (((pg X ba Bs n).1 a lv S).1) (((pg X ba Bs n).1 b lv (((pg X ba Bs n).1 a lv S).2)).1) ((((pg X ba Bs n).1 b lv (((pg X ba Bs n).1 a lv S).2)).2).1)).2, ((((pg X ba Bs n).1 b lv (((pg X ba Bs n).1 a lv S).2)).2).2)).2) z9))))] ++ tl) := hD
        have hz : (pg X ba Bs (n + 1)).1 e lv S = (((px_comb 4 (((pg X ba Bs n).1 a lv S).1) (((pg X ba Bs n).1 b lv (((pg X ba Bs n).1 a lv S).2)).1) ((((pg X ba Bs n).1 b lv (((pg X ba Bs n).1 a lv S).2)).2).1)).1), (px_comb 4 (((pg X ba Bs n).1 a lv S).1) (((pg X ba Bs n).1 b lv (((pg X ba Bs n).1 a lv S).2)).1) ((((pg X ba Bs n).1 b lv (((pg X ba Bs n).1 a lv S).2)).2).1)).2, ((((pg X ba Bs n).1 b lv (((pg X ba Bs n).1 a lv S).2)).2).2)) := by
          show px_ev X (pg X ba Bs n).1 (px_ent ba Bs (pg X ba Bs n).2) e lv S = _
          simp [px_ev, px_r1, px_r2, px_R, hke, hea, heb, show cn (4 : Int32) = 4 from rfl, cn_nI (show a < 2 ^ 31 by omega), cn_nI (show b < 2 ^ 31 by omega)]
        exact W.iret (v := (nI ((px_comb 4 (((pg X ba Bs n).1 a lv S).1) (((pg X ba Bs n).1 b lv (((pg X ba Bs n).1 a lv S).2)).1) ((((pg X ba Bs n).1 b lv (((pg X ba Bs n).1 a lv S).2)).2).1)).1))) hx hb hr (fun t9 ht9 hW => ⟨⟨(nI ((px_comb 4 (((pg X ba Bs n).1 a lv S).1) (((pg X ba Bs n).1 b lv (((pg X ba Bs n).1 a lv S).2)).1) ((((pg X ba Bs n).1 b lv (((pg X ba Bs n).1 a lv S).2)).2).1)).1)), _, rfl, ⟨by rw [hz], by rw [hz]⟩, by rw [ht9]; exact hP, hD⟩, hS.F ht9⟩) hS.2.2 dP_evaluate_237
  · have g3 : ¬ (d ≤ 50) := fun z => c3 ((gx_le (rfl : (nI d) = (nI d)) (rfl : (50 : Int32) = nI 50) (by omega) (by decide)).mpr z)
    exact absurd g3 (by omega)

set_option maxHeartbeats 4000000 in
set_option maxRecDepth 100000 in
theorem c_P_evaluate_5 (l : Launch) (D : va_G) (cI cJ cB cZ : ClassId) (g eo bo t co : Nat) (eq tq : Nat → Nat) (tl : va_W) (X : Ex) (ba : Nat → Option Nat) (f1 f2 f3 f4 : Nat → Int64) (Bs : Nat → Bd) (n d e lv : Nat) (S : Sx) (a : Nat) (hE : cE l D cI cJ cB cZ g eo bo t co eq tq tl X ba f1 f2 f3 f4 Bs n) (hN9 : cN l D cI cJ cB cZ g eo bo t co eq tq tl X ba f1 f2 f3 f4 Bs n) (hd : d + (n + 1) = 51) (hX80 : X.2.2.2.2 ≤ 80) (he : e < X.2.2.2.2) (hlv : lv < 8) (hS9 : sx_ok S) (hre : re_ok X (pg X ba Bs n).1) (hke : X.1 e = 5) (ha : a < e) (hea : X.2.1 e = nI a) : ct_I l y_P_evaluate w_P_evaluate ({ frames := 8 * (n + 1) + 8, cells := 0, slots := 0, locals := 200 * (n + 1) + 200 }) D (gk_T cI cJ cB cZ) [.ref g, .int (nI e), .int (nI lv), .int (nI d)] (wPg cI cJ cB g eo bo t co eq tq X ba S f1 f2 f3 f4 ++ tl) (0) (0) (fun r w => r = nI ((pg X ba Bs (n + 1)).1 e lv S).1 ∧ w = (wPg cI cJ cB g eo bo t co eq tq X ba (((pg X ba Bs (n + 1)).1 e lv S).2) f1 f2 f3 f4 ++ tl)) := by
  intro sz
  refine Met.ofW (cc := b_P_evaluate) (maxL := 9) (ret := (some .int)) (by decide) rfl ?_
  intro p ev9 s m args below meth c s₁ B9 hml hv
  obtain ⟨rfl, hsz, hP, hK, hN, hD0⟩ := hv
  have hx := B9.exec
  have hb := B9.bytes
  have hr := B9.returns
  have hts := atoms_spec (ws := w_P_evaluate) B9.pre
  have ht : ∀ w ∈ gk_big, w.before _ s = true := fun w h => hts w (List.mem_cons_of_mem _ h)
  have hown : s.vm.findClass R_P = some m.cls := findClass_of_methodNamed B9.named
  have hlocks := B9.notSynchronized
  subst hsz
  have hD := hD0.self (sz := s.heap.size)
  generalize hAe : va_A (wPg cI cJ cB g eo bo t co eq tq X ba S f1 f2 f3 f4 ++ tl) s.heap.size = A at hD ⊢
  have hA : ∀ q : Nat, s.heap.size ≤ q → A q := fun q h => by rw [← hAe]; exact Or.inr h
  generalize hHe : s.heap = H at hP ⊢
  have hS : va_S A s.heap H [] := by rw [← hHe]; exact va_S.rf
  have hP : va_P D vwCl ([(g, .inr (3, [.ref eo, .ref bo, .ref t, .ref co])), (eo, .inr (2, [.ref (eq 0), .ref (eq 1), .ref (eq 2), .ref (eq 3), .int (nI X.2.2.2.2)])), ((eq 0), .inl (cI, 80, .inl X.1)), ((eq 1), .inl (cI, 80, .inl X.2.1)), ((eq 2), .inl (cI, 80, .inl X.2.2.1)), ((eq 3), .inl (cI, 80, .inl X.2.2.2.1)), (bo, .inl (cB, 8, .inr (.inr (.inr (.inr ba))))), (t, .inr (4, [.ref (tq 0), .ref (tq 1), .ref (tq 2), .ref (tq 3), .ref (tq 4), .ref (tq 5), .ref (tq 6), .ref (tq 7), .int (nI S.1.2.2.2.2)])), ((tq 0), .inl (cI, 64, .inl (fun z9 => nI (S.1.1 z9)))), ((tq 1), .inl (cI, 64, .inl (fun z9 => nI (S.1.2.1 z9)))), ((tq 2), .inl (cI, 64, .inl (fun z9 => nI (S.1.2.2.1 z9)))), ((tq 3), .inl (cJ, 64, .inr (.inl S.1.2.2.2.1))), ((tq 4), .inl (cJ, 64, .inr (.inl f1))), ((tq 5), .inl (cJ, 64, .inr (.inl f2))), ((tq 6), .inl (cJ, 64, .inr (.inl f3))), ((tq 7), .inl (cJ, 64, .inr (.inl f4))), (co, .inl (cI, 112, .inl (fun z9 => nI (S.2 z9))))] ++ tl) H := hP
  have hD : va_D A ([(g, .inr (3, [.ref eo, .ref bo, .ref t, .ref co])), (eo, .inr (2, [.ref (eq 0), .ref (eq 1), .ref (eq 2), .ref (eq 3), .int (nI X.2.2.2.2)])), ((eq 0), .inl (cI, 80, .inl X.1)), ((eq 1), .inl (cI, 80, .inl X.2.1)), ((eq 2), .inl (cI, 80, .inl X.2.2.1)), ((eq 3), .inl (cI, 80, .inl X.2.2.2.1)), (bo, .inl (cB, 8, .inr (.inr (.inr (.inr ba))))), (t, .inr (4, [.ref (tq 0), .ref (tq 1), .ref (tq 2), .ref (tq 3), .ref (tq 4), .ref (tq 5), .ref (tq 6), .ref (tq 7), .int (nI S.1.2.2.2.2)])), ((tq 0), .inl (cI, 64, .inl (fun z9 => nI (S.1.1 z9)))), ((tq 1), .inl (cI, 64, .inl (fun z9 => nI (S.1.2.1 z9)))), ((tq 2), .inl (cI, 64, .inl (fun z9 => nI (S.1.2.2.1 z9)))), ((tq 3), .inl (cJ, 64, .inr (.inl S.1.2.2.2.1))), ((tq 4), .inl (cJ, 64, .inr (.inl f1))), ((tq 5), .inl (cJ, 64, .inr (.inl f2))), ((tq 6), .inl (cJ, 64, .inr (.inl f3))), ((tq 7), .inl (cJ, 64, .inr (.inl f4))), (co, .inl (cI, 112, .inl (fun z9 => nI (S.2 z9))))] ++ tl) := hD
  have hl := lv_entry ([.ref g, .int (nI e), .int (nI lv), .int (nI d)]) (n := 9) (Nat.le_of_ble_eq_true rfl)
  rw [lg_entry_eq]
  generalize (lg_sl ([.ref g, .int (nI e), .int (nI lv), .int (nI d)]) ++ List.replicate (9 - (lg_sl ([.ref g, .int (nI e), .int (nI lv), .int (nI d)])).length) Slot.unset).toArray = ls at hl ⊢
  have hl : lv_has ls 9 [(0, .ref g), (1, .int (nI e)), (2, .int (nI lv)), (3, .int (nI d))] := hl
  have hSn := hS9.1
  have hSc := hS9.2
  refine lv_iload_n hx hb dP_evaluate_0 rfl (lv_at hl 3 rfl) ?_
  refine lv_bipush (v := 50) hx hb dP_evaluate_1 (by decide) ?_
  refine lv_icmp_le (tgt := 8) hx hb dP_evaluate_3 (by decide) (fun c3 => ?_) (fun c3 => ?_)
  · have g3 : d ≤ 50 := (gx_le (rfl : (nI d) = (nI d)) (rfl : (50 : Int32) = nI 50) (by omega) (by decide)).mp c3
    refine lv_aload_n hx hb dP_evaluate_8 rfl (lv_at hl 0 rfl) ?_
    refine va_get (D := D) (ci := 3) (v := .ref eo) (C := R_P) (T := F_P) (N := 4) hx hb ht i_P hown hK hP 0 rfl rfl 0 (by decide) (ht _ m_91) (fun _ h9 => h9) rfl dP_evaluate_9 ?_
    refine va_getN (D := D) (ci := 2) (v := .ref (eq 0)) (C := R_E) (T := F_E) (N := 5) hx hb ht i_E hown hK hP 1 rfl rfl 0 (by decide) (va_Nw.use rfl (hN _ mn_2)) (fun _ h9 => h9) rfl dP_evaluate_12 ?_
    refine lv_iload_n hx hb dP_evaluate_15 rfl (lv_at hl 1 rfl) ?_
    have i16 : vp_in (nI e) 80 := gx_in (rfl : (nI e) = (nI e)) (by omega) (by decide)
    have k16 : ((nI e) : Int32).toNatClampNeg = e := gx_cl (rfl : (nI e) = (nI e)) (by omega)
    refine va_iald hx hb hK hP 2 0 rfl rfl i16 dP_evaluate_16 ?_
    rw [k16]
    refine lv_topi (fun v16 e16 => ?_)
    rw [hke] at e16
    subst e16
    refine lv_istore (lv' := [(4, .int 5), (0, .ref g), (1, .int (nI e)), (2, .int (nI lv)), (3, .int (nI d))]) hx hb dP_evaluate_17 hl (by decide) rfl (fun ls hl => ?_)
    refine lv_aload_n hx hb dP_evaluate_19 rfl (lv_at hl 1 rfl) ?_
    refine va_get (D := D) (ci := 3) (v := .ref eo) (C := R_P) (T := F_P) (N := 4) hx hb ht i_P hown hK hP 0 rfl rfl 0 (by decide) (ht _ m_91) (fun _ h9 => h9) rfl dP_evaluate_20 ?_
    refine va_getN (D := D) (ci := 2) (v := .ref (eq 1)) (C := R_E) (T := F_E) (N := 5) hx hb ht i_E hown hK hP 1 rfl rfl 1 (by decide) (va_Nw.use rfl (hN _ mn_3)) (fun _ h9 => h9) rfl dP_evaluate_23 ?_
    refine lv_iload_n hx hb dP_evaluate_26 rfl (lv_at hl 2 rfl) ?_
    have i27 : vp_in (nI e) 80 := gx_in (rfl : (nI e) = (nI e)) (by omega) (by decide)
    have k27 : ((nI e) : Int32).toNatClampNeg = e := gx_cl (rfl : (nI e) = (nI e)) (by omega)
    refine va_iald hx hb hK hP 3 0 rfl rfl i27 dP_evaluate_27 ?_
    rw [k27]
    refine lv_topi (fun v27 e27 => ?_)
    rw [hea] at e27
    subst e27
    refine lv_istore (lv' := [(5, .int (nI a)), (4, .int 5), (0, .ref g), (1, .int (nI e)), (2, .int (nI lv)), (3, .int (nI d))]) hx hb dP_evaluate_28 hl (by decide) rfl (fun ls hl => ?_)
    refine lv_aload_n hx hb dP_evaluate_30 rfl (lv_at hl 2 rfl) ?_
    refine va_get (D := D) (ci := 3) (v := .ref eo) (C := R_P) (T := F_P) (N := 4) hx hb ht i_P hown hK hP 0 rfl rfl 0 (by decide) (ht _ m_91) (fun _ h9 => h9) rfl dP_evaluate_31 ?_
    refine va_getN (D := D) (ci := 2) (v := .ref (eq 2)) (C := R_E) (T := F_E) (N := 5) hx hb ht i_E hown hK hP 1 rfl rfl 2 (by decide) (va_Nw.use rfl (hN _ mn_4)) (fun _ h9 => h9) rfl dP_evaluate_34 ?_
    refine lv_iload_n hx hb dP_evaluate_37 rfl (lv_at hl 3 rfl) ?_
    have i38 : vp_in (nI e) 80 := gx_in (rfl : (nI e) = (nI e)) (by omega) (by decide)
    have k38 : ((nI e) : Int32).toNatClampNeg = e := gx_cl (rfl : (nI e) = (nI e)) (by omega)
    refine va_iald hx hb hK hP 4 0 rfl rfl i38 dP_evaluate_38 ?_
    rw [k38]
    refine lv_topi (fun v38 e38 => ?_)
    refine lv_istore (lv' := [(6, .int v38), (5, .int (nI a)), (4, .int 5), (0, .ref g), (1, .int (nI e)), (2, .int (nI lv)), (3, .int (nI d))]) hx hb dP_evaluate_39 hl (by decide) rfl (fun ls hl => ?_)
    refine lv_iload hx hb dP_evaluate_41 (lv_at hl 2 rfl) ?_
    refine gc_i (va_runS (As := [.int 5]) (rest := []) ⟨hx, hb, hml, hown, ht⟩ (c_E_hasLeft l D cI cJ cB cZ 5 H.size) (va_cwS 1 ht (gw_S m_341 m_165 m_3 m_166) rfl rfl rfl (by decide +kernel) ⟨show 0 + 1 ≤ 8 * (n + 1) + 8 by omega, show 8 + (1 + 11) + (0) ≤ 200 * (n + 1) + 200 by omega⟩) (gp_S hK hN (hP.sub (ws' := ([] : va_W)) [] rfl) (hD.sub (ws' := ([] : va_W)) [] (by decide) rfl)) rfl rfl hl.1 rfl (lv_room (Nat.le_of_ble_eq_true rfl)) dP_evaluate_43 ⟨Nat.le_of_ble_eq_true rfl, Nat.le_of_ble_eq_true rfl⟩) hP hD hS hA [] rfl (by decide) (fun r w h => by obtain ⟨_, rfl⟩ := h; rfl) (fun r43 w43 H locs p43 hP hD hS => ?_)
    obtain ⟨rfl, rfl⟩ := p43
    have hP : va_P D vwCl ([(g, .inr (3, [.ref eo, .ref bo, .ref t, .ref co])), (eo, .inr (2, [.ref (eq 0), .ref (eq 1), .ref (eq 2), .ref (eq 3), .int (nI X.2.2.2.2)])), ((eq 0), .inl (cI, 80, .inl X.1)), ((eq 1), .inl (cI, 80, .inl X.2.1)), ((eq 2), .inl (cI, 80, .inl X.2.2.1)), ((eq 3), .inl (cI, 80, .inl X.2.2.2.1)), (bo, .inl (cB, 8, .inr (.inr (.inr (.inr ba))))), (t, .inr (4, [.ref (tq 0), .ref (tq 1), .ref (tq 2), .ref (tq 3), .ref (tq 4), .ref (tq 5), .ref (tq 6), .ref (tq 7), .int (nI S.1.2.2.2.2)])), ((tq 0), .inl (cI, 64, .inl (fun z9 => nI (S.1.1 z9)))), ((tq 1), .inl (cI, 64, .inl (fun z9 => nI (S.1.2.1 z9)))), ((tq 2), .inl (cI, 64, .inl (fun z9 => nI (S.1.2.2.1 z9)))), ((tq 3), .inl (cJ, 64, .inr (.inl S.1.2.2.2.1))), ((tq 4), .inl (cJ, 64, .inr (.inl f1))), ((tq 5), .inl (cJ, 64, .inr (.inl f2))), ((tq 6), .inl (cJ, 64, .inr (.inl f3))), ((tq 7), .inl (cJ, 64, .inr (.inl f4))), (co, .inl (cI, 112, .inl (fun z9 => nI (S.2 z9))))] ++ tl) H := hP
    have hD : va_D A ([(g, .inr (3, [.ref eo, .ref bo, .ref t, .ref co])), (eo, .inr (2, [.ref (eq 0), .ref (eq 1), .ref (eq 2), .ref (eq 3), .int (nI X.2.2.2.2)])), ((eq 0), .inl (cI, 80, .inl X.1)), ((eq 1), .inl (cI, 80, .inl X.2.1)), ((eq 2), .inl (cI, 80, .inl X.2.2.1)), ((eq 3), .inl (cI, 80, .inl X.2.2.2.1)), (bo, .inl (cB, 8, .inr (.inr (.inr (.inr ba))))), (t, .inr (4, [.ref (tq 0), .ref (tq 1), .ref (tq 2), .ref (tq 3), .ref (tq 4), .ref (tq 5), .ref (tq 6), .ref (tq 7), .int (nI S.1.2.2.2.2)])), ((tq 0), .inl (cI, 64, .inl (fun z9 => nI (S.1.1 z9)))), ((tq 1), .inl (cI, 64, .inl (fun z9 => nI (S.1.2.1 z9)))), ((tq 2), .inl (cI, 64, .inl (fun z9 => nI (S.1.2.2.1 z9)))), ((tq 3), .inl (cJ, 64, .inr (.inl S.1.2.2.2.1))), ((tq 4), .inl (cJ, 64, .inr (.inl f1))), ((tq 5), .inl (cJ, 64, .inr (.inl f2))), ((tq 6), .inl (cJ, 64, .inr (.inl f3))), ((tq 7), .inl (cJ, 64, .inr (.inl f4))), (co, .inl (cI, 112, .inl (fun z9 => nI (S.2 z9))))] ++ tl) := hD
    refine lv_if_eq (tgt := 62) hx hb dP_evaluate_46 (by decide) (fun c46 => ?_) (fun c46 => ?_)
    · exact (gb_1.mp c46 (by decide)).elim
    · refine lv_aload_n hx hb dP_evaluate_49 rfl (lv_at hl 3 rfl) ?_
      refine lv_iload hx hb dP_evaluate_50 (lv_at hl 1 rfl) ?_
      refine lv_iload_n hx hb dP_evaluate_52 rfl (lv_at hl 5 rfl) ?_
      refine lv_iload_n hx hb dP_evaluate_53 rfl (lv_at hl 6 rfl) ?_
      refine lv_iconst (v := 1) hx hb dP_evaluate_54 (by decide) ?_
      refine lv_iadd hx hb dP_evaluate_55 ?_
      refine lv_topi (fun v55 e55 => ?_)
      have n55 : v55 = nI (d + 1) := by rw [e55]; exact gx_add (rfl : (nI d) = (nI d)) (rfl : (1 : Int32) = nI 1)
      subst n55
      refine gc_wi (va_runV (As := [.int (nI a), .int (nI lv), .int (nI (d + 1))]) (rest := []) ⟨hx, hb, hml, hown, ht⟩ (hE (d + 1) a lv S (by omega) (by omega) hlv hS9 H.size) (cwV 3 ht (gw_V m_337 m_339 ms_12 m_2 m_340) rfl rfl rfl (by decide +kernel) ⟨show (8 * n + 8) + 1 ≤ 8 * (n + 1) + 8 by omega, show 8 + (9 + 11) + (200 * n + 200) ≤ 200 * (n + 1) + 200 by omega⟩) (gp_V (ci := 3) (q0 := 0) hK hN hP hD rfl rfl) rfl rfl hl.1 rfl (lv_room (Nat.le_of_ble_eq_true rfl)) dP_evaluate_56 ⟨Nat.le_of_ble_eq_true rfl, Nat.le_of_ble_eq_true rfl⟩) hP hD hS hA (fun r56 w56 H locs p56 hP hD hS => ?_)
      obtain ⟨rfl, rfl⟩ := p56
      have hP : va_P D vwCl ([(g, .inr (3, [.ref eo, .ref bo, .ref t, .ref co])), (eo, .inr (2, [.ref (eq 0), .ref (eq 1), .ref (eq 2), .ref (eq 3), .int (nI X.2.2.2.2)])), ((eq 0), .inl (cI, 80, .inl X.1)), ((eq 1), .inl (cI, 80, .inl X.2.1)), ((eq 2), .inl (cI, 80, .inl X.2.2.1)), ((eq 3), .inl (cI, 80, .inl X.2.2.2.1)), (bo, .inl (cB, 8, .inr (.inr (.inr (.inr ba))))), (t, .inr (4, [.ref (tq 0), .ref (tq 1), .ref (tq 2), .ref (tq 3), .ref (tq 4), .ref (tq 5), .ref (tq 6), .ref (tq 7), .int (nI (((((pg X ba Bs n).1 a lv S).2).1).2.2.2.2))])), ((tq 0), .inl (cI, 64, .inl (fun z9 => nI ((((((pg X ba Bs n).1 a lv S).2).1).1) z9)))), ((tq 1), .inl (cI, 64, .inl (fun z9 => nI ((((((pg X ba Bs n).1 a lv S).2).1).2.1) z9)))), ((tq 2), .inl (cI, 64, .inl (fun z9 => nI ((((((pg X ba Bs n).1 a lv S).2).1).2.2.1) z9)))), ((tq 3), .inl (cJ, 64, .inr (.inl (((((pg X ba Bs n).1 a lv S).2).1).2.2.2.1)))), ((tq 4), .inl (cJ, 64, .inr (.inl f1))), ((tq 5), .inl (cJ, 64, .inr (.inl f2))), ((tq 6), .inl (cJ, 64, .inr (.inl f3))), ((tq 7), .inl (cJ, 64, .inr (.inl f4))), (co, .inl (cI, 112, .inl (fun z9 => nI (((((pg X ba Bs n).1 a lv S).2).2) z9))))] ++ tl) H := hP
      have hD : va_D A ([(g, .inr (3, [.ref eo, .ref bo, .ref t, .ref co])), (eo, .inr (2, [.ref (eq 0), .ref (eq 1), .ref (eq 2), .ref (eq 3), .int (nI X.2.2.2.2)])), ((eq 0), .inl (cI, 80, .inl X.1)), ((eq 1), .inl (cI, 80, .inl X.2.1)), ((eq 2), .inl (cI, 80, .inl X.2.2.1)), ((eq 3), .inl (cI, 80, .inl X.2.2.2.1)), (bo, .inl (cB, 8, .inr (.inr (.inr (.inr ba))))), (t, .inr (4, [.ref (tq 0), .ref (tq 1), .ref (tq 2), .ref (tq 3), .ref (tq 4), .ref (tq 5), .ref (tq 6), .ref (tq 7), .int (nI (((((pg X ba Bs n).1 a lv S).2).1).2.2.2.2))])), ((tq 0), .inl (cI, 64, .inl (fun z9 => nI ((((((pg X ba Bs n).1 a lv S).2).1).1) z9)))), ((tq 1), .inl (cI, 64, .inl (fun z9 => nI ((((((pg X ba Bs n).1 a lv S).2).1).2.1) z9)))), ((tq 2), .inl (cI, 64, .inl (fun z9 => nI ((((((pg X ba Bs n).1 a lv S).2).1).2.2.1) z9)))), ((tq 3), .inl (cJ, 64, .inr (.inl (((((pg X ba Bs n).1 a lv S).2).1).2.2.2.1)))), ((tq 4), .inl (cJ, 64, .inr (.inl f1))), ((tq 5), .inl (cJ, 64, .inr (.inl f2))), ((tq 6), .inl (cJ, 64, .inr (.inl f3))), ((tq 7), .inl (cJ, 64, .inr (.inl f4))), (co, .inl (cI, 112, .inl (fun z9 => nI (((((pg X ba Bs n).1 a lv S).2).2) z9))))] ++ tl) := hD
      have b56 := hre a lv S (by omega) hlv hS9
      have b56x := b56.1
      have b56y := b56.2.1
      refine lv_goto (tgt := 63) hx hb dP_evaluate_59 (by decide) ?_
      refine lv_istore (lv' := [(7, .int (nI (((pg X ba Bs n).1 a lv S).1))), (6, .int v38), (5, .int (nI a)), (4, .int 5), (0, .ref g), (1, .int (nI e)), (2, .int (nI lv)), (3, .int (nI d))]) hx hb dP_evaluate_63 hl (by decide) rfl (fun ls hl => ?_)
      refine lv_iload hx hb dP_evaluate_65 (lv_at hl 3 rfl) ?_
      refine gc_i (va_runS (As := [.int 5]) (rest := []) ⟨hx, hb, hml, hown, ht⟩ (c_E_hasRight l D cI cJ cB cZ 5 H.size) (va_cwS 1 ht (gw_S m_342 m_175 m_3 m_176) rfl rfl rfl (by decide +kernel) ⟨show 0 + 1 ≤ 8 * (n + 1) + 8 by omega, show 8 + (1 + 11) + (0) ≤ 200 * (n + 1) + 200 by omega⟩) (gp_S hK hN (hP.sub (ws' := ([] : va_W)) [] rfl) (hD.sub (ws' := ([] : va_W)) [] (by decide) rfl)) rfl rfl hl.1 rfl (lv_room (Nat.le_of_ble_eq_true rfl)) dP_evaluate_67 ⟨Nat.le_of_ble_eq_true rfl, Nat.le_of_ble_eq_true rfl⟩) hP hD hS hA [] rfl (by decide) (fun r w h => by obtain ⟨_, rfl⟩ := h; rfl) (fun r67 w67 H locs p67 hP hD hS => ?_)
      obtain ⟨rfl, rfl⟩ := p67
      have hP : va_P D vwCl ([(g, .inr (3, [.ref eo, .ref bo, .ref t, .ref co])), (eo, .inr (2, [.ref (eq 0), .ref (eq 1), .ref (eq 2), .ref (eq 3), .int (nI X.2.2.2.2)])), ((eq 0), .inl (cI, 80, .inl X.1)), ((eq 1), .inl (cI, 80, .inl X.2.1)), ((eq 2), .inl (cI, 80, .inl X.2.2.1)), ((eq 3), .inl (cI, 80, .inl X.2.2.2.1)), (bo, .inl (cB, 8, .inr (.inr (.inr (.inr ba))))), (t, .inr (4, [.ref (tq 0), .ref (tq 1), .ref (tq 2), .ref (tq 3), .ref (tq 4), .ref (tq 5), .ref (tq 6), .ref (tq 7), .int (nI (((((pg X ba Bs n).1 a lv S).2).1).2.2.2.2))])), ((tq 0), .inl (cI, 64, .inl (fun z9 => nI ((((((pg X ba Bs n).1 a lv S).2).1).1) z9)))), ((tq 1), .inl (cI, 64, .inl (fun z9 => nI ((((((pg X ba Bs n).1 a lv S).2).1).2.1) z9)))), ((tq 2), .inl (cI, 64, .inl (fun z9 => nI ((((((pg X ba Bs n).1 a lv S).2).1).2.2.1) z9)))), ((tq 3), .inl (cJ, 64, .inr (.inl (((((pg X ba Bs n).1 a lv S).2).1).2.2.2.1)))), ((tq 4), .inl (cJ, 64, .inr (.inl f1))), ((tq 5), .inl (cJ, 64, .inr (.inl f2))), ((tq 6), .inl (cJ, 64, .inr (.inl f3))), ((tq 7), .inl (cJ, 64, .inr (.inl f4))), (co, .inl (cI, 112, .inl (fun z9 => nI (((((pg X ba Bs n).1 a lv S).2).2) z9))))] ++ tl) H := hP
      have hD : va_D A ([(g, .inr (3, [.ref eo, .ref bo, .ref t, .ref co])), (eo, .inr (2, [.ref (eq 0), .ref (eq 1), .ref (eq 2), .ref (eq 3), .int (nI X.2.2.2.2)])), ((eq 0), .inl (cI, 80, .inl X.1)), ((eq 1), .inl (cI, 80, .inl X.2.1)), ((eq 2), .inl (cI, 80, .inl X.2.2.1)), ((eq 3), .inl (cI, 80, .inl X.2.2.2.1)), (bo, .inl (cB, 8, .inr (.inr (.inr (.inr ba))))), (t, .inr (4, [.ref (tq 0), .ref (tq 1), .ref (tq 2), .ref (tq 3), .ref (tq 4), .ref (tq 5), .ref (tq 6), .ref (tq 7), .int (nI (((((pg X ba Bs n).1 a lv S).2).1).2.2.2.2))])), ((tq 0), .inl (cI, 64, .inl (fun z9 => nI ((((((pg X ba Bs n).1 a lv S).2).1).1) z9)))), ((tq 1), .inl (cI, 64, .inl (fun z9 => nI ((((((pg X ba Bs n).1 a lv S).2).1).2.1) z9)))), ((tq 2), .inl (cI, 64, .inl (fun z9 => nI ((((((pg X ba Bs n).1 a lv S).2).1).2.2.1) z9)))), ((tq 3), .inl (cJ, 64, .inr (.inl (((((pg X ba Bs n).1 a lv S).2).1).2.2.2.1)))), ((tq 4), .inl (cJ, 64, .inr (.inl f1))), ((tq 5), .inl (cJ, 64, .inr (.inl f2))), ((tq 6), .inl (cJ, 64, .inr (.inl f3))), ((tq 7), .inl (cJ, 64, .inr (.inl f4))), (co, .inl (cI, 112, .inl (fun z9 => nI (((((pg X ba Bs n).1 a lv S).2).2) z9))))] ++ tl) := hD
      refine lv_if_eq (tgt := 86) hx hb dP_evaluate_70 (by decide) (fun c70 => ?_) (fun c70 => ?_)
      · refine lv_iconst (v := 0) hx hb dP_evaluate_86 (by decide) ?_
        refine lv_istore (lv' := [(8, .int 0), (7, .int (nI (((pg X ba Bs n).1 a lv S).1))), (6, .int v38), (5, .int (nI a)), (4, .int 5), (0, .ref g), (1, .int (nI e)), (2, .int (nI lv)), (3, .int (nI d))]) hx hb dP_evaluate_87 hl (by decide) rfl (fun ls hl => ?_)
        refine lv_iload hx hb dP_evaluate_89 (lv_at hl 4 rfl) ?_
        refine lv_tableIn (tgt := 227) (off := 136) hx hb dP_evaluate_91 (by decide) (by decide) (by rfl) (by decide) ?_
        refine lv_aload_n hx hb dP_evaluate_227 rfl (lv_at hl 5 rfl) ?_
        refine lv_iload hx hb dP_evaluate_228 (lv_at hl 4 rfl) ?_
        refine lv_iload hx hb dP_evaluate_230 (lv_at hl 1 rfl) ?_
        refine lv_iload hx hb dP_evaluate_232 (lv_at hl 0 rfl) ?_
        refine gc_wi (va_runV (As := [.int 5, .int (nI (((pg X ba Bs n).1 a lv S).1)), .int 0]) (rest := []) ⟨hx, hb, hml, hown, ht⟩ (c_P_combine l D cI cJ cB cZ g eo bo t co eq tq tl X ba f1 f2 f3 f4 (((pg X ba Bs n).1 a lv S).2) 5 (((pg X ba Bs n).1 a lv S).1) 0 (by omega) b56.2.1 (by omega) (by omega) H.size) (cwV 3 ht (gw_V m_361 m_363 ms_14 m_2 m_364) rfl rfl rfl (by decide +kernel) ⟨show 3 + 1 ≤ 8 * (n + 1) + 8 by omega, show 8 + (4 + 11) + (69) ≤ 200 * (n + 1) + 200 by omega⟩) (gp_V (ci := 3) (q0 := 0) hK hN hP hD rfl rfl) rfl rfl hl.1 rfl (lv_room (Nat.le_of_ble_eq_true rfl)) dP_evaluate_234 ⟨Nat.le_of_ble_eq_true rfl, Nat.le_of_ble_eq_true rfl⟩) hP hD hS hA (fun r234 w234 H locs p234 hP hD hS => ?_)
        obtain ⟨rfl, rfl⟩ := p234
        have hP : va_P D vwCl ([(g, .inr (3, [.ref eo, .ref bo, .ref t, .ref co])), (eo, .inr (2, [.ref (eq 0), .ref (eq 1), .ref (eq 2), .ref (eq 3), .int (nI X.2.2.2.2)])), ((eq 0), .inl (cI, 80, .inl X.1)), ((eq 1), .inl (cI, 80, .inl X.2.1)), ((eq 2), .inl (cI, 80, .inl X.2.2.1)), ((eq 3), .inl (cI, 80, .inl X.2.2.2.1)), (bo, .inl (cB, 8, .inr (.inr (.inr (.inr ba))))), (t, .inr (4, [.ref (tq 0), .ref (tq 1), .ref (tq 2), .ref (tq 3), .ref (tq 4), .ref (tq 5), .ref (tq 6), .ref (tq 7), .int (nI ((((px_comb 5 (((pg X ba Bs n).1 a lv S).1) 0 ((((pg X ba Bs n).1 a lv S).2).1)).2, ((((pg X ba Bs n).1 a lv S).2).2)).1).2.2.2.2))])), ((tq 0), .inl (cI, 64, .inl (fun z9 => nI (((((px_comb 5 (((pg X ba Bs n).1 a lv S).1) 0 ((((pg X ba Bs n).1 a lv S).2).1)).2, ((((pg X ba Bs n).1 a lv S).2).2)).1).1) z9)))), ((tq 1), .inl (cI, 64, .inl (fun z9 => nI (((((px_comb 5 (((pg X ba Bs n).1 a lv S).1) 0 ((((pg X ba Bs n).1 a lv S).2).1)).2, ((((pg X ba Bs n).1 a lv S).2).2)).1).2.1) z9)))), ((tq 2), .inl (cI, 64, .inl (fun z9 => nI (((((px_comb 5 (((pg X ba Bs n).1 a lv S).1) 0 ((((pg X ba Bs n).1 a lv S).2).1)).2, ((((pg X ba Bs n).1 a lv S).2).2)).1).2.2.1) z9)))), ((tq 3), .inl (cJ, 64, .inr (.inl ((((px_comb 5 (((pg X ba Bs n).1 a lv S).1) 0 ((((pg X ba Bs n).1 a lv S).2).1)).2, ((((pg X ba Bs n).1 a lv S).2).2)).1).2.2.2.1)))), ((tq 4), .inl (cJ, 64, .inr (.inl f1))), ((tq 5), .inl (cJ, 64, .inr (.inl f2))), ((tq 6), .inl (cJ, 64, .inr (.inl f3))), ((tq 7), .inl (cJ, 64, .inr (.inl f4))), (co, .inl (cI, 112, .inl (fun z9 => nI ((((px_comb 5 (((pg X ba Bs n).1 a lv S).1) 0 ((((pg X ba Bs n).1 a lv S).2).1)).2, ((((pg X ba Bs n).1 a lv S).2).2)).2) z9))))] ++ tl) H := hP
        have hD : va_D A ([(g, .inr (3, [.ref eo, .ref bo, .ref t, .ref co])), (eo, .inr (2, [.ref (eq 0), .ref (eq 1), .ref (eq 2), .ref (eq 3), .int (nI X.2.2.2.2)])), ((eq 0), .inl (cI, 80, .inl X.1)), ((eq 1), .inl (cI, 80, .inl X.2.1)), ((eq 2), .inl (cI, 80, .inl X.2.2.1)), ((eq 3), .inl (cI, 80, .inl X.2.2.2.1)), (bo, .inl (cB, 8, .inr (.inr (.inr (.inr ba))))), (t, .inr (4, [.ref (tq 0), .ref (tq 1), .ref (tq 2), .ref (tq 3), .ref (tq 4), .ref (tq 5), .ref (tq 6), .ref (tq 7), .int (nI ((((px_comb 5 (((pg X ba Bs n).1 a lv S).1) 0 ((((pg X ba Bs n).1 a lv S).2).1)).2, ((((pg X ba Bs n).1 a lv S).2).2)).1).2.2.2.2))])), ((tq 0), .inl (cI, 64, .inl (fun z9 => nI (((((px_comb 5 (((pg X ba Bs n).1 a lv S).1) 0 ((((pg X ba Bs n).1 a lv S).2).1)).2, ((((pg X ba Bs n).1 a lv S).2).2)).1).1) z9)))), ((tq 1), .inl (cI, 64, .inl (fun z9 => nI (((((px_comb 5 (((pg X ba Bs n).1 a lv S).1) 0 ((((pg X ba Bs n).1 a lv S).2).1)).2, ((((pg X ba Bs n).1 a lv S).2).2)).1).2.1) z9)))), ((tq 2), .inl (cI, 64, .inl (fun z9 => nI (((((px_comb 5 (((pg X ba Bs n).1 a lv S).1) 0 ((((pg X ba Bs n).1 a lv S).2).1)).2, ((((pg X ba Bs n).1 a lv S).2).2)).1).2.2.1) z9)))), ((tq 3), .inl (cJ, 64, .inr (.inl ((((px_comb 5 (((pg X ba Bs n).1 a lv S).1) 0 ((((pg X ba Bs n).1 a lv S).2).1)).2, ((((pg X ba Bs n).1 a lv S).2).2)).1).2.2.2.1)))), ((tq 4), .inl (cJ, 64, .inr (.inl f1))), ((tq 5), .inl (cJ, 64, .inr (.inl f2))), ((tq 6), .inl (cJ, 64, .inr (.inl f3))), ((tq 7), .inl (cJ, 64, .inr (.inl f4))), (co, .inl (cI, 112, .inl (fun z9 => nI ((((px_comb 5 (((pg X ba Bs n).1 a lv S).1) 0 ((((pg X ba Bs n).1 a lv S).2).1)).2, ((((pg X ba Bs n).1 a lv S).2).2)).2) z9))))] ++ tl) := hD
        have hz : (pg X ba Bs (n + 1)).1 e lv S = (((px_comb 5 (((pg X ba Bs n).1 a lv S).1) 0 ((((pg X ba Bs n).1 a lv S).2).1)).1), (px_comb 5 (((pg X ba Bs n).1 a lv S).1) 0 ((((pg X ba Bs n).1 a lv S).2).1)).2, ((((pg X ba Bs n).1 a lv S).2).2)) := by
          show px_ev X (pg X ba Bs n).1 (px_ent ba Bs (pg X ba Bs n).2) e lv S = _
          simp [px_ev, px_r1, px_r2, px_R, hke, hea, show cn (5 : Int32) = 5 from rfl, cn_nI (show a < 2 ^ 31 by omega)]
        exact W.iret (v := (nI ((px_comb 5 (((pg X ba Bs n).1 a lv S).1) 0 ((((pg X ba Bs n).1 a lv S).2).1)).1))) hx hb hr (fun t9 ht9 hW => ⟨⟨(nI ((px_comb 5 (((pg X ba Bs n).1 a lv S).1) 0 ((((pg X ba Bs n).1 a lv S).2).1)).1)), _, rfl, ⟨by rw [hz], by rw [hz]⟩, by rw [ht9]; exact hP, hD⟩, hS.F ht9⟩) hS.2.2 dP_evaluate_237
      · exact absurd (gb_1.mpr (by decide)) c70
  · have g3 : ¬ (d ≤ 50) := fun z => c3 ((gx_le (rfl : (nI d) = (nI d)) (rfl : (50 : Int32) = nI 50) (by omega) (by decide)).mpr z)
    exact absurd g3 (by omega)

set_option maxHeartbeats 4000000 in
set_option maxRecDepth 100000 in
theorem c_P_evaluate_6 (l : Launch) (D : va_G) (cI cJ cB cZ : ClassId) (g eo bo t co : Nat) (eq tq : Nat → Nat) (tl : va_W) (X : Ex) (ba : Nat → Option Nat) (f1 f2 f3 f4 : Nat → Int64) (Bs : Nat → Bd) (n d e lv : Nat) (S : Sx) (a : Nat) (b : Nat) (hE : cE l D cI cJ cB cZ g eo bo t co eq tq tl X ba f1 f2 f3 f4 Bs n) (hN9 : cN l D cI cJ cB cZ g eo bo t co eq tq tl X ba f1 f2 f3 f4 Bs n) (hd : d + (n + 1) = 51) (hX80 : X.2.2.2.2 ≤ 80) (he : e < X.2.2.2.2) (hlv : lv < 8) (hS9 : sx_ok S) (hre : re_ok X (pg X ba Bs n).1) (hke : X.1 e = 6) (ha : a < e) (hea : X.2.1 e = nI a) (hb8 : b ≤ 3) (heb : X.2.2.1 e = nI b) : ct_I l y_P_evaluate w_P_evaluate ({ frames := 8 * (n + 1) + 8, cells := 0, slots := 0, locals := 200 * (n + 1) + 200 }) D (gk_T cI cJ cB cZ) [.ref g, .int (nI e), .int (nI lv), .int (nI d)] (wPg cI cJ cB g eo bo t co eq tq X ba S f1 f2 f3 f4 ++ tl) (0) (0) (fun r w => r = nI ((pg X ba Bs (n + 1)).1 e lv S).1 ∧ w = (wPg cI cJ cB g eo bo t co eq tq X ba (((pg X ba Bs (n + 1)).1 e lv S).2) f1 f2 f3 f4 ++ tl)) := by
  intro sz
  refine Met.ofW (cc := b_P_evaluate) (maxL := 9) (ret := (some .int)) (by decide) rfl ?_
  intro p ev9 s m args below meth c s₁ B9 hml hv
  obtain ⟨rfl, hsz, hP, hK, hN, hD0⟩ := hv
  have hx := B9.exec
  have hb := B9.bytes
  have hr := B9.returns
  have hts := atoms_spec (ws := w_P_evaluate) B9.pre
  have ht : ∀ w ∈ gk_big, w.before _ s = true := fun w h => hts w (List.mem_cons_of_mem _ h)
  have hown : s.vm.findClass R_P = some m.cls := findClass_of_methodNamed B9.named
  have hlocks := B9.notSynchronized
  subst hsz
  have hD := hD0.self (sz := s.heap.size)
  generalize hAe : va_A (wPg cI cJ cB g eo bo t co eq tq X ba S f1 f2 f3 f4 ++ tl) s.heap.size = A at hD ⊢
  have hA : ∀ q : Nat, s.heap.size ≤ q → A q := fun q h => by rw [← hAe]; exact Or.inr h
  generalize hHe : s.heap = H at hP ⊢
  have hS : va_S A s.heap H [] := by rw [← hHe]; exact va_S.rf
  have hP : va_P D vwCl ([(g, .inr (3, [.ref eo, .ref bo, .ref t, .ref co])), (eo, .inr (2, [.ref (eq 0), .ref (eq 1), .ref (eq 2), .ref (eq 3), .int (nI X.2.2.2.2)])), ((eq 0), .inl (cI, 80, .inl X.1)), ((eq 1), .inl (cI, 80, .inl X.2.1)), ((eq 2), .inl (cI, 80, .inl X.2.2.1)), ((eq 3), .inl (cI, 80, .inl X.2.2.2.1)), (bo, .inl (cB, 8, .inr (.inr (.inr (.inr ba))))), (t, .inr (4, [.ref (tq 0), .ref (tq 1), .ref (tq 2), .ref (tq 3), .ref (tq 4), .ref (tq 5), .ref (tq 6), .ref (tq 7), .int (nI S.1.2.2.2.2)])), ((tq 0), .inl (cI, 64, .inl (fun z9 => nI (S.1.1 z9)))), ((tq 1), .inl (cI, 64, .inl (fun z9 => nI (S.1.2.1 z9)))), ((tq 2), .inl (cI, 64, .inl (fun z9 => nI (S.1.2.2.1 z9)))), ((tq 3), .inl (cJ, 64, .inr (.inl S.1.2.2.2.1))), ((tq 4), .inl (cJ, 64, .inr (.inl f1))), ((tq 5), .inl (cJ, 64, .inr (.inl f2))), ((tq 6), .inl (cJ, 64, .inr (.inl f3))), ((tq 7), .inl (cJ, 64, .inr (.inl f4))), (co, .inl (cI, 112, .inl (fun z9 => nI (S.2 z9))))] ++ tl) H := hP
  have hD : va_D A ([(g, .inr (3, [.ref eo, .ref bo, .ref t, .ref co])), (eo, .inr (2, [.ref (eq 0), .ref (eq 1), .ref (eq 2), .ref (eq 3), .int (nI X.2.2.2.2)])), ((eq 0), .inl (cI, 80, .inl X.1)), ((eq 1), .inl (cI, 80, .inl X.2.1)), ((eq 2), .inl (cI, 80, .inl X.2.2.1)), ((eq 3), .inl (cI, 80, .inl X.2.2.2.1)), (bo, .inl (cB, 8, .inr (.inr (.inr (.inr ba))))), (t, .inr (4, [.ref (tq 0), .ref (tq 1), .ref (tq 2), .ref (tq 3), .ref (tq 4), .ref (tq 5), .ref (tq 6), .ref (tq 7), .int (nI S.1.2.2.2.2)])), ((tq 0), .inl (cI, 64, .inl (fun z9 => nI (S.1.1 z9)))), ((tq 1), .inl (cI, 64, .inl (fun z9 => nI (S.1.2.1 z9)))), ((tq 2), .inl (cI, 64, .inl (fun z9 => nI (S.1.2.2.1 z9)))), ((tq 3), .inl (cJ, 64, .inr (.inl S.1.2.2.2.1))), ((tq 4), .inl (cJ, 64, .inr (.inl f1))), ((tq 5), .inl (cJ, 64, .inr (.inl f2))), ((tq 6), .inl (cJ, 64, .inr (.inl f3))), ((tq 7), .inl (cJ, 64, .inr (.inl f4))), (co, .inl (cI, 112, .inl (fun z9 => nI (S.2 z9))))] ++ tl) := hD
  have hl := lv_entry ([.ref g, .int (nI e), .int (nI lv), .int (nI d)]) (n := 9) (Nat.le_of_ble_eq_true rfl)
  rw [lg_entry_eq]
  generalize (lg_sl ([.ref g, .int (nI e), .int (nI lv), .int (nI d)]) ++ List.replicate (9 - (lg_sl ([.ref g, .int (nI e), .int (nI lv), .int (nI d)])).length) Slot.unset).toArray = ls at hl ⊢
  have hl : lv_has ls 9 [(0, .ref g), (1, .int (nI e)), (2, .int (nI lv)), (3, .int (nI d))] := hl
  have hSn := hS9.1
  have hSc := hS9.2
  refine lv_iload_n hx hb dP_evaluate_0 rfl (lv_at hl 3 rfl) ?_
  refine lv_bipush (v := 50) hx hb dP_evaluate_1 (by decide) ?_
  refine lv_icmp_le (tgt := 8) hx hb dP_evaluate_3 (by decide) (fun c3 => ?_) (fun c3 => ?_)
  · have g3 : d ≤ 50 := (gx_le (rfl : (nI d) = (nI d)) (rfl : (50 : Int32) = nI 50) (by omega) (by decide)).mp c3
    refine lv_aload_n hx hb dP_evaluate_8 rfl (lv_at hl 0 rfl) ?_
    refine va_get (D := D) (ci := 3) (v := .ref eo) (C := R_P) (T := F_P) (N := 4) hx hb ht i_P hown hK hP 0 rfl rfl 0 (by decide) (ht _ m_91) (fun _ h9 => h9) rfl dP_evaluate_9 ?_
    refine va_getN (D := D) (ci := 2) (v := .ref (eq 0)) (C := R_E) (T := F_E) (N := 5) hx hb ht i_E hown hK hP 1 rfl rfl 0 (by decide) (va_Nw.use rfl (hN _ mn_2)) (fun _ h9 => h9) rfl dP_evaluate_12 ?_
    refine lv_iload_n hx hb dP_evaluate_15 rfl (lv_at hl 1 rfl) ?_
    have i16 : vp_in (nI e) 80 := gx_in (rfl : (nI e) = (nI e)) (by omega) (by decide)
    have k16 : ((nI e) : Int32).toNatClampNeg = e := gx_cl (rfl : (nI e) = (nI e)) (by omega)
    refine va_iald hx hb hK hP 2 0 rfl rfl i16 dP_evaluate_16 ?_
    rw [k16]
    refine lv_topi (fun v16 e16 => ?_)
    rw [hke] at e16
    subst e16
    refine lv_istore (lv' := [(4, .int 6), (0, .ref g), (1, .int (nI e)), (2, .int (nI lv)), (3, .int (nI d))]) hx hb dP_evaluate_17 hl (by decide) rfl (fun ls hl => ?_)
    refine lv_aload_n hx hb dP_evaluate_19 rfl (lv_at hl 1 rfl) ?_
    refine va_get (D := D) (ci := 3) (v := .ref eo) (C := R_P) (T := F_P) (N := 4) hx hb ht i_P hown hK hP 0 rfl rfl 0 (by decide) (ht _ m_91) (fun _ h9 => h9) rfl dP_evaluate_20 ?_
    refine va_getN (D := D) (ci := 2) (v := .ref (eq 1)) (C := R_E) (T := F_E) (N := 5) hx hb ht i_E hown hK hP 1 rfl rfl 1 (by decide) (va_Nw.use rfl (hN _ mn_3)) (fun _ h9 => h9) rfl dP_evaluate_23 ?_
    refine lv_iload_n hx hb dP_evaluate_26 rfl (lv_at hl 2 rfl) ?_
    have i27 : vp_in (nI e) 80 := gx_in (rfl : (nI e) = (nI e)) (by omega) (by decide)
    have k27 : ((nI e) : Int32).toNatClampNeg = e := gx_cl (rfl : (nI e) = (nI e)) (by omega)
    refine va_iald hx hb hK hP 3 0 rfl rfl i27 dP_evaluate_27 ?_
    rw [k27]
    refine lv_topi (fun v27 e27 => ?_)
    rw [hea] at e27
    subst e27
    refine lv_istore (lv' := [(5, .int (nI a)), (4, .int 6), (0, .ref g), (1, .int (nI e)), (2, .int (nI lv)), (3, .int (nI d))]) hx hb dP_evaluate_28 hl (by decide) rfl (fun ls hl => ?_)
    refine lv_aload_n hx hb dP_evaluate_30 rfl (lv_at hl 2 rfl) ?_
    refine va_get (D := D) (ci := 3) (v := .ref eo) (C := R_P) (T := F_P) (N := 4) hx hb ht i_P hown hK hP 0 rfl rfl 0 (by decide) (ht _ m_91) (fun _ h9 => h9) rfl dP_evaluate_31 ?_
    refine va_getN (D := D) (ci := 2) (v := .ref (eq 2)) (C := R_E) (T := F_E) (N := 5) hx hb ht i_E hown hK hP 1 rfl rfl 2 (by decide) (va_Nw.use rfl (hN _ mn_4)) (fun _ h9 => h9) rfl dP_evaluate_34 ?_
    refine lv_iload_n hx hb dP_evaluate_37 rfl (lv_at hl 3 rfl) ?_
    have i38 : vp_in (nI e) 80 := gx_in (rfl : (nI e) = (nI e)) (by omega) (by decide)
    have k38 : ((nI e) : Int32).toNatClampNeg = e := gx_cl (rfl : (nI e) = (nI e)) (by omega)
    refine va_iald hx hb hK hP 4 0 rfl rfl i38 dP_evaluate_38 ?_
    rw [k38]
    refine lv_topi (fun v38 e38 => ?_)
    rw [heb] at e38
    subst e38
    refine lv_istore (lv' := [(6, .int (nI b)), (5, .int (nI a)), (4, .int 6), (0, .ref g), (1, .int (nI e)), (2, .int (nI lv)), (3, .int (nI d))]) hx hb dP_evaluate_39 hl (by decide) rfl (fun ls hl => ?_)
    refine lv_iload hx hb dP_evaluate_41 (lv_at hl 2 rfl) ?_
    refine gc_i (va_runS (As := [.int 6]) (rest := []) ⟨hx, hb, hml, hown, ht⟩ (c_E_hasLeft l D cI cJ cB cZ 6 H.size) (va_cwS 1 ht (gw_S m_341 m_165 m_3 m_166) rfl rfl rfl (by decide +kernel) ⟨show 0 + 1 ≤ 8 * (n + 1) + 8 by omega, show 8 + (1 + 11) + (0) ≤ 200 * (n + 1) + 200 by omega⟩) (gp_S hK hN (hP.sub (ws' := ([] : va_W)) [] rfl) (hD.sub (ws' := ([] : va_W)) [] (by decide) rfl)) rfl rfl hl.1 rfl (lv_room (Nat.le_of_ble_eq_true rfl)) dP_evaluate_43 ⟨Nat.le_of_ble_eq_true rfl, Nat.le_of_ble_eq_true rfl⟩) hP hD hS hA [] rfl (by decide) (fun r w h => by obtain ⟨_, rfl⟩ := h; rfl) (fun r43 w43 H locs p43 hP hD hS => ?_)
    obtain ⟨rfl, rfl⟩ := p43
    have hP : va_P D vwCl ([(g, .inr (3, [.ref eo, .ref bo, .ref t, .ref co])), (eo, .inr (2, [.ref (eq 0), .ref (eq 1), .ref (eq 2), .ref (eq 3), .int (nI X.2.2.2.2)])), ((eq 0), .inl (cI, 80, .inl X.1)), ((eq 1), .inl (cI, 80, .inl X.2.1)), ((eq 2), .inl (cI, 80, .inl X.2.2.1)), ((eq 3), .inl (cI, 80, .inl X.2.2.2.1)), (bo, .inl (cB, 8, .inr (.inr (.inr (.inr ba))))), (t, .inr (4, [.ref (tq 0), .ref (tq 1), .ref (tq 2), .ref (tq 3), .ref (tq 4), .ref (tq 5), .ref (tq 6), .ref (tq 7), .int (nI S.1.2.2.2.2)])), ((tq 0), .inl (cI, 64, .inl (fun z9 => nI (S.1.1 z9)))), ((tq 1), .inl (cI, 64, .inl (fun z9 => nI (S.1.2.1 z9)))), ((tq 2), .inl (cI, 64, .inl (fun z9 => nI (S.1.2.2.1 z9)))), ((tq 3), .inl (cJ, 64, .inr (.inl S.1.2.2.2.1))), ((tq 4), .inl (cJ, 64, .inr (.inl f1))), ((tq 5), .inl (cJ, 64, .inr (.inl f2))), ((tq 6), .inl (cJ, 64, .inr (.inl f3))), ((tq 7), .inl (cJ, 64, .inr (.inl f4))), (co, .inl (cI, 112, .inl (fun z9 => nI (S.2 z9))))] ++ tl) H := hP
    have hD : va_D A ([(g, .inr (3, [.ref eo, .ref bo, .ref t, .ref co])), (eo, .inr (2, [.ref (eq 0), .ref (eq 1), .ref (eq 2), .ref (eq 3), .int (nI X.2.2.2.2)])), ((eq 0), .inl (cI, 80, .inl X.1)), ((eq 1), .inl (cI, 80, .inl X.2.1)), ((eq 2), .inl (cI, 80, .inl X.2.2.1)), ((eq 3), .inl (cI, 80, .inl X.2.2.2.1)), (bo, .inl (cB, 8, .inr (.inr (.inr (.inr ba))))), (t, .inr (4, [.ref (tq 0), .ref (tq 1), .ref (tq 2), .ref (tq 3), .ref (tq 4), .ref (tq 5), .ref (tq 6), .ref (tq 7), .int (nI S.1.2.2.2.2)])), ((tq 0), .inl (cI, 64, .inl (fun z9 => nI (S.1.1 z9)))), ((tq 1), .inl (cI, 64, .inl (fun z9 => nI (S.1.2.1 z9)))), ((tq 2), .inl (cI, 64, .inl (fun z9 => nI (S.1.2.2.1 z9)))), ((tq 3), .inl (cJ, 64, .inr (.inl S.1.2.2.2.1))), ((tq 4), .inl (cJ, 64, .inr (.inl f1))), ((tq 5), .inl (cJ, 64, .inr (.inl f2))), ((tq 6), .inl (cJ, 64, .inr (.inl f3))), ((tq 7), .inl (cJ, 64, .inr (.inl f4))), (co, .inl (cI, 112, .inl (fun z9 => nI (S.2 z9))))] ++ tl) := hD
    refine lv_if_eq (tgt := 62) hx hb dP_evaluate_46 (by decide) (fun c46 => ?_) (fun c46 => ?_)
    · exact (gb_1.mp c46 (by decide)).elim
    · refine lv_aload_n hx hb dP_evaluate_49 rfl (lv_at hl 3 rfl) ?_
      refine lv_iload hx hb dP_evaluate_50 (lv_at hl 1 rfl) ?_
      refine lv_iload_n hx hb dP_evaluate_52 rfl (lv_at hl 5 rfl) ?_
      refine lv_iload_n hx hb dP_evaluate_53 rfl (lv_at hl 6 rfl) ?_
      refine lv_iconst (v := 1) hx hb dP_evaluate_54 (by decide) ?_
      refine lv_iadd hx hb dP_evaluate_55 ?_
      refine lv_topi (fun v55 e55 => ?_)
      have n55 : v55 = nI (d + 1) := by rw [e55]; exact gx_add (rfl : (nI d) = (nI d)) (rfl : (1 : Int32) = nI 1)
      subst n55
      refine gc_wi (va_runV (As := [.int (nI a), .int (nI lv), .int (nI (d + 1))]) (rest := []) ⟨hx, hb, hml, hown, ht⟩ (hE (d + 1) a lv S (by omega) (by omega) hlv hS9 H.size) (cwV 3 ht (gw_V m_337 m_339 ms_12 m_2 m_340) rfl rfl rfl (by decide +kernel) ⟨show (8 * n + 8) + 1 ≤ 8 * (n + 1) + 8 by omega, show 8 + (9 + 11) + (200 * n + 200) ≤ 200 * (n + 1) + 200 by omega⟩) (gp_V (ci := 3) (q0 := 0) hK hN hP hD rfl rfl) rfl rfl hl.1 rfl (lv_room (Nat.le_of_ble_eq_true rfl)) dP_evaluate_56 ⟨Nat.le_of_ble_eq_true rfl, Nat.le_of_ble_eq_true rfl⟩) hP hD hS hA (fun r56 w56 H locs p56 hP hD hS => ?_)
      obtain ⟨rfl, rfl⟩ := p56
      have hP : va_P D vwCl ([(g, .inr (3, [.ref eo, .ref bo, .ref t, .ref co])), (eo, .inr (2, [.ref (eq 0), .ref (eq 1), .ref (eq 2), .ref (eq 3), .int (nI X.2.2.2.2)])), ((eq 0), .inl (cI, 80, .inl X.1)), ((eq 1), .inl (cI, 80, .inl X.2.1)), ((eq 2), .inl (cI, 80, .inl X.2.2.1)), ((eq 3), .inl (cI, 80, .inl X.2.2.2.1)), (bo, .inl (cB, 8, .inr (.inr (.inr (.inr ba))))), (t, .inr (4, [.ref (tq 0), .ref (tq 1), .ref (tq 2), .ref (tq 3), .ref (tq 4), .ref (tq 5), .ref (tq 6), .ref (tq 7), .int (nI (((((pg X ba Bs n).1 a lv S).2).1).2.2.2.2))])), ((tq 0), .inl (cI, 64, .inl (fun z9 => nI ((((((pg X ba Bs n).1 a lv S).2).1).1) z9)))), ((tq 1), .inl (cI, 64, .inl (fun z9 => nI ((((((pg X ba Bs n).1 a lv S).2).1).2.1) z9)))), ((tq 2), .inl (cI, 64, .inl (fun z9 => nI ((((((pg X ba Bs n).1 a lv S).2).1).2.2.1) z9)))), ((tq 3), .inl (cJ, 64, .inr (.inl (((((pg X ba Bs n).1 a lv S).2).1).2.2.2.1)))), ((tq 4), .inl (cJ, 64, .inr (.inl f1))), ((tq 5), .inl (cJ, 64, .inr (.inl f2))), ((tq 6), .inl (cJ, 64, .inr (.inl f3))), ((tq 7), .inl (cJ, 64, .inr (.inl f4))), (co, .inl (cI, 112, .inl (fun z9 => nI (((((pg X ba Bs n).1 a lv S).2).2) z9))))] ++ tl) H := hP
      have hD : va_D A ([(g, .inr (3, [.ref eo, .ref bo, .ref t, .ref co])), (eo, .inr (2, [.ref (eq 0), .ref (eq 1), .ref (eq 2), .ref (eq 3), .int (nI X.2.2.2.2)])), ((eq 0), .inl (cI, 80, .inl X.1)), ((eq 1), .inl (cI, 80, .inl X.2.1)), ((eq 2), .inl (cI, 80, .inl X.2.2.1)), ((eq 3), .inl (cI, 80, .inl X.2.2.2.1)), (bo, .inl (cB, 8, .inr (.inr (.inr (.inr ba))))), (t, .inr (4, [.ref (tq 0), .ref (tq 1), .ref (tq 2), .ref (tq 3), .ref (tq 4), .ref (tq 5), .ref (tq 6), .ref (tq 7), .int (nI (((((pg X ba Bs n).1 a lv S).2).1).2.2.2.2))])), ((tq 0), .inl (cI, 64, .inl (fun z9 => nI ((((((pg X ba Bs n).1 a lv S).2).1).1) z9)))), ((tq 1), .inl (cI, 64, .inl (fun z9 => nI ((((((pg X ba Bs n).1 a lv S).2).1).2.1) z9)))), ((tq 2), .inl (cI, 64, .inl (fun z9 => nI ((((((pg X ba Bs n).1 a lv S).2).1).2.2.1) z9)))), ((tq 3), .inl (cJ, 64, .inr (.inl (((((pg X ba Bs n).1 a lv S).2).1).2.2.2.1)))), ((tq 4), .inl (cJ, 64, .inr (.inl f1))), ((tq 5), .inl (cJ, 64, .inr (.inl f2))), ((tq 6), .inl (cJ, 64, .inr (.inl f3))), ((tq 7), .inl (cJ, 64, .inr (.inl f4))), (co, .inl (cI, 112, .inl (fun z9 => nI (((((pg X ba Bs n).1 a lv S).2).2) z9))))] ++ tl) := hD
      have b56 := hre a lv S (by omega) hlv hS9
      have b56x := b56.1
      have b56y := b56.2.1
      refine lv_goto (tgt := 63) hx hb dP_evaluate_59 (by decide) ?_
      refine lv_istore (lv' := [(7, .int (nI (((pg X ba Bs n).1 a lv S).1))), (6, .int (nI b)), (5, .int (nI a)), (4, .int 6), (0, .ref g), (1, .int (nI e)), (2, .int (nI lv)), (3, .int (nI d))]) hx hb dP_evaluate_63 hl (by decide) rfl (fun ls hl => ?_)
      refine lv_iload hx hb dP_evaluate_65 (lv_at hl 3 rfl) ?_
      refine gc_i (va_runS (As := [.int 6]) (rest := []) ⟨hx, hb, hml, hown, ht⟩ (c_E_hasRight l D cI cJ cB cZ 6 H.size) (va_cwS 1 ht (gw_S m_342 m_175 m_3 m_176) rfl rfl rfl (by decide +kernel) ⟨show 0 + 1 ≤ 8 * (n + 1) + 8 by omega, show 8 + (1 + 11) + (0) ≤ 200 * (n + 1) + 200 by omega⟩) (gp_S hK hN (hP.sub (ws' := ([] : va_W)) [] rfl) (hD.sub (ws' := ([] : va_W)) [] (by decide) rfl)) rfl rfl hl.1 rfl (lv_room (Nat.le_of_ble_eq_true rfl)) dP_evaluate_67 ⟨Nat.le_of_ble_eq_true rfl, Nat.le_of_ble_eq_true rfl⟩) hP hD hS hA [] rfl (by decide) (fun r w h => by obtain ⟨_, rfl⟩ := h; rfl) (fun r67 w67 H locs p67 hP hD hS => ?_)
      obtain ⟨rfl, rfl⟩ := p67
      have hP : va_P D vwCl ([(g, .inr (3, [.ref eo, .ref bo, .ref t, .ref co])), (eo, .inr (2, [.ref (eq 0), .ref (eq 1), .ref (eq 2), .ref (eq 3), .int (nI X.2.2.2.2)])), ((eq 0), .inl (cI, 80, .inl X.1)), ((eq 1), .inl (cI, 80, .inl X.2.1)), ((eq 2), .inl (cI, 80, .inl X.2.2.1)), ((eq 3), .inl (cI, 80, .inl X.2.2.2.1)), (bo, .inl (cB, 8, .inr (.inr (.inr (.inr ba))))), (t, .inr (4, [.ref (tq 0), .ref (tq 1), .ref (tq 2), .ref (tq 3), .ref (tq 4), .ref (tq 5), .ref (tq 6), .ref (tq 7), .int (nI (((((pg X ba Bs n).1 a lv S).2).1).2.2.2.2))])), ((tq 0), .inl (cI, 64, .inl (fun z9 => nI ((((((pg X ba Bs n).1 a lv S).2).1).1) z9)))), ((tq 1), .inl (cI, 64, .inl (fun z9 => nI ((((((pg X ba Bs n).1 a lv S).2).1).2.1) z9)))), ((tq 2), .inl (cI, 64, .inl (fun z9 => nI ((((((pg X ba Bs n).1 a lv S).2).1).2.2.1) z9)))), ((tq 3), .inl (cJ, 64, .inr (.inl (((((pg X ba Bs n).1 a lv S).2).1).2.2.2.1)))), ((tq 4), .inl (cJ, 64, .inr (.inl f1))), ((tq 5), .inl (cJ, 64, .inr (.inl f2))), ((tq 6), .inl (cJ, 64, .inr (.inl f3))), ((tq 7), .inl (cJ, 64, .inr (.inl f4))), (co, .inl (cI, 112, .inl (fun z9 => nI (((((pg X ba Bs n).1 a lv S).2).2) z9))))] ++ tl) H := hP
      have hD : va_D A ([(g, .inr (3, [.ref eo, .ref bo, .ref t, .ref co])), (eo, .inr (2, [.ref (eq 0), .ref (eq 1), .ref (eq 2), .ref (eq 3), .int (nI X.2.2.2.2)])), ((eq 0), .inl (cI, 80, .inl X.1)), ((eq 1), .inl (cI, 80, .inl X.2.1)), ((eq 2), .inl (cI, 80, .inl X.2.2.1)), ((eq 3), .inl (cI, 80, .inl X.2.2.2.1)), (bo, .inl (cB, 8, .inr (.inr (.inr (.inr ba))))), (t, .inr (4, [.ref (tq 0), .ref (tq 1), .ref (tq 2), .ref (tq 3), .ref (tq 4), .ref (tq 5), .ref (tq 6), .ref (tq 7), .int (nI (((((pg X ba Bs n).1 a lv S).2).1).2.2.2.2))])), ((tq 0), .inl (cI, 64, .inl (fun z9 => nI ((((((pg X ba Bs n).1 a lv S).2).1).1) z9)))), ((tq 1), .inl (cI, 64, .inl (fun z9 => nI ((((((pg X ba Bs n).1 a lv S).2).1).2.1) z9)))), ((tq 2), .inl (cI, 64, .inl (fun z9 => nI ((((((pg X ba Bs n).1 a lv S).2).1).2.2.1) z9)))), ((tq 3), .inl (cJ, 64, .inr (.inl (((((pg X ba Bs n).1 a lv S).2).1).2.2.2.1)))), ((tq 4), .inl (cJ, 64, .inr (.inl f1))), ((tq 5), .inl (cJ, 64, .inr (.inl f2))), ((tq 6), .inl (cJ, 64, .inr (.inl f3))), ((tq 7), .inl (cJ, 64, .inr (.inl f4))), (co, .inl (cI, 112, .inl (fun z9 => nI (((((pg X ba Bs n).1 a lv S).2).2) z9))))] ++ tl) := hD
      refine lv_if_eq (tgt := 86) hx hb dP_evaluate_70 (by decide) (fun c70 => ?_) (fun c70 => ?_)
      · refine lv_iconst (v := 0) hx hb dP_evaluate_86 (by decide) ?_
        refine lv_istore (lv' := [(8, .int 0), (7, .int (nI (((pg X ba Bs n).1 a lv S).1))), (6, .int (nI b)), (5, .int (nI a)), (4, .int 6), (0, .ref g), (1, .int (nI e)), (2, .int (nI lv)), (3, .int (nI d))]) hx hb dP_evaluate_87 hl (by decide) rfl (fun ls hl => ?_)
        refine lv_iload hx hb dP_evaluate_89 (lv_at hl 4 rfl) ?_
        refine lv_tableIn (tgt := 176) (off := 85) hx hb dP_evaluate_91 (by decide) (by decide) (by rfl) (by decide) ?_
        refine lv_aload_n hx hb dP_evaluate_176 rfl (lv_at hl 5 rfl) ?_
        refine va_get (D := D) (ci := 3) (v := .ref t) (C := R_P) (T := F_P) (N := 4) hx hb ht i_P hown hK hP 0 rfl rfl 2 (by decide) (ht _ m_95) (fun _ h9 => h9) rfl dP_evaluate_177 ?_
        refine lv_iload hx hb dP_evaluate_180 (lv_at hl 1 rfl) ?_
        refine lv_iload hx hb dP_evaluate_182 (lv_at hl 2 rfl) ?_
        refine gc_i (va_runV (As := [.int (nI (((pg X ba Bs n).1 a lv S).1)), .int (nI b)]) (rest := []) ⟨hx, hb, hml, hown, ht⟩ (c_T_power l D cI cJ cB cZ t tq ((((pg X ba Bs n).1 a lv S).2).1) f1 f2 f3 f4 (((pg X ba Bs n).1 a lv S).1) b (by omega) (by omega) (by omega) H.size) (cwV 2 ht (gw_V m_347 m_348 m_349 m_4 m_350) rfl rfl rfl (by decide +kernel) ⟨show 2 + 1 ≤ 8 * (n + 1) + 8 by omega, show 8 + (5 + 11) + (48) ≤ 200 * (n + 1) + 200 by omega⟩) (gp_V (ci := 4) (q0 := 0) hK hN (hP.sub (ws' := (wTr cI cJ t tq ((((pg X ba Bs n).1 a lv S).2).1) f1 f2 f3 f4)) [7, 8, 9, 10, 11, 12, 13, 14, 15] rfl) (hD.sub (ws' := (wTr cI cJ t tq ((((pg X ba Bs n).1 a lv S).2).1) f1 f2 f3 f4)) [7, 8, 9, 10, 11, 12, 13, 14, 15] (by decide) rfl) rfl rfl) rfl rfl hl.1 rfl (lv_room (Nat.le_of_ble_eq_true rfl)) dP_evaluate_184 ⟨Nat.le_of_ble_eq_true rfl, Nat.le_of_ble_eq_true rfl⟩) hP hD hS hA [7, 8, 9, 10, 11, 12, 13, 14, 15] rfl (by decide) (fun r w h => by obtain ⟨_, rfl⟩ := h; rfl) (fun r184 w184 H locs p184 hP hD hS => ?_)
        obtain ⟨rfl, rfl⟩ := p184
        have hP : va_P D vwCl ([(g, .inr (3, [.ref eo, .ref bo, .ref t, .ref co])), (eo, .inr (2, [.ref (eq 0), .ref (eq 1), .ref (eq 2), .ref (eq 3), .int (nI X.2.2.2.2)])), ((eq 0), .inl (cI, 80, .inl X.1)), ((eq 1), .inl (cI, 80, .inl X.2.1)), ((eq 2), .inl (cI, 80, .inl X.2.2.1)), ((eq 3), .inl (cI, 80, .inl X.2.2.2.1)), (bo, .inl (cB, 8, .inr (.inr (.inr (.inr ba))))), (t, .inr (4, [.ref (tq 0), .ref (tq 1), .ref (tq 2), .ref (tq 3), .ref (tq 4), .ref (tq 5), .ref (tq 6), .ref (tq 7), .int (nI (((tr_power ((((pg X ba Bs n).1 a lv S).2).1) (((pg X ba Bs n).1 a lv S).1) b).1).2.2.2.2))])), ((tq 0), .inl (cI, 64, .inl (fun z9 => nI ((((tr_power ((((pg X ba Bs n).1 a lv S).2).1) (((pg X ba Bs n).1 a lv S).1) b).1).1) z9)))), ((tq 1), .inl (cI, 64, .inl (fun z9 => nI ((((tr_power ((((pg X ba Bs n).1 a lv S).2).1) (((pg X ba Bs n).1 a lv S).1) b).1).2.1) z9)))), ((tq 2), .inl (cI, 64, .inl (fun z9 => nI ((((tr_power ((((pg X ba Bs n).1 a lv S).2).1) (((pg X ba Bs n).1 a lv S).1) b).1).2.2.1) z9)))), ((tq 3), .inl (cJ, 64, .inr (.inl (((tr_power ((((pg X ba Bs n).1 a lv S).2).1) (((pg X ba Bs n).1 a lv S).1) b).1).2.2.2.1)))), ((tq 4), .inl (cJ, 64, .inr (.inl f1))), ((tq 5), .inl (cJ, 64, .inr (.inl f2))), ((tq 6), .inl (cJ, 64, .inr (.inl f3))), ((tq 7), .inl (cJ, 64, .inr (.inl f4))), (co, .inl (cI, 112, .inl (fun z9 => nI (((((pg X ba Bs n).1 a lv S).2).2) z9))))] ++ tl) H := hP
        have hD : va_D A ([(g, .inr (3, [.ref eo, .ref bo, .ref t, .ref co])), (eo, .inr (2, [.ref (eq 0), .ref (eq 1), .ref (eq 2), .ref (eq 3), .int (nI X.2.2.2.2)])), ((eq 0), .inl (cI, 80, .inl X.1)), ((eq 1), .inl (cI, 80, .inl X.2.1)), ((eq 2), .inl (cI, 80, .inl X.2.2.1)), ((eq 3), .inl (cI, 80, .inl X.2.2.2.1)), (bo, .inl (cB, 8, .inr (.inr (.inr (.inr ba))))), (t, .inr (4, [.ref (tq 0), .ref (tq 1), .ref (tq 2), .ref (tq 3), .ref (tq 4), .ref (tq 5), .ref (tq 6), .ref (tq 7), .int (nI (((tr_power ((((pg X ba Bs n).1 a lv S).2).1) (((pg X ba Bs n).1 a lv S).1) b).1).2.2.2.2))])), ((tq 0), .inl (cI, 64, .inl (fun z9 => nI ((((tr_power ((((pg X ba Bs n).1 a lv S).2).1) (((pg X ba Bs n).1 a lv S).1) b).1).1) z9)))), ((tq 1), .inl (cI, 64, .inl (fun z9 => nI ((((tr_power ((((pg X ba Bs n).1 a lv S).2).1) (((pg X ba Bs n).1 a lv S).1) b).1).2.1) z9)))), ((tq 2), .inl (cI, 64, .inl (fun z9 => nI ((((tr_power ((((pg X ba Bs n).1 a lv S).2).1) (((pg X ba Bs n).1 a lv S).1) b).1).2.2.1) z9)))), ((tq 3), .inl (cJ, 64, .inr (.inl (((tr_power ((((pg X ba Bs n).1 a lv S).2).1) (((pg X ba Bs n).1 a lv S).1) b).1).2.2.2.1)))), ((tq 4), .inl (cJ, 64, .inr (.inl f1))), ((tq 5), .inl (cJ, 64, .inr (.inl f2))), ((tq 6), .inl (cJ, 64, .inr (.inl f3))), ((tq 7), .inl (cJ, 64, .inr (.inl f4))), (co, .inl (cI, 112, .inl (fun z9 => nI (((((pg X ba Bs n).1 a lv S).2).2) z9))))] ++ tl) := hD
        have hz : (pg X ba Bs (n + 1)).1 e lv S = (((tr_power ((((pg X ba Bs n).1 a lv S).2).1) (((pg X ba Bs n).1 a lv S).1) b).2), ((tr_power ((((pg X ba Bs n).1 a lv S).2).1) (((pg X ba Bs n).1 a lv S).1) b).1, (((pg X ba Bs n).1 a lv S).2).2)) := by
          show px_ev X (pg X ba Bs n).1 (px_ent ba Bs (pg X ba Bs n).2) e lv S = _
          simp [px_ev, px_r1, px_r2, px_R, hke, hea, heb, show cn (6 : Int32) = 6 from rfl, cn_nI (show a < 2 ^ 31 by omega), cn_nI (show b < 2 ^ 31 by omega)]
        exact W.iret (v := (nI ((tr_power ((((pg X ba Bs n).1 a lv S).2).1) (((pg X ba Bs n).1 a lv S).1) b).2))) hx hb hr (fun t9 ht9 hW => ⟨⟨(nI ((tr_power ((((pg X ba Bs n).1 a lv S).2).1) (((pg X ba Bs n).1 a lv S).1) b).2)), _, rfl, ⟨by rw [hz], by rw [hz]⟩, by rw [ht9]; exact hP, hD⟩, hS.F ht9⟩) hS.2.2 dP_evaluate_187
      · exact absurd (gb_1.mpr (by decide)) c70
  · have g3 : ¬ (d ≤ 50) := fun z => c3 ((gx_le (rfl : (nI d) = (nI d)) (rfl : (50 : Int32) = nI 50) (by omega) (by decide)).mpr z)
    exact absurd g3 (by omega)

set_option maxHeartbeats 4000000 in
set_option maxRecDepth 100000 in
theorem c_P_evaluate_7 (l : Launch) (D : va_G) (cI cJ cB cZ : ClassId) (g eo bo t co : Nat) (eq tq : Nat → Nat) (tl : va_W) (X : Ex) (ba : Nat → Option Nat) (f1 f2 f3 f4 : Nat → Int64) (Bs : Nat → Bd) (n d e lv : Nat) (S : Sx) (a : Nat) (hE : cE l D cI cJ cB cZ g eo bo t co eq tq tl X ba f1 f2 f3 f4 Bs n) (hN9 : cN l D cI cJ cB cZ g eo bo t co eq tq tl X ba f1 f2 f3 f4 Bs n) (hd : d + (n + 1) = 51) (hX80 : X.2.2.2.2 ≤ 80) (he : e < X.2.2.2.2) (hlv : lv < 8) (hS9 : sx_ok S) (hre : re_ok X (pg X ba Bs n).1) (hke : X.1 e = 7) (ha : a < e) (hea : X.2.1 e = nI a) : ct_I l y_P_evaluate w_P_evaluate ({ frames := 8 * (n + 1) + 8, cells := 0, slots := 0, locals := 200 * (n + 1) + 200 }) D (gk_T cI cJ cB cZ) [.ref g, .int (nI e), .int (nI lv), .int (nI d)] (wPg cI cJ cB g eo bo t co eq tq X ba S f1 f2 f3 f4 ++ tl) (0) (0) (fun r w => r = nI ((pg X ba Bs (n + 1)).1 e lv S).1 ∧ w = (wPg cI cJ cB g eo bo t co eq tq X ba (((pg X ba Bs (n + 1)).1 e lv S).2) f1 f2 f3 f4 ++ tl)) := by
  intro sz
  refine Met.ofW (cc := b_P_evaluate) (maxL := 9) (ret := (some .int)) (by decide) rfl ?_
  intro p ev9 s m args below meth c s₁ B9 hml hv
  obtain ⟨rfl, hsz, hP, hK, hN, hD0⟩ := hv
  have hx := B9.exec
  have hb := B9.bytes
  have hr := B9.returns
  have hts := atoms_spec (ws := w_P_evaluate) B9.pre
  have ht : ∀ w ∈ gk_big, w.before _ s = true := fun w h => hts w (List.mem_cons_of_mem _ h)
  have hown : s.vm.findClass R_P = some m.cls := findClass_of_methodNamed B9.named
  have hlocks := B9.notSynchronized
  subst hsz
  have hD := hD0.self (sz := s.heap.size)
  generalize hAe : va_A (wPg cI cJ cB g eo bo t co eq tq X ba S f1 f2 f3 f4 ++ tl) s.heap.size = A at hD ⊢
  have hA : ∀ q : Nat, s.heap.size ≤ q → A q := fun q h => by rw [← hAe]; exact Or.inr h
  generalize hHe : s.heap = H at hP ⊢
  have hS : va_S A s.heap H [] := by rw [← hHe]; exact va_S.rf
  have hP : va_P D vwCl ([(g, .inr (3, [.ref eo, .ref bo, .ref t, .ref co])), (eo, .inr (2, [.ref (eq 0), .ref (eq 1), .ref (eq 2), .ref (eq 3), .int (nI X.2.2.2.2)])), ((eq 0), .inl (cI, 80, .inl X.1)), ((eq 1), .inl (cI, 80, .inl X.2.1)), ((eq 2), .inl (cI, 80, .inl X.2.2.1)), ((eq 3), .inl (cI, 80, .inl X.2.2.2.1)), (bo, .inl (cB, 8, .inr (.inr (.inr (.inr ba))))), (t, .inr (4, [.ref (tq 0), .ref (tq 1), .ref (tq 2), .ref (tq 3), .ref (tq 4), .ref (tq 5), .ref (tq 6), .ref (tq 7), .int (nI S.1.2.2.2.2)])), ((tq 0), .inl (cI, 64, .inl (fun z9 => nI (S.1.1 z9)))), ((tq 1), .inl (cI, 64, .inl (fun z9 => nI (S.1.2.1 z9)))), ((tq 2), .inl (cI, 64, .inl (fun z9 => nI (S.1.2.2.1 z9)))), ((tq 3), .inl (cJ, 64, .inr (.inl S.1.2.2.2.1))), ((tq 4), .inl (cJ, 64, .inr (.inl f1))), ((tq 5), .inl (cJ, 64, .inr (.inl f2))), ((tq 6), .inl (cJ, 64, .inr (.inl f3))), ((tq 7), .inl (cJ, 64, .inr (.inl f4))), (co, .inl (cI, 112, .inl (fun z9 => nI (S.2 z9))))] ++ tl) H := hP
  have hD : va_D A ([(g, .inr (3, [.ref eo, .ref bo, .ref t, .ref co])), (eo, .inr (2, [.ref (eq 0), .ref (eq 1), .ref (eq 2), .ref (eq 3), .int (nI X.2.2.2.2)])), ((eq 0), .inl (cI, 80, .inl X.1)), ((eq 1), .inl (cI, 80, .inl X.2.1)), ((eq 2), .inl (cI, 80, .inl X.2.2.1)), ((eq 3), .inl (cI, 80, .inl X.2.2.2.1)), (bo, .inl (cB, 8, .inr (.inr (.inr (.inr ba))))), (t, .inr (4, [.ref (tq 0), .ref (tq 1), .ref (tq 2), .ref (tq 3), .ref (tq 4), .ref (tq 5), .ref (tq 6), .ref (tq 7), .int (nI S.1.2.2.2.2)])), ((tq 0), .inl (cI, 64, .inl (fun z9 => nI (S.1.1 z9)))), ((tq 1), .inl (cI, 64, .inl (fun z9 => nI (S.1.2.1 z9)))), ((tq 2), .inl (cI, 64, .inl (fun z9 => nI (S.1.2.2.1 z9)))), ((tq 3), .inl (cJ, 64, .inr (.inl S.1.2.2.2.1))), ((tq 4), .inl (cJ, 64, .inr (.inl f1))), ((tq 5), .inl (cJ, 64, .inr (.inl f2))), ((tq 6), .inl (cJ, 64, .inr (.inl f3))), ((tq 7), .inl (cJ, 64, .inr (.inl f4))), (co, .inl (cI, 112, .inl (fun z9 => nI (S.2 z9))))] ++ tl) := hD
  have hl := lv_entry ([.ref g, .int (nI e), .int (nI lv), .int (nI d)]) (n := 9) (Nat.le_of_ble_eq_true rfl)
  rw [lg_entry_eq]
  generalize (lg_sl ([.ref g, .int (nI e), .int (nI lv), .int (nI d)]) ++ List.replicate (9 - (lg_sl ([.ref g, .int (nI e), .int (nI lv), .int (nI d)])).length) Slot.unset).toArray = ls at hl ⊢
  have hl : lv_has ls 9 [(0, .ref g), (1, .int (nI e)), (2, .int (nI lv)), (3, .int (nI d))] := hl
  have hSn := hS9.1
  have hSc := hS9.2
  refine lv_iload_n hx hb dP_evaluate_0 rfl (lv_at hl 3 rfl) ?_
  refine lv_bipush (v := 50) hx hb dP_evaluate_1 (by decide) ?_
  refine lv_icmp_le (tgt := 8) hx hb dP_evaluate_3 (by decide) (fun c3 => ?_) (fun c3 => ?_)
  · have g3 : d ≤ 50 := (gx_le (rfl : (nI d) = (nI d)) (rfl : (50 : Int32) = nI 50) (by omega) (by decide)).mp c3
    refine lv_aload_n hx hb dP_evaluate_8 rfl (lv_at hl 0 rfl) ?_
    refine va_get (D := D) (ci := 3) (v := .ref eo) (C := R_P) (T := F_P) (N := 4) hx hb ht i_P hown hK hP 0 rfl rfl 0 (by decide) (ht _ m_91) (fun _ h9 => h9) rfl dP_evaluate_9 ?_
    refine va_getN (D := D) (ci := 2) (v := .ref (eq 0)) (C := R_E) (T := F_E) (N := 5) hx hb ht i_E hown hK hP 1 rfl rfl 0 (by decide) (va_Nw.use rfl (hN _ mn_2)) (fun _ h9 => h9) rfl dP_evaluate_12 ?_
    refine lv_iload_n hx hb dP_evaluate_15 rfl (lv_at hl 1 rfl) ?_
    have i16 : vp_in (nI e) 80 := gx_in (rfl : (nI e) = (nI e)) (by omega) (by decide)
    have k16 : ((nI e) : Int32).toNatClampNeg = e := gx_cl (rfl : (nI e) = (nI e)) (by omega)
    refine va_iald hx hb hK hP 2 0 rfl rfl i16 dP_evaluate_16 ?_
    rw [k16]
    refine lv_topi (fun v16 e16 => ?_)
    rw [hke] at e16
    subst e16
    refine lv_istore (lv' := [(4, .int 7), (0, .ref g), (1, .int (nI e)), (2, .int (nI lv)), (3, .int (nI d))]) hx hb dP_evaluate_17 hl (by decide) rfl (fun ls hl => ?_)
    refine lv_aload_n hx hb dP_evaluate_19 rfl (lv_at hl 1 rfl) ?_
    refine va_get (D := D) (ci := 3) (v := .ref eo) (C := R_P) (T := F_P) (N := 4) hx hb ht i_P hown hK hP 0 rfl rfl 0 (by decide) (ht _ m_91) (fun _ h9 => h9) rfl dP_evaluate_20 ?_
    refine va_getN (D := D) (ci := 2) (v := .ref (eq 1)) (C := R_E) (T := F_E) (N := 5) hx hb ht i_E hown hK hP 1 rfl rfl 1 (by decide) (va_Nw.use rfl (hN _ mn_3)) (fun _ h9 => h9) rfl dP_evaluate_23 ?_
    refine lv_iload_n hx hb dP_evaluate_26 rfl (lv_at hl 2 rfl) ?_
    have i27 : vp_in (nI e) 80 := gx_in (rfl : (nI e) = (nI e)) (by omega) (by decide)
    have k27 : ((nI e) : Int32).toNatClampNeg = e := gx_cl (rfl : (nI e) = (nI e)) (by omega)
    refine va_iald hx hb hK hP 3 0 rfl rfl i27 dP_evaluate_27 ?_
    rw [k27]
    refine lv_topi (fun v27 e27 => ?_)
    rw [hea] at e27
    subst e27
    refine lv_istore (lv' := [(5, .int (nI a)), (4, .int 7), (0, .ref g), (1, .int (nI e)), (2, .int (nI lv)), (3, .int (nI d))]) hx hb dP_evaluate_28 hl (by decide) rfl (fun ls hl => ?_)
    refine lv_aload_n hx hb dP_evaluate_30 rfl (lv_at hl 2 rfl) ?_
    refine va_get (D := D) (ci := 3) (v := .ref eo) (C := R_P) (T := F_P) (N := 4) hx hb ht i_P hown hK hP 0 rfl rfl 0 (by decide) (ht _ m_91) (fun _ h9 => h9) rfl dP_evaluate_31 ?_
    refine va_getN (D := D) (ci := 2) (v := .ref (eq 2)) (C := R_E) (T := F_E) (N := 5) hx hb ht i_E hown hK hP 1 rfl rfl 2 (by decide) (va_Nw.use rfl (hN _ mn_4)) (fun _ h9 => h9) rfl dP_evaluate_34 ?_
    refine lv_iload_n hx hb dP_evaluate_37 rfl (lv_at hl 3 rfl) ?_
    have i38 : vp_in (nI e) 80 := gx_in (rfl : (nI e) = (nI e)) (by omega) (by decide)
    have k38 : ((nI e) : Int32).toNatClampNeg = e := gx_cl (rfl : (nI e) = (nI e)) (by omega)
    refine va_iald hx hb hK hP 4 0 rfl rfl i38 dP_evaluate_38 ?_
    rw [k38]
    refine lv_topi (fun v38 e38 => ?_)
    refine lv_istore (lv' := [(6, .int v38), (5, .int (nI a)), (4, .int 7), (0, .ref g), (1, .int (nI e)), (2, .int (nI lv)), (3, .int (nI d))]) hx hb dP_evaluate_39 hl (by decide) rfl (fun ls hl => ?_)
    refine lv_iload hx hb dP_evaluate_41 (lv_at hl 2 rfl) ?_
    refine gc_i (va_runS (As := [.int 7]) (rest := []) ⟨hx, hb, hml, hown, ht⟩ (c_E_hasLeft l D cI cJ cB cZ 7 H.size) (va_cwS 1 ht (gw_S m_341 m_165 m_3 m_166) rfl rfl rfl (by decide +kernel) ⟨show 0 + 1 ≤ 8 * (n + 1) + 8 by omega, show 8 + (1 + 11) + (0) ≤ 200 * (n + 1) + 200 by omega⟩) (gp_S hK hN (hP.sub (ws' := ([] : va_W)) [] rfl) (hD.sub (ws' := ([] : va_W)) [] (by decide) rfl)) rfl rfl hl.1 rfl (lv_room (Nat.le_of_ble_eq_true rfl)) dP_evaluate_43 ⟨Nat.le_of_ble_eq_true rfl, Nat.le_of_ble_eq_true rfl⟩) hP hD hS hA [] rfl (by decide) (fun r w h => by obtain ⟨_, rfl⟩ := h; rfl) (fun r43 w43 H locs p43 hP hD hS => ?_)
    obtain ⟨rfl, rfl⟩ := p43
    have hP : va_P D vwCl ([(g, .inr (3, [.ref eo, .ref bo, .ref t, .ref co])), (eo, .inr (2, [.ref (eq 0), .ref (eq 1), .ref (eq 2), .ref (eq 3), .int (nI X.2.2.2.2)])), ((eq 0), .inl (cI, 80, .inl X.1)), ((eq 1), .inl (cI, 80, .inl X.2.1)), ((eq 2), .inl (cI, 80, .inl X.2.2.1)), ((eq 3), .inl (cI, 80, .inl X.2.2.2.1)), (bo, .inl (cB, 8, .inr (.inr (.inr (.inr ba))))), (t, .inr (4, [.ref (tq 0), .ref (tq 1), .ref (tq 2), .ref (tq 3), .ref (tq 4), .ref (tq 5), .ref (tq 6), .ref (tq 7), .int (nI S.1.2.2.2.2)])), ((tq 0), .inl (cI, 64, .inl (fun z9 => nI (S.1.1 z9)))), ((tq 1), .inl (cI, 64, .inl (fun z9 => nI (S.1.2.1 z9)))), ((tq 2), .inl (cI, 64, .inl (fun z9 => nI (S.1.2.2.1 z9)))), ((tq 3), .inl (cJ, 64, .inr (.inl S.1.2.2.2.1))), ((tq 4), .inl (cJ, 64, .inr (.inl f1))), ((tq 5), .inl (cJ, 64, .inr (.inl f2))), ((tq 6), .inl (cJ, 64, .inr (.inl f3))), ((tq 7), .inl (cJ, 64, .inr (.inl f4))), (co, .inl (cI, 112, .inl (fun z9 => nI (S.2 z9))))] ++ tl) H := hP
    have hD : va_D A ([(g, .inr (3, [.ref eo, .ref bo, .ref t, .ref co])), (eo, .inr (2, [.ref (eq 0), .ref (eq 1), .ref (eq 2), .ref (eq 3), .int (nI X.2.2.2.2)])), ((eq 0), .inl (cI, 80, .inl X.1)), ((eq 1), .inl (cI, 80, .inl X.2.1)), ((eq 2), .inl (cI, 80, .inl X.2.2.1)), ((eq 3), .inl (cI, 80, .inl X.2.2.2.1)), (bo, .inl (cB, 8, .inr (.inr (.inr (.inr ba))))), (t, .inr (4, [.ref (tq 0), .ref (tq 1), .ref (tq 2), .ref (tq 3), .ref (tq 4), .ref (tq 5), .ref (tq 6), .ref (tq 7), .int (nI S.1.2.2.2.2)])), ((tq 0), .inl (cI, 64, .inl (fun z9 => nI (S.1.1 z9)))), ((tq 1), .inl (cI, 64, .inl (fun z9 => nI (S.1.2.1 z9)))), ((tq 2), .inl (cI, 64, .inl (fun z9 => nI (S.1.2.2.1 z9)))), ((tq 3), .inl (cJ, 64, .inr (.inl S.1.2.2.2.1))), ((tq 4), .inl (cJ, 64, .inr (.inl f1))), ((tq 5), .inl (cJ, 64, .inr (.inl f2))), ((tq 6), .inl (cJ, 64, .inr (.inl f3))), ((tq 7), .inl (cJ, 64, .inr (.inl f4))), (co, .inl (cI, 112, .inl (fun z9 => nI (S.2 z9))))] ++ tl) := hD
    refine lv_if_eq (tgt := 62) hx hb dP_evaluate_46 (by decide) (fun c46 => ?_) (fun c46 => ?_)
    · exact (gb_1.mp c46 (by decide)).elim
    · refine lv_aload_n hx hb dP_evaluate_49 rfl (lv_at hl 3 rfl) ?_
      refine lv_iload hx hb dP_evaluate_50 (lv_at hl 1 rfl) ?_
      refine lv_iload_n hx hb dP_evaluate_52 rfl (lv_at hl 5 rfl) ?_
      refine lv_iload_n hx hb dP_evaluate_53 rfl (lv_at hl 6 rfl) ?_
      refine lv_iconst (v := 1) hx hb dP_evaluate_54 (by decide) ?_
      refine lv_iadd hx hb dP_evaluate_55 ?_
      refine lv_topi (fun v55 e55 => ?_)
      have n55 : v55 = nI (d + 1) := by rw [e55]; exact gx_add (rfl : (nI d) = (nI d)) (rfl : (1 : Int32) = nI 1)
      subst n55
      refine gc_wi (va_runV (As := [.int (nI a), .int (nI lv), .int (nI (d + 1))]) (rest := []) ⟨hx, hb, hml, hown, ht⟩ (hE (d + 1) a lv S (by omega) (by omega) hlv hS9 H.size) (cwV 3 ht (gw_V m_337 m_339 ms_12 m_2 m_340) rfl rfl rfl (by decide +kernel) ⟨show (8 * n + 8) + 1 ≤ 8 * (n + 1) + 8 by omega, show 8 + (9 + 11) + (200 * n + 200) ≤ 200 * (n + 1) + 200 by omega⟩) (gp_V (ci := 3) (q0 := 0) hK hN hP hD rfl rfl) rfl rfl hl.1 rfl (lv_room (Nat.le_of_ble_eq_true rfl)) dP_evaluate_56 ⟨Nat.le_of_ble_eq_true rfl, Nat.le_of_ble_eq_true rfl⟩) hP hD hS hA (fun r56 w56 H locs p56 hP hD hS => ?_)
      obtain ⟨rfl, rfl⟩ := p56
      have hP : va_P D vwCl ([(g, .inr (3, [.ref eo, .ref bo, .ref t, .ref co])), (eo, .inr (2, [.ref (eq 0), .ref (eq 1), .ref (eq 2), .ref (eq 3), .int (nI X.2.2.2.2)])), ((eq 0), .inl (cI, 80, .inl X.1)), ((eq 1), .inl (cI, 80, .inl X.2.1)), ((eq 2), .inl (cI, 80, .inl X.2.2.1)), ((eq 3), .inl (cI, 80, .inl X.2.2.2.1)), (bo, .inl (cB, 8, .inr (.inr (.inr (.inr ba))))), (t, .inr (4, [.ref (tq 0), .ref (tq 1), .ref (tq 2), .ref (tq 3), .ref (tq 4), .ref (tq 5), .ref (tq 6), .ref (tq 7), .int (nI (((((pg X ba Bs n).1 a lv S).2).1).2.2.2.2))])), ((tq 0), .inl (cI, 64, .inl (fun z9 => nI ((((((pg X ba Bs n).1 a lv S).2).1).1) z9)))), ((tq 1), .inl (cI, 64, .inl (fun z9 => nI ((((((pg X ba Bs n).1 a lv S).2).1).2.1) z9)))), ((tq 2), .inl (cI, 64, .inl (fun z9 => nI ((((((pg X ba Bs n).1 a lv S).2).1).2.2.1) z9)))), ((tq 3), .inl (cJ, 64, .inr (.inl (((((pg X ba Bs n).1 a lv S).2).1).2.2.2.1)))), ((tq 4), .inl (cJ, 64, .inr (.inl f1))), ((tq 5), .inl (cJ, 64, .inr (.inl f2))), ((tq 6), .inl (cJ, 64, .inr (.inl f3))), ((tq 7), .inl (cJ, 64, .inr (.inl f4))), (co, .inl (cI, 112, .inl (fun z9 => nI (((((pg X ba Bs n).1 a lv S).2).2) z9))))] ++ tl) H := hP
      have hD : va_D A ([(g, .inr (3, [.ref eo, .ref bo, .ref t, .ref co])), (eo, .inr (2, [.ref (eq 0), .ref (eq 1), .ref (eq 2), .ref (eq 3), .int (nI X.2.2.2.2)])), ((eq 0), .inl (cI, 80, .inl X.1)), ((eq 1), .inl (cI, 80, .inl X.2.1)), ((eq 2), .inl (cI, 80, .inl X.2.2.1)), ((eq 3), .inl (cI, 80, .inl X.2.2.2.1)), (bo, .inl (cB, 8, .inr (.inr (.inr (.inr ba))))), (t, .inr (4, [.ref (tq 0), .ref (tq 1), .ref (tq 2), .ref (tq 3), .ref (tq 4), .ref (tq 5), .ref (tq 6), .ref (tq 7), .int (nI (((((pg X ba Bs n).1 a lv S).2).1).2.2.2.2))])), ((tq 0), .inl (cI, 64, .inl (fun z9 => nI ((((((pg X ba Bs n).1 a lv S).2).1).1) z9)))), ((tq 1), .inl (cI, 64, .inl (fun z9 => nI ((((((pg X ba Bs n).1 a lv S).2).1).2.1) z9)))), ((tq 2), .inl (cI, 64, .inl (fun z9 => nI ((((((pg X ba Bs n).1 a lv S).2).1).2.2.1) z9)))), ((tq 3), .inl (cJ, 64, .inr (.inl (((((pg X ba Bs n).1 a lv S).2).1).2.2.2.1)))), ((tq 4), .inl (cJ, 64, .inr (.inl f1))), ((tq 5), .inl (cJ, 64, .inr (.inl f2))), ((tq 6), .inl (cJ, 64, .inr (.inl f3))), ((tq 7), .inl (cJ, 64, .inr (.inl f4))), (co, .inl (cI, 112, .inl (fun z9 => nI (((((pg X ba Bs n).1 a lv S).2).2) z9))))] ++ tl) := hD
      have b56 := hre a lv S (by omega) hlv hS9
      have b56x := b56.1
      have b56y := b56.2.1
      refine lv_goto (tgt := 63) hx hb dP_evaluate_59 (by decide) ?_
      refine lv_istore (lv' := [(7, .int (nI (((pg X ba Bs n).1 a lv S).1))), (6, .int v38), (5, .int (nI a)), (4, .int 7), (0, .ref g), (1, .int (nI e)), (2, .int (nI lv)), (3, .int (nI d))]) hx hb dP_evaluate_63 hl (by decide) rfl (fun ls hl => ?_)
      refine lv_iload hx hb dP_evaluate_65 (lv_at hl 3 rfl) ?_
      refine gc_i (va_runS (As := [.int 7]) (rest := []) ⟨hx, hb, hml, hown, ht⟩ (c_E_hasRight l D cI cJ cB cZ 7 H.size) (va_cwS 1 ht (gw_S m_342 m_175 m_3 m_176) rfl rfl rfl (by decide +kernel) ⟨show 0 + 1 ≤ 8 * (n + 1) + 8 by omega, show 8 + (1 + 11) + (0) ≤ 200 * (n + 1) + 200 by omega⟩) (gp_S hK hN (hP.sub (ws' := ([] : va_W)) [] rfl) (hD.sub (ws' := ([] : va_W)) [] (by decide) rfl)) rfl rfl hl.1 rfl (lv_room (Nat.le_of_ble_eq_true rfl)) dP_evaluate_67 ⟨Nat.le_of_ble_eq_true rfl, Nat.le_of_ble_eq_true rfl⟩) hP hD hS hA [] rfl (by decide) (fun r w h => by obtain ⟨_, rfl⟩ := h; rfl) (fun r67 w67 H locs p67 hP hD hS => ?_)
      obtain ⟨rfl, rfl⟩ := p67
      have hP : va_P D vwCl ([(g, .inr (3, [.ref eo, .ref bo, .ref t, .ref co])), (eo, .inr (2, [.ref (eq 0), .ref (eq 1), .ref (eq 2), .ref (eq 3), .int (nI X.2.2.2.2)])), ((eq 0), .inl (cI, 80, .inl X.1)), ((eq 1), .inl (cI, 80, .inl X.2.1)), ((eq 2), .inl (cI, 80, .inl X.2.2.1)), ((eq 3), .inl (cI, 80, .inl X.2.2.2.1)), (bo, .inl (cB, 8, .inr (.inr (.inr (.inr ba))))), (t, .inr (4, [.ref (tq 0), .ref (tq 1), .ref (tq 2), .ref (tq 3), .ref (tq 4), .ref (tq 5), .ref (tq 6), .ref (tq 7), .int (nI (((((pg X ba Bs n).1 a lv S).2).1).2.2.2.2))])), ((tq 0), .inl (cI, 64, .inl (fun z9 => nI ((((((pg X ba Bs n).1 a lv S).2).1).1) z9)))), ((tq 1), .inl (cI, 64, .inl (fun z9 => nI ((((((pg X ba Bs n).1 a lv S).2).1).2.1) z9)))), ((tq 2), .inl (cI, 64, .inl (fun z9 => nI ((((((pg X ba Bs n).1 a lv S).2).1).2.2.1) z9)))), ((tq 3), .inl (cJ, 64, .inr (.inl (((((pg X ba Bs n).1 a lv S).2).1).2.2.2.1)))), ((tq 4), .inl (cJ, 64, .inr (.inl f1))), ((tq 5), .inl (cJ, 64, .inr (.inl f2))), ((tq 6), .inl (cJ, 64, .inr (.inl f3))), ((tq 7), .inl (cJ, 64, .inr (.inl f4))), (co, .inl (cI, 112, .inl (fun z9 => nI (((((pg X ba Bs n).1 a lv S).2).2) z9))))] ++ tl) H := hP
      have hD : va_D A ([(g, .inr (3, [.ref eo, .ref bo, .ref t, .ref co])), (eo, .inr (2, [.ref (eq 0), .ref (eq 1), .ref (eq 2), .ref (eq 3), .int (nI X.2.2.2.2)])), ((eq 0), .inl (cI, 80, .inl X.1)), ((eq 1), .inl (cI, 80, .inl X.2.1)), ((eq 2), .inl (cI, 80, .inl X.2.2.1)), ((eq 3), .inl (cI, 80, .inl X.2.2.2.1)), (bo, .inl (cB, 8, .inr (.inr (.inr (.inr ba))))), (t, .inr (4, [.ref (tq 0), .ref (tq 1), .ref (tq 2), .ref (tq 3), .ref (tq 4), .ref (tq 5), .ref (tq 6), .ref (tq 7), .int (nI (((((pg X ba Bs n).1 a lv S).2).1).2.2.2.2))])), ((tq 0), .inl (cI, 64, .inl (fun z9 => nI ((((((pg X ba Bs n).1 a lv S).2).1).1) z9)))), ((tq 1), .inl (cI, 64, .inl (fun z9 => nI ((((((pg X ba Bs n).1 a lv S).2).1).2.1) z9)))), ((tq 2), .inl (cI, 64, .inl (fun z9 => nI ((((((pg X ba Bs n).1 a lv S).2).1).2.2.1) z9)))), ((tq 3), .inl (cJ, 64, .inr (.inl (((((pg X ba Bs n).1 a lv S).2).1).2.2.2.1)))), ((tq 4), .inl (cJ, 64, .inr (.inl f1))), ((tq 5), .inl (cJ, 64, .inr (.inl f2))), ((tq 6), .inl (cJ, 64, .inr (.inl f3))), ((tq 7), .inl (cJ, 64, .inr (.inl f4))), (co, .inl (cI, 112, .inl (fun z9 => nI (((((pg X ba Bs n).1 a lv S).2).2) z9))))] ++ tl) := hD
      refine lv_if_eq (tgt := 86) hx hb dP_evaluate_70 (by decide) (fun c70 => ?_) (fun c70 => ?_)
      · refine lv_iconst (v := 0) hx hb dP_evaluate_86 (by decide) ?_
        refine lv_istore (lv' := [(8, .int 0), (7, .int (nI (((pg X ba Bs n).1 a lv S).1))), (6, .int v38), (5, .int (nI a)), (4, .int 7), (0, .ref g), (1, .int (nI e)), (2, .int (nI lv)), (3, .int (nI d))]) hx hb dP_evaluate_87 hl (by decide) rfl (fun ls hl => ?_)
        refine lv_iload hx hb dP_evaluate_89 (lv_at hl 4 rfl) ?_
        refine lv_tableIn (tgt := 227) (off := 136) hx hb dP_evaluate_91 (by decide) (by decide) (by rfl) (by decide) ?_
        refine lv_aload_n hx hb dP_evaluate_227 rfl (lv_at hl 5 rfl) ?_
        refine lv_iload hx hb dP_evaluate_228 (lv_at hl 4 rfl) ?_
        refine lv_iload hx hb dP_evaluate_230 (lv_at hl 1 rfl) ?_
        refine lv_iload hx hb dP_evaluate_232 (lv_at hl 0 rfl) ?_
        refine gc_wi (va_runV (As := [.int 7, .int (nI (((pg X ba Bs n).1 a lv S).1)), .int 0]) (rest := []) ⟨hx, hb, hml, hown, ht⟩ (c_P_combine l D cI cJ cB cZ g eo bo t co eq tq tl X ba f1 f2 f3 f4 (((pg X ba Bs n).1 a lv S).2) 7 (((pg X ba Bs n).1 a lv S).1) 0 (by omega) b56.2.1 (by omega) (by omega) H.size) (cwV 3 ht (gw_V m_361 m_363 ms_14 m_2 m_364) rfl rfl rfl (by decide +kernel) ⟨show 3 + 1 ≤ 8 * (n + 1) + 8 by omega, show 8 + (4 + 11) + (69) ≤ 200 * (n + 1) + 200 by omega⟩) (gp_V (ci := 3) (q0 := 0) hK hN hP hD rfl rfl) rfl rfl hl.1 rfl (lv_room (Nat.le_of_ble_eq_true rfl)) dP_evaluate_234 ⟨Nat.le_of_ble_eq_true rfl, Nat.le_of_ble_eq_true rfl⟩) hP hD hS hA (fun r234 w234 H locs p234 hP hD hS => ?_)
        obtain ⟨rfl, rfl⟩ := p234
        have hP : va_P D vwCl ([(g, .inr (3, [.ref eo, .ref bo, .ref t, .ref co])), (eo, .inr (2, [.ref (eq 0), .ref (eq 1), .ref (eq 2), .ref (eq 3), .int (nI X.2.2.2.2)])), ((eq 0), .inl (cI, 80, .inl X.1)), ((eq 1), .inl (cI, 80, .inl X.2.1)), ((eq 2), .inl (cI, 80, .inl X.2.2.1)), ((eq 3), .inl (cI, 80, .inl X.2.2.2.1)), (bo, .inl (cB, 8, .inr (.inr (.inr (.inr ba))))), (t, .inr (4, [.ref (tq 0), .ref (tq 1), .ref (tq 2), .ref (tq 3), .ref (tq 4), .ref (tq 5), .ref (tq 6), .ref (tq 7), .int (nI ((((px_comb 7 (((pg X ba Bs n).1 a lv S).1) 0 ((((pg X ba Bs n).1 a lv S).2).1)).2, ((((pg X ba Bs n).1 a lv S).2).2)).1).2.2.2.2))])), ((tq 0), .inl (cI, 64, .inl (fun z9 => nI (((((px_comb 7 (((pg X ba Bs n).1 a lv S).1) 0 ((((pg X ba Bs n).1 a lv S).2).1)).2, ((((pg X ba Bs n).1 a lv S).2).2)).1).1) z9)))), ((tq 1), .inl (cI, 64, .inl (fun z9 => nI (((((px_comb 7 (((pg X ba Bs n).1 a lv S).1) 0 ((((pg X ba Bs n).1 a lv S).2).1)).2, ((((pg X ba Bs n).1 a lv S).2).2)).1).2.1) z9)))), ((tq 2), .inl (cI, 64, .inl (fun z9 => nI (((((px_comb 7 (((pg X ba Bs n).1 a lv S).1) 0 ((((pg X ba Bs n).1 a lv S).2).1)).2, ((((pg X ba Bs n).1 a lv S).2).2)).1).2.2.1) z9)))), ((tq 3), .inl (cJ, 64, .inr (.inl ((((px_comb 7 (((pg X ba Bs n).1 a lv S).1) 0 ((((pg X ba Bs n).1 a lv S).2).1)).2, ((((pg X ba Bs n).1 a lv S).2).2)).1).2.2.2.1)))), ((tq 4), .inl (cJ, 64, .inr (.inl f1))), ((tq 5), .inl (cJ, 64, .inr (.inl f2))), ((tq 6), .inl (cJ, 64, .inr (.inl f3))), ((tq 7), .inl (cJ, 64, .inr (.inl f4))), (co, .inl (cI, 112, .inl (fun z9 => nI ((((px_comb 7 (((pg X ba Bs n).1 a lv S).1) 0 ((((pg X ba Bs n).1 a lv S).2).1)).2, ((((pg X ba Bs n).1 a lv S).2).2)).2) z9))))] ++ tl) H := hP
        have hD : va_D A ([(g, .inr (3, [.ref eo, .ref bo, .ref t, .ref co])), (eo, .inr (2, [.ref (eq 0), .ref (eq 1), .ref (eq 2), .ref (eq 3), .int (nI X.2.2.2.2)])), ((eq 0), .inl (cI, 80, .inl X.1)), ((eq 1), .inl (cI, 80, .inl X.2.1)), ((eq 2), .inl (cI, 80, .inl X.2.2.1)), ((eq 3), .inl (cI, 80, .inl X.2.2.2.1)), (bo, .inl (cB, 8, .inr (.inr (.inr (.inr ba))))), (t, .inr (4, [.ref (tq 0), .ref (tq 1), .ref (tq 2), .ref (tq 3), .ref (tq 4), .ref (tq 5), .ref (tq 6), .ref (tq 7), .int (nI ((((px_comb 7 (((pg X ba Bs n).1 a lv S).1) 0 ((((pg X ba Bs n).1 a lv S).2).1)).2, ((((pg X ba Bs n).1 a lv S).2).2)).1).2.2.2.2))])), ((tq 0), .inl (cI, 64, .inl (fun z9 => nI (((((px_comb 7 (((pg X ba Bs n).1 a lv S).1) 0 ((((pg X ba Bs n).1 a lv S).2).1)).2, ((((pg X ba Bs n).1 a lv S).2).2)).1).1) z9)))), ((tq 1), .inl (cI, 64, .inl (fun z9 => nI (((((px_comb 7 (((pg X ba Bs n).1 a lv S).1) 0 ((((pg X ba Bs n).1 a lv S).2).1)).2, ((((pg X ba Bs n).1 a lv S).2).2)).1).2.1) z9)))), ((tq 2), .inl (cI, 64, .inl (fun z9 => nI (((((px_comb 7 (((pg X ba Bs n).1 a lv S).1) 0 ((((pg X ba Bs n).1 a lv S).2).1)).2, ((((pg X ba Bs n).1 a lv S).2).2)).1).2.2.1) z9)))), ((tq 3), .inl (cJ, 64, .inr (.inl ((((px_comb 7 (((pg X ba Bs n).1 a lv S).1) 0 ((((pg X ba Bs n).1 a lv S).2).1)).2, ((((pg X ba Bs n).1 a lv S).2).2)).1).2.2.2.1)))), ((tq 4), .inl (cJ, 64, .inr (.inl f1))), ((tq 5), .inl (cJ, 64, .inr (.inl f2))), ((tq 6), .inl (cJ, 64, .inr (.inl f3))), ((tq 7), .inl (cJ, 64, .inr (.inl f4))), (co, .inl (cI, 112, .inl (fun z9 => nI ((((px_comb 7 (((pg X ba Bs n).1 a lv S).1) 0 ((((pg X ba Bs n).1 a lv S).2).1)).2, ((((pg X ba Bs n).1 a lv S).2).2)).2) z9))))] ++ tl) := hD
        have hz : (pg X ba Bs (n + 1)).1 e lv S = (((px_comb 7 (((pg X ba Bs n).1 a lv S).1) 0 ((((pg X ba Bs n).1 a lv S).2).1)).1), (px_comb 7 (((pg X ba Bs n).1 a lv S).1) 0 ((((pg X ba Bs n).1 a lv S).2).1)).2, ((((pg X ba Bs n).1 a lv S).2).2)) := by
          show px_ev X (pg X ba Bs n).1 (px_ent ba Bs (pg X ba Bs n).2) e lv S = _
          simp [px_ev, px_r1, px_r2, px_R, hke, hea, show cn (7 : Int32) = 7 from rfl, cn_nI (show a < 2 ^ 31 by omega)]
        exact W.iret (v := (nI ((px_comb 7 (((pg X ba Bs n).1 a lv S).1) 0 ((((pg X ba Bs n).1 a lv S).2).1)).1))) hx hb hr (fun t9 ht9 hW => ⟨⟨(nI ((px_comb 7 (((pg X ba Bs n).1 a lv S).1) 0 ((((pg X ba Bs n).1 a lv S).2).1)).1)), _, rfl, ⟨by rw [hz], by rw [hz]⟩, by rw [ht9]; exact hP, hD⟩, hS.F ht9⟩) hS.2.2 dP_evaluate_237
      · exact absurd (gb_1.mpr (by decide)) c70
  · have g3 : ¬ (d ≤ 50) := fun z => c3 ((gx_le (rfl : (nI d) = (nI d)) (rfl : (50 : Int32) = nI 50) (by omega) (by decide)).mpr z)
    exact absurd g3 (by omega)

set_option maxHeartbeats 4000000 in
set_option maxRecDepth 100000 in
theorem c_P_evaluate_8 (l : Launch) (D : va_G) (cI cJ cB cZ : ClassId) (g eo bo t co : Nat) (eq tq : Nat → Nat) (tl : va_W) (X : Ex) (ba : Nat → Option Nat) (f1 f2 f3 f4 : Nat → Int64) (Bs : Nat → Bd) (n d e lv : Nat) (S : Sx) (a : Nat) (b : Nat) (hE : cE l D cI cJ cB cZ g eo bo t co eq tq tl X ba f1 f2 f3 f4 Bs n) (hN9 : cN l D cI cJ cB cZ g eo bo t co eq tq tl X ba f1 f2 f3 f4 Bs n) (hd : d + (n + 1) = 51) (hX80 : X.2.2.2.2 ≤ 80) (he : e < X.2.2.2.2) (hlv : lv < 8) (hS9 : sx_ok S) (hre : re_ok X (pg X ba Bs n).1) (hke : X.1 e = 8) (ha : a < e) (hea : X.2.1 e = nI a) (hb8 : b < e) (heb : X.2.2.1 e = nI b) : ct_I l y_P_evaluate w_P_evaluate ({ frames := 8 * (n + 1) + 8, cells := 0, slots := 0, locals := 200 * (n + 1) + 200 }) D (gk_T cI cJ cB cZ) [.ref g, .int (nI e), .int (nI lv), .int (nI d)] (wPg cI cJ cB g eo bo t co eq tq X ba S f1 f2 f3 f4 ++ tl) (0) (0) (fun r w => r = nI ((pg X ba Bs (n + 1)).1 e lv S).1 ∧ w = (wPg cI cJ cB g eo bo t co eq tq X ba (((pg X ba Bs (n + 1)).1 e lv S).2) f1 f2 f3 f4 ++ tl)) := by
  intro sz
  refine Met.ofW (cc := b_P_evaluate) (maxL := 9) (ret := (some .int)) (by decide) rfl ?_
  intro p ev9 s m args below meth c s₁ B9 hml hv
  obtain ⟨rfl, hsz, hP, hK, hN, hD0⟩ := hv
  have hx := B9.exec
  have hb := B9.bytes
  have hr := B9.returns
  have hts := atoms_spec (ws := w_P_evaluate) B9.pre
  have ht : ∀ w ∈ gk_big, w.before _ s = true := fun w h => hts w (List.mem_cons_of_mem _ h)
  have hown : s.vm.findClass R_P = some m.cls := findClass_of_methodNamed B9.named
  have hlocks := B9.notSynchronized
  subst hsz
  have hD := hD0.self (sz := s.heap.size)
  generalize hAe : va_A (wPg cI cJ cB g eo bo t co eq tq X ba S f1 f2 f3 f4 ++ tl) s.heap.size = A at hD ⊢
  have hA : ∀ q : Nat, s.heap.size ≤ q → A q := fun q h => by rw [← hAe]; exact Or.inr h
  generalize hHe : s.heap = H at hP ⊢
  have hS : va_S A s.heap H [] := by rw [← hHe]; exact va_S.rf
  have hP : va_P D vwCl ([(g, .inr (3, [.ref eo, .ref bo, .ref t, .ref co])), (eo, .inr (2, [.ref (eq 0), .ref (eq 1), .ref (eq 2), .ref (eq 3), .int (nI X.2.2.2.2)])), ((eq 0), .inl (cI, 80, .inl X.1)), ((eq 1), .inl (cI, 80, .inl X.2.1)), ((eq 2), .inl (cI, 80, .inl X.2.2.1)), ((eq 3), .inl (cI, 80, .inl X.2.2.2.1)), (bo, .inl (cB, 8, .inr (.inr (.inr (.inr ba))))), (t, .inr (4, [.ref (tq 0), .ref (tq 1), .ref (tq 2), .ref (tq 3), .ref (tq 4), .ref (tq 5), .ref (tq 6), .ref (tq 7), .int (nI S.1.2.2.2.2)])), ((tq 0), .inl (cI, 64, .inl (fun z9 => nI (S.1.1 z9)))), ((tq 1), .inl (cI, 64, .inl (fun z9 => nI (S.1.2.1 z9)))), ((tq 2), .inl (cI, 64, .inl (fun z9 => nI (S.1.2.2.1 z9)))), ((tq 3), .inl (cJ, 64, .inr (.inl S.1.2.2.2.1))), ((tq 4), .inl (cJ, 64, .inr (.inl f1))), ((tq 5), .inl (cJ, 64, .inr (.inl f2))), ((tq 6), .inl (cJ, 64, .inr (.inl f3))), ((tq 7), .inl (cJ, 64, .inr (.inl f4))), (co, .inl (cI, 112, .inl (fun z9 => nI (S.2 z9))))] ++ tl) H := hP
  have hD : va_D A ([(g, .inr (3, [.ref eo, .ref bo, .ref t, .ref co])), (eo, .inr (2, [.ref (eq 0), .ref (eq 1), .ref (eq 2), .ref (eq 3), .int (nI X.2.2.2.2)])), ((eq 0), .inl (cI, 80, .inl X.1)), ((eq 1), .inl (cI, 80, .inl X.2.1)), ((eq 2), .inl (cI, 80, .inl X.2.2.1)), ((eq 3), .inl (cI, 80, .inl X.2.2.2.1)), (bo, .inl (cB, 8, .inr (.inr (.inr (.inr ba))))), (t, .inr (4, [.ref (tq 0), .ref (tq 1), .ref (tq 2), .ref (tq 3), .ref (tq 4), .ref (tq 5), .ref (tq 6), .ref (tq 7), .int (nI S.1.2.2.2.2)])), ((tq 0), .inl (cI, 64, .inl (fun z9 => nI (S.1.1 z9)))), ((tq 1), .inl (cI, 64, .inl (fun z9 => nI (S.1.2.1 z9)))), ((tq 2), .inl (cI, 64, .inl (fun z9 => nI (S.1.2.2.1 z9)))), ((tq 3), .inl (cJ, 64, .inr (.inl S.1.2.2.2.1))), ((tq 4), .inl (cJ, 64, .inr (.inl f1))), ((tq 5), .inl (cJ, 64, .inr (.inl f2))), ((tq 6), .inl (cJ, 64, .inr (.inl f3))), ((tq 7), .inl (cJ, 64, .inr (.inl f4))), (co, .inl (cI, 112, .inl (fun z9 => nI (S.2 z9))))] ++ tl) := hD
  have hl := lv_entry ([.ref g, .int (nI e), .int (nI lv), .int (nI d)]) (n := 9) (Nat.le_of_ble_eq_true rfl)
  rw [lg_entry_eq]
  generalize (lg_sl ([.ref g, .int (nI e), .int (nI lv), .int (nI d)]) ++ List.replicate (9 - (lg_sl ([.ref g, .int (nI e), .int (nI lv), .int (nI d)])).length) Slot.unset).toArray = ls at hl ⊢
  have hl : lv_has ls 9 [(0, .ref g), (1, .int (nI e)), (2, .int (nI lv)), (3, .int (nI d))] := hl
  have hSn := hS9.1
  have hSc := hS9.2
  refine lv_iload_n hx hb dP_evaluate_0 rfl (lv_at hl 3 rfl) ?_
  refine lv_bipush (v := 50) hx hb dP_evaluate_1 (by decide) ?_
  refine lv_icmp_le (tgt := 8) hx hb dP_evaluate_3 (by decide) (fun c3 => ?_) (fun c3 => ?_)
  · have g3 : d ≤ 50 := (gx_le (rfl : (nI d) = (nI d)) (rfl : (50 : Int32) = nI 50) (by omega) (by decide)).mp c3
    refine lv_aload_n hx hb dP_evaluate_8 rfl (lv_at hl 0 rfl) ?_
    refine va_get (D := D) (ci := 3) (v := .ref eo) (C := R_P) (T := F_P) (N := 4) hx hb ht i_P hown hK hP 0 rfl rfl 0 (by decide) (ht _ m_91) (fun _ h9 => h9) rfl dP_evaluate_9 ?_
    refine va_getN (D := D) (ci := 2) (v := .ref (eq 0)) (C := R_E) (T := F_E) (N := 5) hx hb ht i_E hown hK hP 1 rfl rfl 0 (by decide) (va_Nw.use rfl (hN _ mn_2)) (fun _ h9 => h9) rfl dP_evaluate_12 ?_
    refine lv_iload_n hx hb dP_evaluate_15 rfl (lv_at hl 1 rfl) ?_
    have i16 : vp_in (nI e) 80 := gx_in (rfl : (nI e) = (nI e)) (by omega) (by decide)
    have k16 : ((nI e) : Int32).toNatClampNeg = e := gx_cl (rfl : (nI e) = (nI e)) (by omega)
    refine va_iald hx hb hK hP 2 0 rfl rfl i16 dP_evaluate_16 ?_
    rw [k16]
    refine lv_topi (fun v16 e16 => ?_)
    rw [hke] at e16
    subst e16
    refine lv_istore (lv' := [(4, .int 8), (0, .ref g), (1, .int (nI e)), (2, .int (nI lv)), (3, .int (nI d))]) hx hb dP_evaluate_17 hl (by decide) rfl (fun ls hl => ?_)
    refine lv_aload_n hx hb dP_evaluate_19 rfl (lv_at hl 1 rfl) ?_
    refine va_get (D := D) (ci := 3) (v := .ref eo) (C := R_P) (T := F_P) (N := 4) hx hb ht i_P hown hK hP 0 rfl rfl 0 (by decide) (ht _ m_91) (fun _ h9 => h9) rfl dP_evaluate_20 ?_
    refine va_getN (D := D) (ci := 2) (v := .ref (eq 1)) (C := R_E) (T := F_E) (N := 5) hx hb ht i_E hown hK hP 1 rfl rfl 1 (by decide) (va_Nw.use rfl (hN _ mn_3)) (fun _ h9 => h9) rfl dP_evaluate_23 ?_
    refine lv_iload_n hx hb dP_evaluate_26 rfl (lv_at hl 2 rfl) ?_
    have i27 : vp_in (nI e) 80 := gx_in (rfl : (nI e) = (nI e)) (by omega) (by decide)
    have k27 : ((nI e) : Int32).toNatClampNeg = e := gx_cl (rfl : (nI e) = (nI e)) (by omega)
    refine va_iald hx hb hK hP 3 0 rfl rfl i27 dP_evaluate_27 ?_
    rw [k27]
    refine lv_topi (fun v27 e27 => ?_)
    rw [hea] at e27
    subst e27
    refine lv_istore (lv' := [(5, .int (nI a)), (4, .int 8), (0, .ref g), (1, .int (nI e)), (2, .int (nI lv)), (3, .int (nI d))]) hx hb dP_evaluate_28 hl (by decide) rfl (fun ls hl => ?_)
    refine lv_aload_n hx hb dP_evaluate_30 rfl (lv_at hl 2 rfl) ?_
    refine va_get (D := D) (ci := 3) (v := .ref eo) (C := R_P) (T := F_P) (N := 4) hx hb ht i_P hown hK hP 0 rfl rfl 0 (by decide) (ht _ m_91) (fun _ h9 => h9) rfl dP_evaluate_31 ?_
    refine va_getN (D := D) (ci := 2) (v := .ref (eq 2)) (C := R_E) (T := F_E) (N := 5) hx hb ht i_E hown hK hP 1 rfl rfl 2 (by decide) (va_Nw.use rfl (hN _ mn_4)) (fun _ h9 => h9) rfl dP_evaluate_34 ?_
    refine lv_iload_n hx hb dP_evaluate_37 rfl (lv_at hl 3 rfl) ?_
    have i38 : vp_in (nI e) 80 := gx_in (rfl : (nI e) = (nI e)) (by omega) (by decide)
    have k38 : ((nI e) : Int32).toNatClampNeg = e := gx_cl (rfl : (nI e) = (nI e)) (by omega)
    refine va_iald hx hb hK hP 4 0 rfl rfl i38 dP_evaluate_38 ?_
    rw [k38]
    refine lv_topi (fun v38 e38 => ?_)
    rw [heb] at e38
    subst e38
    refine lv_istore (lv' := [(6, .int (nI b)), (5, .int (nI a)), (4, .int 8), (0, .ref g), (1, .int (nI e)), (2, .int (nI lv)), (3, .int (nI d))]) hx hb dP_evaluate_39 hl (by decide) rfl (fun ls hl => ?_)
    refine lv_iload hx hb dP_evaluate_41 (lv_at hl 2 rfl) ?_
    refine gc_i (va_runS (As := [.int 8]) (rest := []) ⟨hx, hb, hml, hown, ht⟩ (c_E_hasLeft l D cI cJ cB cZ 8 H.size) (va_cwS 1 ht (gw_S m_341 m_165 m_3 m_166) rfl rfl rfl (by decide +kernel) ⟨show 0 + 1 ≤ 8 * (n + 1) + 8 by omega, show 8 + (1 + 11) + (0) ≤ 200 * (n + 1) + 200 by omega⟩) (gp_S hK hN (hP.sub (ws' := ([] : va_W)) [] rfl) (hD.sub (ws' := ([] : va_W)) [] (by decide) rfl)) rfl rfl hl.1 rfl (lv_room (Nat.le_of_ble_eq_true rfl)) dP_evaluate_43 ⟨Nat.le_of_ble_eq_true rfl, Nat.le_of_ble_eq_true rfl⟩) hP hD hS hA [] rfl (by decide) (fun r w h => by obtain ⟨_, rfl⟩ := h; rfl) (fun r43 w43 H locs p43 hP hD hS => ?_)
    obtain ⟨rfl, rfl⟩ := p43
    have hP : va_P D vwCl ([(g, .inr (3, [.ref eo, .ref bo, .ref t, .ref co])), (eo, .inr (2, [.ref (eq 0), .ref (eq 1), .ref (eq 2), .ref (eq 3), .int (nI X.2.2.2.2)])), ((eq 0), .inl (cI, 80, .inl X.1)), ((eq 1), .inl (cI, 80, .inl X.2.1)), ((eq 2), .inl (cI, 80, .inl X.2.2.1)), ((eq 3), .inl (cI, 80, .inl X.2.2.2.1)), (bo, .inl (cB, 8, .inr (.inr (.inr (.inr ba))))), (t, .inr (4, [.ref (tq 0), .ref (tq 1), .ref (tq 2), .ref (tq 3), .ref (tq 4), .ref (tq 5), .ref (tq 6), .ref (tq 7), .int (nI S.1.2.2.2.2)])), ((tq 0), .inl (cI, 64, .inl (fun z9 => nI (S.1.1 z9)))), ((tq 1), .inl (cI, 64, .inl (fun z9 => nI (S.1.2.1 z9)))), ((tq 2), .inl (cI, 64, .inl (fun z9 => nI (S.1.2.2.1 z9)))), ((tq 3), .inl (cJ, 64, .inr (.inl S.1.2.2.2.1))), ((tq 4), .inl (cJ, 64, .inr (.inl f1))), ((tq 5), .inl (cJ, 64, .inr (.inl f2))), ((tq 6), .inl (cJ, 64, .inr (.inl f3))), ((tq 7), .inl (cJ, 64, .inr (.inl f4))), (co, .inl (cI, 112, .inl (fun z9 => nI (S.2 z9))))] ++ tl) H := hP
    have hD : va_D A ([(g, .inr (3, [.ref eo, .ref bo, .ref t, .ref co])), (eo, .inr (2, [.ref (eq 0), .ref (eq 1), .ref (eq 2), .ref (eq 3), .int (nI X.2.2.2.2)])), ((eq 0), .inl (cI, 80, .inl X.1)), ((eq 1), .inl (cI, 80, .inl X.2.1)), ((eq 2), .inl (cI, 80, .inl X.2.2.1)), ((eq 3), .inl (cI, 80, .inl X.2.2.2.1)), (bo, .inl (cB, 8, .inr (.inr (.inr (.inr ba))))), (t, .inr (4, [.ref (tq 0), .ref (tq 1), .ref (tq 2), .ref (tq 3), .ref (tq 4), .ref (tq 5), .ref (tq 6), .ref (tq 7), .int (nI S.1.2.2.2.2)])), ((tq 0), .inl (cI, 64, .inl (fun z9 => nI (S.1.1 z9)))), ((tq 1), .inl (cI, 64, .inl (fun z9 => nI (S.1.2.1 z9)))), ((tq 2), .inl (cI, 64, .inl (fun z9 => nI (S.1.2.2.1 z9)))), ((tq 3), .inl (cJ, 64, .inr (.inl S.1.2.2.2.1))), ((tq 4), .inl (cJ, 64, .inr (.inl f1))), ((tq 5), .inl (cJ, 64, .inr (.inl f2))), ((tq 6), .inl (cJ, 64, .inr (.inl f3))), ((tq 7), .inl (cJ, 64, .inr (.inl f4))), (co, .inl (cI, 112, .inl (fun z9 => nI (S.2 z9))))] ++ tl) := hD
    refine lv_if_eq (tgt := 62) hx hb dP_evaluate_46 (by decide) (fun c46 => ?_) (fun c46 => ?_)
    · exact (gb_1.mp c46 (by decide)).elim
    · refine lv_aload_n hx hb dP_evaluate_49 rfl (lv_at hl 3 rfl) ?_
      refine lv_iload hx hb dP_evaluate_50 (lv_at hl 1 rfl) ?_
      refine lv_iload_n hx hb dP_evaluate_52 rfl (lv_at hl 5 rfl) ?_
      refine lv_iload_n hx hb dP_evaluate_53 rfl (lv_at hl 6 rfl) ?_
      refine lv_iconst (v := 1) hx hb dP_evaluate_54 (by decide) ?_
      refine lv_iadd hx hb dP_evaluate_55 ?_
      refine lv_topi (fun v55 e55 => ?_)
      have n55 : v55 = nI (d + 1) := by rw [e55]; exact gx_add (rfl : (nI d) = (nI d)) (rfl : (1 : Int32) = nI 1)
      subst n55
      refine gc_wi (va_runV (As := [.int (nI a), .int (nI lv), .int (nI (d + 1))]) (rest := []) ⟨hx, hb, hml, hown, ht⟩ (hE (d + 1) a lv S (by omega) (by omega) hlv hS9 H.size) (cwV 3 ht (gw_V m_337 m_339 ms_12 m_2 m_340) rfl rfl rfl (by decide +kernel) ⟨show (8 * n + 8) + 1 ≤ 8 * (n + 1) + 8 by omega, show 8 + (9 + 11) + (200 * n + 200) ≤ 200 * (n + 1) + 200 by omega⟩) (gp_V (ci := 3) (q0 := 0) hK hN hP hD rfl rfl) rfl rfl hl.1 rfl (lv_room (Nat.le_of_ble_eq_true rfl)) dP_evaluate_56 ⟨Nat.le_of_ble_eq_true rfl, Nat.le_of_ble_eq_true rfl⟩) hP hD hS hA (fun r56 w56 H locs p56 hP hD hS => ?_)
      obtain ⟨rfl, rfl⟩ := p56
      have hP : va_P D vwCl ([(g, .inr (3, [.ref eo, .ref bo, .ref t, .ref co])), (eo, .inr (2, [.ref (eq 0), .ref (eq 1), .ref (eq 2), .ref (eq 3), .int (nI X.2.2.2.2)])), ((eq 0), .inl (cI, 80, .inl X.1)), ((eq 1), .inl (cI, 80, .inl X.2.1)), ((eq 2), .inl (cI, 80, .inl X.2.2.1)), ((eq 3), .inl (cI, 80, .inl X.2.2.2.1)), (bo, .inl (cB, 8, .inr (.inr (.inr (.inr ba))))), (t, .inr (4, [.ref (tq 0), .ref (tq 1), .ref (tq 2), .ref (tq 3), .ref (tq 4), .ref (tq 5), .ref (tq 6), .ref (tq 7), .int (nI (((((pg X ba Bs n).1 a lv S).2).1).2.2.2.2))])), ((tq 0), .inl (cI, 64, .inl (fun z9 => nI ((((((pg X ba Bs n).1 a lv S).2).1).1) z9)))), ((tq 1), .inl (cI, 64, .inl (fun z9 => nI ((((((pg X ba Bs n).1 a lv S).2).1).2.1) z9)))), ((tq 2), .inl (cI, 64, .inl (fun z9 => nI ((((((pg X ba Bs n).1 a lv S).2).1).2.2.1) z9)))), ((tq 3), .inl (cJ, 64, .inr (.inl (((((pg X ba Bs n).1 a lv S).2).1).2.2.2.1)))), ((tq 4), .inl (cJ, 64, .inr (.inl f1))), ((tq 5), .inl (cJ, 64, .inr (.inl f2))), ((tq 6), .inl (cJ, 64, .inr (.inl f3))), ((tq 7), .inl (cJ, 64, .inr (.inl f4))), (co, .inl (cI, 112, .inl (fun z9 => nI (((((pg X ba Bs n).1 a lv S).2).2) z9))))] ++ tl) H := hP
      have hD : va_D A ([(g, .inr (3, [.ref eo, .ref bo, .ref t, .ref co])), (eo, .inr (2, [.ref (eq 0), .ref (eq 1), .ref (eq 2), .ref (eq 3), .int (nI X.2.2.2.2)])), ((eq 0), .inl (cI, 80, .inl X.1)), ((eq 1), .inl (cI, 80, .inl X.2.1)), ((eq 2), .inl (cI, 80, .inl X.2.2.1)), ((eq 3), .inl (cI, 80, .inl X.2.2.2.1)), (bo, .inl (cB, 8, .inr (.inr (.inr (.inr ba))))), (t, .inr (4, [.ref (tq 0), .ref (tq 1), .ref (tq 2), .ref (tq 3), .ref (tq 4), .ref (tq 5), .ref (tq 6), .ref (tq 7), .int (nI (((((pg X ba Bs n).1 a lv S).2).1).2.2.2.2))])), ((tq 0), .inl (cI, 64, .inl (fun z9 => nI ((((((pg X ba Bs n).1 a lv S).2).1).1) z9)))), ((tq 1), .inl (cI, 64, .inl (fun z9 => nI ((((((pg X ba Bs n).1 a lv S).2).1).2.1) z9)))), ((tq 2), .inl (cI, 64, .inl (fun z9 => nI ((((((pg X ba Bs n).1 a lv S).2).1).2.2.1) z9)))), ((tq 3), .inl (cJ, 64, .inr (.inl (((((pg X ba Bs n).1 a lv S).2).1).2.2.2.1)))), ((tq 4), .inl (cJ, 64, .inr (.inl f1))), ((tq 5), .inl (cJ, 64, .inr (.inl f2))), ((tq 6), .inl (cJ, 64, .inr (.inl f3))), ((tq 7), .inl (cJ, 64, .inr (.inl f4))), (co, .inl (cI, 112, .inl (fun z9 => nI (((((pg X ba Bs n).1 a lv S).2).2) z9))))] ++ tl) := hD
      have b56 := hre a lv S (by omega) hlv hS9
      have b56x := b56.1
      have b56y := b56.2.1
      refine lv_goto (tgt := 63) hx hb dP_evaluate_59 (by decide) ?_
      refine lv_istore (lv' := [(7, .int (nI (((pg X ba Bs n).1 a lv S).1))), (6, .int (nI b)), (5, .int (nI a)), (4, .int 8), (0, .ref g), (1, .int (nI e)), (2, .int (nI lv)), (3, .int (nI d))]) hx hb dP_evaluate_63 hl (by decide) rfl (fun ls hl => ?_)
      refine lv_iload hx hb dP_evaluate_65 (lv_at hl 3 rfl) ?_
      refine gc_i (va_runS (As := [.int 8]) (rest := []) ⟨hx, hb, hml, hown, ht⟩ (c_E_hasRight l D cI cJ cB cZ 8 H.size) (va_cwS 1 ht (gw_S m_342 m_175 m_3 m_176) rfl rfl rfl (by decide +kernel) ⟨show 0 + 1 ≤ 8 * (n + 1) + 8 by omega, show 8 + (1 + 11) + (0) ≤ 200 * (n + 1) + 200 by omega⟩) (gp_S hK hN (hP.sub (ws' := ([] : va_W)) [] rfl) (hD.sub (ws' := ([] : va_W)) [] (by decide) rfl)) rfl rfl hl.1 rfl (lv_room (Nat.le_of_ble_eq_true rfl)) dP_evaluate_67 ⟨Nat.le_of_ble_eq_true rfl, Nat.le_of_ble_eq_true rfl⟩) hP hD hS hA [] rfl (by decide) (fun r w h => by obtain ⟨_, rfl⟩ := h; rfl) (fun r67 w67 H locs p67 hP hD hS => ?_)
      obtain ⟨rfl, rfl⟩ := p67
      have hP : va_P D vwCl ([(g, .inr (3, [.ref eo, .ref bo, .ref t, .ref co])), (eo, .inr (2, [.ref (eq 0), .ref (eq 1), .ref (eq 2), .ref (eq 3), .int (nI X.2.2.2.2)])), ((eq 0), .inl (cI, 80, .inl X.1)), ((eq 1), .inl (cI, 80, .inl X.2.1)), ((eq 2), .inl (cI, 80, .inl X.2.2.1)), ((eq 3), .inl (cI, 80, .inl X.2.2.2.1)), (bo, .inl (cB, 8, .inr (.inr (.inr (.inr ba))))), (t, .inr (4, [.ref (tq 0), .ref (tq 1), .ref (tq 2), .ref (tq 3), .ref (tq 4), .ref (tq 5), .ref (tq 6), .ref (tq 7), .int (nI (((((pg X ba Bs n).1 a lv S).2).1).2.2.2.2))])), ((tq 0), .inl (cI, 64, .inl (fun z9 => nI ((((((pg X ba Bs n).1 a lv S).2).1).1) z9)))), ((tq 1), .inl (cI, 64, .inl (fun z9 => nI ((((((pg X ba Bs n).1 a lv S).2).1).2.1) z9)))), ((tq 2), .inl (cI, 64, .inl (fun z9 => nI ((((((pg X ba Bs n).1 a lv S).2).1).2.2.1) z9)))), ((tq 3), .inl (cJ, 64, .inr (.inl (((((pg X ba Bs n).1 a lv S).2).1).2.2.2.1)))), ((tq 4), .inl (cJ, 64, .inr (.inl f1))), ((tq 5), .inl (cJ, 64, .inr (.inl f2))), ((tq 6), .inl (cJ, 64, .inr (.inl f3))), ((tq 7), .inl (cJ, 64, .inr (.inl f4))), (co, .inl (cI, 112, .inl (fun z9 => nI (((((pg X ba Bs n).1 a lv S).2).2) z9))))] ++ tl) H := hP
      have hD : va_D A ([(g, .inr (3, [.ref eo, .ref bo, .ref t, .ref co])), (eo, .inr (2, [.ref (eq 0), .ref (eq 1), .ref (eq 2), .ref (eq 3), .int (nI X.2.2.2.2)])), ((eq 0), .inl (cI, 80, .inl X.1)), ((eq 1), .inl (cI, 80, .inl X.2.1)), ((eq 2), .inl (cI, 80, .inl X.2.2.1)), ((eq 3), .inl (cI, 80, .inl X.2.2.2.1)), (bo, .inl (cB, 8, .inr (.inr (.inr (.inr ba))))), (t, .inr (4, [.ref (tq 0), .ref (tq 1), .ref (tq 2), .ref (tq 3), .ref (tq 4), .ref (tq 5), .ref (tq 6), .ref (tq 7), .int (nI (((((pg X ba Bs n).1 a lv S).2).1).2.2.2.2))])), ((tq 0), .inl (cI, 64, .inl (fun z9 => nI ((((((pg X ba Bs n).1 a lv S).2).1).1) z9)))), ((tq 1), .inl (cI, 64, .inl (fun z9 => nI ((((((pg X ba Bs n).1 a lv S).2).1).2.1) z9)))), ((tq 2), .inl (cI, 64, .inl (fun z9 => nI ((((((pg X ba Bs n).1 a lv S).2).1).2.2.1) z9)))), ((tq 3), .inl (cJ, 64, .inr (.inl (((((pg X ba Bs n).1 a lv S).2).1).2.2.2.1)))), ((tq 4), .inl (cJ, 64, .inr (.inl f1))), ((tq 5), .inl (cJ, 64, .inr (.inl f2))), ((tq 6), .inl (cJ, 64, .inr (.inl f3))), ((tq 7), .inl (cJ, 64, .inr (.inl f4))), (co, .inl (cI, 112, .inl (fun z9 => nI (((((pg X ba Bs n).1 a lv S).2).2) z9))))] ++ tl) := hD
      refine lv_if_eq (tgt := 86) hx hb dP_evaluate_70 (by decide) (fun c70 => ?_) (fun c70 => ?_)
      · exact (gb_1.mp c70 (by decide)).elim
      · refine lv_aload_n hx hb dP_evaluate_73 rfl (lv_at hl 4 rfl) ?_
        refine lv_iload hx hb dP_evaluate_74 (lv_at hl 1 rfl) ?_
        refine lv_iload_n hx hb dP_evaluate_76 rfl (lv_at hl 6 rfl) ?_
        refine lv_iload_n hx hb dP_evaluate_77 rfl (lv_at hl 7 rfl) ?_
        refine lv_iconst (v := 1) hx hb dP_evaluate_78 (by decide) ?_
        refine lv_iadd hx hb dP_evaluate_79 ?_
        refine lv_topi (fun v79 e79 => ?_)
        have n79 : v79 = nI (d + 1) := by rw [e79]; exact gx_add (rfl : (nI d) = (nI d)) (rfl : (1 : Int32) = nI 1)
        subst n79
        refine gc_wi (va_runV (As := [.int (nI b), .int (nI lv), .int (nI (d + 1))]) (rest := []) ⟨hx, hb, hml, hown, ht⟩ (hE (d + 1) b lv (((pg X ba Bs n).1 a lv S).2) (by omega) (by omega) hlv b56.2 H.size) (cwV 3 ht (gw_V m_337 m_339 ms_12 m_2 m_340) rfl rfl rfl (by decide +kernel) ⟨show (8 * n + 8) + 1 ≤ 8 * (n + 1) + 8 by omega, show 8 + (9 + 11) + (200 * n + 200) ≤ 200 * (n + 1) + 200 by omega⟩) (gp_V (ci := 3) (q0 := 0) hK hN hP hD rfl rfl) rfl rfl hl.1 rfl (lv_room (Nat.le_of_ble_eq_true rfl)) dP_evaluate_80 ⟨Nat.le_of_ble_eq_true rfl, Nat.le_of_ble_eq_true rfl⟩) hP hD hS hA (fun r80 w80 H locs p80 hP hD hS => ?_)
        obtain ⟨rfl, rfl⟩ := p80
        have hP : va_P D vwCl ([(g, .inr (3, [.ref eo, .ref bo, .ref t, .ref co])), (eo, .inr (2, [.ref (eq 0), .ref (eq 1), .ref (eq 2), .ref (eq 3), .int (nI X.2.2.2.2)])), ((eq 0), .inl (cI, 80, .inl X.1)), ((eq 1), .inl (cI, 80, .inl X.2.1)), ((eq 2), .inl (cI, 80, .inl X.2.2.1)), ((eq 3), .inl (cI, 80, .inl X.2.2.2.1)), (bo, .inl (cB, 8, .inr (.inr (.inr (.inr ba))))), (t, .inr (4, [.ref (tq 0), .ref (tq 1), .ref (tq 2), .ref (tq 3), .ref (tq 4), .ref (tq 5), .ref (tq 6), .ref (tq 7), .int (nI (((((pg X ba Bs n).1 b lv (((pg X ba Bs n).1 a lv S).2)).2).1).2.2.2.2))])), ((tq 0), .inl (cI, 64, .inl (fun z9 => nI ((((((pg X ba Bs n).1 b lv (((pg X ba Bs n).1 a lv S).2)).2).1).1) z9)))), ((tq 1), .inl (cI, 64, .inl (fun z9 => nI ((((((pg X ba Bs n).1 b lv (((pg X ba Bs n).1 a lv S).2)).2).1).2.1) z9)))), ((tq 2), .inl (cI, 64, .inl (fun z9 => nI ((((((pg X ba Bs n).1 b lv (((pg X ba Bs n).1 a lv S).2)).2).1).2.2.1) z9)))), ((tq 3), .inl (cJ, 64, .inr (.inl (((((pg X ba Bs n).1 b lv (((pg X ba Bs n).1 a lv S).2)).2).1).2.2.2.1)))), ((tq 4), .inl (cJ, 64, .inr (.inl f1))), ((tq 5), .inl (cJ, 64, .inr (.inl f2))), ((tq 6), .inl (cJ, 64, .inr (.inl f3))), ((tq 7), .inl (cJ, 64, .inr (.inl f4))), (co, .inl (cI, 112, .inl (fun z9 => nI (((((pg X ba Bs n).1 b lv (((pg X ba Bs n).1 a lv S).2)).2).2) z9))))] ++ tl) H := hP
        have hD : va_D A ([(g, .inr (3, [.ref eo, .ref bo, .ref t, .ref co])), (eo, .inr (2, [.ref (eq 0), .ref (eq 1), .ref (eq 2), .ref (eq 3), .int (nI X.2.2.2.2)])), ((eq 0), .inl (cI, 80, .inl X.1)), ((eq 1), .inl (cI, 80, .inl X.2.1)), ((eq 2), .inl (cI, 80, .inl X.2.2.1)), ((eq 3), .inl (cI, 80, .inl X.2.2.2.1)), (bo, .inl (cB, 8, .inr (.inr (.inr (.inr ba))))), (t, .inr (4, [.ref (tq 0), .ref (tq 1), .ref (tq 2), .ref (tq 3), .ref (tq 4), .ref (tq 5), .ref (tq 6), .ref (tq 7), .int (nI (((((pg X ba Bs n).1 b lv (((pg X ba Bs n).1 a lv S).2)).2).1).2.2.2.2))])), ((tq 0), .inl (cI, 64, .inl (fun z9 => nI ((((((pg X ba Bs n).1 b lv (((pg X ba Bs n).1 a lv S).2)).2).1).1) z9)))), ((tq 1), .inl (cI, 64, .inl (fun z9 => nI ((((((pg X ba Bs n).1 b lv (((pg X ba Bs n).1 a lv S).2)).2).1).2.1) z9)))), ((tq 2), .inl (cI, 64, .inl (fun z9 => nI ((((((pg X ba Bs n).1 b lv (((pg X ba Bs n).1 a lv S).2)).2).1).2.2.1) z9)))), ((tq 3), .inl (cJ, 64, .inr (.inl (((((pg X ba Bs n).1 b lv (((pg X ba Bs n).1 a lv S).2)).2).1).2.2.2.1)))), ((tq 4), .inl (cJ, 64, .inr (.inl f1))), ((tq 5), .inl (cJ, 64, .inr (.inl f2))), ((tq 6), .inl (cJ, 64, .inr (.inl f3))), ((tq 7), .inl (cJ, 64, .inr (.inl f4))), (co, .inl (cI, 112, .inl (fun z9 => nI (((((pg X ba Bs n).1 b lv (((pg X ba Bs n).1 a lv S).2)).2).2) z9))))] ++ tl) := hD
        have b80 := hre b lv (((pg X ba Bs n).1 a lv S).2) (by omega) hlv b56.2
        have b80x := b80.1
        have b80y := b80.2.1
        refine lv_goto (tgt := 87) hx hb dP_evaluate_83 (by decide) ?_
        refine lv_istore (lv' := [(8, .int (nI (((pg X ba Bs n).1 b lv (((pg X ba Bs n).1 a lv S).2)).1))), (7, .int (nI (((pg X ba Bs n).1 a lv S).1))), (6, .int (nI b)), (5, .int (nI a)), (4, .int 8), (0, .ref g), (1, .int (nI e)), (2, .int (nI lv)), (3, .int (nI d))]) hx hb dP_evaluate_87 hl (by decide) rfl (fun ls hl => ?_)
        refine lv_iload hx hb dP_evaluate_89 (lv_at hl 4 rfl) ?_
        refine lv_tableIn (tgt := 227) (off := 136) hx hb dP_evaluate_91 (by decide) (by decide) (by rfl) (by decide) ?_
        refine lv_aload_n hx hb dP_evaluate_227 rfl (lv_at hl 5 rfl) ?_
        refine lv_iload hx hb dP_evaluate_228 (lv_at hl 4 rfl) ?_
        refine lv_iload hx hb dP_evaluate_230 (lv_at hl 1 rfl) ?_
        refine lv_iload hx hb dP_evaluate_232 (lv_at hl 0 rfl) ?_
        refine gc_wi (va_runV (As := [.int 8, .int (nI (((pg X ba Bs n).1 a lv S).1)), .int (nI (((pg X ba Bs n).1 b lv (((pg X ba Bs n).1 a lv S).2)).1))]) (rest := []) ⟨hx, hb, hml, hown, ht⟩ (c_P_combine l D cI cJ cB cZ g eo bo t co eq tq tl X ba f1 f2 f3 f4 (((pg X ba Bs n).1 b lv (((pg X ba Bs n).1 a lv S).2)).2) 8 (((pg X ba Bs n).1 a lv S).1) (((pg X ba Bs n).1 b lv (((pg X ba Bs n).1 a lv S).2)).1) (by omega) b80.2.1 (by omega) (by omega) H.size) (cwV 3 ht (gw_V m_361 m_363 ms_14 m_2 m_364) rfl rfl rfl (by decide +kernel) ⟨show 3 + 1 ≤ 8 * (n + 1) + 8 by omega, show 8 + (4 + 11) + (69) ≤ 200 * (n + 1) + 200 by omega⟩) (gp_V (ci := 3) (q0 := 0) hK hN hP hD rfl rfl) rfl rfl hl.1 rfl (lv_room (Nat.le_of_ble_eq_true rfl)) dP_evaluate_234 ⟨Nat.le_of_ble_eq_true rfl, Nat.le_of_ble_eq_true rfl⟩) hP hD hS hA (fun r234 w234 H locs p234 hP hD hS => ?_)
        obtain ⟨rfl, rfl⟩ := p234
        have hP : va_P D vwCl ([(g, .inr (3, [.ref eo, .ref bo, .ref t, .ref co])), (eo, .inr (2, [.ref (eq 0), .ref (eq 1), .ref (eq 2), .ref (eq 3), .int (nI X.2.2.2.2)])), ((eq 0), .inl (cI, 80, .inl X.1)), ((eq 1), .inl (cI, 80, .inl X.2.1)), ((eq 2), .inl (cI, 80, .inl X.2.2.1)), ((eq 3), .inl (cI, 80, .inl X.2.2.2.1)), (bo, .inl (cB, 8, .inr (.inr (.inr (.inr ba))))), (t, .inr (4, [.ref (tq 0), .ref (tq 1), .ref (tq 2), .ref (tq 3), .ref (tq 4), .ref (tq 5), .ref (tq 6), .ref (tq 7), .int (nI ((((px_comb 8 (((pg X ba Bs n).1 a lv S).1) (((pg X ba Bs n).1 b lv (((pg X ba Bs n).1 a lv S).2)).1) ((((pg X ba Bs n).1 b lv (((pg X ba Bs n).1 a lv S).2)).2).1)).2, ((((pg X ba Bs n).1 b lv (((pg X ba Bs n).1 a lv S).2)).2).2)).1).2.2.2.2))])), ((tq 0), .inl (cI, 64, .inl (fun z9 => nI (((((px_comb 8 (((pg X ba Bs n).1 a lv S).1) (((pg X ba Bs n).1 b lv (((pg X ba Bs n).1 a lv S).2)).1) ((((pg X ba Bs n).1 b lv (((pg X ba Bs n).1 a lv S).2)).2).1)).2, ((((pg X ba Bs n).1 b lv (((pg X ba Bs n).1 a lv S).2)).2).2)).1).1) z9)))), ((tq 1), .inl (cI, 64, .inl (fun z9 => nI (((((px_comb 8 (((pg X ba Bs n).1 a lv S).1) (((pg X ba Bs n).1 b lv (((pg X ba Bs n).1 a lv S).2)).1) ((((pg X ba Bs n).1 b lv (((pg X ba Bs n).1 a lv S).2)).2).1)).2, ((((pg X ba Bs n).1 b lv (((pg X ba Bs n).1 a lv S).2)).2).2)).1).2.1) z9)))), ((tq 2), .inl (cI, 64, .inl (fun z9 => nI (((((px_comb 8 (((pg X ba Bs n).1 a lv S).1) (((pg X ba Bs n).1 b lv (((pg X ba Bs n).1 a lv S).2)).1) ((((pg X ba Bs n).1 b lv (((pg X ba Bs n).1 a lv S).2)).2).1)).2, ((((pg X ba Bs n).1 b lv (((pg X ba Bs n).1 a lv S).2)).2).2)).1).2.2.1) z9)))), ((tq 3), .inl (cJ, 64, .inr (.inl ((((px_comb 8 (((pg X ba Bs n).1 a lv S).1) (((pg X ba Bs n).1 b lv (((pg X ba Bs n).1 a lv S).2)).1) ((((pg X ba Bs n).1 b lv (((pg X ba Bs n).1 a lv S).2)).2).1)).2, ((((pg X ba Bs n).1 b lv (((pg X ba Bs n).1 a lv S).2)).2).2)).1).2.2.2.1)))), ((tq 4), .inl (cJ, 64, .inr (.inl f1))), ((tq 5), .inl (cJ, 64, .inr (.inl f2))), ((tq 6), .inl (cJ, 64, .inr (.inl f3))), ((tq 7), .inl (cJ, 64, .inr (.inl f4))), (co, .inl (cI, 112, .inl (fun z9 => nI ((((px_comb 8 (((pg X ba Bs n).1 a lv S).1) (((pg X ba Bs n).1 b lv (((pg X ba Bs n).1 a lv S).2)).1) ((((pg X ba Bs n).1 b lv (((pg X ba Bs n).1 a lv S).2)).2).1)).2, ((((pg X ba Bs n).1 b lv (((pg X ba Bs n).1 a lv S).2)).2).2)).2) z9))))] ++ tl) H := hP
        have hD : va_D A ([(g, .inr (3, [.ref eo, .ref bo, .ref t, .ref co])), (eo, .inr (2, [.ref (eq 0), .ref (eq 1), .ref (eq 2), .ref (eq 3), .int (nI X.2.2.2.2)])), ((eq 0), .inl (cI, 80, .inl X.1)), ((eq 1), .inl (cI, 80, .inl X.2.1)), ((eq 2), .inl (cI, 80, .inl X.2.2.1)), ((eq 3), .inl (cI, 80, .inl X.2.2.2.1)), (bo, .inl (cB, 8, .inr (.inr (.inr (.inr ba))))), (t, .inr (4, [.ref (tq 0), .ref (tq 1), .ref (tq 2), .ref (tq 3), .ref (tq 4), .ref (tq 5), .ref (tq 6), .ref (tq 7), .int (nI ((((px_comb 8 (((pg X ba Bs n).1 a lv S).1) (((pg X ba Bs n).1 b lv (((pg X ba Bs n).1 a lv S).2)).1) ((((pg X ba Bs n).1 b lv (((pg X ba Bs n).1 a lv S).2)).2).1)).2, ((((pg X ba Bs n).1 b lv (((pg X ba Bs n).1 a lv S).2)).2).2)).1).2.2.2.2))])), ((tq 0), .inl (cI, 64, .inl (fun z9 => nI (((((px_comb 8 (((pg X ba Bs n).1 a lv S).1) (((pg X ba Bs n).1 b lv (((pg X ba Bs n).1 a lv S).2)).1) ((((pg X ba Bs n).1 b lv (((pg X ba Bs n).1 a lv S).2)).2).1)).2, ((((pg X ba Bs n).1 b lv (((pg X ba Bs n).1 a lv S).2)).2).2)).1).1) z9)))), ((tq 1), .inl (cI, 64, .inl (fun z9 => nI (((((px_comb 8 (((pg X ba Bs n).1 a lv S).1) (((pg X ba Bs n).1 b lv (((pg X ba Bs n).1 a lv S).2)).1) ((((pg X ba Bs n).1 b lv (((pg X ba Bs n).1 a lv S).2)).2).1)).2, ((((pg X ba Bs n).1 b lv (((pg X ba Bs n).1 a lv S).2)).2).2)).1).2.1) z9)))), ((tq 2), .inl (cI, 64, .inl (fun z9 => nI (((((px_comb 8 (((pg X ba Bs n).1 a lv S).1) (((pg X ba Bs n).1 b lv (((pg X ba Bs n).1 a lv S).2)).1) ((((pg X ba Bs n).1 b lv (((pg X ba Bs n).1 a lv S).2)).2).1)).2, ((((pg X ba Bs n).1 b lv (((pg X ba Bs n).1 a lv S).2)).2).2)).1).2.2.1) z9)))), ((tq 3), .inl (cJ, 64, .inr (.inl ((((px_comb 8 (((pg X ba Bs n).1 a lv S).1) (((pg X ba Bs n).1 b lv (((pg X ba Bs n).1 a lv S).2)).1) ((((pg X ba Bs n).1 b lv (((pg X ba Bs n).1 a lv S).2)).2).1)).2, ((((pg X ba Bs n).1 b lv (((pg X ba Bs n).1 a lv S).2)).2).2)).1).2.2.2.1)))), ((tq 4), .inl (cJ, 64, .inr (.inl f1))), ((tq 5), .inl (cJ, 64, .inr (.inl f2))), ((tq 6), .inl (cJ, 64, .inr (.inl f3))), ((tq 7), .inl (cJ, 64, .inr (.inl f4))), (co, .inl (cI, 112, .inl (fun z9 => nI ((((px_comb 8 (((pg X ba Bs n).1 a lv S).1) (((pg X ba Bs n).1 b lv (((pg X ba Bs n).1 a lv S).2)).1) ((((pg X ba Bs n).1 b lv (((pg X ba Bs n).1 a lv S).2)).2).1)).2, ((((pg X ba Bs n).1 b lv (((pg X ba Bs n).1 a lv S).2)).2).2)).2) z9))))] ++ tl) := hD
        have hz : (pg X ba Bs (n + 1)).1 e lv S = (((px_comb 8 (((pg X ba Bs n).1 a lv S).1) (((pg X ba Bs n).1 b lv (((pg X ba Bs n).1 a lv S).2)).1) ((((pg X ba Bs n).1 b lv (((pg X ba Bs n).1 a lv S).2)).2).1)).1), (px_comb 8 (((pg X ba Bs n).1 a lv S).1) (((pg X ba Bs n).1 b lv (((pg X ba Bs n).1 a lv S).2)).1) ((((pg X ba Bs n).1 b lv (((pg X ba Bs n).1 a lv S).2)).2).1)).2, ((((pg X ba Bs n).1 b lv (((pg X ba Bs n).1 a lv S).2)).2).2)) := by
          show px_ev X (pg X ba Bs n).1 (px_ent ba Bs (pg X ba Bs n).2) e lv S = _
          simp [px_ev, px_r1, px_r2, px_R, hke, hea, heb, show cn (8 : Int32) = 8 from rfl, cn_nI (show a < 2 ^ 31 by omega), cn_nI (show b < 2 ^ 31 by omega)]
        exact W.iret (v := (nI ((px_comb 8 (((pg X ba Bs n).1 a lv S).1) (((pg X ba Bs n).1 b lv (((pg X ba Bs n).1 a lv S).2)).1) ((((pg X ba Bs n).1 b lv (((pg X ba Bs n).1 a lv S).2)).2).1)).1))) hx hb hr (fun t9 ht9 hW => ⟨⟨(nI ((px_comb 8 (((pg X ba Bs n).1 a lv S).1) (((pg X ba Bs n).1 b lv (((pg X ba Bs n).1 a lv S).2)).1) ((((pg X ba Bs n).1 b lv (((pg X ba Bs n).1 a lv S).2)).2).1)).1)), _, rfl, ⟨by rw [hz], by rw [hz]⟩, by rw [ht9]; exact hP, hD⟩, hS.F ht9⟩) hS.2.2 dP_evaluate_237
  · have g3 : ¬ (d ≤ 50) := fun z => c3 ((gx_le (rfl : (nI d) = (nI d)) (rfl : (50 : Int32) = nI 50) (by omega) (by decide)).mpr z)
    exact absurd g3 (by omega)

set_option maxHeartbeats 4000000 in
set_option maxRecDepth 100000 in
theorem c_P_evaluate_9 (l : Launch) (D : va_G) (cI cJ cB cZ : ClassId) (g eo bo t co : Nat) (eq tq : Nat → Nat) (tl : va_W) (X : Ex) (ba : Nat → Option Nat) (f1 f2 f3 f4 : Nat → Int64) (Bs : Nat → Bd) (n d e lv : Nat) (S : Sx) (a : Nat) (b : Nat) (hE : cE l D cI cJ cB cZ g eo bo t co eq tq tl X ba f1 f2 f3 f4 Bs n) (hN9 : cN l D cI cJ cB cZ g eo bo t co eq tq tl X ba f1 f2 f3 f4 Bs n) (hd : d + (n + 1) = 51) (hX80 : X.2.2.2.2 ≤ 80) (he : e < X.2.2.2.2) (hlv : lv < 8) (hS9 : sx_ok S) (hre : re_ok X (pg X ba Bs n).1) (hke : X.1 e = 9) (ha : a < e) (hea : X.2.1 e = nI a) (hb8 : b < e) (heb : X.2.2.1 e = nI b) : ct_I l y_P_evaluate w_P_evaluate ({ frames := 8 * (n + 1) + 8, cells := 0, slots := 0, locals := 200 * (n + 1) + 200 }) D (gk_T cI cJ cB cZ) [.ref g, .int (nI e), .int (nI lv), .int (nI d)] (wPg cI cJ cB g eo bo t co eq tq X ba S f1 f2 f3 f4 ++ tl) (0) (0) (fun r w => r = nI ((pg X ba Bs (n + 1)).1 e lv S).1 ∧ w = (wPg cI cJ cB g eo bo t co eq tq X ba (((pg X ba Bs (n + 1)).1 e lv S).2) f1 f2 f3 f4 ++ tl)) := by
  intro sz
  refine Met.ofW (cc := b_P_evaluate) (maxL := 9) (ret := (some .int)) (by decide) rfl ?_
  intro p ev9 s m args below meth c s₁ B9 hml hv
  obtain ⟨rfl, hsz, hP, hK, hN, hD0⟩ := hv
  have hx := B9.exec
  have hb := B9.bytes
  have hr := B9.returns
  have hts := atoms_spec (ws := w_P_evaluate) B9.pre
  have ht : ∀ w ∈ gk_big, w.before _ s = true := fun w h => hts w (List.mem_cons_of_mem _ h)
  have hown : s.vm.findClass R_P = some m.cls := findClass_of_methodNamed B9.named
  have hlocks := B9.notSynchronized
  subst hsz
  have hD := hD0.self (sz := s.heap.size)
  generalize hAe : va_A (wPg cI cJ cB g eo bo t co eq tq X ba S f1 f2 f3 f4 ++ tl) s.heap.size = A at hD ⊢
  have hA : ∀ q : Nat, s.heap.size ≤ q → A q := fun q h => by rw [← hAe]; exact Or.inr h
  generalize hHe : s.heap = H at hP ⊢
  have hS : va_S A s.heap H [] := by rw [← hHe]; exact va_S.rf
  have hP : va_P D vwCl ([(g, .inr (3, [.ref eo, .ref bo, .ref t, .ref co])), (eo, .inr (2, [.ref (eq 0), .ref (eq 1), .ref (eq 2), .ref (eq 3), .int (nI X.2.2.2.2)])), ((eq 0), .inl (cI, 80, .inl X.1)), ((eq 1), .inl (cI, 80, .inl X.2.1)), ((eq 2), .inl (cI, 80, .inl X.2.2.1)), ((eq 3), .inl (cI, 80, .inl X.2.2.2.1)), (bo, .inl (cB, 8, .inr (.inr (.inr (.inr ba))))), (t, .inr (4, [.ref (tq 0), .ref (tq 1), .ref (tq 2), .ref (tq 3), .ref (tq 4), .ref (tq 5), .ref (tq 6), .ref (tq 7), .int (nI S.1.2.2.2.2)])), ((tq 0), .inl (cI, 64, .inl (fun z9 => nI (S.1.1 z9)))), ((tq 1), .inl (cI, 64, .inl (fun z9 => nI (S.1.2.1 z9)))), ((tq 2), .inl (cI, 64, .inl (fun z9 => nI (S.1.2.2.1 z9)))), ((tq 3), .inl (cJ, 64, .inr (.inl S.1.2.2.2.1))), ((tq 4), .inl (cJ, 64, .inr (.inl f1))), ((tq 5), .inl (cJ, 64, .inr (.inl f2))), ((tq 6), .inl (cJ, 64, .inr (.inl f3))), ((tq 7), .inl (cJ, 64, .inr (.inl f4))), (co, .inl (cI, 112, .inl (fun z9 => nI (S.2 z9))))] ++ tl) H := hP
  have hD : va_D A ([(g, .inr (3, [.ref eo, .ref bo, .ref t, .ref co])), (eo, .inr (2, [.ref (eq 0), .ref (eq 1), .ref (eq 2), .ref (eq 3), .int (nI X.2.2.2.2)])), ((eq 0), .inl (cI, 80, .inl X.1)), ((eq 1), .inl (cI, 80, .inl X.2.1)), ((eq 2), .inl (cI, 80, .inl X.2.2.1)), ((eq 3), .inl (cI, 80, .inl X.2.2.2.1)), (bo, .inl (cB, 8, .inr (.inr (.inr (.inr ba))))), (t, .inr (4, [.ref (tq 0), .ref (tq 1), .ref (tq 2), .ref (tq 3), .ref (tq 4), .ref (tq 5), .ref (tq 6), .ref (tq 7), .int (nI S.1.2.2.2.2)])), ((tq 0), .inl (cI, 64, .inl (fun z9 => nI (S.1.1 z9)))), ((tq 1), .inl (cI, 64, .inl (fun z9 => nI (S.1.2.1 z9)))), ((tq 2), .inl (cI, 64, .inl (fun z9 => nI (S.1.2.2.1 z9)))), ((tq 3), .inl (cJ, 64, .inr (.inl S.1.2.2.2.1))), ((tq 4), .inl (cJ, 64, .inr (.inl f1))), ((tq 5), .inl (cJ, 64, .inr (.inl f2))), ((tq 6), .inl (cJ, 64, .inr (.inl f3))), ((tq 7), .inl (cJ, 64, .inr (.inl f4))), (co, .inl (cI, 112, .inl (fun z9 => nI (S.2 z9))))] ++ tl) := hD
  have hl := lv_entry ([.ref g, .int (nI e), .int (nI lv), .int (nI d)]) (n := 9) (Nat.le_of_ble_eq_true rfl)
  rw [lg_entry_eq]
  generalize (lg_sl ([.ref g, .int (nI e), .int (nI lv), .int (nI d)]) ++ List.replicate (9 - (lg_sl ([.ref g, .int (nI e), .int (nI lv), .int (nI d)])).length) Slot.unset).toArray = ls at hl ⊢
  have hl : lv_has ls 9 [(0, .ref g), (1, .int (nI e)), (2, .int (nI lv)), (3, .int (nI d))] := hl
  have hSn := hS9.1
  have hSc := hS9.2
  refine lv_iload_n hx hb dP_evaluate_0 rfl (lv_at hl 3 rfl) ?_
  refine lv_bipush (v := 50) hx hb dP_evaluate_1 (by decide) ?_
  refine lv_icmp_le (tgt := 8) hx hb dP_evaluate_3 (by decide) (fun c3 => ?_) (fun c3 => ?_)
  · have g3 : d ≤ 50 := (gx_le (rfl : (nI d) = (nI d)) (rfl : (50 : Int32) = nI 50) (by omega) (by decide)).mp c3
    refine lv_aload_n hx hb dP_evaluate_8 rfl (lv_at hl 0 rfl) ?_
    refine va_get (D := D) (ci := 3) (v := .ref eo) (C := R_P) (T := F_P) (N := 4) hx hb ht i_P hown hK hP 0 rfl rfl 0 (by decide) (ht _ m_91) (fun _ h9 => h9) rfl dP_evaluate_9 ?_
    refine va_getN (D := D) (ci := 2) (v := .ref (eq 0)) (C := R_E) (T := F_E) (N := 5) hx hb ht i_E hown hK hP 1 rfl rfl 0 (by decide) (va_Nw.use rfl (hN _ mn_2)) (fun _ h9 => h9) rfl dP_evaluate_12 ?_
    refine lv_iload_n hx hb dP_evaluate_15 rfl (lv_at hl 1 rfl) ?_
    have i16 : vp_in (nI e) 80 := gx_in (rfl : (nI e) = (nI e)) (by omega) (by decide)
    have k16 : ((nI e) : Int32).toNatClampNeg = e := gx_cl (rfl : (nI e) = (nI e)) (by omega)
    refine va_iald hx hb hK hP 2 0 rfl rfl i16 dP_evaluate_16 ?_
    rw [k16]
    refine lv_topi (fun v16 e16 => ?_)
    rw [hke] at e16
    subst e16
    refine lv_istore (lv' := [(4, .int 9), (0, .ref g), (1, .int (nI e)), (2, .int (nI lv)), (3, .int (nI d))]) hx hb dP_evaluate_17 hl (by decide) rfl (fun ls hl => ?_)
    refine lv_aload_n hx hb dP_evaluate_19 rfl (lv_at hl 1 rfl) ?_
    refine va_get (D := D) (ci := 3) (v := .ref eo) (C := R_P) (T := F_P) (N := 4) hx hb ht i_P hown hK hP 0 rfl rfl 0 (by decide) (ht _ m_91) (fun _ h9 => h9) rfl dP_evaluate_20 ?_
    refine va_getN (D := D) (ci := 2) (v := .ref (eq 1)) (C := R_E) (T := F_E) (N := 5) hx hb ht i_E hown hK hP 1 rfl rfl 1 (by decide) (va_Nw.use rfl (hN _ mn_3)) (fun _ h9 => h9) rfl dP_evaluate_23 ?_
    refine lv_iload_n hx hb dP_evaluate_26 rfl (lv_at hl 2 rfl) ?_
    have i27 : vp_in (nI e) 80 := gx_in (rfl : (nI e) = (nI e)) (by omega) (by decide)
    have k27 : ((nI e) : Int32).toNatClampNeg = e := gx_cl (rfl : (nI e) = (nI e)) (by omega)
    refine va_iald hx hb hK hP 3 0 rfl rfl i27 dP_evaluate_27 ?_
    rw [k27]
    refine lv_topi (fun v27 e27 => ?_)
    rw [hea] at e27
    subst e27
    refine lv_istore (lv' := [(5, .int (nI a)), (4, .int 9), (0, .ref g), (1, .int (nI e)), (2, .int (nI lv)), (3, .int (nI d))]) hx hb dP_evaluate_28 hl (by decide) rfl (fun ls hl => ?_)
    refine lv_aload_n hx hb dP_evaluate_30 rfl (lv_at hl 2 rfl) ?_
    refine va_get (D := D) (ci := 3) (v := .ref eo) (C := R_P) (T := F_P) (N := 4) hx hb ht i_P hown hK hP 0 rfl rfl 0 (by decide) (ht _ m_91) (fun _ h9 => h9) rfl dP_evaluate_31 ?_
    refine va_getN (D := D) (ci := 2) (v := .ref (eq 2)) (C := R_E) (T := F_E) (N := 5) hx hb ht i_E hown hK hP 1 rfl rfl 2 (by decide) (va_Nw.use rfl (hN _ mn_4)) (fun _ h9 => h9) rfl dP_evaluate_34 ?_
    refine lv_iload_n hx hb dP_evaluate_37 rfl (lv_at hl 3 rfl) ?_
    have i38 : vp_in (nI e) 80 := gx_in (rfl : (nI e) = (nI e)) (by omega) (by decide)
    have k38 : ((nI e) : Int32).toNatClampNeg = e := gx_cl (rfl : (nI e) = (nI e)) (by omega)
    refine va_iald hx hb hK hP 4 0 rfl rfl i38 dP_evaluate_38 ?_
    rw [k38]
    refine lv_topi (fun v38 e38 => ?_)
    rw [heb] at e38
    subst e38
    refine lv_istore (lv' := [(6, .int (nI b)), (5, .int (nI a)), (4, .int 9), (0, .ref g), (1, .int (nI e)), (2, .int (nI lv)), (3, .int (nI d))]) hx hb dP_evaluate_39 hl (by decide) rfl (fun ls hl => ?_)
    refine lv_iload hx hb dP_evaluate_41 (lv_at hl 2 rfl) ?_
    refine gc_i (va_runS (As := [.int 9]) (rest := []) ⟨hx, hb, hml, hown, ht⟩ (c_E_hasLeft l D cI cJ cB cZ 9 H.size) (va_cwS 1 ht (gw_S m_341 m_165 m_3 m_166) rfl rfl rfl (by decide +kernel) ⟨show 0 + 1 ≤ 8 * (n + 1) + 8 by omega, show 8 + (1 + 11) + (0) ≤ 200 * (n + 1) + 200 by omega⟩) (gp_S hK hN (hP.sub (ws' := ([] : va_W)) [] rfl) (hD.sub (ws' := ([] : va_W)) [] (by decide) rfl)) rfl rfl hl.1 rfl (lv_room (Nat.le_of_ble_eq_true rfl)) dP_evaluate_43 ⟨Nat.le_of_ble_eq_true rfl, Nat.le_of_ble_eq_true rfl⟩) hP hD hS hA [] rfl (by decide) (fun r w h => by obtain ⟨_, rfl⟩ := h; rfl) (fun r43 w43 H locs p43 hP hD hS => ?_)
    obtain ⟨rfl, rfl⟩ := p43
    have hP : va_P D vwCl ([(g, .inr (3, [.ref eo, .ref bo, .ref t, .ref co])), (eo, .inr (2, [.ref (eq 0), .ref (eq 1), .ref (eq 2), .ref (eq 3), .int (nI X.2.2.2.2)])), ((eq 0), .inl (cI, 80, .inl X.1)), ((eq 1), .inl (cI, 80, .inl X.2.1)), ((eq 2), .inl (cI, 80, .inl X.2.2.1)), ((eq 3), .inl (cI, 80, .inl X.2.2.2.1)), (bo, .inl (cB, 8, .inr (.inr (.inr (.inr ba))))), (t, .inr (4, [.ref (tq 0), .ref (tq 1), .ref (tq 2), .ref (tq 3), .ref (tq 4), .ref (tq 5), .ref (tq 6), .ref (tq 7), .int (nI S.1.2.2.2.2)])), ((tq 0), .inl (cI, 64, .inl (fun z9 => nI (S.1.1 z9)))), ((tq 1), .inl (cI, 64, .inl (fun z9 => nI (S.1.2.1 z9)))), ((tq 2), .inl (cI, 64, .inl (fun z9 => nI (S.1.2.2.1 z9)))), ((tq 3), .inl (cJ, 64, .inr (.inl S.1.2.2.2.1))), ((tq 4), .inl (cJ, 64, .inr (.inl f1))), ((tq 5), .inl (cJ, 64, .inr (.inl f2))), ((tq 6), .inl (cJ, 64, .inr (.inl f3))), ((tq 7), .inl (cJ, 64, .inr (.inl f4))), (co, .inl (cI, 112, .inl (fun z9 => nI (S.2 z9))))] ++ tl) H := hP
    have hD : va_D A ([(g, .inr (3, [.ref eo, .ref bo, .ref t, .ref co])), (eo, .inr (2, [.ref (eq 0), .ref (eq 1), .ref (eq 2), .ref (eq 3), .int (nI X.2.2.2.2)])), ((eq 0), .inl (cI, 80, .inl X.1)), ((eq 1), .inl (cI, 80, .inl X.2.1)), ((eq 2), .inl (cI, 80, .inl X.2.2.1)), ((eq 3), .inl (cI, 80, .inl X.2.2.2.1)), (bo, .inl (cB, 8, .inr (.inr (.inr (.inr ba))))), (t, .inr (4, [.ref (tq 0), .ref (tq 1), .ref (tq 2), .ref (tq 3), .ref (tq 4), .ref (tq 5), .ref (tq 6), .ref (tq 7), .int (nI S.1.2.2.2.2)])), ((tq 0), .inl (cI, 64, .inl (fun z9 => nI (S.1.1 z9)))), ((tq 1), .inl (cI, 64, .inl (fun z9 => nI (S.1.2.1 z9)))), ((tq 2), .inl (cI, 64, .inl (fun z9 => nI (S.1.2.2.1 z9)))), ((tq 3), .inl (cJ, 64, .inr (.inl S.1.2.2.2.1))), ((tq 4), .inl (cJ, 64, .inr (.inl f1))), ((tq 5), .inl (cJ, 64, .inr (.inl f2))), ((tq 6), .inl (cJ, 64, .inr (.inl f3))), ((tq 7), .inl (cJ, 64, .inr (.inl f4))), (co, .inl (cI, 112, .inl (fun z9 => nI (S.2 z9))))] ++ tl) := hD
    refine lv_if_eq (tgt := 62) hx hb dP_evaluate_46 (by decide) (fun c46 => ?_) (fun c46 => ?_)
    · exact (gb_1.mp c46 (by decide)).elim
    · refine lv_aload_n hx hb dP_evaluate_49 rfl (lv_at hl 3 rfl) ?_
      refine lv_iload hx hb dP_evaluate_50 (lv_at hl 1 rfl) ?_
      refine lv_iload_n hx hb dP_evaluate_52 rfl (lv_at hl 5 rfl) ?_
      refine lv_iload_n hx hb dP_evaluate_53 rfl (lv_at hl 6 rfl) ?_
      refine lv_iconst (v := 1) hx hb dP_evaluate_54 (by decide) ?_
      refine lv_iadd hx hb dP_evaluate_55 ?_
      refine lv_topi (fun v55 e55 => ?_)
      have n55 : v55 = nI (d + 1) := by rw [e55]; exact gx_add (rfl : (nI d) = (nI d)) (rfl : (1 : Int32) = nI 1)
      subst n55
      refine gc_wi (va_runV (As := [.int (nI a), .int (nI lv), .int (nI (d + 1))]) (rest := []) ⟨hx, hb, hml, hown, ht⟩ (hE (d + 1) a lv S (by omega) (by omega) hlv hS9 H.size) (cwV 3 ht (gw_V m_337 m_339 ms_12 m_2 m_340) rfl rfl rfl (by decide +kernel) ⟨show (8 * n + 8) + 1 ≤ 8 * (n + 1) + 8 by omega, show 8 + (9 + 11) + (200 * n + 200) ≤ 200 * (n + 1) + 200 by omega⟩) (gp_V (ci := 3) (q0 := 0) hK hN hP hD rfl rfl) rfl rfl hl.1 rfl (lv_room (Nat.le_of_ble_eq_true rfl)) dP_evaluate_56 ⟨Nat.le_of_ble_eq_true rfl, Nat.le_of_ble_eq_true rfl⟩) hP hD hS hA (fun r56 w56 H locs p56 hP hD hS => ?_)
      obtain ⟨rfl, rfl⟩ := p56
      have hP : va_P D vwCl ([(g, .inr (3, [.ref eo, .ref bo, .ref t, .ref co])), (eo, .inr (2, [.ref (eq 0), .ref (eq 1), .ref (eq 2), .ref (eq 3), .int (nI X.2.2.2.2)])), ((eq 0), .inl (cI, 80, .inl X.1)), ((eq 1), .inl (cI, 80, .inl X.2.1)), ((eq 2), .inl (cI, 80, .inl X.2.2.1)), ((eq 3), .inl (cI, 80, .inl X.2.2.2.1)), (bo, .inl (cB, 8, .inr (.inr (.inr (.inr ba))))), (t, .inr (4, [.ref (tq 0), .ref (tq 1), .ref (tq 2), .ref (tq 3), .ref (tq 4), .ref (tq 5), .ref (tq 6), .ref (tq 7), .int (nI (((((pg X ba Bs n).1 a lv S).2).1).2.2.2.2))])), ((tq 0), .inl (cI, 64, .inl (fun z9 => nI ((((((pg X ba Bs n).1 a lv S).2).1).1) z9)))), ((tq 1), .inl (cI, 64, .inl (fun z9 => nI ((((((pg X ba Bs n).1 a lv S).2).1).2.1) z9)))), ((tq 2), .inl (cI, 64, .inl (fun z9 => nI ((((((pg X ba Bs n).1 a lv S).2).1).2.2.1) z9)))), ((tq 3), .inl (cJ, 64, .inr (.inl (((((pg X ba Bs n).1 a lv S).2).1).2.2.2.1)))), ((tq 4), .inl (cJ, 64, .inr (.inl f1))), ((tq 5), .inl (cJ, 64, .inr (.inl f2))), ((tq 6), .inl (cJ, 64, .inr (.inl f3))), ((tq 7), .inl (cJ, 64, .inr (.inl f4))), (co, .inl (cI, 112, .inl (fun z9 => nI (((((pg X ba Bs n).1 a lv S).2).2) z9))))] ++ tl) H := hP
      have hD : va_D A ([(g, .inr (3, [.ref eo, .ref bo, .ref t, .ref co])), (eo, .inr (2, [.ref (eq 0), .ref (eq 1), .ref (eq 2), .ref (eq 3), .int (nI X.2.2.2.2)])), ((eq 0), .inl (cI, 80, .inl X.1)), ((eq 1), .inl (cI, 80, .inl X.2.1)), ((eq 2), .inl (cI, 80, .inl X.2.2.1)), ((eq 3), .inl (cI, 80, .inl X.2.2.2.1)), (bo, .inl (cB, 8, .inr (.inr (.inr (.inr ba))))), (t, .inr (4, [.ref (tq 0), .ref (tq 1), .ref (tq 2), .ref (tq 3), .ref (tq 4), .ref (tq 5), .ref (tq 6), .ref (tq 7), .int (nI (((((pg X ba Bs n).1 a lv S).2).1).2.2.2.2))])), ((tq 0), .inl (cI, 64, .inl (fun z9 => nI ((((((pg X ba Bs n).1 a lv S).2).1).1) z9)))), ((tq 1), .inl (cI, 64, .inl (fun z9 => nI ((((((pg X ba Bs n).1 a lv S).2).1).2.1) z9)))), ((tq 2), .inl (cI, 64, .inl (fun z9 => nI ((((((pg X ba Bs n).1 a lv S).2).1).2.2.1) z9)))), ((tq 3), .inl (cJ, 64, .inr (.inl (((((pg X ba Bs n).1 a lv S).2).1).2.2.2.1)))), ((tq 4), .inl (cJ, 64, .inr (.inl f1))), ((tq 5), .inl (cJ, 64, .inr (.inl f2))), ((tq 6), .inl (cJ, 64, .inr (.inl f3))), ((tq 7), .inl (cJ, 64, .inr (.inl f4))), (co, .inl (cI, 112, .inl (fun z9 => nI (((((pg X ba Bs n).1 a lv S).2).2) z9))))] ++ tl) := hD
      have b56 := hre a lv S (by omega) hlv hS9
      have b56x := b56.1
      have b56y := b56.2.1
      refine lv_goto (tgt := 63) hx hb dP_evaluate_59 (by decide) ?_
      refine lv_istore (lv' := [(7, .int (nI (((pg X ba Bs n).1 a lv S).1))), (6, .int (nI b)), (5, .int (nI a)), (4, .int 9), (0, .ref g), (1, .int (nI e)), (2, .int (nI lv)), (3, .int (nI d))]) hx hb dP_evaluate_63 hl (by decide) rfl (fun ls hl => ?_)
      refine lv_iload hx hb dP_evaluate_65 (lv_at hl 3 rfl) ?_
      refine gc_i (va_runS (As := [.int 9]) (rest := []) ⟨hx, hb, hml, hown, ht⟩ (c_E_hasRight l D cI cJ cB cZ 9 H.size) (va_cwS 1 ht (gw_S m_342 m_175 m_3 m_176) rfl rfl rfl (by decide +kernel) ⟨show 0 + 1 ≤ 8 * (n + 1) + 8 by omega, show 8 + (1 + 11) + (0) ≤ 200 * (n + 1) + 200 by omega⟩) (gp_S hK hN (hP.sub (ws' := ([] : va_W)) [] rfl) (hD.sub (ws' := ([] : va_W)) [] (by decide) rfl)) rfl rfl hl.1 rfl (lv_room (Nat.le_of_ble_eq_true rfl)) dP_evaluate_67 ⟨Nat.le_of_ble_eq_true rfl, Nat.le_of_ble_eq_true rfl⟩) hP hD hS hA [] rfl (by decide) (fun r w h => by obtain ⟨_, rfl⟩ := h; rfl) (fun r67 w67 H locs p67 hP hD hS => ?_)
      obtain ⟨rfl, rfl⟩ := p67
      have hP : va_P D vwCl ([(g, .inr (3, [.ref eo, .ref bo, .ref t, .ref co])), (eo, .inr (2, [.ref (eq 0), .ref (eq 1), .ref (eq 2), .ref (eq 3), .int (nI X.2.2.2.2)])), ((eq 0), .inl (cI, 80, .inl X.1)), ((eq 1), .inl (cI, 80, .inl X.2.1)), ((eq 2), .inl (cI, 80, .inl X.2.2.1)), ((eq 3), .inl (cI, 80, .inl X.2.2.2.1)), (bo, .inl (cB, 8, .inr (.inr (.inr (.inr ba))))), (t, .inr (4, [.ref (tq 0), .ref (tq 1), .ref (tq 2), .ref (tq 3), .ref (tq 4), .ref (tq 5), .ref (tq 6), .ref (tq 7), .int (nI (((((pg X ba Bs n).1 a lv S).2).1).2.2.2.2))])), ((tq 0), .inl (cI, 64, .inl (fun z9 => nI ((((((pg X ba Bs n).1 a lv S).2).1).1) z9)))), ((tq 1), .inl (cI, 64, .inl (fun z9 => nI ((((((pg X ba Bs n).1 a lv S).2).1).2.1) z9)))), ((tq 2), .inl (cI, 64, .inl (fun z9 => nI ((((((pg X ba Bs n).1 a lv S).2).1).2.2.1) z9)))), ((tq 3), .inl (cJ, 64, .inr (.inl (((((pg X ba Bs n).1 a lv S).2).1).2.2.2.1)))), ((tq 4), .inl (cJ, 64, .inr (.inl f1))), ((tq 5), .inl (cJ, 64, .inr (.inl f2))), ((tq 6), .inl (cJ, 64, .inr (.inl f3))), ((tq 7), .inl (cJ, 64, .inr (.inl f4))), (co, .inl (cI, 112, .inl (fun z9 => nI (((((pg X ba Bs n).1 a lv S).2).2) z9))))] ++ tl) H := hP
      have hD : va_D A ([(g, .inr (3, [.ref eo, .ref bo, .ref t, .ref co])), (eo, .inr (2, [.ref (eq 0), .ref (eq 1), .ref (eq 2), .ref (eq 3), .int (nI X.2.2.2.2)])), ((eq 0), .inl (cI, 80, .inl X.1)), ((eq 1), .inl (cI, 80, .inl X.2.1)), ((eq 2), .inl (cI, 80, .inl X.2.2.1)), ((eq 3), .inl (cI, 80, .inl X.2.2.2.1)), (bo, .inl (cB, 8, .inr (.inr (.inr (.inr ba))))), (t, .inr (4, [.ref (tq 0), .ref (tq 1), .ref (tq 2), .ref (tq 3), .ref (tq 4), .ref (tq 5), .ref (tq 6), .ref (tq 7), .int (nI (((((pg X ba Bs n).1 a lv S).2).1).2.2.2.2))])), ((tq 0), .inl (cI, 64, .inl (fun z9 => nI ((((((pg X ba Bs n).1 a lv S).2).1).1) z9)))), ((tq 1), .inl (cI, 64, .inl (fun z9 => nI ((((((pg X ba Bs n).1 a lv S).2).1).2.1) z9)))), ((tq 2), .inl (cI, 64, .inl (fun z9 => nI ((((((pg X ba Bs n).1 a lv S).2).1).2.2.1) z9)))), ((tq 3), .inl (cJ, 64, .inr (.inl (((((pg X ba Bs n).1 a lv S).2).1).2.2.2.1)))), ((tq 4), .inl (cJ, 64, .inr (.inl f1))), ((tq 5), .inl (cJ, 64, .inr (.inl f2))), ((tq 6), .inl (cJ, 64, .inr (.inl f3))), ((tq 7), .inl (cJ, 64, .inr (.inl f4))), (co, .inl (cI, 112, .inl (fun z9 => nI (((((pg X ba Bs n).1 a lv S).2).2) z9))))] ++ tl) := hD
      refine lv_if_eq (tgt := 86) hx hb dP_evaluate_70 (by decide) (fun c70 => ?_) (fun c70 => ?_)
      · exact (gb_1.mp c70 (by decide)).elim
      · refine lv_aload_n hx hb dP_evaluate_73 rfl (lv_at hl 4 rfl) ?_
        refine lv_iload hx hb dP_evaluate_74 (lv_at hl 1 rfl) ?_
        refine lv_iload_n hx hb dP_evaluate_76 rfl (lv_at hl 6 rfl) ?_
        refine lv_iload_n hx hb dP_evaluate_77 rfl (lv_at hl 7 rfl) ?_
        refine lv_iconst (v := 1) hx hb dP_evaluate_78 (by decide) ?_
        refine lv_iadd hx hb dP_evaluate_79 ?_
        refine lv_topi (fun v79 e79 => ?_)
        have n79 : v79 = nI (d + 1) := by rw [e79]; exact gx_add (rfl : (nI d) = (nI d)) (rfl : (1 : Int32) = nI 1)
        subst n79
        refine gc_wi (va_runV (As := [.int (nI b), .int (nI lv), .int (nI (d + 1))]) (rest := []) ⟨hx, hb, hml, hown, ht⟩ (hE (d + 1) b lv (((pg X ba Bs n).1 a lv S).2) (by omega) (by omega) hlv b56.2 H.size) (cwV 3 ht (gw_V m_337 m_339 ms_12 m_2 m_340) rfl rfl rfl (by decide +kernel) ⟨show (8 * n + 8) + 1 ≤ 8 * (n + 1) + 8 by omega, show 8 + (9 + 11) + (200 * n + 200) ≤ 200 * (n + 1) + 200 by omega⟩) (gp_V (ci := 3) (q0 := 0) hK hN hP hD rfl rfl) rfl rfl hl.1 rfl (lv_room (Nat.le_of_ble_eq_true rfl)) dP_evaluate_80 ⟨Nat.le_of_ble_eq_true rfl, Nat.le_of_ble_eq_true rfl⟩) hP hD hS hA (fun r80 w80 H locs p80 hP hD hS => ?_)
        obtain ⟨rfl, rfl⟩ := p80
        have hP : va_P D vwCl ([(g, .inr (3, [.ref eo, .ref bo, .ref t, .ref co])), (eo, .inr (2, [.ref (eq 0), .ref (eq 1), .ref (eq 2), .ref (eq 3), .int (nI X.2.2.2.2)])), ((eq 0), .inl (cI, 80, .inl X.1)), ((eq 1), .inl (cI, 80, .inl X.2.1)), ((eq 2), .inl (cI, 80, .inl X.2.2.1)), ((eq 3), .inl (cI, 80, .inl X.2.2.2.1)), (bo, .inl (cB, 8, .inr (.inr (.inr (.inr ba))))), (t, .inr (4, [.ref (tq 0), .ref (tq 1), .ref (tq 2), .ref (tq 3), .ref (tq 4), .ref (tq 5), .ref (tq 6), .ref (tq 7), .int (nI (((((pg X ba Bs n).1 b lv (((pg X ba Bs n).1 a lv S).2)).2).1).2.2.2.2))])), ((tq 0), .inl (cI, 64, .inl (fun z9 => nI ((((((pg X ba Bs n).1 b lv (((pg X ba Bs n).1 a lv S).2)).2).1).1) z9)))), ((tq 1), .inl (cI, 64, .inl (fun z9 => nI ((((((pg X ba Bs n).1 b lv (((pg X ba Bs n).1 a lv S).2)).2).1).2.1) z9)))), ((tq 2), .inl (cI, 64, .inl (fun z9 => nI ((((((pg X ba Bs n).1 b lv (((pg X ba Bs n).1 a lv S).2)).2).1).2.2.1) z9)))), ((tq 3), .inl (cJ, 64, .inr (.inl (((((pg X ba Bs n).1 b lv (((pg X ba Bs n).1 a lv S).2)).2).1).2.2.2.1)))), ((tq 4), .inl (cJ, 64, .inr (.inl f1))), ((tq 5), .inl (cJ, 64, .inr (.inl f2))), ((tq 6), .inl (cJ, 64, .inr (.inl f3))), ((tq 7), .inl (cJ, 64, .inr (.inl f4))), (co, .inl (cI, 112, .inl (fun z9 => nI (((((pg X ba Bs n).1 b lv (((pg X ba Bs n).1 a lv S).2)).2).2) z9))))] ++ tl) H := hP
        have hD : va_D A ([(g, .inr (3, [.ref eo, .ref bo, .ref t, .ref co])), (eo, .inr (2, [.ref (eq 0), .ref (eq 1), .ref (eq 2), .ref (eq 3), .int (nI X.2.2.2.2)])), ((eq 0), .inl (cI, 80, .inl X.1)), ((eq 1), .inl (cI, 80, .inl X.2.1)), ((eq 2), .inl (cI, 80, .inl X.2.2.1)), ((eq 3), .inl (cI, 80, .inl X.2.2.2.1)), (bo, .inl (cB, 8, .inr (.inr (.inr (.inr ba))))), (t, .inr (4, [.ref (tq 0), .ref (tq 1), .ref (tq 2), .ref (tq 3), .ref (tq 4), .ref (tq 5), .ref (tq 6), .ref (tq 7), .int (nI (((((pg X ba Bs n).1 b lv (((pg X ba Bs n).1 a lv S).2)).2).1).2.2.2.2))])), ((tq 0), .inl (cI, 64, .inl (fun z9 => nI ((((((pg X ba Bs n).1 b lv (((pg X ba Bs n).1 a lv S).2)).2).1).1) z9)))), ((tq 1), .inl (cI, 64, .inl (fun z9 => nI ((((((pg X ba Bs n).1 b lv (((pg X ba Bs n).1 a lv S).2)).2).1).2.1) z9)))), ((tq 2), .inl (cI, 64, .inl (fun z9 => nI ((((((pg X ba Bs n).1 b lv (((pg X ba Bs n).1 a lv S).2)).2).1).2.2.1) z9)))), ((tq 3), .inl (cJ, 64, .inr (.inl (((((pg X ba Bs n).1 b lv (((pg X ba Bs n).1 a lv S).2)).2).1).2.2.2.1)))), ((tq 4), .inl (cJ, 64, .inr (.inl f1))), ((tq 5), .inl (cJ, 64, .inr (.inl f2))), ((tq 6), .inl (cJ, 64, .inr (.inl f3))), ((tq 7), .inl (cJ, 64, .inr (.inl f4))), (co, .inl (cI, 112, .inl (fun z9 => nI (((((pg X ba Bs n).1 b lv (((pg X ba Bs n).1 a lv S).2)).2).2) z9))))] ++ tl) := hD
        have b80 := hre b lv (((pg X ba Bs n).1 a lv S).2) (by omega) hlv b56.2
        have b80x := b80.1
        have b80y := b80.2.1
        refine lv_goto (tgt := 87) hx hb dP_evaluate_83 (by decide) ?_
        refine lv_istore (lv' := [(8, .int (nI (((pg X ba Bs n).1 b lv (((pg X ba Bs n).1 a lv S).2)).1))), (7, .int (nI (((pg X ba Bs n).1 a lv S).1))), (6, .int (nI b)), (5, .int (nI a)), (4, .int 9), (0, .ref g), (1, .int (nI e)), (2, .int (nI lv)), (3, .int (nI d))]) hx hb dP_evaluate_87 hl (by decide) rfl (fun ls hl => ?_)
        refine lv_iload hx hb dP_evaluate_89 (lv_at hl 4 rfl) ?_
        refine lv_tableIn (tgt := 227) (off := 136) hx hb dP_evaluate_91 (by decide) (by decide) (by rfl) (by decide) ?_
        refine lv_aload_n hx hb dP_evaluate_227 rfl (lv_at hl 5 rfl) ?_
        refine lv_iload hx hb dP_evaluate_228 (lv_at hl 4 rfl) ?_
        refine lv_iload hx hb dP_evaluate_230 (lv_at hl 1 rfl) ?_
        refine lv_iload hx hb dP_evaluate_232 (lv_at hl 0 rfl) ?_
        refine gc_wi (va_runV (As := [.int 9, .int (nI (((pg X ba Bs n).1 a lv S).1)), .int (nI (((pg X ba Bs n).1 b lv (((pg X ba Bs n).1 a lv S).2)).1))]) (rest := []) ⟨hx, hb, hml, hown, ht⟩ (c_P_combine l D cI cJ cB cZ g eo bo t co eq tq tl X ba f1 f2 f3 f4 (((pg X ba Bs n).1 b lv (((pg X ba Bs n).1 a lv S).2)).2) 9 (((pg X ba Bs n).1 a lv S).1) (((pg X ba Bs n).1 b lv (((pg X ba Bs n).1 a lv S).2)).1) (by omega) b80.2.1 (by omega) (by omega) H.size) (cwV 3 ht (gw_V m_361 m_363 ms_14 m_2 m_364) rfl rfl rfl (by decide +kernel) ⟨show 3 + 1 ≤ 8 * (n + 1) + 8 by omega, show 8 + (4 + 11) + (69) ≤ 200 * (n + 1) + 200 by omega⟩) (gp_V (ci := 3) (q0 := 0) hK hN hP hD rfl rfl) rfl rfl hl.1 rfl (lv_room (Nat.le_of_ble_eq_true rfl)) dP_evaluate_234 ⟨Nat.le_of_ble_eq_true rfl, Nat.le_of_ble_eq_true rfl⟩) hP hD hS hA (fun r234 w234 H locs p234 hP hD hS => ?_)
        obtain ⟨rfl, rfl⟩ := p234
        have hP : va_P D vwCl ([(g, .inr (3, [.ref eo, .ref bo, .ref t, .ref co])), (eo, .inr (2, [.ref (eq 0), .ref (eq 1), .ref (eq 2), .ref (eq 3), .int (nI X.2.2.2.2)])), ((eq 0), .inl (cI, 80, .inl X.1)), ((eq 1), .inl (cI, 80, .inl X.2.1)), ((eq 2), .inl (cI, 80, .inl X.2.2.1)), ((eq 3), .inl (cI, 80, .inl X.2.2.2.1)), (bo, .inl (cB, 8, .inr (.inr (.inr (.inr ba))))), (t, .inr (4, [.ref (tq 0), .ref (tq 1), .ref (tq 2), .ref (tq 3), .ref (tq 4), .ref (tq 5), .ref (tq 6), .ref (tq 7), .int (nI ((((px_comb 9 (((pg X ba Bs n).1 a lv S).1) (((pg X ba Bs n).1 b lv (((pg X ba Bs n).1 a lv S).2)).1) ((((pg X ba Bs n).1 b lv (((pg X ba Bs n).1 a lv S).2)).2).1)).2, ((((pg X ba Bs n).1 b lv (((pg X ba Bs n).1 a lv S).2)).2).2)).1).2.2.2.2))])), ((tq 0), .inl (cI, 64, .inl (fun z9 => nI (((((px_comb 9 (((pg X ba Bs n).1 a lv S).1) (((pg X ba Bs n).1 b lv (((pg X ba Bs n).1 a lv S).2)).1) ((((pg X ba Bs n).1 b lv (((pg X ba Bs n).1 a lv S).2)).2).1)).2, ((((pg X ba Bs n).1 b lv (((pg X ba Bs n).1 a lv S).2)).2).2)).1).1) z9)))), ((tq 1), .inl (cI, 64, .inl (fun z9 => nI (((((px_comb 9 (((pg X ba Bs n).1 a lv S).1) (((pg X ba Bs n).1 b lv (((pg X ba Bs n).1 a lv S).2)).1) ((((pg X ba Bs n).1 b lv (((pg X ba Bs n).1 a lv S).2)).2).1)).2, ((((pg X ba Bs n).1 b lv (((pg X ba Bs n).1 a lv S).2)).2).2)).1).2.1) z9)))), ((tq 2), .inl (cI, 64, .inl (fun z9 => nI (((((px_comb 9 (((pg X ba Bs n).1 a lv S).1) (((pg X ba Bs n).1 b lv (((pg X ba Bs n).1 a lv S).2)).1) ((((pg X ba Bs n).1 b lv (((pg X ba Bs n).1 a lv S).2)).2).1)).2, ((((pg X ba Bs n).1 b lv (((pg X ba Bs n).1 a lv S).2)).2).2)).1).2.2.1) z9)))), ((tq 3), .inl (cJ, 64, .inr (.inl ((((px_comb 9 (((pg X ba Bs n).1 a lv S).1) (((pg X ba Bs n).1 b lv (((pg X ba Bs n).1 a lv S).2)).1) ((((pg X ba Bs n).1 b lv (((pg X ba Bs n).1 a lv S).2)).2).1)).2, ((((pg X ba Bs n).1 b lv (((pg X ba Bs n).1 a lv S).2)).2).2)).1).2.2.2.1)))), ((tq 4), .inl (cJ, 64, .inr (.inl f1))), ((tq 5), .inl (cJ, 64, .inr (.inl f2))), ((tq 6), .inl (cJ, 64, .inr (.inl f3))), ((tq 7), .inl (cJ, 64, .inr (.inl f4))), (co, .inl (cI, 112, .inl (fun z9 => nI ((((px_comb 9 (((pg X ba Bs n).1 a lv S).1) (((pg X ba Bs n).1 b lv (((pg X ba Bs n).1 a lv S).2)).1) ((((pg X ba Bs n).1 b lv (((pg X ba Bs n).1 a lv S).2)).2).1)).2, ((((pg X ba Bs n).1 b lv (((pg X ba Bs n).1 a lv S).2)).2).2)).2) z9))))] ++ tl) H := hP
        have hD : va_D A ([(g, .inr (3, [.ref eo, .ref bo, .ref t, .ref co])), (eo, .inr (2, [.ref (eq 0), .ref (eq 1), .ref (eq 2), .ref (eq 3), .int (nI X.2.2.2.2)])), ((eq 0), .inl (cI, 80, .inl X.1)), ((eq 1), .inl (cI, 80, .inl X.2.1)), ((eq 2), .inl (cI, 80, .inl X.2.2.1)), ((eq 3), .inl (cI, 80, .inl X.2.2.2.1)), (bo, .inl (cB, 8, .inr (.inr (.inr (.inr ba))))), (t, .inr (4, [.ref (tq 0), .ref (tq 1), .ref (tq 2), .ref (tq 3), .ref (tq 4), .ref (tq 5), .ref (tq 6), .ref (tq 7), .int (nI ((((px_comb 9 (((pg X ba Bs n).1 a lv S).1) (((pg X ba Bs n).1 b lv (((pg X ba Bs n).1 a lv S).2)).1) ((((pg X ba Bs n).1 b lv (((pg X ba Bs n).1 a lv S).2)).2).1)).2, ((((pg X ba Bs n).1 b lv (((pg X ba Bs n).1 a lv S).2)).2).2)).1).2.2.2.2))])), ((tq 0), .inl (cI, 64, .inl (fun z9 => nI (((((px_comb 9 (((pg X ba Bs n).1 a lv S).1) (((pg X ba Bs n).1 b lv (((pg X ba Bs n).1 a lv S).2)).1) ((((pg X ba Bs n).1 b lv (((pg X ba Bs n).1 a lv S).2)).2).1)).2, ((((pg X ba Bs n).1 b lv (((pg X ba Bs n).1 a lv S).2)).2).2)).1).1) z9)))), ((tq 1), .inl (cI, 64, .inl (fun z9 => nI (((((px_comb 9 (((pg X ba Bs n).1 a lv S).1) (((pg X ba Bs n).1 b lv (((pg X ba Bs n).1 a lv S).2)).1) ((((pg X ba Bs n).1 b lv (((pg X ba Bs n).1 a lv S).2)).2).1)).2, ((((pg X ba Bs n).1 b lv (((pg X ba Bs n).1 a lv S).2)).2).2)).1).2.1) z9)))), ((tq 2), .inl (cI, 64, .inl (fun z9 => nI (((((px_comb 9 (((pg X ba Bs n).1 a lv S).1) (((pg X ba Bs n).1 b lv (((pg X ba Bs n).1 a lv S).2)).1) ((((pg X ba Bs n).1 b lv (((pg X ba Bs n).1 a lv S).2)).2).1)).2, ((((pg X ba Bs n).1 b lv (((pg X ba Bs n).1 a lv S).2)).2).2)).1).2.2.1) z9)))), ((tq 3), .inl (cJ, 64, .inr (.inl ((((px_comb 9 (((pg X ba Bs n).1 a lv S).1) (((pg X ba Bs n).1 b lv (((pg X ba Bs n).1 a lv S).2)).1) ((((pg X ba Bs n).1 b lv (((pg X ba Bs n).1 a lv S).2)).2).1)).2, ((((pg X ba Bs n).1 b lv (((pg X ba Bs n).1 a lv S).2)).2).2)).1).2.2.2.1)))), ((tq 4), .inl (cJ, 64, .inr (.inl f1))), ((tq 5), .inl (cJ, 64, .inr (.inl f2))), ((tq 6), .inl (cJ, 64, .inr (.inl f3))), ((tq 7), .inl (cJ, 64, .inr (.inl f4))), (co, .inl (cI, 112, .inl (fun z9 => nI ((((px_comb 9 (((pg X ba Bs n).1 a lv S).1) (((pg X ba Bs n).1 b lv (((pg X ba Bs n).1 a lv S).2)).1) ((((pg X ba Bs n).1 b lv (((pg X ba Bs n).1 a lv S).2)).2).1)).2, ((((pg X ba Bs n).1 b lv (((pg X ba Bs n).1 a lv S).2)).2).2)).2) z9))))] ++ tl) := hD
        have hz : (pg X ba Bs (n + 1)).1 e lv S = (((px_comb 9 (((pg X ba Bs n).1 a lv S).1) (((pg X ba Bs n).1 b lv (((pg X ba Bs n).1 a lv S).2)).1) ((((pg X ba Bs n).1 b lv (((pg X ba Bs n).1 a lv S).2)).2).1)).1), (px_comb 9 (((pg X ba Bs n).1 a lv S).1) (((pg X ba Bs n).1 b lv (((pg X ba Bs n).1 a lv S).2)).1) ((((pg X ba Bs n).1 b lv (((pg X ba Bs n).1 a lv S).2)).2).1)).2, ((((pg X ba Bs n).1 b lv (((pg X ba Bs n).1 a lv S).2)).2).2)) := by
          show px_ev X (pg X ba Bs n).1 (px_ent ba Bs (pg X ba Bs n).2) e lv S = _
          simp [px_ev, px_r1, px_r2, px_R, hke, hea, heb, show cn (9 : Int32) = 9 from rfl, cn_nI (show a < 2 ^ 31 by omega), cn_nI (show b < 2 ^ 31 by omega)]
        exact W.iret (v := (nI ((px_comb 9 (((pg X ba Bs n).1 a lv S).1) (((pg X ba Bs n).1 b lv (((pg X ba Bs n).1 a lv S).2)).1) ((((pg X ba Bs n).1 b lv (((pg X ba Bs n).1 a lv S).2)).2).1)).1))) hx hb hr (fun t9 ht9 hW => ⟨⟨(nI ((px_comb 9 (((pg X ba Bs n).1 a lv S).1) (((pg X ba Bs n).1 b lv (((pg X ba Bs n).1 a lv S).2)).1) ((((pg X ba Bs n).1 b lv (((pg X ba Bs n).1 a lv S).2)).2).1)).1)), _, rfl, ⟨by rw [hz], by rw [hz]⟩, by rw [ht9]; exact hP, hD⟩, hS.F ht9⟩) hS.2.2 dP_evaluate_237
  · have g3 : ¬ (d ≤ 50) := fun z => c3 ((gx_le (rfl : (nI d) = (nI d)) (rfl : (50 : Int32) = nI 50) (by omega) (by decide)).mpr z)
    exact absurd g3 (by omega)

set_option maxHeartbeats 4000000 in
set_option maxRecDepth 100000 in
theorem c_P_evaluate_10 (l : Launch) (D : va_G) (cI cJ cB cZ : ClassId) (g eo bo t co : Nat) (eq tq : Nat → Nat) (tl : va_W) (X : Ex) (ba : Nat → Option Nat) (f1 f2 f3 f4 : Nat → Int64) (Bs : Nat → Bd) (n d e lv : Nat) (S : Sx) (a : Nat) (b : Nat) (hE : cE l D cI cJ cB cZ g eo bo t co eq tq tl X ba f1 f2 f3 f4 Bs n) (hN9 : cN l D cI cJ cB cZ g eo bo t co eq tq tl X ba f1 f2 f3 f4 Bs n) (hd : d + (n + 1) = 51) (hX80 : X.2.2.2.2 ≤ 80) (he : e < X.2.2.2.2) (hlv : lv < 8) (hS9 : sx_ok S) (hre : re_ok X (pg X ba Bs n).1) (hke : X.1 e = 10) (ha : a < e) (hea : X.2.1 e = nI a) (hb8 : b < 2) (heb : X.2.2.1 e = nI b) : ct_I l y_P_evaluate w_P_evaluate ({ frames := 8 * (n + 1) + 8, cells := 0, slots := 0, locals := 200 * (n + 1) + 200 }) D (gk_T cI cJ cB cZ) [.ref g, .int (nI e), .int (nI lv), .int (nI d)] (wPg cI cJ cB g eo bo t co eq tq X ba S f1 f2 f3 f4 ++ tl) (0) (0) (fun r w => r = nI ((pg X ba Bs (n + 1)).1 e lv S).1 ∧ w = (wPg cI cJ cB g eo bo t co eq tq X ba (((pg X ba Bs (n + 1)).1 e lv S).2) f1 f2 f3 f4 ++ tl)) := by
  intro sz
  refine Met.ofW (cc := b_P_evaluate) (maxL := 9) (ret := (some .int)) (by decide) rfl ?_
  intro p ev9 s m args below meth c s₁ B9 hml hv
  obtain ⟨rfl, hsz, hP, hK, hN, hD0⟩ := hv
  have hx := B9.exec
  have hb := B9.bytes
  have hr := B9.returns
  have hts := atoms_spec (ws := w_P_evaluate) B9.pre
  have ht : ∀ w ∈ gk_big, w.before _ s = true := fun w h => hts w (List.mem_cons_of_mem _ h)
  have hown : s.vm.findClass R_P = some m.cls := findClass_of_methodNamed B9.named
  have hlocks := B9.notSynchronized
  subst hsz
  have hD := hD0.self (sz := s.heap.size)
  generalize hAe : va_A (wPg cI cJ cB g eo bo t co eq tq X ba S f1 f2 f3 f4 ++ tl) s.heap.size = A at hD ⊢
  have hA : ∀ q : Nat, s.heap.size ≤ q → A q := fun q h => by rw [← hAe]; exact Or.inr h
  generalize hHe : s.heap = H at hP ⊢
  have hS : va_S A s.heap H [] := by rw [← hHe]; exact va_S.rf
  have hP : va_P D vwCl ([(g, .inr (3, [.ref eo, .ref bo, .ref t, .ref co])), (eo, .inr (2, [.ref (eq 0), .ref (eq 1), .ref (eq 2), .ref (eq 3), .int (nI X.2.2.2.2)])), ((eq 0), .inl (cI, 80, .inl X.1)), ((eq 1), .inl (cI, 80, .inl X.2.1)), ((eq 2), .inl (cI, 80, .inl X.2.2.1)), ((eq 3), .inl (cI, 80, .inl X.2.2.2.1)), (bo, .inl (cB, 8, .inr (.inr (.inr (.inr ba))))), (t, .inr (4, [.ref (tq 0), .ref (tq 1), .ref (tq 2), .ref (tq 3), .ref (tq 4), .ref (tq 5), .ref (tq 6), .ref (tq 7), .int (nI S.1.2.2.2.2)])), ((tq 0), .inl (cI, 64, .inl (fun z9 => nI (S.1.1 z9)))), ((tq 1), .inl (cI, 64, .inl (fun z9 => nI (S.1.2.1 z9)))), ((tq 2), .inl (cI, 64, .inl (fun z9 => nI (S.1.2.2.1 z9)))), ((tq 3), .inl (cJ, 64, .inr (.inl S.1.2.2.2.1))), ((tq 4), .inl (cJ, 64, .inr (.inl f1))), ((tq 5), .inl (cJ, 64, .inr (.inl f2))), ((tq 6), .inl (cJ, 64, .inr (.inl f3))), ((tq 7), .inl (cJ, 64, .inr (.inl f4))), (co, .inl (cI, 112, .inl (fun z9 => nI (S.2 z9))))] ++ tl) H := hP
  have hD : va_D A ([(g, .inr (3, [.ref eo, .ref bo, .ref t, .ref co])), (eo, .inr (2, [.ref (eq 0), .ref (eq 1), .ref (eq 2), .ref (eq 3), .int (nI X.2.2.2.2)])), ((eq 0), .inl (cI, 80, .inl X.1)), ((eq 1), .inl (cI, 80, .inl X.2.1)), ((eq 2), .inl (cI, 80, .inl X.2.2.1)), ((eq 3), .inl (cI, 80, .inl X.2.2.2.1)), (bo, .inl (cB, 8, .inr (.inr (.inr (.inr ba))))), (t, .inr (4, [.ref (tq 0), .ref (tq 1), .ref (tq 2), .ref (tq 3), .ref (tq 4), .ref (tq 5), .ref (tq 6), .ref (tq 7), .int (nI S.1.2.2.2.2)])), ((tq 0), .inl (cI, 64, .inl (fun z9 => nI (S.1.1 z9)))), ((tq 1), .inl (cI, 64, .inl (fun z9 => nI (S.1.2.1 z9)))), ((tq 2), .inl (cI, 64, .inl (fun z9 => nI (S.1.2.2.1 z9)))), ((tq 3), .inl (cJ, 64, .inr (.inl S.1.2.2.2.1))), ((tq 4), .inl (cJ, 64, .inr (.inl f1))), ((tq 5), .inl (cJ, 64, .inr (.inl f2))), ((tq 6), .inl (cJ, 64, .inr (.inl f3))), ((tq 7), .inl (cJ, 64, .inr (.inl f4))), (co, .inl (cI, 112, .inl (fun z9 => nI (S.2 z9))))] ++ tl) := hD
  have hl := lv_entry ([.ref g, .int (nI e), .int (nI lv), .int (nI d)]) (n := 9) (Nat.le_of_ble_eq_true rfl)
  rw [lg_entry_eq]
  generalize (lg_sl ([.ref g, .int (nI e), .int (nI lv), .int (nI d)]) ++ List.replicate (9 - (lg_sl ([.ref g, .int (nI e), .int (nI lv), .int (nI d)])).length) Slot.unset).toArray = ls at hl ⊢
  have hl : lv_has ls 9 [(0, .ref g), (1, .int (nI e)), (2, .int (nI lv)), (3, .int (nI d))] := hl
  have hSn := hS9.1
  have hSc := hS9.2
  refine lv_iload_n hx hb dP_evaluate_0 rfl (lv_at hl 3 rfl) ?_
  refine lv_bipush (v := 50) hx hb dP_evaluate_1 (by decide) ?_
  refine lv_icmp_le (tgt := 8) hx hb dP_evaluate_3 (by decide) (fun c3 => ?_) (fun c3 => ?_)
  · have g3 : d ≤ 50 := (gx_le (rfl : (nI d) = (nI d)) (rfl : (50 : Int32) = nI 50) (by omega) (by decide)).mp c3
    refine lv_aload_n hx hb dP_evaluate_8 rfl (lv_at hl 0 rfl) ?_
    refine va_get (D := D) (ci := 3) (v := .ref eo) (C := R_P) (T := F_P) (N := 4) hx hb ht i_P hown hK hP 0 rfl rfl 0 (by decide) (ht _ m_91) (fun _ h9 => h9) rfl dP_evaluate_9 ?_
    refine va_getN (D := D) (ci := 2) (v := .ref (eq 0)) (C := R_E) (T := F_E) (N := 5) hx hb ht i_E hown hK hP 1 rfl rfl 0 (by decide) (va_Nw.use rfl (hN _ mn_2)) (fun _ h9 => h9) rfl dP_evaluate_12 ?_
    refine lv_iload_n hx hb dP_evaluate_15 rfl (lv_at hl 1 rfl) ?_
    have i16 : vp_in (nI e) 80 := gx_in (rfl : (nI e) = (nI e)) (by omega) (by decide)
    have k16 : ((nI e) : Int32).toNatClampNeg = e := gx_cl (rfl : (nI e) = (nI e)) (by omega)
    refine va_iald hx hb hK hP 2 0 rfl rfl i16 dP_evaluate_16 ?_
    rw [k16]
    refine lv_topi (fun v16 e16 => ?_)
    rw [hke] at e16
    subst e16
    refine lv_istore (lv' := [(4, .int 10), (0, .ref g), (1, .int (nI e)), (2, .int (nI lv)), (3, .int (nI d))]) hx hb dP_evaluate_17 hl (by decide) rfl (fun ls hl => ?_)
    refine lv_aload_n hx hb dP_evaluate_19 rfl (lv_at hl 1 rfl) ?_
    refine va_get (D := D) (ci := 3) (v := .ref eo) (C := R_P) (T := F_P) (N := 4) hx hb ht i_P hown hK hP 0 rfl rfl 0 (by decide) (ht _ m_91) (fun _ h9 => h9) rfl dP_evaluate_20 ?_
    refine va_getN (D := D) (ci := 2) (v := .ref (eq 1)) (C := R_E) (T := F_E) (N := 5) hx hb ht i_E hown hK hP 1 rfl rfl 1 (by decide) (va_Nw.use rfl (hN _ mn_3)) (fun _ h9 => h9) rfl dP_evaluate_23 ?_
    refine lv_iload_n hx hb dP_evaluate_26 rfl (lv_at hl 2 rfl) ?_
    have i27 : vp_in (nI e) 80 := gx_in (rfl : (nI e) = (nI e)) (by omega) (by decide)
    have k27 : ((nI e) : Int32).toNatClampNeg = e := gx_cl (rfl : (nI e) = (nI e)) (by omega)
    refine va_iald hx hb hK hP 3 0 rfl rfl i27 dP_evaluate_27 ?_
    rw [k27]
    refine lv_topi (fun v27 e27 => ?_)
    rw [hea] at e27
    subst e27
    refine lv_istore (lv' := [(5, .int (nI a)), (4, .int 10), (0, .ref g), (1, .int (nI e)), (2, .int (nI lv)), (3, .int (nI d))]) hx hb dP_evaluate_28 hl (by decide) rfl (fun ls hl => ?_)
    refine lv_aload_n hx hb dP_evaluate_30 rfl (lv_at hl 2 rfl) ?_
    refine va_get (D := D) (ci := 3) (v := .ref eo) (C := R_P) (T := F_P) (N := 4) hx hb ht i_P hown hK hP 0 rfl rfl 0 (by decide) (ht _ m_91) (fun _ h9 => h9) rfl dP_evaluate_31 ?_
    refine va_getN (D := D) (ci := 2) (v := .ref (eq 2)) (C := R_E) (T := F_E) (N := 5) hx hb ht i_E hown hK hP 1 rfl rfl 2 (by decide) (va_Nw.use rfl (hN _ mn_4)) (fun _ h9 => h9) rfl dP_evaluate_34 ?_
    refine lv_iload_n hx hb dP_evaluate_37 rfl (lv_at hl 3 rfl) ?_
    have i38 : vp_in (nI e) 80 := gx_in (rfl : (nI e) = (nI e)) (by omega) (by decide)
    have k38 : ((nI e) : Int32).toNatClampNeg = e := gx_cl (rfl : (nI e) = (nI e)) (by omega)
    refine va_iald hx hb hK hP 4 0 rfl rfl i38 dP_evaluate_38 ?_
    rw [k38]
    refine lv_topi (fun v38 e38 => ?_)
    rw [heb] at e38
    subst e38
    refine lv_istore (lv' := [(6, .int (nI b)), (5, .int (nI a)), (4, .int 10), (0, .ref g), (1, .int (nI e)), (2, .int (nI lv)), (3, .int (nI d))]) hx hb dP_evaluate_39 hl (by decide) rfl (fun ls hl => ?_)
    refine lv_iload hx hb dP_evaluate_41 (lv_at hl 2 rfl) ?_
    refine gc_i (va_runS (As := [.int 10]) (rest := []) ⟨hx, hb, hml, hown, ht⟩ (c_E_hasLeft l D cI cJ cB cZ 10 H.size) (va_cwS 1 ht (gw_S m_341 m_165 m_3 m_166) rfl rfl rfl (by decide +kernel) ⟨show 0 + 1 ≤ 8 * (n + 1) + 8 by omega, show 8 + (1 + 11) + (0) ≤ 200 * (n + 1) + 200 by omega⟩) (gp_S hK hN (hP.sub (ws' := ([] : va_W)) [] rfl) (hD.sub (ws' := ([] : va_W)) [] (by decide) rfl)) rfl rfl hl.1 rfl (lv_room (Nat.le_of_ble_eq_true rfl)) dP_evaluate_43 ⟨Nat.le_of_ble_eq_true rfl, Nat.le_of_ble_eq_true rfl⟩) hP hD hS hA [] rfl (by decide) (fun r w h => by obtain ⟨_, rfl⟩ := h; rfl) (fun r43 w43 H locs p43 hP hD hS => ?_)
    obtain ⟨rfl, rfl⟩ := p43
    have hP : va_P D vwCl ([(g, .inr (3, [.ref eo, .ref bo, .ref t, .ref co])), (eo, .inr (2, [.ref (eq 0), .ref (eq 1), .ref (eq 2), .ref (eq 3), .int (nI X.2.2.2.2)])), ((eq 0), .inl (cI, 80, .inl X.1)), ((eq 1), .inl (cI, 80, .inl X.2.1)), ((eq 2), .inl (cI, 80, .inl X.2.2.1)), ((eq 3), .inl (cI, 80, .inl X.2.2.2.1)), (bo, .inl (cB, 8, .inr (.inr (.inr (.inr ba))))), (t, .inr (4, [.ref (tq 0), .ref (tq 1), .ref (tq 2), .ref (tq 3), .ref (tq 4), .ref (tq 5), .ref (tq 6), .ref (tq 7), .int (nI S.1.2.2.2.2)])), ((tq 0), .inl (cI, 64, .inl (fun z9 => nI (S.1.1 z9)))), ((tq 1), .inl (cI, 64, .inl (fun z9 => nI (S.1.2.1 z9)))), ((tq 2), .inl (cI, 64, .inl (fun z9 => nI (S.1.2.2.1 z9)))), ((tq 3), .inl (cJ, 64, .inr (.inl S.1.2.2.2.1))), ((tq 4), .inl (cJ, 64, .inr (.inl f1))), ((tq 5), .inl (cJ, 64, .inr (.inl f2))), ((tq 6), .inl (cJ, 64, .inr (.inl f3))), ((tq 7), .inl (cJ, 64, .inr (.inl f4))), (co, .inl (cI, 112, .inl (fun z9 => nI (S.2 z9))))] ++ tl) H := hP
    have hD : va_D A ([(g, .inr (3, [.ref eo, .ref bo, .ref t, .ref co])), (eo, .inr (2, [.ref (eq 0), .ref (eq 1), .ref (eq 2), .ref (eq 3), .int (nI X.2.2.2.2)])), ((eq 0), .inl (cI, 80, .inl X.1)), ((eq 1), .inl (cI, 80, .inl X.2.1)), ((eq 2), .inl (cI, 80, .inl X.2.2.1)), ((eq 3), .inl (cI, 80, .inl X.2.2.2.1)), (bo, .inl (cB, 8, .inr (.inr (.inr (.inr ba))))), (t, .inr (4, [.ref (tq 0), .ref (tq 1), .ref (tq 2), .ref (tq 3), .ref (tq 4), .ref (tq 5), .ref (tq 6), .ref (tq 7), .int (nI S.1.2.2.2.2)])), ((tq 0), .inl (cI, 64, .inl (fun z9 => nI (S.1.1 z9)))), ((tq 1), .inl (cI, 64, .inl (fun z9 => nI (S.1.2.1 z9)))), ((tq 2), .inl (cI, 64, .inl (fun z9 => nI (S.1.2.2.1 z9)))), ((tq 3), .inl (cJ, 64, .inr (.inl S.1.2.2.2.1))), ((tq 4), .inl (cJ, 64, .inr (.inl f1))), ((tq 5), .inl (cJ, 64, .inr (.inl f2))), ((tq 6), .inl (cJ, 64, .inr (.inl f3))), ((tq 7), .inl (cJ, 64, .inr (.inl f4))), (co, .inl (cI, 112, .inl (fun z9 => nI (S.2 z9))))] ++ tl) := hD
    refine lv_if_eq (tgt := 62) hx hb dP_evaluate_46 (by decide) (fun c46 => ?_) (fun c46 => ?_)
    · exact (gb_1.mp c46 (by decide)).elim
    · refine lv_aload_n hx hb dP_evaluate_49 rfl (lv_at hl 3 rfl) ?_
      refine lv_iload hx hb dP_evaluate_50 (lv_at hl 1 rfl) ?_
      refine lv_iload_n hx hb dP_evaluate_52 rfl (lv_at hl 5 rfl) ?_
      refine lv_iload_n hx hb dP_evaluate_53 rfl (lv_at hl 6 rfl) ?_
      refine lv_iconst (v := 1) hx hb dP_evaluate_54 (by decide) ?_
      refine lv_iadd hx hb dP_evaluate_55 ?_
      refine lv_topi (fun v55 e55 => ?_)
      have n55 : v55 = nI (d + 1) := by rw [e55]; exact gx_add (rfl : (nI d) = (nI d)) (rfl : (1 : Int32) = nI 1)
      subst n55
      refine gc_wi (va_runV (As := [.int (nI a), .int (nI lv), .int (nI (d + 1))]) (rest := []) ⟨hx, hb, hml, hown, ht⟩ (hE (d + 1) a lv S (by omega) (by omega) hlv hS9 H.size) (cwV 3 ht (gw_V m_337 m_339 ms_12 m_2 m_340) rfl rfl rfl (by decide +kernel) ⟨show (8 * n + 8) + 1 ≤ 8 * (n + 1) + 8 by omega, show 8 + (9 + 11) + (200 * n + 200) ≤ 200 * (n + 1) + 200 by omega⟩) (gp_V (ci := 3) (q0 := 0) hK hN hP hD rfl rfl) rfl rfl hl.1 rfl (lv_room (Nat.le_of_ble_eq_true rfl)) dP_evaluate_56 ⟨Nat.le_of_ble_eq_true rfl, Nat.le_of_ble_eq_true rfl⟩) hP hD hS hA (fun r56 w56 H locs p56 hP hD hS => ?_)
      obtain ⟨rfl, rfl⟩ := p56
      have hP : va_P D vwCl ([(g, .inr (3, [.ref eo, .ref bo, .ref t, .ref co])), (eo, .inr (2, [.ref (eq 0), .ref (eq 1), .ref (eq 2), .ref (eq 3), .int (nI X.2.2.2.2)])), ((eq 0), .inl (cI, 80, .inl X.1)), ((eq 1), .inl (cI, 80, .inl X.2.1)), ((eq 2), .inl (cI, 80, .inl X.2.2.1)), ((eq 3), .inl (cI, 80, .inl X.2.2.2.1)), (bo, .inl (cB, 8, .inr (.inr (.inr (.inr ba))))), (t, .inr (4, [.ref (tq 0), .ref (tq 1), .ref (tq 2), .ref (tq 3), .ref (tq 4), .ref (tq 5), .ref (tq 6), .ref (tq 7), .int (nI (((((pg X ba Bs n).1 a lv S).2).1).2.2.2.2))])), ((tq 0), .inl (cI, 64, .inl (fun z9 => nI ((((((pg X ba Bs n).1 a lv S).2).1).1) z9)))), ((tq 1), .inl (cI, 64, .inl (fun z9 => nI ((((((pg X ba Bs n).1 a lv S).2).1).2.1) z9)))), ((tq 2), .inl (cI, 64, .inl (fun z9 => nI ((((((pg X ba Bs n).1 a lv S).2).1).2.2.1) z9)))), ((tq 3), .inl (cJ, 64, .inr (.inl (((((pg X ba Bs n).1 a lv S).2).1).2.2.2.1)))), ((tq 4), .inl (cJ, 64, .inr (.inl f1))), ((tq 5), .inl (cJ, 64, .inr (.inl f2))), ((tq 6), .inl (cJ, 64, .inr (.inl f3))), ((tq 7), .inl (cJ, 64, .inr (.inl f4))), (co, .inl (cI, 112, .inl (fun z9 => nI (((((pg X ba Bs n).1 a lv S).2).2) z9))))] ++ tl) H := hP
      have hD : va_D A ([(g, .inr (3, [.ref eo, .ref bo, .ref t, .ref co])), (eo, .inr (2, [.ref (eq 0), .ref (eq 1), .ref (eq 2), .ref (eq 3), .int (nI X.2.2.2.2)])), ((eq 0), .inl (cI, 80, .inl X.1)), ((eq 1), .inl (cI, 80, .inl X.2.1)), ((eq 2), .inl (cI, 80, .inl X.2.2.1)), ((eq 3), .inl (cI, 80, .inl X.2.2.2.1)), (bo, .inl (cB, 8, .inr (.inr (.inr (.inr ba))))), (t, .inr (4, [.ref (tq 0), .ref (tq 1), .ref (tq 2), .ref (tq 3), .ref (tq 4), .ref (tq 5), .ref (tq 6), .ref (tq 7), .int (nI (((((pg X ba Bs n).1 a lv S).2).1).2.2.2.2))])), ((tq 0), .inl (cI, 64, .inl (fun z9 => nI ((((((pg X ba Bs n).1 a lv S).2).1).1) z9)))), ((tq 1), .inl (cI, 64, .inl (fun z9 => nI ((((((pg X ba Bs n).1 a lv S).2).1).2.1) z9)))), ((tq 2), .inl (cI, 64, .inl (fun z9 => nI ((((((pg X ba Bs n).1 a lv S).2).1).2.2.1) z9)))), ((tq 3), .inl (cJ, 64, .inr (.inl (((((pg X ba Bs n).1 a lv S).2).1).2.2.2.1)))), ((tq 4), .inl (cJ, 64, .inr (.inl f1))), ((tq 5), .inl (cJ, 64, .inr (.inl f2))), ((tq 6), .inl (cJ, 64, .inr (.inl f3))), ((tq 7), .inl (cJ, 64, .inr (.inl f4))), (co, .inl (cI, 112, .inl (fun z9 => nI (((((pg X ba Bs n).1 a lv S).2).2) z9))))] ++ tl) := hD
      have b56 := hre a lv S (by omega) hlv hS9
      have b56x := b56.1
      have b56y := b56.2.1
      refine lv_goto (tgt := 63) hx hb dP_evaluate_59 (by decide) ?_
      refine lv_istore (lv' := [(7, .int (nI (((pg X ba Bs n).1 a lv S).1))), (6, .int (nI b)), (5, .int (nI a)), (4, .int 10), (0, .ref g), (1, .int (nI e)), (2, .int (nI lv)), (3, .int (nI d))]) hx hb dP_evaluate_63 hl (by decide) rfl (fun ls hl => ?_)
      refine lv_iload hx hb dP_evaluate_65 (lv_at hl 3 rfl) ?_
      refine gc_i (va_runS (As := [.int 10]) (rest := []) ⟨hx, hb, hml, hown, ht⟩ (c_E_hasRight l D cI cJ cB cZ 10 H.size) (va_cwS 1 ht (gw_S m_342 m_175 m_3 m_176) rfl rfl rfl (by decide +kernel) ⟨show 0 + 1 ≤ 8 * (n + 1) + 8 by omega, show 8 + (1 + 11) + (0) ≤ 200 * (n + 1) + 200 by omega⟩) (gp_S hK hN (hP.sub (ws' := ([] : va_W)) [] rfl) (hD.sub (ws' := ([] : va_W)) [] (by decide) rfl)) rfl rfl hl.1 rfl (lv_room (Nat.le_of_ble_eq_true rfl)) dP_evaluate_67 ⟨Nat.le_of_ble_eq_true rfl, Nat.le_of_ble_eq_true rfl⟩) hP hD hS hA [] rfl (by decide) (fun r w h => by obtain ⟨_, rfl⟩ := h; rfl) (fun r67 w67 H locs p67 hP hD hS => ?_)
      obtain ⟨rfl, rfl⟩ := p67
      have hP : va_P D vwCl ([(g, .inr (3, [.ref eo, .ref bo, .ref t, .ref co])), (eo, .inr (2, [.ref (eq 0), .ref (eq 1), .ref (eq 2), .ref (eq 3), .int (nI X.2.2.2.2)])), ((eq 0), .inl (cI, 80, .inl X.1)), ((eq 1), .inl (cI, 80, .inl X.2.1)), ((eq 2), .inl (cI, 80, .inl X.2.2.1)), ((eq 3), .inl (cI, 80, .inl X.2.2.2.1)), (bo, .inl (cB, 8, .inr (.inr (.inr (.inr ba))))), (t, .inr (4, [.ref (tq 0), .ref (tq 1), .ref (tq 2), .ref (tq 3), .ref (tq 4), .ref (tq 5), .ref (tq 6), .ref (tq 7), .int (nI (((((pg X ba Bs n).1 a lv S).2).1).2.2.2.2))])), ((tq 0), .inl (cI, 64, .inl (fun z9 => nI ((((((pg X ba Bs n).1 a lv S).2).1).1) z9)))), ((tq 1), .inl (cI, 64, .inl (fun z9 => nI ((((((pg X ba Bs n).1 a lv S).2).1).2.1) z9)))), ((tq 2), .inl (cI, 64, .inl (fun z9 => nI ((((((pg X ba Bs n).1 a lv S).2).1).2.2.1) z9)))), ((tq 3), .inl (cJ, 64, .inr (.inl (((((pg X ba Bs n).1 a lv S).2).1).2.2.2.1)))), ((tq 4), .inl (cJ, 64, .inr (.inl f1))), ((tq 5), .inl (cJ, 64, .inr (.inl f2))), ((tq 6), .inl (cJ, 64, .inr (.inl f3))), ((tq 7), .inl (cJ, 64, .inr (.inl f4))), (co, .inl (cI, 112, .inl (fun z9 => nI (((((pg X ba Bs n).1 a lv S).2).2) z9))))] ++ tl) H := hP
      have hD : va_D A ([(g, .inr (3, [.ref eo, .ref bo, .ref t, .ref co])), (eo, .inr (2, [.ref (eq 0), .ref (eq 1), .ref (eq 2), .ref (eq 3), .int (nI X.2.2.2.2)])), ((eq 0), .inl (cI, 80, .inl X.1)), ((eq 1), .inl (cI, 80, .inl X.2.1)), ((eq 2), .inl (cI, 80, .inl X.2.2.1)), ((eq 3), .inl (cI, 80, .inl X.2.2.2.1)), (bo, .inl (cB, 8, .inr (.inr (.inr (.inr ba))))), (t, .inr (4, [.ref (tq 0), .ref (tq 1), .ref (tq 2), .ref (tq 3), .ref (tq 4), .ref (tq 5), .ref (tq 6), .ref (tq 7), .int (nI (((((pg X ba Bs n).1 a lv S).2).1).2.2.2.2))])), ((tq 0), .inl (cI, 64, .inl (fun z9 => nI ((((((pg X ba Bs n).1 a lv S).2).1).1) z9)))), ((tq 1), .inl (cI, 64, .inl (fun z9 => nI ((((((pg X ba Bs n).1 a lv S).2).1).2.1) z9)))), ((tq 2), .inl (cI, 64, .inl (fun z9 => nI ((((((pg X ba Bs n).1 a lv S).2).1).2.2.1) z9)))), ((tq 3), .inl (cJ, 64, .inr (.inl (((((pg X ba Bs n).1 a lv S).2).1).2.2.2.1)))), ((tq 4), .inl (cJ, 64, .inr (.inl f1))), ((tq 5), .inl (cJ, 64, .inr (.inl f2))), ((tq 6), .inl (cJ, 64, .inr (.inl f3))), ((tq 7), .inl (cJ, 64, .inr (.inl f4))), (co, .inl (cI, 112, .inl (fun z9 => nI (((((pg X ba Bs n).1 a lv S).2).2) z9))))] ++ tl) := hD
      refine lv_if_eq (tgt := 86) hx hb dP_evaluate_70 (by decide) (fun c70 => ?_) (fun c70 => ?_)
      · refine lv_iconst (v := 0) hx hb dP_evaluate_86 (by decide) ?_
        refine lv_istore (lv' := [(8, .int 0), (7, .int (nI (((pg X ba Bs n).1 a lv S).1))), (6, .int (nI b)), (5, .int (nI a)), (4, .int 10), (0, .ref g), (1, .int (nI e)), (2, .int (nI lv)), (3, .int (nI d))]) hx hb dP_evaluate_87 hl (by decide) rfl (fun ls hl => ?_)
        refine lv_iload hx hb dP_evaluate_89 (lv_at hl 4 rfl) ?_
        refine lv_tableIn (tgt := 188) (off := 97) hx hb dP_evaluate_91 (by decide) (by decide) (by rfl) (by decide) ?_
        refine lv_aload_n hx hb dP_evaluate_188 rfl (lv_at hl 5 rfl) ?_
        refine va_get (D := D) (ci := 3) (v := .ref co) (C := R_P) (T := F_P) (N := 4) hx hb ht i_P hown hK hP 0 rfl rfl 3 (by decide) (ht _ m_97) (fun _ h9 => h9) rfl dP_evaluate_189 ?_
        refine lv_aload_n hx hb dP_evaluate_192 rfl (lv_at hl 5 rfl) ?_
        refine lv_iload_n hx hb dP_evaluate_193 rfl (lv_at hl 7 rfl) ?_
        refine lv_iload hx hb dP_evaluate_194 (lv_at hl 2 rfl) ?_
        refine lv_iload hx hb dP_evaluate_196 (lv_at hl 1 rfl) ?_
        refine gc_ri (va_runV (As := [.int (nI lv), .int (nI b), .int (nI (((pg X ba Bs n).1 a lv S).1))]) (rest := [.ref co]) ⟨hx, hb, hml, hown, ht⟩ (c_P_elementCell l D cI cJ cB cZ g eo bo t co eq tq tl X ba f1 f2 f3 f4 (((pg X ba Bs n).1 a lv S).2) lv b (((pg X ba Bs n).1 a lv S).1) (by omega) H.size) (cwV 3 ht (gw_V m_356 m_358 ms_13 m_2 m_359) rfl rfl rfl (by decide +kernel) ⟨show 0 + 1 ≤ 8 * (n + 1) + 8 by omega, show 8 + (5 + 11) + (0) ≤ 200 * (n + 1) + 200 by omega⟩) (gp_V (ci := 3) (q0 := 0) hK hN hP hD rfl rfl) rfl rfl hl.1 rfl (lv_room (Nat.le_of_ble_eq_true rfl)) dP_evaluate_198 ⟨Nat.le_of_ble_eq_true rfl, Nat.le_of_ble_eq_true rfl⟩) hP hD hS hA (fun q h => h) (fun r w h => h.2) (fun r198 H locs p198 hP hS => ?_)
        obtain ⟨rfl, -⟩ := p198
        have hel : (px_el lv b (((pg X ba Bs n).1 a lv S).1) ((((pg X ba Bs n).1 a lv S).2).1)) < 112 := by have := pl_lt (((((pg X ba Bs n).1 a lv S).2).1).2.2.2.1 ((pg X ba Bs n).1 a lv S).1); unfold px_el; omega
        have i201 : vp_in (nI (px_el lv b (((pg X ba Bs n).1 a lv S).1) ((((pg X ba Bs n).1 a lv S).2).1))) 112 := gx_in (rfl : (nI (px_el lv b (((pg X ba Bs n).1 a lv S).1) ((((pg X ba Bs n).1 a lv S).2).1))) = (nI (px_el lv b (((pg X ba Bs n).1 a lv S).1) ((((pg X ba Bs n).1 a lv S).2).1)))) (by omega) (by decide)
        have k201 : ((nI (px_el lv b (((pg X ba Bs n).1 a lv S).1) ((((pg X ba Bs n).1 a lv S).2).1))) : Int32).toNatClampNeg = (px_el lv b (((pg X ba Bs n).1 a lv S).1) ((((pg X ba Bs n).1 a lv S).2).1)) := gx_cl (rfl : (nI (px_el lv b (((pg X ba Bs n).1 a lv S).1) ((((pg X ba Bs n).1 a lv S).2).1))) = (nI (px_el lv b (((pg X ba Bs n).1 a lv S).1) ((((pg X ba Bs n).1 a lv S).2).1)))) (by omega)
        refine va_iald hx hb hK hP 16 0 rfl rfl i201 dP_evaluate_201 ?_
        rw [k201]
        refine lv_topi (fun v201 e201 => ?_)
        have n201 : v201 = nI (((((pg X ba Bs n).1 a lv S).2).2) (px_el lv b (((pg X ba Bs n).1 a lv S).1) ((((pg X ba Bs n).1 a lv S).2).1))) := e201
        subst n201
        have hz : (pg X ba Bs (n + 1)).1 e lv S = ((((((pg X ba Bs n).1 a lv S).2).2) (px_el lv b (((pg X ba Bs n).1 a lv S).1) ((((pg X ba Bs n).1 a lv S).2).1))), ((pg X ba Bs n).1 a lv S).2) := by
          show px_ev X (pg X ba Bs n).1 (px_ent ba Bs (pg X ba Bs n).2) e lv S = _
          simp [px_ev, px_r1, px_r2, px_R, hke, hea, heb, show cn (10 : Int32) = 10 from rfl, cn_nI (show a < 2 ^ 31 by omega), cn_nI (show b < 2 ^ 31 by omega)]
        exact W.iret (v := (nI (((((pg X ba Bs n).1 a lv S).2).2) (px_el lv b (((pg X ba Bs n).1 a lv S).1) ((((pg X ba Bs n).1 a lv S).2).1))))) hx hb hr (fun t9 ht9 hW => ⟨⟨(nI (((((pg X ba Bs n).1 a lv S).2).2) (px_el lv b (((pg X ba Bs n).1 a lv S).1) ((((pg X ba Bs n).1 a lv S).2).1)))), _, rfl, ⟨by rw [hz], by rw [hz]⟩, by rw [ht9]; exact hP, hD⟩, hS.F ht9⟩) hS.2.2 dP_evaluate_202
      · exact absurd (gb_1.mpr (by decide)) c70
  · have g3 : ¬ (d ≤ 50) := fun z => c3 ((gx_le (rfl : (nI d) = (nI d)) (rfl : (50 : Int32) = nI 50) (by omega) (by decide)).mpr z)
    exact absurd g3 (by omega)

set_option maxHeartbeats 4000000 in
set_option maxRecDepth 100000 in
theorem c_P_evaluate_11 (l : Launch) (D : va_G) (cI cJ cB cZ : ClassId) (g eo bo t co : Nat) (eq tq : Nat → Nat) (tl : va_W) (X : Ex) (ba : Nat → Option Nat) (f1 f2 f3 f4 : Nat → Int64) (Bs : Nat → Bd) (n d e lv : Nat) (S : Sx) (a : Nat) (b : Nat) (cc : Nat) (hE : cE l D cI cJ cB cZ g eo bo t co eq tq tl X ba f1 f2 f3 f4 Bs n) (hN9 : cN l D cI cJ cB cZ g eo bo t co eq tq tl X ba f1 f2 f3 f4 Bs n) (hd : d + (n + 1) = 51) (hX80 : X.2.2.2.2 ≤ 80) (he : e < X.2.2.2.2) (hlv : lv < 8) (hS9 : sx_ok S) (hre : re_ok X (pg X ba Bs n).1) (hke : X.1 e = 11) (ha : a < e) (hea : X.2.1 e = nI a) (hb8 : b < e) (heb : X.2.2.1 e = nI b) (hc8 : cc < 8) (hec : X.2.2.2.1 e = nI cc) : ct_I l y_P_evaluate w_P_evaluate ({ frames := 8 * (n + 1) + 8, cells := 0, slots := 0, locals := 200 * (n + 1) + 200 }) D (gk_T cI cJ cB cZ) [.ref g, .int (nI e), .int (nI lv), .int (nI d)] (wPg cI cJ cB g eo bo t co eq tq X ba S f1 f2 f3 f4 ++ tl) (0) (0) (fun r w => r = nI ((pg X ba Bs (n + 1)).1 e lv S).1 ∧ w = (wPg cI cJ cB g eo bo t co eq tq X ba (((pg X ba Bs (n + 1)).1 e lv S).2) f1 f2 f3 f4 ++ tl)) := by
  intro sz
  refine Met.ofW (cc := b_P_evaluate) (maxL := 9) (ret := (some .int)) (by decide) rfl ?_
  intro p ev9 s m args below meth c s₁ B9 hml hv
  obtain ⟨rfl, hsz, hP, hK, hN, hD0⟩ := hv
  have hx := B9.exec
  have hb := B9.bytes
  have hr := B9.returns
  have hts := atoms_spec (ws := w_P_evaluate) B9.pre
  have ht : ∀ w ∈ gk_big, w.before _ s = true := fun w h => hts w (List.mem_cons_of_mem _ h)
  have hown : s.vm.findClass R_P = some m.cls := findClass_of_methodNamed B9.named
  have hlocks := B9.notSynchronized
  subst hsz
  have hD := hD0.self (sz := s.heap.size)
  generalize hAe : va_A (wPg cI cJ cB g eo bo t co eq tq X ba S f1 f2 f3 f4 ++ tl) s.heap.size = A at hD ⊢
  have hA : ∀ q : Nat, s.heap.size ≤ q → A q := fun q h => by rw [← hAe]; exact Or.inr h
  generalize hHe : s.heap = H at hP ⊢
  have hS : va_S A s.heap H [] := by rw [← hHe]; exact va_S.rf
  have hP : va_P D vwCl ([(g, .inr (3, [.ref eo, .ref bo, .ref t, .ref co])), (eo, .inr (2, [.ref (eq 0), .ref (eq 1), .ref (eq 2), .ref (eq 3), .int (nI X.2.2.2.2)])), ((eq 0), .inl (cI, 80, .inl X.1)), ((eq 1), .inl (cI, 80, .inl X.2.1)), ((eq 2), .inl (cI, 80, .inl X.2.2.1)), ((eq 3), .inl (cI, 80, .inl X.2.2.2.1)), (bo, .inl (cB, 8, .inr (.inr (.inr (.inr ba))))), (t, .inr (4, [.ref (tq 0), .ref (tq 1), .ref (tq 2), .ref (tq 3), .ref (tq 4), .ref (tq 5), .ref (tq 6), .ref (tq 7), .int (nI S.1.2.2.2.2)])), ((tq 0), .inl (cI, 64, .inl (fun z9 => nI (S.1.1 z9)))), ((tq 1), .inl (cI, 64, .inl (fun z9 => nI (S.1.2.1 z9)))), ((tq 2), .inl (cI, 64, .inl (fun z9 => nI (S.1.2.2.1 z9)))), ((tq 3), .inl (cJ, 64, .inr (.inl S.1.2.2.2.1))), ((tq 4), .inl (cJ, 64, .inr (.inl f1))), ((tq 5), .inl (cJ, 64, .inr (.inl f2))), ((tq 6), .inl (cJ, 64, .inr (.inl f3))), ((tq 7), .inl (cJ, 64, .inr (.inl f4))), (co, .inl (cI, 112, .inl (fun z9 => nI (S.2 z9))))] ++ tl) H := hP
  have hD : va_D A ([(g, .inr (3, [.ref eo, .ref bo, .ref t, .ref co])), (eo, .inr (2, [.ref (eq 0), .ref (eq 1), .ref (eq 2), .ref (eq 3), .int (nI X.2.2.2.2)])), ((eq 0), .inl (cI, 80, .inl X.1)), ((eq 1), .inl (cI, 80, .inl X.2.1)), ((eq 2), .inl (cI, 80, .inl X.2.2.1)), ((eq 3), .inl (cI, 80, .inl X.2.2.2.1)), (bo, .inl (cB, 8, .inr (.inr (.inr (.inr ba))))), (t, .inr (4, [.ref (tq 0), .ref (tq 1), .ref (tq 2), .ref (tq 3), .ref (tq 4), .ref (tq 5), .ref (tq 6), .ref (tq 7), .int (nI S.1.2.2.2.2)])), ((tq 0), .inl (cI, 64, .inl (fun z9 => nI (S.1.1 z9)))), ((tq 1), .inl (cI, 64, .inl (fun z9 => nI (S.1.2.1 z9)))), ((tq 2), .inl (cI, 64, .inl (fun z9 => nI (S.1.2.2.1 z9)))), ((tq 3), .inl (cJ, 64, .inr (.inl S.1.2.2.2.1))), ((tq 4), .inl (cJ, 64, .inr (.inl f1))), ((tq 5), .inl (cJ, 64, .inr (.inl f2))), ((tq 6), .inl (cJ, 64, .inr (.inl f3))), ((tq 7), .inl (cJ, 64, .inr (.inl f4))), (co, .inl (cI, 112, .inl (fun z9 => nI (S.2 z9))))] ++ tl) := hD
  have hl := lv_entry ([.ref g, .int (nI e), .int (nI lv), .int (nI d)]) (n := 9) (Nat.le_of_ble_eq_true rfl)
  rw [lg_entry_eq]
  generalize (lg_sl ([.ref g, .int (nI e), .int (nI lv), .int (nI d)]) ++ List.replicate (9 - (lg_sl ([.ref g, .int (nI e), .int (nI lv), .int (nI d)])).length) Slot.unset).toArray = ls at hl ⊢
  have hl : lv_has ls 9 [(0, .ref g), (1, .int (nI e)), (2, .int (nI lv)), (3, .int (nI d))] := hl
  have hSn := hS9.1
  have hSc := hS9.2
  refine lv_iload_n hx hb dP_evaluate_0 rfl (lv_at hl 3 rfl) ?_
  refine lv_bipush (v := 50) hx hb dP_evaluate_1 (by decide) ?_
  refine lv_icmp_le (tgt := 8) hx hb dP_evaluate_3 (by decide) (fun c3 => ?_) (fun c3 => ?_)
  · have g3 : d ≤ 50 := (gx_le (rfl : (nI d) = (nI d)) (rfl : (50 : Int32) = nI 50) (by omega) (by decide)).mp c3
    refine lv_aload_n hx hb dP_evaluate_8 rfl (lv_at hl 0 rfl) ?_
    refine va_get (D := D) (ci := 3) (v := .ref eo) (C := R_P) (T := F_P) (N := 4) hx hb ht i_P hown hK hP 0 rfl rfl 0 (by decide) (ht _ m_91) (fun _ h9 => h9) rfl dP_evaluate_9 ?_
    refine va_getN (D := D) (ci := 2) (v := .ref (eq 0)) (C := R_E) (T := F_E) (N := 5) hx hb ht i_E hown hK hP 1 rfl rfl 0 (by decide) (va_Nw.use rfl (hN _ mn_2)) (fun _ h9 => h9) rfl dP_evaluate_12 ?_
    refine lv_iload_n hx hb dP_evaluate_15 rfl (lv_at hl 1 rfl) ?_
    have i16 : vp_in (nI e) 80 := gx_in (rfl : (nI e) = (nI e)) (by omega) (by decide)
    have k16 : ((nI e) : Int32).toNatClampNeg = e := gx_cl (rfl : (nI e) = (nI e)) (by omega)
    refine va_iald hx hb hK hP 2 0 rfl rfl i16 dP_evaluate_16 ?_
    rw [k16]
    refine lv_topi (fun v16 e16 => ?_)
    rw [hke] at e16
    subst e16
    refine lv_istore (lv' := [(4, .int 11), (0, .ref g), (1, .int (nI e)), (2, .int (nI lv)), (3, .int (nI d))]) hx hb dP_evaluate_17 hl (by decide) rfl (fun ls hl => ?_)
    refine lv_aload_n hx hb dP_evaluate_19 rfl (lv_at hl 1 rfl) ?_
    refine va_get (D := D) (ci := 3) (v := .ref eo) (C := R_P) (T := F_P) (N := 4) hx hb ht i_P hown hK hP 0 rfl rfl 0 (by decide) (ht _ m_91) (fun _ h9 => h9) rfl dP_evaluate_20 ?_
    refine va_getN (D := D) (ci := 2) (v := .ref (eq 1)) (C := R_E) (T := F_E) (N := 5) hx hb ht i_E hown hK hP 1 rfl rfl 1 (by decide) (va_Nw.use rfl (hN _ mn_3)) (fun _ h9 => h9) rfl dP_evaluate_23 ?_
    refine lv_iload_n hx hb dP_evaluate_26 rfl (lv_at hl 2 rfl) ?_
    have i27 : vp_in (nI e) 80 := gx_in (rfl : (nI e) = (nI e)) (by omega) (by decide)
    have k27 : ((nI e) : Int32).toNatClampNeg = e := gx_cl (rfl : (nI e) = (nI e)) (by omega)
    refine va_iald hx hb hK hP 3 0 rfl rfl i27 dP_evaluate_27 ?_
    rw [k27]
    refine lv_topi (fun v27 e27 => ?_)
    rw [hea] at e27
    subst e27
    refine lv_istore (lv' := [(5, .int (nI a)), (4, .int 11), (0, .ref g), (1, .int (nI e)), (2, .int (nI lv)), (3, .int (nI d))]) hx hb dP_evaluate_28 hl (by decide) rfl (fun ls hl => ?_)
    refine lv_aload_n hx hb dP_evaluate_30 rfl (lv_at hl 2 rfl) ?_
    refine va_get (D := D) (ci := 3) (v := .ref eo) (C := R_P) (T := F_P) (N := 4) hx hb ht i_P hown hK hP 0 rfl rfl 0 (by decide) (ht _ m_91) (fun _ h9 => h9) rfl dP_evaluate_31 ?_
    refine va_getN (D := D) (ci := 2) (v := .ref (eq 2)) (C := R_E) (T := F_E) (N := 5) hx hb ht i_E hown hK hP 1 rfl rfl 2 (by decide) (va_Nw.use rfl (hN _ mn_4)) (fun _ h9 => h9) rfl dP_evaluate_34 ?_
    refine lv_iload_n hx hb dP_evaluate_37 rfl (lv_at hl 3 rfl) ?_
    have i38 : vp_in (nI e) 80 := gx_in (rfl : (nI e) = (nI e)) (by omega) (by decide)
    have k38 : ((nI e) : Int32).toNatClampNeg = e := gx_cl (rfl : (nI e) = (nI e)) (by omega)
    refine va_iald hx hb hK hP 4 0 rfl rfl i38 dP_evaluate_38 ?_
    rw [k38]
    refine lv_topi (fun v38 e38 => ?_)
    rw [heb] at e38
    subst e38
    refine lv_istore (lv' := [(6, .int (nI b)), (5, .int (nI a)), (4, .int 11), (0, .ref g), (1, .int (nI e)), (2, .int (nI lv)), (3, .int (nI d))]) hx hb dP_evaluate_39 hl (by decide) rfl (fun ls hl => ?_)
    refine lv_iload hx hb dP_evaluate_41 (lv_at hl 2 rfl) ?_
    refine gc_i (va_runS (As := [.int 11]) (rest := []) ⟨hx, hb, hml, hown, ht⟩ (c_E_hasLeft l D cI cJ cB cZ 11 H.size) (va_cwS 1 ht (gw_S m_341 m_165 m_3 m_166) rfl rfl rfl (by decide +kernel) ⟨show 0 + 1 ≤ 8 * (n + 1) + 8 by omega, show 8 + (1 + 11) + (0) ≤ 200 * (n + 1) + 200 by omega⟩) (gp_S hK hN (hP.sub (ws' := ([] : va_W)) [] rfl) (hD.sub (ws' := ([] : va_W)) [] (by decide) rfl)) rfl rfl hl.1 rfl (lv_room (Nat.le_of_ble_eq_true rfl)) dP_evaluate_43 ⟨Nat.le_of_ble_eq_true rfl, Nat.le_of_ble_eq_true rfl⟩) hP hD hS hA [] rfl (by decide) (fun r w h => by obtain ⟨_, rfl⟩ := h; rfl) (fun r43 w43 H locs p43 hP hD hS => ?_)
    obtain ⟨rfl, rfl⟩ := p43
    have hP : va_P D vwCl ([(g, .inr (3, [.ref eo, .ref bo, .ref t, .ref co])), (eo, .inr (2, [.ref (eq 0), .ref (eq 1), .ref (eq 2), .ref (eq 3), .int (nI X.2.2.2.2)])), ((eq 0), .inl (cI, 80, .inl X.1)), ((eq 1), .inl (cI, 80, .inl X.2.1)), ((eq 2), .inl (cI, 80, .inl X.2.2.1)), ((eq 3), .inl (cI, 80, .inl X.2.2.2.1)), (bo, .inl (cB, 8, .inr (.inr (.inr (.inr ba))))), (t, .inr (4, [.ref (tq 0), .ref (tq 1), .ref (tq 2), .ref (tq 3), .ref (tq 4), .ref (tq 5), .ref (tq 6), .ref (tq 7), .int (nI S.1.2.2.2.2)])), ((tq 0), .inl (cI, 64, .inl (fun z9 => nI (S.1.1 z9)))), ((tq 1), .inl (cI, 64, .inl (fun z9 => nI (S.1.2.1 z9)))), ((tq 2), .inl (cI, 64, .inl (fun z9 => nI (S.1.2.2.1 z9)))), ((tq 3), .inl (cJ, 64, .inr (.inl S.1.2.2.2.1))), ((tq 4), .inl (cJ, 64, .inr (.inl f1))), ((tq 5), .inl (cJ, 64, .inr (.inl f2))), ((tq 6), .inl (cJ, 64, .inr (.inl f3))), ((tq 7), .inl (cJ, 64, .inr (.inl f4))), (co, .inl (cI, 112, .inl (fun z9 => nI (S.2 z9))))] ++ tl) H := hP
    have hD : va_D A ([(g, .inr (3, [.ref eo, .ref bo, .ref t, .ref co])), (eo, .inr (2, [.ref (eq 0), .ref (eq 1), .ref (eq 2), .ref (eq 3), .int (nI X.2.2.2.2)])), ((eq 0), .inl (cI, 80, .inl X.1)), ((eq 1), .inl (cI, 80, .inl X.2.1)), ((eq 2), .inl (cI, 80, .inl X.2.2.1)), ((eq 3), .inl (cI, 80, .inl X.2.2.2.1)), (bo, .inl (cB, 8, .inr (.inr (.inr (.inr ba))))), (t, .inr (4, [.ref (tq 0), .ref (tq 1), .ref (tq 2), .ref (tq 3), .ref (tq 4), .ref (tq 5), .ref (tq 6), .ref (tq 7), .int (nI S.1.2.2.2.2)])), ((tq 0), .inl (cI, 64, .inl (fun z9 => nI (S.1.1 z9)))), ((tq 1), .inl (cI, 64, .inl (fun z9 => nI (S.1.2.1 z9)))), ((tq 2), .inl (cI, 64, .inl (fun z9 => nI (S.1.2.2.1 z9)))), ((tq 3), .inl (cJ, 64, .inr (.inl S.1.2.2.2.1))), ((tq 4), .inl (cJ, 64, .inr (.inl f1))), ((tq 5), .inl (cJ, 64, .inr (.inl f2))), ((tq 6), .inl (cJ, 64, .inr (.inl f3))), ((tq 7), .inl (cJ, 64, .inr (.inl f4))), (co, .inl (cI, 112, .inl (fun z9 => nI (S.2 z9))))] ++ tl) := hD
    refine lv_if_eq (tgt := 62) hx hb dP_evaluate_46 (by decide) (fun c46 => ?_) (fun c46 => ?_)
    · exact (gb_1.mp c46 (by decide)).elim
    · refine lv_aload_n hx hb dP_evaluate_49 rfl (lv_at hl 3 rfl) ?_
      refine lv_iload hx hb dP_evaluate_50 (lv_at hl 1 rfl) ?_
      refine lv_iload_n hx hb dP_evaluate_52 rfl (lv_at hl 5 rfl) ?_
      refine lv_iload_n hx hb dP_evaluate_53 rfl (lv_at hl 6 rfl) ?_
      refine lv_iconst (v := 1) hx hb dP_evaluate_54 (by decide) ?_
      refine lv_iadd hx hb dP_evaluate_55 ?_
      refine lv_topi (fun v55 e55 => ?_)
      have n55 : v55 = nI (d + 1) := by rw [e55]; exact gx_add (rfl : (nI d) = (nI d)) (rfl : (1 : Int32) = nI 1)
      subst n55
      refine gc_wi (va_runV (As := [.int (nI a), .int (nI lv), .int (nI (d + 1))]) (rest := []) ⟨hx, hb, hml, hown, ht⟩ (hE (d + 1) a lv S (by omega) (by omega) hlv hS9 H.size) (cwV 3 ht (gw_V m_337 m_339 ms_12 m_2 m_340) rfl rfl rfl (by decide +kernel) ⟨show (8 * n + 8) + 1 ≤ 8 * (n + 1) + 8 by omega, show 8 + (9 + 11) + (200 * n + 200) ≤ 200 * (n + 1) + 200 by omega⟩) (gp_V (ci := 3) (q0 := 0) hK hN hP hD rfl rfl) rfl rfl hl.1 rfl (lv_room (Nat.le_of_ble_eq_true rfl)) dP_evaluate_56 ⟨Nat.le_of_ble_eq_true rfl, Nat.le_of_ble_eq_true rfl⟩) hP hD hS hA (fun r56 w56 H locs p56 hP hD hS => ?_)
      obtain ⟨rfl, rfl⟩ := p56
      have hP : va_P D vwCl ([(g, .inr (3, [.ref eo, .ref bo, .ref t, .ref co])), (eo, .inr (2, [.ref (eq 0), .ref (eq 1), .ref (eq 2), .ref (eq 3), .int (nI X.2.2.2.2)])), ((eq 0), .inl (cI, 80, .inl X.1)), ((eq 1), .inl (cI, 80, .inl X.2.1)), ((eq 2), .inl (cI, 80, .inl X.2.2.1)), ((eq 3), .inl (cI, 80, .inl X.2.2.2.1)), (bo, .inl (cB, 8, .inr (.inr (.inr (.inr ba))))), (t, .inr (4, [.ref (tq 0), .ref (tq 1), .ref (tq 2), .ref (tq 3), .ref (tq 4), .ref (tq 5), .ref (tq 6), .ref (tq 7), .int (nI (((((pg X ba Bs n).1 a lv S).2).1).2.2.2.2))])), ((tq 0), .inl (cI, 64, .inl (fun z9 => nI ((((((pg X ba Bs n).1 a lv S).2).1).1) z9)))), ((tq 1), .inl (cI, 64, .inl (fun z9 => nI ((((((pg X ba Bs n).1 a lv S).2).1).2.1) z9)))), ((tq 2), .inl (cI, 64, .inl (fun z9 => nI ((((((pg X ba Bs n).1 a lv S).2).1).2.2.1) z9)))), ((tq 3), .inl (cJ, 64, .inr (.inl (((((pg X ba Bs n).1 a lv S).2).1).2.2.2.1)))), ((tq 4), .inl (cJ, 64, .inr (.inl f1))), ((tq 5), .inl (cJ, 64, .inr (.inl f2))), ((tq 6), .inl (cJ, 64, .inr (.inl f3))), ((tq 7), .inl (cJ, 64, .inr (.inl f4))), (co, .inl (cI, 112, .inl (fun z9 => nI (((((pg X ba Bs n).1 a lv S).2).2) z9))))] ++ tl) H := hP
      have hD : va_D A ([(g, .inr (3, [.ref eo, .ref bo, .ref t, .ref co])), (eo, .inr (2, [.ref (eq 0), .ref (eq 1), .ref (eq 2), .ref (eq 3), .int (nI X.2.2.2.2)])), ((eq 0), .inl (cI, 80, .inl X.1)), ((eq 1), .inl (cI, 80, .inl X.2.1)), ((eq 2), .inl (cI, 80, .inl X.2.2.1)), ((eq 3), .inl (cI, 80, .inl X.2.2.2.1)), (bo, .inl (cB, 8, .inr (.inr (.inr (.inr ba))))), (t, .inr (4, [.ref (tq 0), .ref (tq 1), .ref (tq 2), .ref (tq 3), .ref (tq 4), .ref (tq 5), .ref (tq 6), .ref (tq 7), .int (nI (((((pg X ba Bs n).1 a lv S).2).1).2.2.2.2))])), ((tq 0), .inl (cI, 64, .inl (fun z9 => nI ((((((pg X ba Bs n).1 a lv S).2).1).1) z9)))), ((tq 1), .inl (cI, 64, .inl (fun z9 => nI ((((((pg X ba Bs n).1 a lv S).2).1).2.1) z9)))), ((tq 2), .inl (cI, 64, .inl (fun z9 => nI ((((((pg X ba Bs n).1 a lv S).2).1).2.2.1) z9)))), ((tq 3), .inl (cJ, 64, .inr (.inl (((((pg X ba Bs n).1 a lv S).2).1).2.2.2.1)))), ((tq 4), .inl (cJ, 64, .inr (.inl f1))), ((tq 5), .inl (cJ, 64, .inr (.inl f2))), ((tq 6), .inl (cJ, 64, .inr (.inl f3))), ((tq 7), .inl (cJ, 64, .inr (.inl f4))), (co, .inl (cI, 112, .inl (fun z9 => nI (((((pg X ba Bs n).1 a lv S).2).2) z9))))] ++ tl) := hD
      have b56 := hre a lv S (by omega) hlv hS9
      have b56x := b56.1
      have b56y := b56.2.1
      refine lv_goto (tgt := 63) hx hb dP_evaluate_59 (by decide) ?_
      refine lv_istore (lv' := [(7, .int (nI (((pg X ba Bs n).1 a lv S).1))), (6, .int (nI b)), (5, .int (nI a)), (4, .int 11), (0, .ref g), (1, .int (nI e)), (2, .int (nI lv)), (3, .int (nI d))]) hx hb dP_evaluate_63 hl (by decide) rfl (fun ls hl => ?_)
      refine lv_iload hx hb dP_evaluate_65 (lv_at hl 3 rfl) ?_
      refine gc_i (va_runS (As := [.int 11]) (rest := []) ⟨hx, hb, hml, hown, ht⟩ (c_E_hasRight l D cI cJ cB cZ 11 H.size) (va_cwS 1 ht (gw_S m_342 m_175 m_3 m_176) rfl rfl rfl (by decide +kernel) ⟨show 0 + 1 ≤ 8 * (n + 1) + 8 by omega, show 8 + (1 + 11) + (0) ≤ 200 * (n + 1) + 200 by omega⟩) (gp_S hK hN (hP.sub (ws' := ([] : va_W)) [] rfl) (hD.sub (ws' := ([] : va_W)) [] (by decide) rfl)) rfl rfl hl.1 rfl (lv_room (Nat.le_of_ble_eq_true rfl)) dP_evaluate_67 ⟨Nat.le_of_ble_eq_true rfl, Nat.le_of_ble_eq_true rfl⟩) hP hD hS hA [] rfl (by decide) (fun r w h => by obtain ⟨_, rfl⟩ := h; rfl) (fun r67 w67 H locs p67 hP hD hS => ?_)
      obtain ⟨rfl, rfl⟩ := p67
      have hP : va_P D vwCl ([(g, .inr (3, [.ref eo, .ref bo, .ref t, .ref co])), (eo, .inr (2, [.ref (eq 0), .ref (eq 1), .ref (eq 2), .ref (eq 3), .int (nI X.2.2.2.2)])), ((eq 0), .inl (cI, 80, .inl X.1)), ((eq 1), .inl (cI, 80, .inl X.2.1)), ((eq 2), .inl (cI, 80, .inl X.2.2.1)), ((eq 3), .inl (cI, 80, .inl X.2.2.2.1)), (bo, .inl (cB, 8, .inr (.inr (.inr (.inr ba))))), (t, .inr (4, [.ref (tq 0), .ref (tq 1), .ref (tq 2), .ref (tq 3), .ref (tq 4), .ref (tq 5), .ref (tq 6), .ref (tq 7), .int (nI (((((pg X ba Bs n).1 a lv S).2).1).2.2.2.2))])), ((tq 0), .inl (cI, 64, .inl (fun z9 => nI ((((((pg X ba Bs n).1 a lv S).2).1).1) z9)))), ((tq 1), .inl (cI, 64, .inl (fun z9 => nI ((((((pg X ba Bs n).1 a lv S).2).1).2.1) z9)))), ((tq 2), .inl (cI, 64, .inl (fun z9 => nI ((((((pg X ba Bs n).1 a lv S).2).1).2.2.1) z9)))), ((tq 3), .inl (cJ, 64, .inr (.inl (((((pg X ba Bs n).1 a lv S).2).1).2.2.2.1)))), ((tq 4), .inl (cJ, 64, .inr (.inl f1))), ((tq 5), .inl (cJ, 64, .inr (.inl f2))), ((tq 6), .inl (cJ, 64, .inr (.inl f3))), ((tq 7), .inl (cJ, 64, .inr (.inl f4))), (co, .inl (cI, 112, .inl (fun z9 => nI (((((pg X ba Bs n).1 a lv S).2).2) z9))))] ++ tl) H := hP
      have hD : va_D A ([(g, .inr (3, [.ref eo, .ref bo, .ref t, .ref co])), (eo, .inr (2, [.ref (eq 0), .ref (eq 1), .ref (eq 2), .ref (eq 3), .int (nI X.2.2.2.2)])), ((eq 0), .inl (cI, 80, .inl X.1)), ((eq 1), .inl (cI, 80, .inl X.2.1)), ((eq 2), .inl (cI, 80, .inl X.2.2.1)), ((eq 3), .inl (cI, 80, .inl X.2.2.2.1)), (bo, .inl (cB, 8, .inr (.inr (.inr (.inr ba))))), (t, .inr (4, [.ref (tq 0), .ref (tq 1), .ref (tq 2), .ref (tq 3), .ref (tq 4), .ref (tq 5), .ref (tq 6), .ref (tq 7), .int (nI (((((pg X ba Bs n).1 a lv S).2).1).2.2.2.2))])), ((tq 0), .inl (cI, 64, .inl (fun z9 => nI ((((((pg X ba Bs n).1 a lv S).2).1).1) z9)))), ((tq 1), .inl (cI, 64, .inl (fun z9 => nI ((((((pg X ba Bs n).1 a lv S).2).1).2.1) z9)))), ((tq 2), .inl (cI, 64, .inl (fun z9 => nI ((((((pg X ba Bs n).1 a lv S).2).1).2.2.1) z9)))), ((tq 3), .inl (cJ, 64, .inr (.inl (((((pg X ba Bs n).1 a lv S).2).1).2.2.2.1)))), ((tq 4), .inl (cJ, 64, .inr (.inl f1))), ((tq 5), .inl (cJ, 64, .inr (.inl f2))), ((tq 6), .inl (cJ, 64, .inr (.inl f3))), ((tq 7), .inl (cJ, 64, .inr (.inl f4))), (co, .inl (cI, 112, .inl (fun z9 => nI (((((pg X ba Bs n).1 a lv S).2).2) z9))))] ++ tl) := hD
      refine lv_if_eq (tgt := 86) hx hb dP_evaluate_70 (by decide) (fun c70 => ?_) (fun c70 => ?_)
      · exact (gb_1.mp c70 (by decide)).elim
      · refine lv_aload_n hx hb dP_evaluate_73 rfl (lv_at hl 4 rfl) ?_
        refine lv_iload hx hb dP_evaluate_74 (lv_at hl 1 rfl) ?_
        refine lv_iload_n hx hb dP_evaluate_76 rfl (lv_at hl 6 rfl) ?_
        refine lv_iload_n hx hb dP_evaluate_77 rfl (lv_at hl 7 rfl) ?_
        refine lv_iconst (v := 1) hx hb dP_evaluate_78 (by decide) ?_
        refine lv_iadd hx hb dP_evaluate_79 ?_
        refine lv_topi (fun v79 e79 => ?_)
        have n79 : v79 = nI (d + 1) := by rw [e79]; exact gx_add (rfl : (nI d) = (nI d)) (rfl : (1 : Int32) = nI 1)
        subst n79
        refine gc_wi (va_runV (As := [.int (nI b), .int (nI lv), .int (nI (d + 1))]) (rest := []) ⟨hx, hb, hml, hown, ht⟩ (hE (d + 1) b lv (((pg X ba Bs n).1 a lv S).2) (by omega) (by omega) hlv b56.2 H.size) (cwV 3 ht (gw_V m_337 m_339 ms_12 m_2 m_340) rfl rfl rfl (by decide +kernel) ⟨show (8 * n + 8) + 1 ≤ 8 * (n + 1) + 8 by omega, show 8 + (9 + 11) + (200 * n + 200) ≤ 200 * (n + 1) + 200 by omega⟩) (gp_V (ci := 3) (q0 := 0) hK hN hP hD rfl rfl) rfl rfl hl.1 rfl (lv_room (Nat.le_of_ble_eq_true rfl)) dP_evaluate_80 ⟨Nat.le_of_ble_eq_true rfl, Nat.le_of_ble_eq_true rfl⟩) hP hD hS hA (fun r80 w80 H locs p80 hP hD hS => ?_)
        obtain ⟨rfl, rfl⟩ := p80
        have hP : va_P D vwCl ([(g, .inr (3, [.ref eo, .ref bo, .ref t, .ref co])), (eo, .inr (2, [.ref (eq 0), .ref (eq 1), .ref (eq 2), .ref (eq 3), .int (nI X.2.2.2.2)])), ((eq 0), .inl (cI, 80, .inl X.1)), ((eq 1), .inl (cI, 80, .inl X.2.1)), ((eq 2), .inl (cI, 80, .inl X.2.2.1)), ((eq 3), .inl (cI, 80, .inl X.2.2.2.1)), (bo, .inl (cB, 8, .inr (.inr (.inr (.inr ba))))), (t, .inr (4, [.ref (tq 0), .ref (tq 1), .ref (tq 2), .ref (tq 3), .ref (tq 4), .ref (tq 5), .ref (tq 6), .ref (tq 7), .int (nI (((((pg X ba Bs n).1 b lv (((pg X ba Bs n).1 a lv S).2)).2).1).2.2.2.2))])), ((tq 0), .inl (cI, 64, .inl (fun z9 => nI ((((((pg X ba Bs n).1 b lv (((pg X ba Bs n).1 a lv S).2)).2).1).1) z9)))), ((tq 1), .inl (cI, 64, .inl (fun z9 => nI ((((((pg X ba Bs n).1 b lv (((pg X ba Bs n).1 a lv S).2)).2).1).2.1) z9)))), ((tq 2), .inl (cI, 64, .inl (fun z9 => nI ((((((pg X ba Bs n).1 b lv (((pg X ba Bs n).1 a lv S).2)).2).1).2.2.1) z9)))), ((tq 3), .inl (cJ, 64, .inr (.inl (((((pg X ba Bs n).1 b lv (((pg X ba Bs n).1 a lv S).2)).2).1).2.2.2.1)))), ((tq 4), .inl (cJ, 64, .inr (.inl f1))), ((tq 5), .inl (cJ, 64, .inr (.inl f2))), ((tq 6), .inl (cJ, 64, .inr (.inl f3))), ((tq 7), .inl (cJ, 64, .inr (.inl f4))), (co, .inl (cI, 112, .inl (fun z9 => nI (((((pg X ba Bs n).1 b lv (((pg X ba Bs n).1 a lv S).2)).2).2) z9))))] ++ tl) H := hP
        have hD : va_D A ([(g, .inr (3, [.ref eo, .ref bo, .ref t, .ref co])), (eo, .inr (2, [.ref (eq 0), .ref (eq 1), .ref (eq 2), .ref (eq 3), .int (nI X.2.2.2.2)])), ((eq 0), .inl (cI, 80, .inl X.1)), ((eq 1), .inl (cI, 80, .inl X.2.1)), ((eq 2), .inl (cI, 80, .inl X.2.2.1)), ((eq 3), .inl (cI, 80, .inl X.2.2.2.1)), (bo, .inl (cB, 8, .inr (.inr (.inr (.inr ba))))), (t, .inr (4, [.ref (tq 0), .ref (tq 1), .ref (tq 2), .ref (tq 3), .ref (tq 4), .ref (tq 5), .ref (tq 6), .ref (tq 7), .int (nI (((((pg X ba Bs n).1 b lv (((pg X ba Bs n).1 a lv S).2)).2).1).2.2.2.2))])), ((tq 0), .inl (cI, 64, .inl (fun z9 => nI ((((((pg X ba Bs n).1 b lv (((pg X ba Bs n).1 a lv S).2)).2).1).1) z9)))), ((tq 1), .inl (cI, 64, .inl (fun z9 => nI ((((((pg X ba Bs n).1 b lv (((pg X ba Bs n).1 a lv S).2)).2).1).2.1) z9)))), ((tq 2), .inl (cI, 64, .inl (fun z9 => nI ((((((pg X ba Bs n).1 b lv (((pg X ba Bs n).1 a lv S).2)).2).1).2.2.1) z9)))), ((tq 3), .inl (cJ, 64, .inr (.inl (((((pg X ba Bs n).1 b lv (((pg X ba Bs n).1 a lv S).2)).2).1).2.2.2.1)))), ((tq 4), .inl (cJ, 64, .inr (.inl f1))), ((tq 5), .inl (cJ, 64, .inr (.inl f2))), ((tq 6), .inl (cJ, 64, .inr (.inl f3))), ((tq 7), .inl (cJ, 64, .inr (.inl f4))), (co, .inl (cI, 112, .inl (fun z9 => nI (((((pg X ba Bs n).1 b lv (((pg X ba Bs n).1 a lv S).2)).2).2) z9))))] ++ tl) := hD
        have b80 := hre b lv (((pg X ba Bs n).1 a lv S).2) (by omega) hlv b56.2
        have b80x := b80.1
        have b80y := b80.2.1
        refine lv_goto (tgt := 87) hx hb dP_evaluate_83 (by decide) ?_
        refine lv_istore (lv' := [(8, .int (nI (((pg X ba Bs n).1 b lv (((pg X ba Bs n).1 a lv S).2)).1))), (7, .int (nI (((pg X ba Bs n).1 a lv S).1))), (6, .int (nI b)), (5, .int (nI a)), (4, .int 11), (0, .ref g), (1, .int (nI e)), (2, .int (nI lv)), (3, .int (nI d))]) hx hb dP_evaluate_87 hl (by decide) rfl (fun ls hl => ?_)
        refine lv_iload hx hb dP_evaluate_89 (lv_at hl 4 rfl) ?_
        refine lv_tableIn (tgt := 203) (off := 112) hx hb dP_evaluate_91 (by decide) (by decide) (by rfl) (by decide) ?_
        refine lv_aload_n hx hb dP_evaluate_203 rfl (lv_at hl 5 rfl) ?_
        refine lv_aload_n hx hb dP_evaluate_204 rfl (lv_at hl 5 rfl) ?_
        refine va_get (D := D) (ci := 3) (v := .ref eo) (C := R_P) (T := F_P) (N := 4) hx hb ht i_P hown hK hP 0 rfl rfl 0 (by decide) (ht _ m_91) (fun _ h9 => h9) rfl dP_evaluate_205 ?_
        refine va_getN (D := D) (ci := 2) (v := .ref (eq 3)) (C := R_E) (T := F_E) (N := 5) hx hb ht i_E hown hK hP 1 rfl rfl 3 (by decide) (va_Nw.use rfl (hN _ mn_5)) (fun _ h9 => h9) rfl dP_evaluate_208 ?_
        refine lv_iload_n hx hb dP_evaluate_211 rfl (lv_at hl 6 rfl) ?_
        have i212 : vp_in (nI e) 80 := gx_in (rfl : (nI e) = (nI e)) (by omega) (by decide)
        have k212 : ((nI e) : Int32).toNatClampNeg = e := gx_cl (rfl : (nI e) = (nI e)) (by omega)
        refine va_iald hx hb hK hP 5 0 rfl rfl i212 dP_evaluate_212 ?_
        rw [k212]
        refine lv_topi (fun v212 e212 => ?_)
        rw [hec] at e212
        subst e212
        refine lv_iload hx hb dP_evaluate_213 (lv_at hl 1 rfl) ?_
        refine lv_iload hx hb dP_evaluate_215 (lv_at hl 0 rfl) ?_
        refine lv_iload_n hx hb dP_evaluate_217 rfl (lv_at hl 7 rfl) ?_
        refine lv_iconst (v := 1) hx hb dP_evaluate_218 (by decide) ?_
        refine lv_iadd hx hb dP_evaluate_219 ?_
        refine lv_topi (fun v219 e219 => ?_)
        have n219 : v219 = nI (lv + 1) := by rw [e219]; exact gx_add (rfl : (nI lv) = (nI lv)) (rfl : (1 : Int32) = nI 1)
        subst n219
        refine lv_iload_n hx hb dP_evaluate_220 rfl (lv_at hl 8 rfl) ?_
        refine lv_iconst (v := 1) hx hb dP_evaluate_221 (by decide) ?_
        refine lv_iadd hx hb dP_evaluate_222 ?_
        refine lv_topi (fun v222 e222 => ?_)
        have n222 : v222 = nI (d + 1) := by rw [e222]; exact gx_add (rfl : (nI d) = (nI d)) (rfl : (1 : Int32) = nI 1)
        subst n222
        refine gc_wi (va_runV (As := [.int (nI cc), .int (nI (((pg X ba Bs n).1 a lv S).1)), .int (nI (((pg X ba Bs n).1 b lv (((pg X ba Bs n).1 a lv S).2)).1)), .int (nI (lv + 1)), .int (nI (d + 1))]) (rest := []) ⟨hx, hb, hml, hown, ht⟩ (hN9 (d + 1) cc (((pg X ba Bs n).1 a lv S).1) (((pg X ba Bs n).1 b lv (((pg X ba Bs n).1 a lv S).2)).1) (lv + 1) (((pg X ba Bs n).1 b lv (((pg X ba Bs n).1 a lv S).2)).2) (by omega) (by omega) (by omega) (by omega) (by omega) b80.2 H.size) (cwV 5 ht (gw_V m_319 m_321 ms_9 m_2 m_322) rfl rfl rfl (by decide +kernel) ⟨show (8 * n + 10) + 1 ≤ 8 * (n + 1) + 8 by omega, show 8 + (8 + 11) + (200 * n + 260) ≤ 200 * (n + 1) + 200 by omega⟩) (gp_V (ci := 3) (q0 := 0) hK hN hP hD rfl rfl) rfl rfl hl.1 rfl (lv_room (Nat.le_of_ble_eq_true rfl)) dP_evaluate_223 ⟨Nat.le_of_ble_eq_true rfl, Nat.le_of_ble_eq_true rfl⟩) hP hD hS hA (fun r223 w223 H locs p223 hP hD hS => ?_)
        obtain ⟨rfl, rfl⟩ := p223
        have hP : va_P D vwCl ([(g, .inr (3, [.ref eo, .ref bo, .ref t, .ref co])), (eo, .inr (2, [.ref (eq 0), .ref (eq 1), .ref (eq 2), .ref (eq 3), .int (nI X.2.2.2.2)])), ((eq 0), .inl (cI, 80, .inl X.1)), ((eq 1), .inl (cI, 80, .inl X.2.1)), ((eq 2), .inl (cI, 80, .inl X.2.2.1)), ((eq 3), .inl (cI, 80, .inl X.2.2.2.1)), (bo, .inl (cB, 8, .inr (.inr (.inr (.inr ba))))), (t, .inr (4, [.ref (tq 0), .ref (tq 1), .ref (tq 2), .ref (tq 3), .ref (tq 4), .ref (tq 5), .ref (tq 6), .ref (tq 7), .int (nI ((((px_ent ba Bs (pg X ba Bs n).2 cc (((pg X ba Bs n).1 a lv S).1) (((pg X ba Bs n).1 b lv (((pg X ba Bs n).1 a lv S).2)).1) (lv + 1) (((pg X ba Bs n).1 b lv (((pg X ba Bs n).1 a lv S).2)).2)).2).1).2.2.2.2))])), ((tq 0), .inl (cI, 64, .inl (fun z9 => nI (((((px_ent ba Bs (pg X ba Bs n).2 cc (((pg X ba Bs n).1 a lv S).1) (((pg X ba Bs n).1 b lv (((pg X ba Bs n).1 a lv S).2)).1) (lv + 1) (((pg X ba Bs n).1 b lv (((pg X ba Bs n).1 a lv S).2)).2)).2).1).1) z9)))), ((tq 1), .inl (cI, 64, .inl (fun z9 => nI (((((px_ent ba Bs (pg X ba Bs n).2 cc (((pg X ba Bs n).1 a lv S).1) (((pg X ba Bs n).1 b lv (((pg X ba Bs n).1 a lv S).2)).1) (lv + 1) (((pg X ba Bs n).1 b lv (((pg X ba Bs n).1 a lv S).2)).2)).2).1).2.1) z9)))), ((tq 2), .inl (cI, 64, .inl (fun z9 => nI (((((px_ent ba Bs (pg X ba Bs n).2 cc (((pg X ba Bs n).1 a lv S).1) (((pg X ba Bs n).1 b lv (((pg X ba Bs n).1 a lv S).2)).1) (lv + 1) (((pg X ba Bs n).1 b lv (((pg X ba Bs n).1 a lv S).2)).2)).2).1).2.2.1) z9)))), ((tq 3), .inl (cJ, 64, .inr (.inl ((((px_ent ba Bs (pg X ba Bs n).2 cc (((pg X ba Bs n).1 a lv S).1) (((pg X ba Bs n).1 b lv (((pg X ba Bs n).1 a lv S).2)).1) (lv + 1) (((pg X ba Bs n).1 b lv (((pg X ba Bs n).1 a lv S).2)).2)).2).1).2.2.2.1)))), ((tq 4), .inl (cJ, 64, .inr (.inl f1))), ((tq 5), .inl (cJ, 64, .inr (.inl f2))), ((tq 6), .inl (cJ, 64, .inr (.inl f3))), ((tq 7), .inl (cJ, 64, .inr (.inl f4))), (co, .inl (cI, 112, .inl (fun z9 => nI ((((px_ent ba Bs (pg X ba Bs n).2 cc (((pg X ba Bs n).1 a lv S).1) (((pg X ba Bs n).1 b lv (((pg X ba Bs n).1 a lv S).2)).1) (lv + 1) (((pg X ba Bs n).1 b lv (((pg X ba Bs n).1 a lv S).2)).2)).2).2) z9))))] ++ tl) H := hP
        have hD : va_D A ([(g, .inr (3, [.ref eo, .ref bo, .ref t, .ref co])), (eo, .inr (2, [.ref (eq 0), .ref (eq 1), .ref (eq 2), .ref (eq 3), .int (nI X.2.2.2.2)])), ((eq 0), .inl (cI, 80, .inl X.1)), ((eq 1), .inl (cI, 80, .inl X.2.1)), ((eq 2), .inl (cI, 80, .inl X.2.2.1)), ((eq 3), .inl (cI, 80, .inl X.2.2.2.1)), (bo, .inl (cB, 8, .inr (.inr (.inr (.inr ba))))), (t, .inr (4, [.ref (tq 0), .ref (tq 1), .ref (tq 2), .ref (tq 3), .ref (tq 4), .ref (tq 5), .ref (tq 6), .ref (tq 7), .int (nI ((((px_ent ba Bs (pg X ba Bs n).2 cc (((pg X ba Bs n).1 a lv S).1) (((pg X ba Bs n).1 b lv (((pg X ba Bs n).1 a lv S).2)).1) (lv + 1) (((pg X ba Bs n).1 b lv (((pg X ba Bs n).1 a lv S).2)).2)).2).1).2.2.2.2))])), ((tq 0), .inl (cI, 64, .inl (fun z9 => nI (((((px_ent ba Bs (pg X ba Bs n).2 cc (((pg X ba Bs n).1 a lv S).1) (((pg X ba Bs n).1 b lv (((pg X ba Bs n).1 a lv S).2)).1) (lv + 1) (((pg X ba Bs n).1 b lv (((pg X ba Bs n).1 a lv S).2)).2)).2).1).1) z9)))), ((tq 1), .inl (cI, 64, .inl (fun z9 => nI (((((px_ent ba Bs (pg X ba Bs n).2 cc (((pg X ba Bs n).1 a lv S).1) (((pg X ba Bs n).1 b lv (((pg X ba Bs n).1 a lv S).2)).1) (lv + 1) (((pg X ba Bs n).1 b lv (((pg X ba Bs n).1 a lv S).2)).2)).2).1).2.1) z9)))), ((tq 2), .inl (cI, 64, .inl (fun z9 => nI (((((px_ent ba Bs (pg X ba Bs n).2 cc (((pg X ba Bs n).1 a lv S).1) (((pg X ba Bs n).1 b lv (((pg X ba Bs n).1 a lv S).2)).1) (lv + 1) (((pg X ba Bs n).1 b lv (((pg X ba Bs n).1 a lv S).2)).2)).2).1).2.2.1) z9)))), ((tq 3), .inl (cJ, 64, .inr (.inl ((((px_ent ba Bs (pg X ba Bs n).2 cc (((pg X ba Bs n).1 a lv S).1) (((pg X ba Bs n).1 b lv (((pg X ba Bs n).1 a lv S).2)).1) (lv + 1) (((pg X ba Bs n).1 b lv (((pg X ba Bs n).1 a lv S).2)).2)).2).1).2.2.2.1)))), ((tq 4), .inl (cJ, 64, .inr (.inl f1))), ((tq 5), .inl (cJ, 64, .inr (.inl f2))), ((tq 6), .inl (cJ, 64, .inr (.inl f3))), ((tq 7), .inl (cJ, 64, .inr (.inl f4))), (co, .inl (cI, 112, .inl (fun z9 => nI ((((px_ent ba Bs (pg X ba Bs n).2 cc (((pg X ba Bs n).1 a lv S).1) (((pg X ba Bs n).1 b lv (((pg X ba Bs n).1 a lv S).2)).1) (lv + 1) (((pg X ba Bs n).1 b lv (((pg X ba Bs n).1 a lv S).2)).2)).2).2) z9))))] ++ tl) := hD
        have hz : (pg X ba Bs (n + 1)).1 e lv S = (((px_ent ba Bs (pg X ba Bs n).2 cc (((pg X ba Bs n).1 a lv S).1) (((pg X ba Bs n).1 b lv (((pg X ba Bs n).1 a lv S).2)).1) (lv + 1) (((pg X ba Bs n).1 b lv (((pg X ba Bs n).1 a lv S).2)).2)).1), (px_ent ba Bs (pg X ba Bs n).2 cc (((pg X ba Bs n).1 a lv S).1) (((pg X ba Bs n).1 b lv (((pg X ba Bs n).1 a lv S).2)).1) (lv + 1) (((pg X ba Bs n).1 b lv (((pg X ba Bs n).1 a lv S).2)).2)).2) := by
          show px_ev X (pg X ba Bs n).1 (px_ent ba Bs (pg X ba Bs n).2) e lv S = _
          simp [px_ev, px_r1, px_r2, px_R, hke, hea, heb, hec, show cn (11 : Int32) = 11 from rfl, cn_nI (show a < 2 ^ 31 by omega), cn_nI (show b < 2 ^ 31 by omega), cn_nI (show cc < 2 ^ 31 by omega)]
        exact W.iret (v := (nI ((px_ent ba Bs (pg X ba Bs n).2 cc (((pg X ba Bs n).1 a lv S).1) (((pg X ba Bs n).1 b lv (((pg X ba Bs n).1 a lv S).2)).1) (lv + 1) (((pg X ba Bs n).1 b lv (((pg X ba Bs n).1 a lv S).2)).2)).1))) hx hb hr (fun t9 ht9 hW => ⟨⟨(nI ((px_ent ba Bs (pg X ba Bs n).2 cc (((pg X ba Bs n).1 a lv S).1) (((pg X ba Bs n).1 b lv (((pg X ba Bs n).1 a lv S).2)).1) (lv + 1) (((pg X ba Bs n).1 b lv (((pg X ba Bs n).1 a lv S).2)).2)).1)), _, rfl, ⟨by rw [hz], by rw [hz]⟩, by rw [ht9]; exact hP, hD⟩, hS.F ht9⟩) hS.2.2 dP_evaluate_226
  · have g3 : ¬ (d ≤ 50) := fun z => c3 ((gx_le (rfl : (nI d) = (nI d)) (rfl : (50 : Int32) = nI 50) (by omega) (by decide)).mpr z)
    exact absurd g3 (by omega)

