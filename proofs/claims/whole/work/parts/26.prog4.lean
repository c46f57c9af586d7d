theorem c_N (l : Launch) (D : va_G) (cI cJ cB cZ : ClassId) (g eo bo t co : Nat) (eq tq : Nat → Nat) (tl : va_W) (X : Ex) (ba : Nat → Option Nat) (f1 f2 f3 f4 : Nat → Int64) (Bs : Nat → Bd) (hX : ex_ok X) (hpool : pool_ok cI tl X ba Bs) (n : Nat) (hn : n ≤ 51) : cN l D cI cJ cB cZ g eo bo t co eq tq tl X ba f1 f2 f3 f4 Bs n := fun d f x y lv S hd hf hx hy hlv hS => by
  obtain ⟨-, hB⟩ := c_all l D cI cJ cB cZ g eo bo t co eq tq tl X ba f1 f2 f3 f4 Bs hX hpool n hn
  have hBb : ∀ f, f < 8 → ba f ≠ none → bd_ok X (Bs f) := fun f hf hne => by
    cases hbf : ba f with
    | none => exact absurd hbf hne
    | some o => obtain ⟨q, -, h⟩ := hpool f hf o hbf; exact h
  obtain ⟨-, hrb⟩ := pg_ok (ba := ba) (Bs := Bs) hX hBb n
  cases hbf : ba f with
  | none => exact c_P_enter_none l D cI cJ cB cZ g eo bo t co eq tq tl X ba f1 f2 f3 f4 Bs n d f x y lv S hB hd hf hx hy hlv hS hbf
  | some o =>
    obtain ⟨q, hsl, hBd⟩ := hpool f hf o hbf
    exact c_P_enter_some l D cI cJ cB cZ g eo bo t co eq tq tl X ba f1 f2 f3 f4 Bs n d f x y lv S o q hB hd hf hx hy hlv hS hbf hsl hBd hrb
/-- a run: the step that is the result, the state -/
noncomputable def px_go (X : Ex) (ba : Nat → Option Nat) (Bs : Nat → Bd) (f : Nat) (x y : Int64) (S : Sx) : Nat × Sx := px_ent ba Bs (pg X ba Bs 51).2 f 1 2 0 (tr_beg S.1 x y, S.2)
theorem tr_beg_n (T : Tr) (x y : Int64) : (tr_beg T x y).2.2.2.2 ≤ 64 := tr_add_n (tr_add_n (tr_add_n (Nat.zero_le _)))
theorem px_go_ok {X : Ex} {ba : Nat → Option Nat} {Bs : Nat → Bd} {f : Nat} {x y : Int64} {S : Sx} (hX : ex_ok X) (hB : ∀ f, f < 8 → ba f ≠ none → bd_ok X (Bs f)) (hf : f < 8) (hS : sx_ok S) : (px_go X ba Bs f x y S).1 < 64 ∧ sx_ok (px_go X ba Bs f x y S).2 :=
  px_ent_ok hB (pg_ok hX hB 51).2 f 1 2 0 _ hf (by decide) (by decide) ⟨tr_beg_n _ _ _, hS.2⟩
def sm_f (ba : Nat → Option Nat) (h : Nat → Nat) : Nat → Nat
  | 0 => 0
  | i + 1 => sm_f ba h i + (match ba i with | none => 0 | some _ => h i)
set_option maxHeartbeats 4000000 in
set_option maxRecDepth 100000 in
theorem c_P_follow (l : Launch) (D : va_G) (cI cJ cB cZ : ClassId) (g eo bo t co : Nat) (eq tq : Nat → Nat) (tl : va_W) (X : Ex) (ba : Nat → Option Nat) (f1 f2 f3 f4 : Nat → Int64) (Bs : Nat → Bd) (f : Nat) (x y : Int64) (S : Sx) (hX : ex_ok X) (hpool : pool_ok cI tl X ba Bs) (hf : f < 8) (hS9 : sx_ok S) : ct_I l y_P_follow w_P_follow ({ frames := 420, cells := 0, slots := 0, locals := 10500 }) D (gk_T cI cJ cB cZ) [.ref g, .int (nI f), .long x, .long y] (wPg cI cJ cB g eo bo t co eq tq X ba S f1 f2 f3 f4 ++ tl) (0) (0) (fun r w => r = nI (px_go X ba Bs f x y S).1 ∧ w = (wPg cI cJ cB g eo bo t co eq tq X ba ((px_go X ba Bs f x y S).2) f1 f2 f3 f4 ++ tl)) := by
  intro sz
  refine Met.ofW (cc := b_P_follow) (maxL := 6) (ret := (some .int)) (by decide) rfl ?_
  intro p ev9 s m args below meth c s₁ B9 hml hv
  obtain ⟨rfl, hsz, hP, hK, hN, hD0⟩ := hv
  have hx := B9.exec
  have hb := B9.bytes
  have hr := B9.returns
  have hts := atoms_spec (ws := w_P_follow) B9.pre
  have ht : ∀ w ∈ gk_big, w.before _ s = true := fun w h => hts w (List.mem_cons_of_mem _ h)
  have hown : s.vm.findClass R_P = some m.cls := findClass_of_methodNamed B9.named
  have hlocks := B9.notSynchronized
  subst hsz
  have hD := hD0.self (sz := s.heap.size)
  generalize hAe : va_A (wPg cI cJ cB g eo bo t co eq tq X ba S f1 f2 f3 f4 ++ tl) s.heap.size = A at hD ⊢
  have hA : ∀ q : Nat, s.heap.size ≤ q → A q := fun q h => by rw [← hAe]; exact Or.inr h
  generalize hHe : s.heap = H at hP ⊢
  have hS : va_S A s.heap H [] := by rw [← hHe]; exact va_S.rf
  have hP : va_P D vwCl ([(g, .inr (3, [.ref eo, .ref bo, .ref t, .ref co])), (eo, .inr (2, [.ref (eq 0), .ref (eq 1), .ref (eq 2), .ref (eq 3), .int (nI X.2.2.2.2)])), ((eq 0), .inl (cI, 80, .inl X.1)), ((eq 1), .inl (cI, 80, .inl X.2.1)), ((eq 2), .inl (cI, 80, .inl X.2.2.1)), ((eq 3), .inl (cI, 80, .inl X.2.2.2.1)), (bo, .inl (cB, 8, .inr (.inr (.inr (.inr ba))))), (t, .inr (4, [.ref (tq 0), .ref (tq 1), .ref (tq 2), .ref (tq 3), .ref (tq 4), .ref (tq 5), .ref (tq 6), .ref (tq 7), .int (nI S.1.2.2.2.2)])), ((tq 0), .inl (cI, 64, .inl (fun z9 => nI (S.1.1 z9)))), ((tq 1), .inl (cI, 64, .inl (fun z9 => nI (S.1.2.1 z9)))), ((tq 2), .inl (cI, 64, .inl (fun z9 => nI (S.1.2.2.1 z9)))), ((tq 3), .inl (cJ, 64, .inr (.inl S.1.2.2.2.1))), ((tq 4), .inl (cJ, 64, .inr (.inl f1))), ((tq 5), .inl (cJ, 64, .inr (.inl f2))), ((tq 6), .inl (cJ, 64, .inr (.inl f3))), ((tq 7), .inl (cJ, 64, .inr (.inl f4))), (co, .inl (cI, 112, .inl (fun z9 => nI (S.2 z9))))] ++ tl) H := hP
  have hD : va_D A ([(g, .inr (3, [.ref eo, .ref bo, .ref t, .ref co])), (eo, .inr (2, [.ref (eq 0), .ref (eq 1), .ref (eq 2), .ref (eq 3), .int (nI X.2.2.2.2)])), ((eq 0), .inl (cI, 80, .inl X.1)), ((eq 1), .inl (cI, 80, .inl X.2.1)), ((eq 2), .inl (cI, 80, .inl X.2.2.1)), ((eq 3), .inl (cI, 80, .inl X.2.2.2.1)), (bo, .inl (cB, 8, .inr (.inr (.inr (.inr ba))))), (t, .inr (4, [.ref (tq 0), .ref (tq 1), .ref (tq 2), .ref (tq 3), .ref (tq 4), .ref (tq 5), .ref (tq 6), .ref (tq 7), .int (nI S.1.2.2.2.2)])), ((tq 0), .inl (cI, 64, .inl (fun z9 => nI (S.1.1 z9)))), ((tq 1), .inl (cI, 64, .inl (fun z9 => nI (S.1.2.1 z9)))), ((tq 2), .inl (cI, 64, .inl (fun z9 => nI (S.1.2.2.1 z9)))), ((tq 3), .inl (cJ, 64, .inr (.inl S.1.2.2.2.1))), ((tq 4), .inl (cJ, 64, .inr (.inl f1))), ((tq 5), .inl (cJ, 64, .inr (.inl f2))), ((tq 6), .inl (cJ, 64, .inr (.inl f3))), ((tq 7), .inl (cJ, 64, .inr (.inl f4))), (co, .inl (cI, 112, .inl (fun z9 => nI (S.2 z9))))] ++ tl) := hD
  have hl := lv_entry ([.ref g, .int (nI f), .long x, .long y]) (n := 6) (Nat.le_of_ble_eq_true rfl)
  rw [lg_entry_eq]
  generalize (lg_sl ([.ref g, .int (nI f), .long x, .long y]) ++ List.replicate (6 - (lg_sl ([.ref g, .int (nI f), .long x, .long y])).length) Slot.unset).toArray = ls at hl ⊢
  have hl : lv_has ls 6 [(0, .ref g), (1, .int (nI f)), (2, .long x), (4, .long y)] := hl
  refine lv_aload_n hx hb dP_follow_0 rfl (lv_at hl 0 rfl) ?_
  refine va_get (D := D) (ci := 3) (v := .ref t) (C := R_P) (T := F_P) (N := 4) hx hb ht i_P hown hK hP 0 rfl rfl 2 (by decide) (ht _ m_95) (fun _ h9 => h9) rfl dP_follow_1 ?_
  refine lv_lload_n hx hb dP_follow_4 rfl (lv_at hl 2 rfl) ?_
  refine lv_lload hx hb dP_follow_5 (lv_at hl 3 rfl) ?_
  refine gc_v (va_runV (As := [.long x, .long y]) (rest := []) ⟨hx, hb, hml, hown, ht⟩ (c_T_begin l D cI cJ cB cZ t tq S.1 f1 f2 f3 f4 x y H.size) (cwV 2 ht (gw_V m_311 m_312 m_313 m_4 m_314) rfl rfl rfl (by decide +kernel) ⟨Nat.le_of_ble_eq_true rfl, Nat.le_of_ble_eq_true rfl⟩) (gp_V (ci := 4) (q0 := 0) hK hN (hP.sub (ws' := (wTr cI cJ t tq S.1 f1 f2 f3 f4)) [7, 8, 9, 10, 11, 12, 13, 14, 15] rfl) (hD.sub (ws' := (wTr cI cJ t tq S.1 f1 f2 f3 f4)) [7, 8, 9, 10, 11, 12, 13, 14, 15] (by decide) rfl) rfl rfl) rfl rfl hl.1 rfl (lv_room (Nat.le_of_ble_eq_true rfl)) dP_follow_7 ⟨Nat.le_of_ble_eq_true rfl, Nat.le_of_ble_eq_true rfl⟩) hP hD hS hA [7, 8, 9, 10, 11, 12, 13, 14, 15] rfl (by decide) (fun w h => by subst h; rfl) (fun w7 H locs p7 hP hD hS => ?_)
  subst p7
  have hP : va_P D vwCl ([(g, .inr (3, [.ref eo, .ref bo, .ref t, .ref co])), (eo, .inr (2, [.ref (eq 0), .ref (eq 1), .ref (eq 2), .ref (eq 3), .int (nI X.2.2.2.2)])), ((eq 0), .inl (cI, 80, .inl X.1)), ((eq 1), .inl (cI, 80, .inl X.2.1)), ((eq 2), .inl (cI, 80, .inl X.2.2.1)), ((eq 3), .inl (cI, 80, .inl X.2.2.2.1)), (bo, .inl (cB, 8, .inr (.inr (.inr (.inr ba))))), (t, .inr (4, [.ref (tq 0), .ref (tq 1), .ref (tq 2), .ref (tq 3), .ref (tq 4), .ref (tq 5), .ref (tq 6), .ref (tq 7), .int (nI ((tr_beg S.1 x y).2.2.2.2))])), ((tq 0), .inl (cI, 64, .inl (fun z9 => nI (((tr_beg S.1 x y).1) z9)))), ((tq 1), .inl (cI, 64, .inl (fun z9 => nI (((tr_beg S.1 x y).2.1) z9)))), ((tq 2), .inl (cI, 64, .inl (fun z9 => nI (((tr_beg S.1 x y).2.2.1) z9)))), ((tq 3), .inl (cJ, 64, .inr (.inl ((tr_beg S.1 x y).2.2.2.1)))), ((tq 4), .inl (cJ, 64, .inr (.inl f1))), ((tq 5), .inl (cJ, 64, .inr (.inl f2))), ((tq 6), .inl (cJ, 64, .inr (.inl f3))), ((tq 7), .inl (cJ, 64, .inr (.inl f4))), (co, .inl (cI, 112, .inl (fun z9 => nI (S.2 z9))))] ++ tl) H := hP
  have hD : va_D A ([(g, .inr (3, [.ref eo, .ref bo, .ref t, .ref co])), (eo, .inr (2, [.ref (eq 0), .ref (eq 1), .ref (eq 2), .ref (eq 3), .int (nI X.2.2.2.2)])), ((eq 0), .inl (cI, 80, .inl X.1)), ((eq 1), .inl (cI, 80, .inl X.2.1)), ((eq 2), .inl (cI, 80, .inl X.2.2.1)), ((eq 3), .inl (cI, 80, .inl X.2.2.2.1)), (bo, .inl (cB, 8, .inr (.inr (.inr (.inr ba))))), (t, .inr (4, [.ref (tq 0), .ref (tq 1), .ref (tq 2), .ref (tq 3), .ref (tq 4), .ref (tq 5), .ref (tq 6), .ref (tq 7), .int (nI ((tr_beg S.1 x y).2.2.2.2))])), ((tq 0), .inl (cI, 64, .inl (fun z9 => nI (((tr_beg S.1 x y).1) z9)))), ((tq 1), .inl (cI, 64, .inl (fun z9 => nI (((tr_beg S.1 x y).2.1) z9)))), ((tq 2), .inl (cI, 64, .inl (fun z9 => nI (((tr_beg S.1 x y).2.2.1) z9)))), ((tq 3), .inl (cJ, 64, .inr (.inl ((tr_beg S.1 x y).2.2.2.1)))), ((tq 4), .inl (cJ, 64, .inr (.inl f1))), ((tq 5), .inl (cJ, 64, .inr (.inl f2))), ((tq 6), .inl (cJ, 64, .inr (.inl f3))), ((tq 7), .inl (cJ, 64, .inr (.inl f4))), (co, .inl (cI, 112, .inl (fun z9 => nI (S.2 z9))))] ++ tl) := hD
  refine lv_aload_n hx hb dP_follow_10 rfl (lv_at hl 0 rfl) ?_
  refine lv_iload_n hx hb dP_follow_11 rfl (lv_at hl 1 rfl) ?_
  refine lv_iconst (v := 1) hx hb dP_follow_12 (by decide) ?_
  refine lv_iconst (v := 2) hx hb dP_follow_13 (by decide) ?_
  refine lv_iconst (v := 0) hx hb dP_follow_14 (by decide) ?_
  refine lv_iconst (v := 0) hx hb dP_follow_15 (by decide) ?_
  refine gc_wi (va_runV (As := [.int (nI f), .int 1, .int 2, .int 0, .int 0]) (rest := []) ⟨hx, hb, hml, hown, ht⟩ (c_N l D cI cJ cB cZ g eo bo t co eq tq tl X ba f1 f2 f3 f4 Bs hX hpool 51 (Nat.le_refl _) 0 f 1 2 0 (tr_beg S.1 x y, S.2) rfl hf (by decide) (by decide) (by decide) ⟨tr_beg_n _ _ _, hS9.2⟩ H.size) (cwV 5 ht (gw_V m_319 m_321 ms_9 m_2 m_322) rfl rfl rfl (by decide +kernel) ⟨Nat.le_of_ble_eq_true rfl, Nat.le_of_ble_eq_true rfl⟩) (gp_V (ci := 3) (q0 := 0) hK hN hP hD rfl rfl) rfl rfl hl.1 rfl (lv_room (Nat.le_of_ble_eq_true rfl)) dP_follow_16 ⟨Nat.le_of_ble_eq_true rfl, Nat.le_of_ble_eq_true rfl⟩) hP hD hS hA (fun r16 w16 H locs p16 hP hD hS => ?_)
  obtain ⟨rfl, rfl⟩ := p16
  have hP : va_P D vwCl ([(g, .inr (3, [.ref eo, .ref bo, .ref t, .ref co])), (eo, .inr (2, [.ref (eq 0), .ref (eq 1), .ref (eq 2), .ref (eq 3), .int (nI X.2.2.2.2)])), ((eq 0), .inl (cI, 80, .inl X.1)), ((eq 1), .inl (cI, 80, .inl X.2.1)), ((eq 2), .inl (cI, 80, .inl X.2.2.1)), ((eq 3), .inl (cI, 80, .inl X.2.2.2.1)), (bo, .inl (cB, 8, .inr (.inr (.inr (.inr ba))))), (t, .inr (4, [.ref (tq 0), .ref (tq 1), .ref (tq 2), .ref (tq 3), .ref (tq 4), .ref (tq 5), .ref (tq 6), .ref (tq 7), .int (nI ((((px_go X ba Bs f x y S).2).1).2.2.2.2))])), ((tq 0), .inl (cI, 64, .inl (fun z9 => nI (((((px_go X ba Bs f x y S).2).1).1) z9)))), ((tq 1), .inl (cI, 64, .inl (fun z9 => nI (((((px_go X ba Bs f x y S).2).1).2.1) z9)))), ((tq 2), .inl (cI, 64, .inl (fun z9 => nI (((((px_go X ba Bs f x y S).2).1).2.2.1) z9)))), ((tq 3), .inl (cJ, 64, .inr (.inl ((((px_go X ba Bs f x y S).2).1).2.2.2.1)))), ((tq 4), .inl (cJ, 64, .inr (.inl f1))), ((tq 5), .inl (cJ, 64, .inr (.inl f2))), ((tq 6), .inl (cJ, 64, .inr (.inl f3))), ((tq 7), .inl (cJ, 64, .inr (.inl f4))), (co, .inl (cI, 112, .inl (fun z9 => nI ((((px_go X ba Bs f x y S).2).2) z9))))] ++ tl) H := hP
  have hD : va_D A ([(g, .inr (3, [.ref eo, .ref bo, .ref t, .ref co])), (eo, .inr (2, [.ref (eq 0), .ref (eq 1), .ref (eq 2), .ref (eq 3), .int (nI X.2.2.2.2)])), ((eq 0), .inl (cI, 80, .inl X.1)), ((eq 1), .inl (cI, 80, .inl X.2.1)), ((eq 2), .inl (cI, 80, .inl X.2.2.1)), ((eq 3), .inl (cI, 80, .inl X.2.2.2.1)), (bo, .inl (cB, 8, .inr (.inr (.inr (.inr ba))))), (t, .inr (4, [.ref (tq 0), .ref (tq 1), .ref (tq 2), .ref (tq 3), .ref (tq 4), .ref (tq 5), .ref (tq 6), .ref (tq 7), .int (nI ((((px_go X ba Bs f x y S).2).1).2.2.2.2))])), ((tq 0), .inl (cI, 64, .inl (fun z9 => nI (((((px_go X ba Bs f x y S).2).1).1) z9)))), ((tq 1), .inl (cI, 64, .inl (fun z9 => nI (((((px_go X ba Bs f x y S).2).1).2.1) z9)))), ((tq 2), .inl (cI, 64, .inl (fun z9 => nI (((((px_go X ba Bs f x y S).2).1).2.2.1) z9)))), ((tq 3), .inl (cJ, 64, .inr (.inl ((((px_go X ba Bs f x y S).2).1).2.2.2.1)))), ((tq 4), .inl (cJ, 64, .inr (.inl f1))), ((tq 5), .inl (cJ, 64, .inr (.inl f2))), ((tq 6), .inl (cJ, 64, .inr (.inl f3))), ((tq 7), .inl (cJ, 64, .inr (.inl f4))), (co, .inl (cI, 112, .inl (fun z9 => nI ((((px_go X ba Bs f x y S).2).2) z9))))] ++ tl) := hD
  refine W.eq (g2 := F0 m 19 ls [.int (nI (px_go X ba Bs f x y S).1)]) rfl ?_
  exact W.iret (v := (nI ((px_go X ba Bs f x y S).1))) hx hb hr (fun t9 ht9 hW => ⟨⟨(nI ((px_go X ba Bs f x y S).1)), _, rfl, ⟨rfl, rfl⟩, by rw [ht9]; exact hP, hD⟩, hS.F ht9⟩) hS.2.2 dP_follow_19

set_option maxHeartbeats 4000000 in
set_option maxRecDepth 100000 in
theorem c_P_statementsInAll (l : Launch) (D : va_G) (cI cJ cB cZ : ClassId) (g eo bo t co : Nat) (eq tq : Nat → Nat) (tl : va_W) (X : Ex) (ba : Nat → Option Nat) (f1 f2 f3 f4 : Nat → Int64) (Bs : Nat → Bd) (S : Sx) (hpool : pool_ok cI tl X ba Bs) : ct_I l y_P_statementsInAll w_P_statementsInAll ({ frames := 0, cells := 0, slots := 0, locals := 0 }) D (gk_T cI cJ cB cZ) [.ref g] (wPg cI cJ cB g eo bo t co eq tq X ba S f1 f2 f3 f4 ++ tl) (0) (0) (fun r w => r = nI (sm_f ba (fun z => (Bs z).2.2.2.2.2.2.1) 8) ∧ w = (wPg cI cJ cB g eo bo t co eq tq X ba S f1 f2 f3 f4 ++ tl)) := by
  intro sz
  refine Met.ofW (cc := b_P_statementsInAll) (maxL := 3) (ret := (some .int)) (by decide) rfl ?_
  intro p ev9 s m args below meth c s₁ B9 hml hv
  obtain ⟨rfl, hsz, hP, hK, hN, hD0⟩ := hv
  have hx := B9.exec
  have hb := B9.bytes
  have hr := B9.returns
  have hts := atoms_spec (ws := w_P_statementsInAll) B9.pre
  have ht : ∀ w ∈ gk_big, w.before _ s = true := fun w h => hts w (List.mem_cons_of_mem _ h)
  have hown : s.vm.findClass R_P = some m.cls := findClass_of_methodNamed B9.named
  have hlocks := B9.notSynchronized
  subst hsz
  have hD := hD0.self (sz := s.heap.size)
  generalize hAe : va_A (wPg cI cJ cB g eo bo t co eq tq X ba S f1 f2 f3 f4 ++ tl) s.heap.size = A at hD ⊢
  have hA : ∀ q : Nat, s.heap.size ≤ q → A q := fun q h => by rw [← hAe]; exact Or.inr h
  generalize hHe : s.heap = H at hP ⊢
  have hS : va_S A s.heap H [] := by rw [← hHe]; exact va_S.rf
  have hP : va_P D vwCl ([(g, .inr (3, [.ref eo, .ref bo, .ref t, .ref co])), (eo, .inr (2, [.ref (eq 0), .ref (eq 1), .ref (eq 2), .ref (eq 3), .int (nI X.2.2.2.2)])), ((eq 0), .inl (cI, 80, .inl X.1)), ((eq 1), .inl (cI, 80, .inl X.2.1)), ((eq 2), .inl (cI, 80, .inl X.2.2.1)), ((eq 3), .inl (cI, 80, .inl X.2.2.2.1)), (bo, .inl (cB, 8, .inr (.inr (.inr (.inr ba))))), (t, .inr (4, [.ref (tq 0), .ref (tq 1), .ref (tq 2), .ref (tq 3), .ref (tq 4), .ref (tq 5), .ref (tq 6), .ref (tq 7), .int (nI S.1.2.2.2.2)])), ((tq 0), .inl (cI, 64, .inl (fun z9 => nI (S.1.1 z9)))), ((tq 1), .inl (cI, 64, .inl (fun z9 => nI (S.1.2.1 z9)))), ((tq 2), .inl (cI, 64, .inl (fun z9 => nI (S.1.2.2.1 z9)))), ((tq 3), .inl (cJ, 64, .inr (.inl S.1.2.2.2.1))), ((tq 4), .inl (cJ, 64, .inr (.inl f1))), ((tq 5), .inl (cJ, 64, .inr (.inl f2))), ((tq 6), .inl (cJ, 64, .inr (.inl f3))), ((tq 7), .inl (cJ, 64, .inr (.inl f4))), (co, .inl (cI, 112, .inl (fun z9 => nI (S.2 z9))))] ++ tl) H := hP
  have hD : va_D A ([(g, .inr (3, [.ref eo, .ref bo, .ref t, .ref co])), (eo, .inr (2, [.ref (eq 0), .ref (eq 1), .ref (eq 2), .ref (eq 3), .int (nI X.2.2.2.2)])), ((eq 0), .inl (cI, 80, .inl X.1)), ((eq 1), .inl (cI, 80, .inl X.2.1)), ((eq 2), .inl (cI, 80, .inl X.2.2.1)), ((eq 3), .inl (cI, 80, .inl X.2.2.2.1)), (bo, .inl (cB, 8, .inr (.inr (.inr (.inr ba))))), (t, .inr (4, [.ref (tq 0), .ref (tq 1), .ref (tq 2), .ref (tq 3), .ref (tq 4), .ref (tq 5), .ref (tq 6), .ref (tq 7), .int (nI S.1.2.2.2.2)])), ((tq 0), .inl (cI, 64, .inl (fun z9 => nI (S.1.1 z9)))), ((tq 1), .inl (cI, 64, .inl (fun z9 => nI (S.1.2.1 z9)))), ((tq 2), .inl (cI, 64, .inl (fun z9 => nI (S.1.2.2.1 z9)))), ((tq 3), .inl (cJ, 64, .inr (.inl S.1.2.2.2.1))), ((tq 4), .inl (cJ, 64, .inr (.inl f1))), ((tq 5), .inl (cJ, 64, .inr (.inl f2))), ((tq 6), .inl (cJ, 64, .inr (.inl f3))), ((tq 7), .inl (cJ, 64, .inr (.inl f4))), (co, .inl (cI, 112, .inl (fun z9 => nI (S.2 z9))))] ++ tl) := hD
  have hl := lv_entry ([.ref g]) (n := 3) (Nat.le_of_ble_eq_true rfl)
  rw [lg_entry_eq]
  generalize (lg_sl ([.ref g]) ++ List.replicate (3 - (lg_sl ([.ref g])).length) Slot.unset).toArray = ls at hl ⊢
  have hl : lv_has ls 3 [(0, .ref g)] := hl
  refine lv_iconst (v := 0) hx hb dP_statementsInAll_0 (by decide) ?_
  refine lv_istore_n (lv' := [(1, .int 0), (0, .ref g)]) hx hb dP_statementsInAll_1 rfl hl (by decide) rfl (fun ls hl => ?_)
  refine lv_iconst (v := 0) hx hb dP_statementsInAll_2 (by decide) ?_
  refine lv_istore_n (lv' := [(2, .int 0), (1, .int 0), (0, .ref g)]) hx hb dP_statementsInAll_3 rfl hl (by decide) rfl (fun ls hl => ?_)
  have lp4 : ∀ (n4 : Nat) (i : Nat), 8 - i + 1 ≤ n4 → (i ≤ 8) → ∀ (H : Heap) (locs : List Loc) (ls : Array Slot), va_P D vwCl ([(g, .inr (3, [.ref eo, .ref bo, .ref t, .ref co])), (eo, .inr (2, [.ref (eq 0), .ref (eq 1), .ref (eq 2), .ref (eq 3), .int (nI X.2.2.2.2)])), ((eq 0), .inl (cI, 80, .inl X.1)), ((eq 1), .inl (cI, 80, .inl X.2.1)), ((eq 2), .inl (cI, 80, .inl X.2.2.1)), ((eq 3), .inl (cI, 80, .inl X.2.2.2.1)), (bo, .inl (cB, 8, .inr (.inr (.inr (.inr ba))))), (t, .inr (4, [.ref (tq 0), .ref (tq 1), .ref (tq 2), .ref (tq 3), .ref (tq 4), .ref (tq 5), .ref (tq 6), .ref (tq 7), .int (nI S.1.2.2.2.2)])), ((tq 0), .inl (cI, 64, .inl (fun z9 => nI (S.1.1 z9)))), ((tq 1), .inl (cI, 64, .inl (fun z9 => nI (S.1.2.1 z9)))), ((tq 2), .inl (cI, 64, .inl (fun z9 => nI (S.1.2.2.1 z9)))), ((tq 3), .inl (cJ, 64, .inr (.inl S.1.2.2.2.1))), ((tq 4), .inl (cJ, 64, .inr (.inl f1))), ((tq 5), .inl (cJ, 64, .inr (.inl f2))), ((tq 6), .inl (cJ, 64, .inr (.inl f3))), ((tq 7), .inl (cJ, 64, .inr (.inl f4))), (co, .inl (cI, 112, .inl (fun z9 => nI (S.2 z9))))] ++ tl) H → va_D A ([(g, .inr (3, [.ref eo, .ref bo, .ref t, .ref co])), (eo, .inr (2, [.ref (eq 0), .ref (eq 1), .ref (eq 2), .ref (eq 3), .int (nI X.2.2.2.2)])), ((eq 0), .inl (cI, 80, .inl X.1)), ((eq 1), .inl (cI, 80, .inl X.2.1)), ((eq 2), .inl (cI, 80, .inl X.2.2.1)), ((eq 3), .inl (cI, 80, .inl X.2.2.2.1)), (bo, .inl (cB, 8, .inr (.inr (.inr (.inr ba))))), (t, .inr (4, [.ref (tq 0), .ref (tq 1), .ref (tq 2), .ref (tq 3), .ref (tq 4), .ref (tq 5), .ref (tq 6), .ref (tq 7), .int (nI S.1.2.2.2.2)])), ((tq 0), .inl (cI, 64, .inl (fun z9 => nI (S.1.1 z9)))), ((tq 1), .inl (cI, 64, .inl (fun z9 => nI (S.1.2.1 z9)))), ((tq 2), .inl (cI, 64, .inl (fun z9 => nI (S.1.2.2.1 z9)))), ((tq 3), .inl (cJ, 64, .inr (.inl S.1.2.2.2.1))), ((tq 4), .inl (cJ, 64, .inr (.inl f1))), ((tq 5), .inl (cJ, 64, .inr (.inl f2))), ((tq 6), .inl (cJ, 64, .inr (.inl f3))), ((tq 7), .inl (cJ, 64, .inr (.inl f4))), (co, .inl (cI, 112, .inl (fun z9 => nI (S.2 z9))))] ++ tl) → va_S A s.heap H locs → lv_has ls 3 [(1, .int (nI (sm_f ba (fun z => (Bs z).2.2.2.2.2.2.1) i))), (2, .int (nI i)), (0, .ref g)] → W p l ev9 (headSpec w_P_statementsInAll ({ frames := 0, cells := 0, slots := 0, locals := 0 })).room s m ([.ref g] : List Value).toArray below meth c H locs 0 0 (MQ below (gq_I D A (fun r w => r = nI (sm_f ba (fun z => (Bs z).2.2.2.2.2.2.1) 8) ∧ w = (wPg cI cJ cB g eo bo t co eq tq X ba S f1 f2 f3 f4 ++ tl))) ([.ref g] : List Value).toArray s (0) (0) A) (F0 m 4 ls []) := by
    intro n4
    induction n4 with
    | zero =>
      intro i hm4
      exact absurd hm4 (by omega)
    | succ n4 ih4 =>
      intro i hm4 hi H locs ls hP hD hS hl
      refine lv_iload_n hx hb dP_statementsInAll_4 rfl (lv_at hl 1 rfl) ?_
      refine lv_bipush (v := 8) hx hb dP_statementsInAll_5 (by decide) ?_
      refine lv_icmp_ge (tgt := 41) hx hb dP_statementsInAll_7 (by decide) (fun c7 => ?_) (fun c7 => ?_)
      · have g7 : 8 ≤ i := (gx_le (rfl : (8 : Int32) = nI 8) (rfl : (nI i) = (nI i)) (by decide) (by omega)).mp c7
        refine lv_iload_n hx hb dP_statementsInAll_41 rfl (lv_at hl 0 rfl) ?_
        have zi : i = 8 := by omega
        subst zi
        exact W.iret (v := (nI (sm_f ba (fun z => (Bs z).2.2.2.2.2.2.1) 8))) hx hb hr (fun t9 ht9 hW => ⟨⟨(nI (sm_f ba (fun z => (Bs z).2.2.2.2.2.2.1) 8)), _, rfl, ⟨rfl, rfl⟩, by rw [ht9]; exact hP, hD⟩, hS.F ht9⟩) hS.2.2 dP_statementsInAll_42
      · have g7 : ¬ (8 ≤ i) := fun z => c7 ((gx_le (rfl : (8 : Int32) = nI 8) (rfl : (nI i) = (nI i)) (by decide) (by omega)).mpr z)
        refine lv_iload_n hx hb dP_statementsInAll_10 rfl (lv_at hl 0 rfl) ?_
        refine lv_aload_n hx hb dP_statementsInAll_11 rfl (lv_at hl 2 rfl) ?_
        refine va_get (D := D) (ci := 3) (v := .ref bo) (C := R_P) (T := F_P) (N := 4) hx hb ht i_P hown hK hP 0 rfl rfl 1 (by decide) (ht _ m_93) (fun _ h9 => h9) rfl dP_statementsInAll_12 ?_
        refine lv_iload_n hx hb dP_statementsInAll_15 rfl (lv_at hl 1 rfl) ?_
        have i16 : vp_in (nI i) 8 := gx_in (rfl : (nI i) = (nI i)) (by omega) (by decide)
        have k16 : ((nI i) : Int32).toNatClampNeg = i := gx_cl (rfl : (nI i) = (nI i)) (by omega)
        refine va_aldq hx hb hK hP 6 2 rfl rfl i16 dP_statementsInAll_16 ?_
        rw [k16]
        cases hbf : ba i with
        | none =>
          refine W.eq (g2 := F0 m 17 ls [.null, .int (nI (sm_f ba (fun z => (Bs z).2.2.2.2.2.2.1) i))]) rfl ?_
          refine lv_ifnonnullN hx hb dP_statementsInAll_17 ?_
          refine lv_iconst (v := 0) hx hb dP_statementsInAll_20 (by decide) ?_
          refine lv_goto (tgt := 33) hx hb dP_statementsInAll_21 (by decide) ?_
          refine lv_iadd hx hb dP_statementsInAll_33 ?_
          refine lv_topi (fun v33 e33 => ?_)
          have n33 : v33 = nI ((sm_f ba (fun z => (Bs z).2.2.2.2.2.2.1) i) + 0) := by rw [e33]; exact gx_add (rfl : (nI (sm_f ba (fun z => (Bs z).2.2.2.2.2.2.1) i)) = (nI (sm_f ba (fun z => (Bs z).2.2.2.2.2.2.1) i))) (rfl : (0 : Int32) = nI 0)
          subst n33
          rw [show ((sm_f ba (fun z => (Bs z).2.2.2.2.2.2.1) i) + 0) = sm_f ba (fun z => (Bs z).2.2.2.2.2.2.1) (i + 1) by show _ = _ + (match ba i with | none => 0 | some _ => _); rw [hbf]]
          refine lv_istore_n (lv' := [(1, .int (nI (sm_f ba (fun z => (Bs z).2.2.2.2.2.2.1) (i + 1)))), (2, .int (nI i)), (0, .ref g)]) hx hb dP_statementsInAll_34 rfl hl (by decide) rfl (fun ls hl => ?_)
          refine lv_iinc (v := (nI (i + 1))) (lv' := [(2, .int (nI (i + 1))), (1, .int (nI (sm_f ba (fun z => (Bs z).2.2.2.2.2.2.1) (i + 1)))), (0, .ref g)]) hx hb dP_statementsInAll_35 hl (k := 1) rfl (gx_inc (rfl : (nI i) = (nI i))) (by decide) rfl (fun ls hl => ?_)
          refine lv_goto (tgt := 4) hx hb dP_statementsInAll_38 (by decide) ?_
          exact ih4 (i + 1) (by omega) (by omega) _ _ _ hP hD hS (lv_sub hl [1, 0, 2] rfl)
        | some o =>
          obtain ⟨q, hsl, hBd⟩ := hpool i (by omega) o hbf
          obtain ⟨j0, hj0⟩ := List.getElem?_of_mem (hsl.subset (List.mem_of_getElem? (l := wB cI o q (Bs i)) (i := 0) rfl))
          have hj0 : tl[j0]? = some (o, .inr (0, [.ref (q 0), .ref (q 1), .ref (q 2), .ref (q 3), .ref (q 4), .ref (q 5), .int (nI ((Bs i).2.2.2.2.2.2.1)), .int (nI ((Bs i).2.2.2.2.2.2.2))])) := hj0
          refine W.eq (g2 := F0 m 17 ls [.ref o, .int (nI (sm_f ba (fun z => (Bs z).2.2.2.2.2.2.1) i))]) rfl ?_
          refine lv_ifnonnull (tgt := 24) hx hb dP_statementsInAll_17 (by decide) ?_
          refine lv_aload_n hx hb dP_statementsInAll_24 rfl (lv_at hl 2 rfl) ?_
          refine va_get (D := D) (ci := 3) (v := .ref bo) (C := R_P) (T := F_P) (N := 4) hx hb ht i_P hown hK hP 0 rfl rfl 1 (by decide) (ht _ m_93) (fun _ h9 => h9) rfl dP_statementsInAll_25 ?_
          refine lv_iload_n hx hb dP_statementsInAll_28 rfl (lv_at hl 1 rfl) ?_
          have i29 : vp_in (nI i) 8 := gx_in (rfl : (nI i) = (nI i)) (by omega) (by decide)
          have k29 : ((nI i) : Int32).toNatClampNeg = i := gx_cl (rfl : (nI i) = (nI i)) (by omega)
          refine va_aldq hx hb hK hP 6 2 rfl rfl i29 dP_statementsInAll_29 ?_
          rw [k29]
          rw [hbf]
          refine W.eq (g2 := F0 m 30 ls [.ref o, .int (nI (sm_f ba (fun z => (Bs z).2.2.2.2.2.2.1) i))]) rfl ?_
          refine va_getN (D := D) (ci := 0) (v := .int (nI ((Bs i).2.2.2.2.2.2.1))) (C := R_B) (T := F_B) (N := 8) hx hb ht i_B hown hK hP (j0 + 17) hj0 rfl 6 (by decide) (va_Nw.use rfl (hN _ mn_20)) (fun _ h9 => h9) rfl dP_statementsInAll_30 ?_
          refine lv_iadd hx hb dP_statementsInAll_33 ?_
          refine lv_topi (fun v33 e33 => ?_)
          have n33 : v33 = nI ((sm_f ba (fun z => (Bs z).2.2.2.2.2.2.1) i) + ((Bs i).2.2.2.2.2.2.1)) := by rw [e33]; exact gx_add (rfl : (nI (sm_f ba (fun z => (Bs z).2.2.2.2.2.2.1) i)) = (nI (sm_f ba (fun z => (Bs z).2.2.2.2.2.2.1) i))) (rfl : (nI ((Bs i).2.2.2.2.2.2.1)) = (nI ((Bs i).2.2.2.2.2.2.1)))
          subst n33
          rw [show ((sm_f ba (fun z => (Bs z).2.2.2.2.2.2.1) i) + ((Bs i).2.2.2.2.2.2.1)) = sm_f ba (fun z => (Bs z).2.2.2.2.2.2.1) (i + 1) by show _ = _ + (match ba i with | none => 0 | some _ => _); rw [hbf]]
          refine lv_istore_n (lv' := [(1, .int (nI (sm_f ba (fun z => (Bs z).2.2.2.2.2.2.1) (i + 1)))), (2, .int (nI i)), (0, .ref g)]) hx hb dP_statementsInAll_34 rfl hl (by decide) rfl (fun ls hl => ?_)
          refine lv_iinc (v := (nI (i + 1))) (lv' := [(2, .int (nI (i + 1))), (1, .int (nI (sm_f ba (fun z => (Bs z).2.2.2.2.2.2.1) (i + 1)))), (0, .ref g)]) hx hb dP_statementsInAll_35 hl (k := 1) rfl (gx_inc (rfl : (nI i) = (nI i))) (by decide) rfl (fun ls hl => ?_)
          refine lv_goto (tgt := 4) hx hb dP_statementsInAll_38 (by decide) ?_
          exact ih4 (i + 1) (by omega) (by omega) _ _ _ hP hD hS (lv_sub hl [1, 0, 2] rfl)
  exact lp4 (8 - (0) + 1) 0 (by omega) (by omega) _ _ _ hP hD hS (lv_sub hl [1, 0, 2] rfl)

set_option maxHeartbeats 4000000 in
set_option maxRecDepth 100000 in
theorem c_P_openInAll (l : Launch) (D : va_G) (cI cJ cB cZ : ClassId) (g eo bo t co : Nat) (eq tq : Nat → Nat) (tl : va_W) (X : Ex) (ba : Nat → Option Nat) (f1 f2 f3 f4 : Nat → Int64) (Bs : Nat → Bd) (S : Sx) (hpool : pool_ok cI tl X ba Bs) : ct_I l y_P_openInAll w_P_openInAll ({ frames := 0, cells := 0, slots := 0, locals := 0 }) D (gk_T cI cJ cB cZ) [.ref g] (wPg cI cJ cB g eo bo t co eq tq X ba S f1 f2 f3 f4 ++ tl) (0) (0) (fun r w => r = nI (sm_f ba (fun z => (Bs z).2.2.2.2.2.2.2) 8) ∧ w = (wPg cI cJ cB g eo bo t co eq tq X ba S f1 f2 f3 f4 ++ tl)) := by
  intro sz
  refine Met.ofW (cc := b_P_openInAll) (maxL := 3) (ret := (some .int)) (by decide) rfl ?_
  intro p ev9 s m args below meth c s₁ B9 hml hv
  obtain ⟨rfl, hsz, hP, hK, hN, hD0⟩ := hv
  have hx := B9.exec
  have hb := B9.bytes
  have hr := B9.returns
  have hts := atoms_spec (ws := w_P_openInAll) B9.pre
  have ht : ∀ w ∈ gk_big, w.before _ s = true := fun w h => hts w (List.mem_cons_of_mem _ h)
  have hown : s.vm.findClass R_P = some m.cls := findClass_of_methodNamed B9.named
  have hlocks := B9.notSynchronized
  subst hsz
  have hD := hD0.self (sz := s.heap.size)
  generalize hAe : va_A (wPg cI cJ cB g eo bo t co eq tq X ba S f1 f2 f3 f4 ++ tl) s.heap.size = A at hD ⊢
  have hA : ∀ q : Nat, s.heap.size ≤ q → A q := fun q h => by rw [← hAe]; exact Or.inr h
  generalize hHe : s.heap = H at hP ⊢
  have hS : va_S A s.heap H [] := by rw [← hHe]; exact va_S.rf
  have hP : va_P D vwCl ([(g, .inr (3, [.ref eo, .ref bo, .ref t, .ref co])), (eo, .inr (2, [.ref (eq 0), .ref (eq 1), .ref (eq 2), .ref (eq 3), .int (nI X.2.2.2.2)])), ((eq 0), .inl (cI, 80, .inl X.1)), ((eq 1), .inl (cI, 80, .inl X.2.1)), ((eq 2), .inl (cI, 80, .inl X.2.2.1)), ((eq 3), .inl (cI, 80, .inl X.2.2.2.1)), (bo, .inl (cB, 8, .inr (.inr (.inr (.inr ba))))), (t, .inr (4, [.ref (tq 0), .ref (tq 1), .ref (tq 2), .ref (tq 3), .ref (tq 4), .ref (tq 5), .ref (tq 6), .ref (tq 7), .int (nI S.1.2.2.2.2)])), ((tq 0), .inl (cI, 64, .inl (fun z9 => nI (S.1.1 z9)))), ((tq 1), .inl (cI, 64, .inl (fun z9 => nI (S.1.2.1 z9)))), ((tq 2), .inl (cI, 64, .inl (fun z9 => nI (S.1.2.2.1 z9)))), ((tq 3), .inl (cJ, 64, .inr (.inl S.1.2.2.2.1))), ((tq 4), .inl (cJ, 64, .inr (.inl f1))), ((tq 5), .inl (cJ, 64, .inr (.inl f2))), ((tq 6), .inl (cJ, 64, .inr (.inl f3))), ((tq 7), .inl (cJ, 64, .inr (.inl f4))), (co, .inl (cI, 112, .inl (fun z9 => nI (S.2 z9))))] ++ tl) H := hP
  have hD : va_D A ([(g, .inr (3, [.ref eo, .ref bo, .ref t, .ref co])), (eo, .inr (2, [.ref (eq 0), .ref (eq 1), .ref (eq 2), .ref (eq 3), .int (nI X.2.2.2.2)])), ((eq 0), .inl (cI, 80, .inl X.1)), ((eq 1), .inl (cI, 80, .inl X.2.1)), ((eq 2), .inl (cI, 80, .inl X.2.2.1)), ((eq 3), .inl (cI, 80, .inl X.2.2.2.1)), (bo, .inl (cB, 8, .inr (.inr (.inr (.inr ba))))), (t, .inr (4, [.ref (tq 0), .ref (tq 1), .ref (tq 2), .ref (tq 3), .ref (tq 4), .ref (tq 5), .ref (tq 6), .ref (tq 7), .int (nI S.1.2.2.2.2)])), ((tq 0), .inl (cI, 64, .inl (fun z9 => nI (S.1.1 z9)))), ((tq 1), .inl (cI, 64, .inl (fun z9 => nI (S.1.2.1 z9)))), ((tq 2), .inl (cI, 64, .inl (fun z9 => nI (S.1.2.2.1 z9)))), ((tq 3), .inl (cJ, 64, .inr (.inl S.1.2.2.2.1))), ((tq 4), .inl (cJ, 64, .inr (.inl f1))), ((tq 5), .inl (cJ, 64, .inr (.inl f2))), ((tq 6), .inl (cJ, 64, .inr (.inl f3))), ((tq 7), .inl (cJ, 64, .inr (.inl f4))), (co, .inl (cI, 112, .inl (fun z9 => nI (S.2 z9))))] ++ tl) := hD
  have hl := lv_entry ([.ref g]) (n := 3) (Nat.le_of_ble_eq_true rfl)
  rw [lg_entry_eq]
  generalize (lg_sl ([.ref g]) ++ List.replicate (3 - (lg_sl ([.ref g])).length) Slot.unset).toArray = ls at hl ⊢
  have hl : lv_has ls 3 [(0, .ref g)] := hl
  refine lv_iconst (v := 0) hx hb dP_openInAll_0 (by decide) ?_
  refine lv_istore_n (lv' := [(1, .int 0), (0, .ref g)]) hx hb dP_openInAll_1 rfl hl (by decide) rfl (fun ls hl => ?_)
  refine lv_iconst (v := 0) hx hb dP_openInAll_2 (by decide) ?_
  refine lv_istore_n (lv' := [(2, .int 0), (1, .int 0), (0, .ref g)]) hx hb dP_openInAll_3 rfl hl (by decide) rfl (fun ls hl => ?_)
  have lp4 : ∀ (n4 : Nat) (i : Nat), 8 - i + 1 ≤ n4 → (i ≤ 8) → ∀ (H : Heap) (locs : List Loc) (ls : Array Slot), va_P D vwCl ([(g, .inr (3, [.ref eo, .ref bo, .ref t, .ref co])), (eo, .inr (2, [.ref (eq 0), .ref (eq 1), .ref (eq 2), .ref (eq 3), .int (nI X.2.2.2.2)])), ((eq 0), .inl (cI, 80, .inl X.1)), ((eq 1), .inl (cI, 80, .inl X.2.1)), ((eq 2), .inl (cI, 80, .inl X.2.2.1)), ((eq 3), .inl (cI, 80, .inl X.2.2.2.1)), (bo, .inl (cB, 8, .inr (.inr (.inr (.inr ba))))), (t, .inr (4, [.ref (tq 0), .ref (tq 1), .ref (tq 2), .ref (tq 3), .ref (tq 4), .ref (tq 5), .ref (tq 6), .ref (tq 7), .int (nI S.1.2.2.2.2)])), ((tq 0), .inl (cI, 64, .inl (fun z9 => nI (S.1.1 z9)))), ((tq 1), .inl (cI, 64, .inl (fun z9 => nI (S.1.2.1 z9)))), ((tq 2), .inl (cI, 64, .inl (fun z9 => nI (S.1.2.2.1 z9)))), ((tq 3), .inl (cJ, 64, .inr (.inl S.1.2.2.2.1))), ((tq 4), .inl (cJ, 64, .inr (.inl f1))), ((tq 5), .inl (cJ, 64, .inr (.inl f2))), ((tq 6), .inl (cJ, 64, .inr (.inl f3))), ((tq 7), .inl (cJ, 64, .inr (.inl f4))), (co, .inl (cI, 112, .inl (fun z9 => nI (S.2 z9))))] ++ tl) H → va_D A ([(g, .inr (3, [.ref eo, .ref bo, .ref t, .ref co])), (eo, .inr (2, [.ref (eq 0), .ref (eq 1), .ref (eq 2), .ref (eq 3), .int (nI X.2.2.2.2)])), ((eq 0), .inl (cI, 80, .inl X.1)), ((eq 1), .inl (cI, 80, .inl X.2.1)), ((eq 2), .inl (cI, 80, .inl X.2.2.1)), ((eq 3), .inl (cI, 80, .inl X.2.2.2.1)), (bo, .inl (cB, 8, .inr (.inr (.inr (.inr ba))))), (t, .inr (4, [.ref (tq 0), .ref (tq 1), .ref (tq 2), .ref (tq 3), .ref (tq 4), .ref (tq 5), .ref (tq 6), .ref (tq 7), .int (nI S.1.2.2.2.2)])), ((tq 0), .inl (cI, 64, .inl (fun z9 => nI (S.1.1 z9)))), ((tq 1), .inl (cI, 64, .inl (fun z9 => nI (S.1.2.1 z9)))), ((tq 2), .inl (cI, 64, .inl (fun z9 => nI (S.1.2.2.1 z9)))), ((tq 3), .inl (cJ, 64, .inr (.inl S.1.2.2.2.1))), ((tq 4), .inl (cJ, 64, .inr (.inl f1))), ((tq 5), .inl (cJ, 64, .inr (.inl f2))), ((tq 6), .inl (cJ, 64, .inr (.inl f3))), ((tq 7), .inl (cJ, 64, .inr (.inl f4))), (co, .inl (cI, 112, .inl (fun z9 => nI (S.2 z9))))] ++ tl) → va_S A s.heap H locs → lv_has ls 3 [(1, .int (nI (sm_f ba (fun z => (Bs z).2.2.2.2.2.2.2) i))), (2, .int (nI i)), (0, .ref g)] → W p l ev9 (headSpec w_P_openInAll ({ frames := 0, cells := 0, slots := 0, locals := 0 })).room s m ([.ref g] : List Value).toArray below meth c H locs 0 0 (MQ below (gq_I D A (fun r w => r = nI (sm_f ba (fun z => (Bs z).2.2.2.2.2.2.2) 8) ∧ w = (wPg cI cJ cB g eo bo t co eq tq X ba S f1 f2 f3 f4 ++ tl))) ([.ref g] : List Value).toArray s (0) (0) A) (F0 m 4 ls []) := by
    intro n4
    induction n4 with
    | zero =>
      intro i hm4
      exact absurd hm4 (by omega)
    | succ n4 ih4 =>
      intro i hm4 hi H locs ls hP hD hS hl
      refine lv_iload_n hx hb dP_openInAll_4 rfl (lv_at hl 1 rfl) ?_
      refine lv_bipush (v := 8) hx hb dP_openInAll_5 (by decide) ?_
      refine lv_icmp_ge (tgt := 41) hx hb dP_openInAll_7 (by decide) (fun c7 => ?_) (fun c7 => ?_)
      · have g7 : 8 ≤ i := (gx_le (rfl : (8 : Int32) = nI 8) (rfl : (nI i) = (nI i)) (by decide) (by omega)).mp c7
        refine lv_iload_n hx hb dP_openInAll_41 rfl (lv_at hl 0 rfl) ?_
        have zi : i = 8 := by omega
        subst zi
        exact W.iret (v := (nI (sm_f ba (fun z => (Bs z).2.2.2.2.2.2.2) 8))) hx hb hr (fun t9 ht9 hW => ⟨⟨(nI (sm_f ba (fun z => (Bs z).2.2.2.2.2.2.2) 8)), _, rfl, ⟨rfl, rfl⟩, by rw [ht9]; exact hP, hD⟩, hS.F ht9⟩) hS.2.2 dP_openInAll_42
      · have g7 : ¬ (8 ≤ i) := fun z => c7 ((gx_le (rfl : (8 : Int32) = nI 8) (rfl : (nI i) = (nI i)) (by decide) (by omega)).mpr z)
        refine lv_iload_n hx hb dP_openInAll_10 rfl (lv_at hl 0 rfl) ?_
        refine lv_aload_n hx hb dP_openInAll_11 rfl (lv_at hl 2 rfl) ?_
        refine va_get (D := D) (ci := 3) (v := .ref bo) (C := R_P) (T := F_P) (N := 4) hx hb ht i_P hown hK hP 0 rfl rfl 1 (by decide) (ht _ m_93) (fun _ h9 => h9) rfl dP_openInAll_12 ?_
        refine lv_iload_n hx hb dP_openInAll_15 rfl (lv_at hl 1 rfl) ?_
        have i16 : vp_in (nI i) 8 := gx_in (rfl : (nI i) = (nI i)) (by omega) (by decide)
        have k16 : ((nI i) : Int32).toNatClampNeg = i := gx_cl (rfl : (nI i) = (nI i)) (by omega)
        refine va_aldq hx hb hK hP 6 2 rfl rfl i16 dP_openInAll_16 ?_
        rw [k16]
        cases hbf : ba i with
        | none =>
          refine W.eq (g2 := F0 m 17 ls [.null, .int (nI (sm_f ba (fun z => (Bs z).2.2.2.2.2.2.2) i))]) rfl ?_
          refine lv_ifnonnullN hx hb dP_openInAll_17 ?_
          refine lv_iconst (v := 0) hx hb dP_openInAll_20 (by decide) ?_
          refine lv_goto (tgt := 33) hx hb dP_openInAll_21 (by decide) ?_
          refine lv_iadd hx hb dP_openInAll_33 ?_
          refine lv_topi (fun v33 e33 => ?_)
          have n33 : v33 = nI ((sm_f ba (fun z => (Bs z).2.2.2.2.2.2.2) i) + 0) := by rw [e33]; exact gx_add (rfl : (nI (sm_f ba (fun z => (Bs z).2.2.2.2.2.2.2) i)) = (nI (sm_f ba (fun z => (Bs z).2.2.2.2.2.2.2) i))) (rfl : (0 : Int32) = nI 0)
          subst n33
          rw [show ((sm_f ba (fun z => (Bs z).2.2.2.2.2.2.2) i) + 0) = sm_f ba (fun z => (Bs z).2.2.2.2.2.2.2) (i + 1) by show _ = _ + (match ba i with | none => 0 | some _ => _); rw [hbf]]
          refine lv_istore_n (lv' := [(1, .int (nI (sm_f ba (fun z => (Bs z).2.2.2.2.2.2.2) (i + 1)))), (2, .int (nI i)), (0, .ref g)]) hx hb dP_openInAll_34 rfl hl (by decide) rfl (fun ls hl => ?_)
          refine lv_iinc (v := (nI (i + 1))) (lv' := [(2, .int (nI (i + 1))), (1, .int (nI (sm_f ba (fun z => (Bs z).2.2.2.2.2.2.2) (i + 1)))), (0, .ref g)]) hx hb dP_openInAll_35 hl (k := 1) rfl (gx_inc (rfl : (nI i) = (nI i))) (by decide) rfl (fun ls hl => ?_)
          refine lv_goto (tgt := 4) hx hb dP_openInAll_38 (by decide) ?_
          exact ih4 (i + 1) (by omega) (by omega) _ _ _ hP hD hS (lv_sub hl [1, 0, 2] rfl)
        | some o =>
          obtain ⟨q, hsl, hBd⟩ := hpool i (by omega) o hbf
          obtain ⟨j0, hj0⟩ := List.getElem?_of_mem (hsl.subset (List.mem_of_getElem? (l := wB cI o q (Bs i)) (i := 0) rfl))
          have hj0 : tl[j0]? = some (o, .inr (0, [.ref (q 0), .ref (q 1), .ref (q 2), .ref (q 3), .ref (q 4), .ref (q 5), .int (nI ((Bs i).2.2.2.2.2.2.1)), .int (nI ((Bs i).2.2.2.2.2.2.2))])) := hj0
          refine W.eq (g2 := F0 m 17 ls [.ref o, .int (nI (sm_f ba (fun z => (Bs z).2.2.2.2.2.2.2) i))]) rfl ?_
          refine lv_ifnonnull (tgt := 24) hx hb dP_openInAll_17 (by decide) ?_
          refine lv_aload_n hx hb dP_openInAll_24 rfl (lv_at hl 2 rfl) ?_
          refine va_get (D := D) (ci := 3) (v := .ref bo) (C := R_P) (T := F_P) (N := 4) hx hb ht i_P hown hK hP 0 rfl rfl 1 (by decide) (ht _ m_93) (fun _ h9 => h9) rfl dP_openInAll_25 ?_
          refine lv_iload_n hx hb dP_openInAll_28 rfl (lv_at hl 1 rfl) ?_
          have i29 : vp_in (nI i) 8 := gx_in (rfl : (nI i) = (nI i)) (by omega) (by decide)
          have k29 : ((nI i) : Int32).toNatClampNeg = i := gx_cl (rfl : (nI i) = (nI i)) (by omega)
          refine va_aldq hx hb hK hP 6 2 rfl rfl i29 dP_openInAll_29 ?_
          rw [k29]
          rw [hbf]
          refine W.eq (g2 := F0 m 30 ls [.ref o, .int (nI (sm_f ba (fun z => (Bs z).2.2.2.2.2.2.2) i))]) rfl ?_
          refine va_getN (D := D) (ci := 0) (v := .int (nI ((Bs i).2.2.2.2.2.2.2))) (C := R_B) (T := F_B) (N := 8) hx hb ht i_B hown hK hP (j0 + 17) hj0 rfl 7 (by decide) (va_Nw.use rfl (hN _ mn_22)) (fun _ h9 => h9) rfl dP_openInAll_30 ?_
          refine lv_iadd hx hb dP_openInAll_33 ?_
          refine lv_topi (fun v33 e33 => ?_)
          have n33 : v33 = nI ((sm_f ba (fun z => (Bs z).2.2.2.2.2.2.2) i) + ((Bs i).2.2.2.2.2.2.2)) := by rw [e33]; exact gx_add (rfl : (nI (sm_f ba (fun z => (Bs z).2.2.2.2.2.2.2) i)) = (nI (sm_f ba (fun z => (Bs z).2.2.2.2.2.2.2) i))) (rfl : (nI ((Bs i).2.2.2.2.2.2.2)) = (nI ((Bs i).2.2.2.2.2.2.2)))
          subst n33
          rw [show ((sm_f ba (fun z => (Bs z).2.2.2.2.2.2.2) i) + ((Bs i).2.2.2.2.2.2.2)) = sm_f ba (fun z => (Bs z).2.2.2.2.2.2.2) (i + 1) by show _ = _ + (match ba i with | none => 0 | some _ => _); rw [hbf]]
          refine lv_istore_n (lv' := [(1, .int (nI (sm_f ba (fun z => (Bs z).2.2.2.2.2.2.2) (i + 1)))), (2, .int (nI i)), (0, .ref g)]) hx hb dP_openInAll_34 rfl hl (by decide) rfl (fun ls hl => ?_)
          refine lv_iinc (v := (nI (i + 1))) (lv' := [(2, .int (nI (i + 1))), (1, .int (nI (sm_f ba (fun z => (Bs z).2.2.2.2.2.2.2) (i + 1)))), (0, .ref g)]) hx hb dP_openInAll_35 hl (k := 1) rfl (gx_inc (rfl : (nI i) = (nI i))) (by decide) rfl (fun ls hl => ?_)
          refine lv_goto (tgt := 4) hx hb dP_openInAll_38 (by decide) ?_
          exact ih4 (i + 1) (by omega) (by omega) _ _ _ hP hD hS (lv_sub hl [1, 0, 2] rfl)
  exact lp4 (8 - (0) + 1) 0 (by omega) (by omega) _ _ _ hP hD hS (lv_sub hl [1, 0, 2] rfl)

