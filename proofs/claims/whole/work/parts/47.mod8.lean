def lp (f : Nat → Int64) (b : Nat) (s : Nat → Int64) (k : Nat) : Nat → Int64 := fun z => if b ≤ z ∧ z < b + k then s (z - b) else f z
theorem lp_0 (f : Nat → Int64) (b : Nat) (s : Nat → Int64) : lp f b s 0 = f := by funext z; unfold lp; rw [if_neg (by omega)]
theorem lp_s {f : Nat → Int64} {b : Nat} {s : Nat → Int64} {k : Nat} {x : Int64} (h : x = s k) : vp_updL (lp f b s k) (b + k) x = lp f b s (k + 1) := by
  funext z; unfold vp_updL lp
  by_cases e : z = b + k
  · subst e; rw [if_pos rfl, if_pos (by omega), show b + k - b = k by omega, h]
  · rw [if_neg e]
    by_cases e2 : b ≤ z ∧ z < b + k
    · rw [if_pos e2, if_pos (by omega)]
    · rw [if_neg e2, if_neg (by omega)]
theorem lp_1 {f : Nat → Int64} {b : Nat} {s : Nat → Int64} {x : Int64} (h : x = s 0) : vp_updL f b x = lp f b s 1 := by
  have := lp_s (f := f) (b := b) h
  rw [lp_0] at this; exact this
theorem lp_o {f : Nat → Int64} {b : Nat} {s : Nat → Int64} {k z : Nat} (h : z < b ∨ b + k ≤ z) : lp f b s k z = f z := by unfold lp; rw [if_neg (by omega)]
theorem lp_i {f : Nat → Int64} {b : Nat} {s : Nat → Int64} {k j : Nat} (h : j < k) : lp f b s k (b + j) = s j := by unfold lp; rw [if_pos (by omega), show b + j - b = j by omega]
theorem lp_lp {f : Nat → Int64} {b : Nat} {s t : Nat → Int64} {k : Nat} : lp (lp f b s k) b t k = lp f b t k := by
  funext z; unfold lp
  by_cases e : b ≤ z ∧ z < b + k
  · rw [if_pos e, if_pos e]
  · rw [if_neg e, if_neg e, if_neg e]
theorem lp_e {f : Nat → Int64} {b : Nat} {s t : Nat → Int64} {k : Nat} (h : ∀ j, j < k → s j = t j) : lp f b s k = lp f b t k := by
  funext z; unfold lp
  by_cases e : b ≤ z ∧ z < b + k
  · rw [if_pos e, if_pos e]; exact h _ (by omega)
  · rw [if_neg e, if_neg e]
/-- the product of two rows of four -/
def jm (s t : Nat → Int64) : Nat → Int64 := fun k => if k = 0 then s 0 * t 0 else if k = 1 then s 0 * t 1 + s 1 * t 0 else if k = 2 then s 0 * t 2 + s 2 * t 0 else s 0 * t 3 + s 1 * t 2 + s 2 * t 1 + s 3 * t 0
def jc (v : Int64) : Nat → Int64 := fun k => if k = 0 then v else 0
def DN (X : Ex) (S : Nat → Prop) (i : Nat) (R : Nat → Prop) : Prop := ∃ Q, DI X S (fun _ => False) i R Q
theorem dn_beg {X : Ex} {e : Nat} {R : Nat → Prop} (he : e < X.2.2.2.2) (h : ∀ z, R z ↔ z = e) : DN X (fun z => z = e) (e + 1) R := by
  refine ⟨fun _ => False, fun z hz T t1 _ _ => t1 z ((h z).mp hz), fun z hz => (h z).mpr hz, fun z h1 h2 h3 => absurd ((h z).mp h3) (by omega), fun z => ⟨False.elim, fun y => y.elim id (fun ⟨e2, a, b, c, _⟩ => absurd ((h e2).mp c) (by omega))⟩⟩
theorem dn_skip {X : Ex} {S R : Nat → Prop} {j : Nat} (h : DN X S (j + 1) R) (hj : R j → cn (X.1 j) < 2) : DN X S j R := by
  obtain ⟨Q, h⟩ := h; exact ⟨Q, di_skip h hj⟩
theorem dn_step {X : Ex} {S R R' : Nat → Prop} {j : Nat} (h : DN X S (j + 1) R) (hn : j < X.2.2.2.2) (hr : R j) (h2k : 2 ≤ cn (X.1 j)) (ha : cn (X.2.1 j) < j) (hb : px_R (cn (X.1 j)) → cn (X.2.2.1 j) < j)
    (hR : ∀ z, R' z ↔ R z ∨ z = cn (X.2.1 j) ∨ (px_R (cn (X.1 j)) ∧ z = cn (X.2.2.1 j))) : DN X S j R' := by
  obtain ⟨Q, h⟩ := h; exact ⟨_, di_step h hn hr h2k ha hb hR (fun z => Iff.rfl)⟩
theorem dn_end {X : Ex} {S R : Nat → Prop} (h : DN X S 0 R) (z : Nat) : R z ↔ Rx X S z := by
  obtain ⟨Q, h1, h2, h3, -⟩ := h
  exact ⟨h1 z, fun y => y R h2 (fun z zn r y => (h3 z (Nat.zero_le _) zn r).1 y) (fun z zn r y => (h3 z (Nat.zero_le _) zn r).2 y)⟩
def ndx (nd : Nat → Prop) (d : Nat) (Q : Nat → Prop) : Nat → Prop := fun z => if 80 * d ≤ z ∧ z < 80 * d + 80 then Q (z - 80 * d) else nd z
set_option maxHeartbeats 4000000 in
set_option maxRecDepth 100000 in
theorem c_M_enter (l : Launch) (D : va_G) (cI cJ cB cZ : ClassId) (mo : Nat) (mq : Nat → Nat) (n F d : Nat) (fF fP : Nat → Nat) (fA : Nat → Int32) (ce : Nat → Int64) (f : Nat) (hd : d < 8) : ct_V l y_M_enter w_M_enter ({ frames := 0, cells := 0, slots := 0, locals := 0 }) D (gk_T cI cJ cB cZ) [.ref mo, .int (nI f)] [(mo, .inr (6, [.ref (mq 0), .ref (mq 1), .ref (mq 2), .ref (mq 3), .int (nI n), .ref (mq 5), .ref (mq 6), .int (nI F), .ref (mq 8), .ref (mq 9), .ref (mq 10), .ref (mq 11), .ref (mq 12), .ref (mq 13), .ref (mq 14), .ref (mq 15), .ref (mq 16), .ref (mq 17), .ref (mq 18), .ref (mq 19), .ref (mq 20), .ref (mq 21), .ref (mq 22), .int (nI d)])), ((mq 19), .inl (cI, 8, .inl (fun z9 => nI (fF z9)))), ((mq 20), .inl (cI, 8, .inl (fun z9 => nI (fP z9)))), ((mq 21), .inl (cI, 8, .inl fA)), ((mq 16), .inl (cJ, 448, .inr (.inl ce)))] (0) (0) (fun w => w = [(mo, .inr (6, [.ref (mq 0), .ref (mq 1), .ref (mq 2), .ref (mq 3), .int (nI n), .ref (mq 5), .ref (mq 6), .int (nI F), .ref (mq 8), .ref (mq 9), .ref (mq 10), .ref (mq 11), .ref (mq 12), .ref (mq 13), .ref (mq 14), .ref (mq 15), .ref (mq 16), .ref (mq 17), .ref (mq 18), .ref (mq 19), .ref (mq 20), .ref (mq 21), .ref (mq 22), .int (nI (d + 1))])), ((mq 19), .inl (cI, 8, .inl (fun z9 => nI ((va_up fF d f) z9)))), ((mq 20), .inl (cI, 8, .inl (fun z9 => nI ((va_up fP d 0) z9)))), ((mq 21), .inl (cI, 8, .inl (upd fA d (-1)))), ((mq 16), .inl (cJ, 448, .inr (.inl (lp ce (56 * d) (fun _ => 0) 56))))]) := by
  intro sz
  refine Met.ofW (cc := b_M_enter) (maxL := 3) (ret := none) (by decide) rfl ?_
  intro p ev9 s m args below meth c s₁ B9 hml hv
  obtain ⟨rfl, hsz, hP, hK, hN, hD0⟩ := hv
  have hx := B9.exec
  have hb := B9.bytes
  have hr := B9.returns
  have hts := atoms_spec (ws := w_M_enter) B9.pre
  have ht : ∀ w ∈ gk_big, w.before _ s = true := fun w h => hts w (List.mem_cons_of_mem _ h)
  have hown : s.vm.findClass R_M = some m.cls := findClass_of_methodNamed B9.named
  have hlocks := B9.notSynchronized
  subst hsz
  have hD := hD0.self (sz := s.heap.size)
  generalize hAe : va_A [(mo, .inr (6, [.ref (mq 0), .ref (mq 1), .ref (mq 2), .ref (mq 3), .int (nI n), .ref (mq 5), .ref (mq 6), .int (nI F), .ref (mq 8), .ref (mq 9), .ref (mq 10), .ref (mq 11), .ref (mq 12), .ref (mq 13), .ref (mq 14), .ref (mq 15), .ref (mq 16), .ref (mq 17), .ref (mq 18), .ref (mq 19), .ref (mq 20), .ref (mq 21), .ref (mq 22), .int (nI d)])), ((mq 19), .inl (cI, 8, .inl (fun z9 => nI (fF z9)))), ((mq 20), .inl (cI, 8, .inl (fun z9 => nI (fP z9)))), ((mq 21), .inl (cI, 8, .inl fA)), ((mq 16), .inl (cJ, 448, .inr (.inl ce)))] s.heap.size = A at hD ⊢
  have hA : ∀ q : Nat, s.heap.size ≤ q → A q := fun q h => by rw [← hAe]; exact Or.inr h
  generalize hHe : s.heap = H at hP ⊢
  have hS : va_S A s.heap H [] := by rw [← hHe]; exact va_S.rf
  have hP : va_P D vwCl [(mo, .inr (6, [.ref (mq 0), .ref (mq 1), .ref (mq 2), .ref (mq 3), .int (nI n), .ref (mq 5), .ref (mq 6), .int (nI F), .ref (mq 8), .ref (mq 9), .ref (mq 10), .ref (mq 11), .ref (mq 12), .ref (mq 13), .ref (mq 14), .ref (mq 15), .ref (mq 16), .ref (mq 17), .ref (mq 18), .ref (mq 19), .ref (mq 20), .ref (mq 21), .ref (mq 22), .int (nI d)])), ((mq 19), .inl (cI, 8, .inl (fun z9 => nI (fF z9)))), ((mq 20), .inl (cI, 8, .inl (fun z9 => nI (fP z9)))), ((mq 21), .inl (cI, 8, .inl fA)), ((mq 16), .inl (cJ, 448, .inr (.inl ce)))] H := hP
  have hD : va_D A [(mo, .inr (6, [.ref (mq 0), .ref (mq 1), .ref (mq 2), .ref (mq 3), .int (nI n), .ref (mq 5), .ref (mq 6), .int (nI F), .ref (mq 8), .ref (mq 9), .ref (mq 10), .ref (mq 11), .ref (mq 12), .ref (mq 13), .ref (mq 14), .ref (mq 15), .ref (mq 16), .ref (mq 17), .ref (mq 18), .ref (mq 19), .ref (mq 20), .ref (mq 21), .ref (mq 22), .int (nI d)])), ((mq 19), .inl (cI, 8, .inl (fun z9 => nI (fF z9)))), ((mq 20), .inl (cI, 8, .inl (fun z9 => nI (fP z9)))), ((mq 21), .inl (cI, 8, .inl fA)), ((mq 16), .inl (cJ, 448, .inr (.inl ce)))] := hD
  have hl := lv_entry ([.ref mo, .int (nI f)]) (n := 3) (Nat.le_of_ble_eq_true rfl)
  rw [lg_entry_eq]
  generalize (lg_sl ([.ref mo, .int (nI f)]) ++ List.replicate (3 - (lg_sl ([.ref mo, .int (nI f)])).length) Slot.unset).toArray = ls at hl ⊢
  have hl : lv_has ls 3 [(0, .ref mo), (1, .int (nI f))] := hl
  refine lv_aload_n hx hb dM_enter_0 rfl (lv_at hl 0 rfl) ?_
  refine lv_dup hx hb dM_enter_1 rfl ?_
  refine va_get (D := D) (ci := 6) (v := .int (nI d)) (C := R_M) (T := F_M) (N := 24) hx hb ht i_M hown hK hP 0 rfl rfl 23 (by decide) (ht _ m_477) (fun _ h9 => h9) rfl dM_enter_2 ?_
  refine lv_iconst (v := 1) hx hb dM_enter_5 (by decide) ?_
  refine lv_iadd hx hb dM_enter_6 ?_
  refine lv_topi (fun v6 e6 => ?_)
  have n6 : v6 = nI (d + 1) := by rw [e6]; exact gx_add (rfl : (nI d) = (nI d)) (rfl : (1 : Int32) = nI 1)
  subst n6
  refine va_put (D := D) (ci := 6) (v := .int (nI (d + 1))) (ty := .int) (C := R_M) (T := F_M) (N := 24) hx hb ht i_M ft_M ft_M_ok fn_M hown hK hP hD hS 0 rfl rfl 23 (by decide) (ht _ m_477) (fun _ h9 => h9) rfl (by decide +kernel) rfl rfl (Nat.le_of_ble_eq_true rfl) dM_enter_7 (fun H locs hP hD hS => ?_)
  have hP : va_P D vwCl [(mo, .inr (6, [.ref (mq 0), .ref (mq 1), .ref (mq 2), .ref (mq 3), .int (nI n), .ref (mq 5), .ref (mq 6), .int (nI F), .ref (mq 8), .ref (mq 9), .ref (mq 10), .ref (mq 11), .ref (mq 12), .ref (mq 13), .ref (mq 14), .ref (mq 15), .ref (mq 16), .ref (mq 17), .ref (mq 18), .ref (mq 19), .ref (mq 20), .ref (mq 21), .ref (mq 22), .int (nI (d + 1))])), ((mq 19), .inl (cI, 8, .inl (fun z9 => nI (fF z9)))), ((mq 20), .inl (cI, 8, .inl (fun z9 => nI (fP z9)))), ((mq 21), .inl (cI, 8, .inl fA)), ((mq 16), .inl (cJ, 448, .inr (.inl ce)))] H := hP
  have hD : va_D A [(mo, .inr (6, [.ref (mq 0), .ref (mq 1), .ref (mq 2), .ref (mq 3), .int (nI n), .ref (mq 5), .ref (mq 6), .int (nI F), .ref (mq 8), .ref (mq 9), .ref (mq 10), .ref (mq 11), .ref (mq 12), .ref (mq 13), .ref (mq 14), .ref (mq 15), .ref (mq 16), .ref (mq 17), .ref (mq 18), .ref (mq 19), .ref (mq 20), .ref (mq 21), .ref (mq 22), .int (nI (d + 1))])), ((mq 19), .inl (cI, 8, .inl (fun z9 => nI (fF z9)))), ((mq 20), .inl (cI, 8, .inl (fun z9 => nI (fP z9)))), ((mq 21), .inl (cI, 8, .inl fA)), ((mq 16), .inl (cJ, 448, .inr (.inl ce)))] := hD
  refine lv_aload_n hx hb dM_enter_10 rfl (lv_at hl 0 rfl) ?_
  refine va_get (D := D) (ci := 6) (v := .ref (mq 19)) (C := R_M) (T := F_M) (N := 24) hx hb ht i_M hown hK hP 0 rfl rfl 19 (by decide) (ht _ m_473) (fun _ h9 => h9) rfl dM_enter_11 ?_
  refine lv_aload_n hx hb dM_enter_14 rfl (lv_at hl 0 rfl) ?_
  refine va_get (D := D) (ci := 6) (v := .int (nI (d + 1))) (C := R_M) (T := F_M) (N := 24) hx hb ht i_M hown hK hP 0 rfl rfl 23 (by decide) (ht _ m_477) (fun _ h9 => h9) rfl dM_enter_15 ?_
  refine lv_iconst (v := 1) hx hb dM_enter_18 (by decide) ?_
  refine lv_isub hx hb dM_enter_19 ?_
  refine lv_topi (fun v19 e19 => ?_)
  have n19 : v19 = nI ((d + 1) - 1) := by rw [e19]; exact gx_sub (rfl : (nI (d + 1)) = (nI (d + 1))) (rfl : (1 : Int32) = nI 1) (by omega)
  subst n19
  rw [show d + 1 - 1 = d from rfl]
  refine lv_iload_n hx hb dM_enter_20 rfl (lv_at hl 1 rfl) ?_
  have i21 : vp_in (nI d) 8 := gx_in (rfl : (nI d) = (nI d)) (by omega) (by decide)
  have k21 : ((nI d) : Int32).toNatClampNeg = d := gx_cl (rfl : (nI d) = (nI d)) (by omega)
  refine va_iast hx hb hK hP hD hS 1 0 rfl rfl i21 dM_enter_21 (fun H locs hP hD hS => ?_)
  rw [k21] at hP hD
  have hP : va_P D vwCl [(mo, .inr (6, [.ref (mq 0), .ref (mq 1), .ref (mq 2), .ref (mq 3), .int (nI n), .ref (mq 5), .ref (mq 6), .int (nI F), .ref (mq 8), .ref (mq 9), .ref (mq 10), .ref (mq 11), .ref (mq 12), .ref (mq 13), .ref (mq 14), .ref (mq 15), .ref (mq 16), .ref (mq 17), .ref (mq 18), .ref (mq 19), .ref (mq 20), .ref (mq 21), .ref (mq 22), .int (nI (d + 1))])), ((mq 19), .inl (cI, 8, .inl (upd (fun z9 => nI (fF z9)) d (nI f)))), ((mq 20), .inl (cI, 8, .inl (fun z9 => nI (fP z9)))), ((mq 21), .inl (cI, 8, .inl fA)), ((mq 16), .inl (cJ, 448, .inr (.inl ce)))] H := hP
  have hD : va_D A [(mo, .inr (6, [.ref (mq 0), .ref (mq 1), .ref (mq 2), .ref (mq 3), .int (nI n), .ref (mq 5), .ref (mq 6), .int (nI F), .ref (mq 8), .ref (mq 9), .ref (mq 10), .ref (mq 11), .ref (mq 12), .ref (mq 13), .ref (mq 14), .ref (mq 15), .ref (mq 16), .ref (mq 17), .ref (mq 18), .ref (mq 19), .ref (mq 20), .ref (mq 21), .ref (mq 22), .int (nI (d + 1))])), ((mq 19), .inl (cI, 8, .inl (upd (fun z9 => nI (fF z9)) d (nI f)))), ((mq 20), .inl (cI, 8, .inl (fun z9 => nI (fP z9)))), ((mq 21), .inl (cI, 8, .inl fA)), ((mq 16), .inl (cJ, 448, .inr (.inl ce)))] := hD
  rw [gx_upd] at hP hD
  refine lv_aload_n hx hb dM_enter_22 rfl (lv_at hl 0 rfl) ?_
  refine va_get (D := D) (ci := 6) (v := .ref (mq 20)) (C := R_M) (T := F_M) (N := 24) hx hb ht i_M hown hK hP 0 rfl rfl 20 (by decide) (ht _ m_474) (fun _ h9 => h9) rfl dM_enter_23 ?_
  refine lv_aload_n hx hb dM_enter_26 rfl (lv_at hl 0 rfl) ?_
  refine va_get (D := D) (ci := 6) (v := .int (nI (d + 1))) (C := R_M) (T := F_M) (N := 24) hx hb ht i_M hown hK hP 0 rfl rfl 23 (by decide) (ht _ m_477) (fun _ h9 => h9) rfl dM_enter_27 ?_
  refine lv_iconst (v := 1) hx hb dM_enter_30 (by decide) ?_
  refine lv_isub hx hb dM_enter_31 ?_
  refine lv_topi (fun v31 e31 => ?_)
  have n31 : v31 = nI ((d + 1) - 1) := by rw [e31]; exact gx_sub (rfl : (nI (d + 1)) = (nI (d + 1))) (rfl : (1 : Int32) = nI 1) (by omega)
  subst n31
  rw [show d + 1 - 1 = d from rfl]
  refine lv_iconst (v := 0) hx hb dM_enter_32 (by decide) ?_
  have i33 : vp_in (nI d) 8 := gx_in (rfl : (nI d) = (nI d)) (by omega) (by decide)
  have k33 : ((nI d) : Int32).toNatClampNeg = d := gx_cl (rfl : (nI d) = (nI d)) (by omega)
  refine va_iast hx hb hK hP hD hS 2 0 rfl rfl i33 dM_enter_33 (fun H locs hP hD hS => ?_)
  rw [k33] at hP hD
  have hP : va_P D vwCl [(mo, .inr (6, [.ref (mq 0), .ref (mq 1), .ref (mq 2), .ref (mq 3), .int (nI n), .ref (mq 5), .ref (mq 6), .int (nI F), .ref (mq 8), .ref (mq 9), .ref (mq 10), .ref (mq 11), .ref (mq 12), .ref (mq 13), .ref (mq 14), .ref (mq 15), .ref (mq 16), .ref (mq 17), .ref (mq 18), .ref (mq 19), .ref (mq 20), .ref (mq 21), .ref (mq 22), .int (nI (d + 1))])), ((mq 19), .inl (cI, 8, .inl (fun z9 => nI ((va_up fF d f) z9)))), ((mq 20), .inl (cI, 8, .inl (upd (fun z9 => nI (fP z9)) d (nI 0)))), ((mq 21), .inl (cI, 8, .inl fA)), ((mq 16), .inl (cJ, 448, .inr (.inl ce)))] H := hP
  have hD : va_D A [(mo, .inr (6, [.ref (mq 0), .ref (mq 1), .ref (mq 2), .ref (mq 3), .int (nI n), .ref (mq 5), .ref (mq 6), .int (nI F), .ref (mq 8), .ref (mq 9), .ref (mq 10), .ref (mq 11), .ref (mq 12), .ref (mq 13), .ref (mq 14), .ref (mq 15), .ref (mq 16), .ref (mq 17), .ref (mq 18), .ref (mq 19), .ref (mq 20), .ref (mq 21), .ref (mq 22), .int (nI (d + 1))])), ((mq 19), .inl (cI, 8, .inl (fun z9 => nI ((va_up fF d f) z9)))), ((mq 20), .inl (cI, 8, .inl (upd (fun z9 => nI (fP z9)) d (nI 0)))), ((mq 21), .inl (cI, 8, .inl fA)), ((mq 16), .inl (cJ, 448, .inr (.inl ce)))] := hD
  rw [gx_upd] at hP hD
  refine lv_aload_n hx hb dM_enter_34 rfl (lv_at hl 0 rfl) ?_
  refine va_get (D := D) (ci := 6) (v := .ref (mq 21)) (C := R_M) (T := F_M) (N := 24) hx hb ht i_M hown hK hP 0 rfl rfl 21 (by decide) (ht _ m_475) (fun _ h9 => h9) rfl dM_enter_35 ?_
  refine lv_aload_n hx hb dM_enter_38 rfl (lv_at hl 0 rfl) ?_
  refine va_get (D := D) (ci := 6) (v := .int (nI (d + 1))) (C := R_M) (T := F_M) (N := 24) hx hb ht i_M hown hK hP 0 rfl rfl 23 (by decide) (ht _ m_477) (fun _ h9 => h9) rfl dM_enter_39 ?_
  refine lv_iconst (v := 1) hx hb dM_enter_42 (by decide) ?_
  refine lv_isub hx hb dM_enter_43 ?_
  refine lv_topi (fun v43 e43 => ?_)
  have n43 : v43 = nI ((d + 1) - 1) := by rw [e43]; exact gx_sub (rfl : (nI (d + 1)) = (nI (d + 1))) (rfl : (1 : Int32) = nI 1) (by omega)
  subst n43
  rw [show d + 1 - 1 = d from rfl]
  refine lv_iconst (v := (-1)) hx hb dM_enter_44 (by decide) ?_
  have i45 : vp_in (nI d) 8 := gx_in (rfl : (nI d) = (nI d)) (by omega) (by decide)
  have k45 : ((nI d) : Int32).toNatClampNeg = d := gx_cl (rfl : (nI d) = (nI d)) (by omega)
  refine va_iast hx hb hK hP hD hS 3 0 rfl rfl i45 dM_enter_45 (fun H locs hP hD hS => ?_)
  rw [k45] at hP hD
  have hP : va_P D vwCl [(mo, .inr (6, [.ref (mq 0), .ref (mq 1), .ref (mq 2), .ref (mq 3), .int (nI n), .ref (mq 5), .ref (mq 6), .int (nI F), .ref (mq 8), .ref (mq 9), .ref (mq 10), .ref (mq 11), .ref (mq 12), .ref (mq 13), .ref (mq 14), .ref (mq 15), .ref (mq 16), .ref (mq 17), .ref (mq 18), .ref (mq 19), .ref (mq 20), .ref (mq 21), .ref (mq 22), .int (nI (d + 1))])), ((mq 19), .inl (cI, 8, .inl (fun z9 => nI ((va_up fF d f) z9)))), ((mq 20), .inl (cI, 8, .inl (fun z9 => nI ((va_up fP d 0) z9)))), ((mq 21), .inl (cI, 8, .inl (upd fA d (-1)))), ((mq 16), .inl (cJ, 448, .inr (.inl ce)))] H := hP
  have hD : va_D A [(mo, .inr (6, [.ref (mq 0), .ref (mq 1), .ref (mq 2), .ref (mq 3), .int (nI n), .ref (mq 5), .ref (mq 6), .int (nI F), .ref (mq 8), .ref (mq 9), .ref (mq 10), .ref (mq 11), .ref (mq 12), .ref (mq 13), .ref (mq 14), .ref (mq 15), .ref (mq 16), .ref (mq 17), .ref (mq 18), .ref (mq 19), .ref (mq 20), .ref (mq 21), .ref (mq 22), .int (nI (d + 1))])), ((mq 19), .inl (cI, 8, .inl (fun z9 => nI ((va_up fF d f) z9)))), ((mq 20), .inl (cI, 8, .inl (fun z9 => nI ((va_up fP d 0) z9)))), ((mq 21), .inl (cI, 8, .inl (upd fA d (-1)))), ((mq 16), .inl (cJ, 448, .inr (.inl ce)))] := hD
  refine lv_iconst (v := 0) hx hb dM_enter_46 (by decide) ?_
  refine lv_istore_n (lv' := [(2, .int 0), (0, .ref mo), (1, .int (nI f))]) hx hb dM_enter_47 rfl hl (by decide) rfl (fun ls hl => ?_)
  rw [← lp_0 ce (56 * d) (fun _ => 0)] at hP hD
  have hP : va_P D vwCl [(mo, .inr (6, [.ref (mq 0), .ref (mq 1), .ref (mq 2), .ref (mq 3), .int (nI n), .ref (mq 5), .ref (mq 6), .int (nI F), .ref (mq 8), .ref (mq 9), .ref (mq 10), .ref (mq 11), .ref (mq 12), .ref (mq 13), .ref (mq 14), .ref (mq 15), .ref (mq 16), .ref (mq 17), .ref (mq 18), .ref (mq 19), .ref (mq 20), .ref (mq 21), .ref (mq 22), .int (nI (d + 1))])), ((mq 19), .inl (cI, 8, .inl (fun z9 => nI ((va_up fF d f) z9)))), ((mq 20), .inl (cI, 8, .inl (fun z9 => nI ((va_up fP d 0) z9)))), ((mq 21), .inl (cI, 8, .inl (upd fA d (-1)))), ((mq 16), .inl (cJ, 448, .inr (.inl (lp ce (56 * d) (fun _ => 0) 0))))] H := hP
  have hD : va_D A [(mo, .inr (6, [.ref (mq 0), .ref (mq 1), .ref (mq 2), .ref (mq 3), .int (nI n), .ref (mq 5), .ref (mq 6), .int (nI F), .ref (mq 8), .ref (mq 9), .ref (mq 10), .ref (mq 11), .ref (mq 12), .ref (mq 13), .ref (mq 14), .ref (mq 15), .ref (mq 16), .ref (mq 17), .ref (mq 18), .ref (mq 19), .ref (mq 20), .ref (mq 21), .ref (mq 22), .int (nI (d + 1))])), ((mq 19), .inl (cI, 8, .inl (fun z9 => nI ((va_up fF d f) z9)))), ((mq 20), .inl (cI, 8, .inl (fun z9 => nI ((va_up fP d 0) z9)))), ((mq 21), .inl (cI, 8, .inl (upd fA d (-1)))), ((mq 16), .inl (cJ, 448, .inr (.inl (lp ce (56 * d) (fun _ => 0) 0))))] := hD
  have lp48 : ∀ (n48 : Nat) (k : Nat), 56 - k + 1 ≤ n48 → (k ≤ 56) → (0 ≤ k) → ∀ (H : Heap) (locs : List Loc) (ls : Array Slot), va_P D vwCl [(mo, .inr (6, [.ref (mq 0), .ref (mq 1), .ref (mq 2), .ref (mq 3), .int (nI n), .ref (mq 5), .ref (mq 6), .int (nI F), .ref (mq 8), .ref (mq 9), .ref (mq 10), .ref (mq 11), .ref (mq 12), .ref (mq 13), .ref (mq 14), .ref (mq 15), .ref (mq 16), .ref (mq 17), .ref (mq 18), .ref (mq 19), .ref (mq 20), .ref (mq 21), .ref (mq 22), .int (nI (d + 1))])), ((mq 19), .inl (cI, 8, .inl (fun z9 => nI ((va_up fF d f) z9)))), ((mq 20), .inl (cI, 8, .inl (fun z9 => nI ((va_up fP d 0) z9)))), ((mq 21), .inl (cI, 8, .inl (upd fA d (-1)))), ((mq 16), .inl (cJ, 448, .inr (.inl (lp ce (56 * d) (fun _ => 0) k))))] H → va_D A [(mo, .inr (6, [.ref (mq 0), .ref (mq 1), .ref (mq 2), .ref (mq 3), .int (nI n), .ref (mq 5), .ref (mq 6), .int (nI F), .ref (mq 8), .ref (mq 9), .ref (mq 10), .ref (mq 11), .ref (mq 12), .ref (mq 13), .ref (mq 14), .ref (mq 15), .ref (mq 16), .ref (mq 17), .ref (mq 18), .ref (mq 19), .ref (mq 20), .ref (mq 21), .ref (mq 22), .int (nI (d + 1))])), ((mq 19), .inl (cI, 8, .inl (fun z9 => nI ((va_up fF d f) z9)))), ((mq 20), .inl (cI, 8, .inl (fun z9 => nI ((va_up fP d 0) z9)))), ((mq 21), .inl (cI, 8, .inl (upd fA d (-1)))), ((mq 16), .inl (cJ, 448, .inr (.inl (lp ce (56 * d) (fun _ => 0) k))))] → va_S A s.heap H locs → lv_has ls 3 [(2, .int (nI k)), (0, .ref mo), (1, .int (nI f))] → W p l ev9 (headSpec w_M_enter ({ frames := 0, cells := 0, slots := 0, locals := 0 })).room s m ([.ref mo, .int (nI f)] : List Value).toArray below meth c H locs 0 0 (MQ below (gq_V D A (fun w => w = [(mo, .inr (6, [.ref (mq 0), .ref (mq 1), .ref (mq 2), .ref (mq 3), .int (nI n), .ref (mq 5), .ref (mq 6), .int (nI F), .ref (mq 8), .ref (mq 9), .ref (mq 10), .ref (mq 11), .ref (mq 12), .ref (mq 13), .ref (mq 14), .ref (mq 15), .ref (mq 16), .ref (mq 17), .ref (mq 18), .ref (mq 19), .ref (mq 20), .ref (mq 21), .ref (mq 22), .int (nI (d + 1))])), ((mq 19), .inl (cI, 8, .inl (fun z9 => nI ((va_up fF d f) z9)))), ((mq 20), .inl (cI, 8, .inl (fun z9 => nI ((va_up fP d 0) z9)))), ((mq 21), .inl (cI, 8, .inl (upd fA d (-1)))), ((mq 16), .inl (cJ, 448, .inr (.inl (lp ce (56 * d) (fun _ => 0) 56))))])) ([.ref mo, .int (nI f)] : List Value).toArray s (0) (0) A) (F0 m 48 ls []) := by
    intro n48
    induction n48 with
    | zero =>
      intro k hm48
      exact absurd hm48 (by omega)
    | succ n48 ih48 =>
      intro k hm48 hk hk0 H locs ls hP hD hS hl
      refine lv_iload_n hx hb dM_enter_48 rfl (lv_at hl 0 rfl) ?_
      refine lv_bipush (v := 56) hx hb dM_enter_49 (by decide) ?_
      refine lv_icmp_ge (tgt := 77) hx hb dM_enter_51 (by decide) (fun c51 => ?_) (fun c51 => ?_)
      · have g51 : 56 ≤ k := (gx_le (rfl : (56 : Int32) = nI 56) (rfl : (nI k) = (nI k)) (by decide) (by omega)).mp c51
        exact W.vret hx hb hr (fun t9 ht9 hW => ⟨⟨_, rfl, by rw [show k = 56 by omega], by rw [ht9]; exact hP, hD⟩, hS.F ht9⟩) hS.2.2 dM_enter_77
      · have g51 : ¬ (56 ≤ k) := fun z => c51 ((gx_le (rfl : (56 : Int32) = nI 56) (rfl : (nI k) = (nI k)) (by decide) (by omega)).mpr z)
        refine lv_aload_n hx hb dM_enter_54 rfl (lv_at hl 1 rfl) ?_
        refine va_get (D := D) (ci := 6) (v := .ref (mq 16)) (C := R_M) (T := F_M) (N := 24) hx hb ht i_M hown hK hP 0 rfl rfl 16 (by decide) (ht _ m_470) (fun _ h9 => h9) rfl dM_enter_55 ?_
        refine lv_bipush (v := 56) hx hb dM_enter_58 (by decide) ?_
        refine lv_aload_n hx hb dM_enter_60 rfl (lv_at hl 1 rfl) ?_
        refine va_get (D := D) (ci := 6) (v := .int (nI (d + 1))) (C := R_M) (T := F_M) (N := 24) hx hb ht i_M hown hK hP 0 rfl rfl 23 (by decide) (ht _ m_477) (fun _ h9 => h9) rfl dM_enter_61 ?_
        refine lv_iconst (v := 1) hx hb dM_enter_64 (by decide) ?_
        refine lv_isub hx hb dM_enter_65 ?_
        refine lv_topi (fun v65 e65 => ?_)
        have n65 : v65 = nI ((d + 1) - 1) := by rw [e65]; exact gx_sub (rfl : (nI (d + 1)) = (nI (d + 1))) (rfl : (1 : Int32) = nI 1) (by omega)
        subst n65
        rw [show d + 1 - 1 = d from rfl]
        refine lv_imul hx hb dM_enter_66 ?_
        refine lv_topi (fun v66 e66 => ?_)
        have n66 : v66 = nI (56 * d) := by rw [e66]; exact gx_mul (rfl : (56 : Int32) = nI 56) (rfl : (nI d) = (nI d))
        subst n66
        refine lv_iload_n hx hb dM_enter_67 rfl (lv_at hl 0 rfl) ?_
        refine lv_iadd hx hb dM_enter_68 ?_
        refine lv_topi (fun v68 e68 => ?_)
        have n68 : v68 = nI ((56 * d) + k) := by rw [e68]; exact gx_add (rfl : (nI (56 * d)) = (nI (56 * d))) (rfl : (nI k) = (nI k))
        subst n68
        refine lv_lconst (v := 0) hx hb dM_enter_69 (by decide) ?_
        have i70 : vp_in (nI ((56 * d) + k)) 448 := gx_in (rfl : (nI ((56 * d) + k)) = (nI ((56 * d) + k))) (by omega) (by decide)
        have k70 : ((nI ((56 * d) + k)) : Int32).toNatClampNeg = ((56 * d) + k) := gx_cl (rfl : (nI ((56 * d) + k)) = (nI ((56 * d) + k))) (by omega)
        refine va_last hx hb hK hP hD hS 4 1 rfl rfl i70 dM_enter_70 (fun H locs hP hD hS => ?_)
        rw [k70] at hP hD
        have hP : va_P D vwCl [(mo, .inr (6, [.ref (mq 0), .ref (mq 1), .ref (mq 2), .ref (mq 3), .int (nI n), .ref (mq 5), .ref (mq 6), .int (nI F), .ref (mq 8), .ref (mq 9), .ref (mq 10), .ref (mq 11), .ref (mq 12), .ref (mq 13), .ref (mq 14), .ref (mq 15), .ref (mq 16), .ref (mq 17), .ref (mq 18), .ref (mq 19), .ref (mq 20), .ref (mq 21), .ref (mq 22), .int (nI (d + 1))])), ((mq 19), .inl (cI, 8, .inl (fun z9 => nI ((va_up fF d f) z9)))), ((mq 20), .inl (cI, 8, .inl (fun z9 => nI ((va_up fP d 0) z9)))), ((mq 21), .inl (cI, 8, .inl (upd fA d (-1)))), ((mq 16), .inl (cJ, 448, .inr (.inl (vp_updL (lp ce (56 * d) (fun _ => 0) k) ((56 * d) + k) 0))))] H := hP
        have hD : va_D A [(mo, .inr (6, [.ref (mq 0), .ref (mq 1), .ref (mq 2), .ref (mq 3), .int (nI n), .ref (mq 5), .ref (mq 6), .int (nI F), .ref (mq 8), .ref (mq 9), .ref (mq 10), .ref (mq 11), .ref (mq 12), .ref (mq 13), .ref (mq 14), .ref (mq 15), .ref (mq 16), .ref (mq 17), .ref (mq 18), .ref (mq 19), .ref (mq 20), .ref (mq 21), .ref (mq 22), .int (nI (d + 1))])), ((mq 19), .inl (cI, 8, .inl (fun z9 => nI ((va_up fF d f) z9)))), ((mq 20), .inl (cI, 8, .inl (fun z9 => nI ((va_up fP d 0) z9)))), ((mq 21), .inl (cI, 8, .inl (upd fA d (-1)))), ((mq 16), .inl (cJ, 448, .inr (.inl (vp_updL (lp ce (56 * d) (fun _ => 0) k) ((56 * d) + k) 0))))] := hD
        rw [lp_s (s := (fun _ => 0)) (by rfl)] at hP hD
        have hP : va_P D vwCl [(mo, .inr (6, [.ref (mq 0), .ref (mq 1), .ref (mq 2), .ref (mq 3), .int (nI n), .ref (mq 5), .ref (mq 6), .int (nI F), .ref (mq 8), .ref (mq 9), .ref (mq 10), .ref (mq 11), .ref (mq 12), .ref (mq 13), .ref (mq 14), .ref (mq 15), .ref (mq 16), .ref (mq 17), .ref (mq 18), .ref (mq 19), .ref (mq 20), .ref (mq 21), .ref (mq 22), .int (nI (d + 1))])), ((mq 19), .inl (cI, 8, .inl (fun z9 => nI ((va_up fF d f) z9)))), ((mq 20), .inl (cI, 8, .inl (fun z9 => nI ((va_up fP d 0) z9)))), ((mq 21), .inl (cI, 8, .inl (upd fA d (-1)))), ((mq 16), .inl (cJ, 448, .inr (.inl (lp ce (56 * d) (fun _ => 0) (k + 1)))))] H := hP
        have hD : va_D A [(mo, .inr (6, [.ref (mq 0), .ref (mq 1), .ref (mq 2), .ref (mq 3), .int (nI n), .ref (mq 5), .ref (mq 6), .int (nI F), .ref (mq 8), .ref (mq 9), .ref (mq 10), .ref (mq 11), .ref (mq 12), .ref (mq 13), .ref (mq 14), .ref (mq 15), .ref (mq 16), .ref (mq 17), .ref (mq 18), .ref (mq 19), .ref (mq 20), .ref (mq 21), .ref (mq 22), .int (nI (d + 1))])), ((mq 19), .inl (cI, 8, .inl (fun z9 => nI ((va_up fF d f) z9)))), ((mq 20), .inl (cI, 8, .inl (fun z9 => nI ((va_up fP d 0) z9)))), ((mq 21), .inl (cI, 8, .inl (upd fA d (-1)))), ((mq 16), .inl (cJ, 448, .inr (.inl (lp ce (56 * d) (fun _ => 0) (k + 1)))))] := hD
        refine lv_iinc (v := (nI (k + 1))) (lv' := [(2, .int (nI (k + 1))), (0, .ref mo), (1, .int (nI f))]) hx hb dM_enter_71 hl (k := 0) rfl (gx_inc (rfl : (nI k) = (nI k))) (by decide) rfl (fun ls hl => ?_)
        refine lv_goto (tgt := 48) hx hb dM_enter_74 (by decide) ?_
        exact ih48 (k + 1) (by omega) (by omega) (by omega) _ _ _ hP hD hS (lv_sub hl [0, 1, 2] rfl)
  exact lp48 (56 - (0) + 1) 0 (by omega) (by omega) (by omega) _ _ _ hP hD hS (lv_sub hl [0, 1, 2] rfl)

set_option maxHeartbeats 4000000 in
set_option maxRecDepth 100000 in
theorem c_M_copyC (l : Launch) (D : va_G) (cI cJ cB cZ : ClassId) (mo : Nat) (mq : Nat → Nat) (n F d : Nat) (pt ce : Nat → Int64) (e fr : Nat) (hd : d < 8) (he : e < 80) (hfr : fr + 4 ≤ 448) : ct_V l y_M_copy w_M_copy ({ frames := 1, cells := 0, slots := 0, locals := 21 }) D (gk_T cI cJ cB cZ) [.ref mo, .int (nI e), .int (nI fr), .int 1] [(mo, .inr (6, [.ref (mq 0), .ref (mq 1), .ref (mq 2), .ref (mq 3), .int (nI n), .ref (mq 5), .ref (mq 6), .int (nI F), .ref (mq 8), .ref (mq 9), .ref (mq 10), .ref (mq 11), .ref (mq 12), .ref (mq 13), .ref (mq 14), .ref (mq 15), .ref (mq 16), .ref (mq 17), .ref (mq 18), .ref (mq 19), .ref (mq 20), .ref (mq 21), .ref (mq 22), .int (nI (d + 1))])), ((mq 17), .inl (cJ, 2560, .inr (.inl pt))), ((mq 16), .inl (cJ, 448, .inr (.inl ce)))] (0) (0) (fun w => w = [(mo, .inr (6, [.ref (mq 0), .ref (mq 1), .ref (mq 2), .ref (mq 3), .int (nI n), .ref (mq 5), .ref (mq 6), .int (nI F), .ref (mq 8), .ref (mq 9), .ref (mq 10), .ref (mq 11), .ref (mq 12), .ref (mq 13), .ref (mq 14), .ref (mq 15), .ref (mq 16), .ref (mq 17), .ref (mq 18), .ref (mq 19), .ref (mq 20), .ref (mq 21), .ref (mq 22), .int (nI (d + 1))])), ((mq 17), .inl (cJ, 2560, .inr (.inl (lp pt (320 * d + 4 * e) (fun j => ce (fr + j)) 4)))), ((mq 16), .inl (cJ, 448, .inr (.inl ce)))]) := by
  intro sz
  refine Met.ofW (cc := b_M_copy) (maxL := 5) (ret := none) (by decide) rfl ?_
  intro p ev9 s m args below meth c s₁ B9 hml hv
  obtain ⟨rfl, hsz, hP, hK, hN, hD0⟩ := hv
  have hx := B9.exec
  have hb := B9.bytes
  have hr := B9.returns
  have hts := atoms_spec (ws := w_M_copy) B9.pre
  have ht : ∀ w ∈ gk_big, w.before _ s = true := fun w h => hts w (List.mem_cons_of_mem _ h)
  have hown : s.vm.findClass R_M = some m.cls := findClass_of_methodNamed B9.named
  have hlocks := B9.notSynchronized
  subst hsz
  have hD := hD0.self (sz := s.heap.size)
  generalize hAe : va_A [(mo, .inr (6, [.ref (mq 0), .ref (mq 1), .ref (mq 2), .ref (mq 3), .int (nI n), .ref (mq 5), .ref (mq 6), .int (nI F), .ref (mq 8), .ref (mq 9), .ref (mq 10), .ref (mq 11), .ref (mq 12), .ref (mq 13), .ref (mq 14), .ref (mq 15), .ref (mq 16), .ref (mq 17), .ref (mq 18), .ref (mq 19), .ref (mq 20), .ref (mq 21), .ref (mq 22), .int (nI (d + 1))])), ((mq 17), .inl (cJ, 2560, .inr (.inl pt))), ((mq 16), .inl (cJ, 448, .inr (.inl ce)))] s.heap.size = A at hD ⊢
  have hA : ∀ q : Nat, s.heap.size ≤ q → A q := fun q h => by rw [← hAe]; exact Or.inr h
  generalize hHe : s.heap = H at hP ⊢
  have hS : va_S A s.heap H [] := by rw [← hHe]; exact va_S.rf
  have hP : va_P D vwCl [(mo, .inr (6, [.ref (mq 0), .ref (mq 1), .ref (mq 2), .ref (mq 3), .int (nI n), .ref (mq 5), .ref (mq 6), .int (nI F), .ref (mq 8), .ref (mq 9), .ref (mq 10), .ref (mq 11), .ref (mq 12), .ref (mq 13), .ref (mq 14), .ref (mq 15), .ref (mq 16), .ref (mq 17), .ref (mq 18), .ref (mq 19), .ref (mq 20), .ref (mq 21), .ref (mq 22), .int (nI (d + 1))])), ((mq 17), .inl (cJ, 2560, .inr (.inl pt))), ((mq 16), .inl (cJ, 448, .inr (.inl ce)))] H := hP
  have hD : va_D A [(mo, .inr (6, [.ref (mq 0), .ref (mq 1), .ref (mq 2), .ref (mq 3), .int (nI n), .ref (mq 5), .ref (mq 6), .int (nI F), .ref (mq 8), .ref (mq 9), .ref (mq 10), .ref (mq 11), .ref (mq 12), .ref (mq 13), .ref (mq 14), .ref (mq 15), .ref (mq 16), .ref (mq 17), .ref (mq 18), .ref (mq 19), .ref (mq 20), .ref (mq 21), .ref (mq 22), .int (nI (d + 1))])), ((mq 17), .inl (cJ, 2560, .inr (.inl pt))), ((mq 16), .inl (cJ, 448, .inr (.inl ce)))] := hD
  have hl := lv_entry ([.ref mo, .int (nI e), .int (nI fr), .int 1]) (n := 5) (Nat.le_of_ble_eq_true rfl)
  rw [lg_entry_eq]
  generalize (lg_sl ([.ref mo, .int (nI e), .int (nI fr), .int 1]) ++ List.replicate (5 - (lg_sl ([.ref mo, .int (nI e), .int (nI fr), .int 1])).length) Slot.unset).toArray = ls at hl ⊢
  have hl : lv_has ls 5 [(0, .ref mo), (1, .int (nI e)), (2, .int (nI fr)), (3, .int 1)] := hl
  refine lv_iconst (v := 0) hx hb dM_copy_0 (by decide) ?_
  refine lv_istore (lv' := [(4, .int 0), (0, .ref mo), (1, .int (nI e)), (2, .int (nI fr)), (3, .int 1)]) hx hb dM_copy_1 hl (by decide) rfl (fun ls hl => ?_)
  rw [← lp_0 pt (320 * d + 4 * e) (fun j => ce (fr + j))] at hP hD
  have hP : va_P D vwCl [(mo, .inr (6, [.ref (mq 0), .ref (mq 1), .ref (mq 2), .ref (mq 3), .int (nI n), .ref (mq 5), .ref (mq 6), .int (nI F), .ref (mq 8), .ref (mq 9), .ref (mq 10), .ref (mq 11), .ref (mq 12), .ref (mq 13), .ref (mq 14), .ref (mq 15), .ref (mq 16), .ref (mq 17), .ref (mq 18), .ref (mq 19), .ref (mq 20), .ref (mq 21), .ref (mq 22), .int (nI (d + 1))])), ((mq 17), .inl (cJ, 2560, .inr (.inl (lp pt (320 * d + 4 * e) (fun j => ce (fr + j)) 0)))), ((mq 16), .inl (cJ, 448, .inr (.inl ce)))] H := hP
  have hD : va_D A [(mo, .inr (6, [.ref (mq 0), .ref (mq 1), .ref (mq 2), .ref (mq 3), .int (nI n), .ref (mq 5), .ref (mq 6), .int (nI F), .ref (mq 8), .ref (mq 9), .ref (mq 10), .ref (mq 11), .ref (mq 12), .ref (mq 13), .ref (mq 14), .ref (mq 15), .ref (mq 16), .ref (mq 17), .ref (mq 18), .ref (mq 19), .ref (mq 20), .ref (mq 21), .ref (mq 22), .int (nI (d + 1))])), ((mq 17), .inl (cJ, 2560, .inr (.inl (lp pt (320 * d + 4 * e) (fun j => ce (fr + j)) 0)))), ((mq 16), .inl (cJ, 448, .inr (.inl ce)))] := hD
  have lp3 : ∀ (n3 : Nat) (k : Nat), 4 - k + 1 ≤ n3 → (k ≤ 4) → (0 ≤ k) → ∀ (H : Heap) (locs : List Loc) (ls : Array Slot), va_P D vwCl [(mo, .inr (6, [.ref (mq 0), .ref (mq 1), .ref (mq 2), .ref (mq 3), .int (nI n), .ref (mq 5), .ref (mq 6), .int (nI F), .ref (mq 8), .ref (mq 9), .ref (mq 10), .ref (mq 11), .ref (mq 12), .ref (mq 13), .ref (mq 14), .ref (mq 15), .ref (mq 16), .ref (mq 17), .ref (mq 18), .ref (mq 19), .ref (mq 20), .ref (mq 21), .ref (mq 22), .int (nI (d + 1))])), ((mq 17), .inl (cJ, 2560, .inr (.inl (lp pt (320 * d + 4 * e) (fun j => ce (fr + j)) k)))), ((mq 16), .inl (cJ, 448, .inr (.inl ce)))] H → va_D A [(mo, .inr (6, [.ref (mq 0), .ref (mq 1), .ref (mq 2), .ref (mq 3), .int (nI n), .ref (mq 5), .ref (mq 6), .int (nI F), .ref (mq 8), .ref (mq 9), .ref (mq 10), .ref (mq 11), .ref (mq 12), .ref (mq 13), .ref (mq 14), .ref (mq 15), .ref (mq 16), .ref (mq 17), .ref (mq 18), .ref (mq 19), .ref (mq 20), .ref (mq 21), .ref (mq 22), .int (nI (d + 1))])), ((mq 17), .inl (cJ, 2560, .inr (.inl (lp pt (320 * d + 4 * e) (fun j => ce (fr + j)) k)))), ((mq 16), .inl (cJ, 448, .inr (.inl ce)))] → va_S A s.heap H locs → lv_has ls 5 [(4, .int (nI k)), (0, .ref mo), (1, .int (nI e)), (2, .int (nI fr)), (3, .int 1)] → W p l ev9 (headSpec w_M_copy ({ frames := 1, cells := 0, slots := 0, locals := 21 })).room s m ([.ref mo, .int (nI e), .int (nI fr), .int 1] : List Value).toArray below meth c H locs 0 0 (MQ below (gq_V D A (fun w => w = [(mo, .inr (6, [.ref (mq 0), .ref (mq 1), .ref (mq 2), .ref (mq 3), .int (nI n), .ref (mq 5), .ref (mq 6), .int (nI F), .ref (mq 8), .ref (mq 9), .ref (mq 10), .ref (mq 11), .ref (mq 12), .ref (mq 13), .ref (mq 14), .ref (mq 15), .ref (mq 16), .ref (mq 17), .ref (mq 18), .ref (mq 19), .ref (mq 20), .ref (mq 21), .ref (mq 22), .int (nI (d + 1))])), ((mq 17), .inl (cJ, 2560, .inr (.inl (lp pt (320 * d + 4 * e) (fun j => ce (fr + j)) 4)))), ((mq 16), .inl (cJ, 448, .inr (.inl ce)))])) ([.ref mo, .int (nI e), .int (nI fr), .int 1] : List Value).toArray s (0) (0) A) (F0 m 3 ls []) := by
    intro n3
    induction n3 with
    | zero =>
      intro k hm3
      exact absurd hm3 (by omega)
    | succ n3 ih3 =>
      intro k hm3 hk hk0 H locs ls hP hD hS hl
      refine lv_iload hx hb dM_copy_3 (lv_at hl 0 rfl) ?_
      refine lv_iconst (v := 4) hx hb dM_copy_5 (by decide) ?_
      refine lv_icmp_ge (tgt := 53) hx hb dM_copy_6 (by decide) (fun c6 => ?_) (fun c6 => ?_)
      · have g6 : 4 ≤ k := (gx_le (rfl : (4 : Int32) = nI 4) (rfl : (nI k) = (nI k)) (by decide) (by omega)).mp c6
        exact W.vret hx hb hr (fun t9 ht9 hW => ⟨⟨_, rfl, by rw [show k = 4 by omega], by rw [ht9]; exact hP, hD⟩, hS.F ht9⟩) hS.2.2 dM_copy_53
      · have g6 : ¬ (4 ≤ k) := fun z => c6 ((gx_le (rfl : (4 : Int32) = nI 4) (rfl : (nI k) = (nI k)) (by decide) (by omega)).mpr z)
        refine lv_aload_n hx hb dM_copy_9 rfl (lv_at hl 1 rfl) ?_
        refine va_get (D := D) (ci := 6) (v := .ref (mq 17)) (C := R_M) (T := F_M) (N := 24) hx hb ht i_M hown hK hP 0 rfl rfl 17 (by decide) (ht _ m_471) (fun _ h9 => h9) rfl dM_copy_10 ?_
        refine lv_aload_n hx hb dM_copy_13 rfl (lv_at hl 1 rfl) ?_
        refine lv_iload_n hx hb dM_copy_14 rfl (lv_at hl 2 rfl) ?_
        refine gc_i (va_runV (As := [.int (nI e)]) (rest := [.ref (mq 17)]) ⟨hx, hb, hml, hown, ht⟩ (c_M_base l D cI cJ cB cZ mo mq n F (d + 1) e (by omega) H.size) (cwV 1 ht (gw_V m_637 m_639 ms_35 m_6 m_640) rfl rfl rfl (by decide +kernel) ⟨Nat.le_of_ble_eq_true rfl, Nat.le_of_ble_eq_true rfl⟩) (gp_V (ci := 6) (q0 := 0) hK hN (hP.sub (ws' := [(mo, .inr (6, [.ref (mq 0), .ref (mq 1), .ref (mq 2), .ref (mq 3), .int (nI n), .ref (mq 5), .ref (mq 6), .int (nI F), .ref (mq 8), .ref (mq 9), .ref (mq 10), .ref (mq 11), .ref (mq 12), .ref (mq 13), .ref (mq 14), .ref (mq 15), .ref (mq 16), .ref (mq 17), .ref (mq 18), .ref (mq 19), .ref (mq 20), .ref (mq 21), .ref (mq 22), .int (nI (d + 1))]))]) [0] rfl) (hD.sub (ws' := [(mo, .inr (6, [.ref (mq 0), .ref (mq 1), .ref (mq 2), .ref (mq 3), .int (nI n), .ref (mq 5), .ref (mq 6), .int (nI F), .ref (mq 8), .ref (mq 9), .ref (mq 10), .ref (mq 11), .ref (mq 12), .ref (mq 13), .ref (mq 14), .ref (mq 15), .ref (mq 16), .ref (mq 17), .ref (mq 18), .ref (mq 19), .ref (mq 20), .ref (mq 21), .ref (mq 22), .int (nI (d + 1))]))]) [0] (by decide) rfl) rfl rfl) rfl rfl hl.1 rfl (lv_room (Nat.le_of_ble_eq_true rfl)) dM_copy_15 ⟨Nat.le_of_ble_eq_true rfl, Nat.le_of_ble_eq_true rfl⟩) hP hD hS hA [0] rfl (by decide) (fun r w h => by obtain ⟨_, rfl⟩ := h; rfl) (fun r15 w15 H locs p15 hP hD hS => ?_)
        obtain ⟨h15x, rfl⟩ := p15
        have h15y : r15 = nI (320 * d + 4 * e) := h15x
        subst h15y
        have hP : va_P D vwCl [(mo, .inr (6, [.ref (mq 0), .ref (mq 1), .ref (mq 2), .ref (mq 3), .int (nI n), .ref (mq 5), .ref (mq 6), .int (nI F), .ref (mq 8), .ref (mq 9), .ref (mq 10), .ref (mq 11), .ref (mq 12), .ref (mq 13), .ref (mq 14), .ref (mq 15), .ref (mq 16), .ref (mq 17), .ref (mq 18), .ref (mq 19), .ref (mq 20), .ref (mq 21), .ref (mq 22), .int (nI (d + 1))])), ((mq 17), .inl (cJ, 2560, .inr (.inl (lp pt (320 * d + 4 * e) (fun j => ce (fr + j)) k)))), ((mq 16), .inl (cJ, 448, .inr (.inl ce)))] H := hP
        have hD : va_D A [(mo, .inr (6, [.ref (mq 0), .ref (mq 1), .ref (mq 2), .ref (mq 3), .int (nI n), .ref (mq 5), .ref (mq 6), .int (nI F), .ref (mq 8), .ref (mq 9), .ref (mq 10), .ref (mq 11), .ref (mq 12), .ref (mq 13), .ref (mq 14), .ref (mq 15), .ref (mq 16), .ref (mq 17), .ref (mq 18), .ref (mq 19), .ref (mq 20), .ref (mq 21), .ref (mq 22), .int (nI (d + 1))])), ((mq 17), .inl (cJ, 2560, .inr (.inl (lp pt (320 * d + 4 * e) (fun j => ce (fr + j)) k)))), ((mq 16), .inl (cJ, 448, .inr (.inl ce)))] := hD
        refine lv_iload hx hb dM_copy_18 (lv_at hl 0 rfl) ?_
        refine lv_iadd hx hb dM_copy_20 ?_
        refine lv_topi (fun v20 e20 => ?_)
        have n20 : v20 = nI ((320 * d + 4 * e) + k) := by rw [e20]; exact gx_add (rfl : (nI (320 * d + 4 * e)) = (nI (320 * d + 4 * e))) (rfl : (nI k) = (nI k))
        subst n20
        refine lv_iload_n hx hb dM_copy_21 rfl (lv_at hl 4 rfl) ?_
        refine lv_if_eq (tgt := 37) hx hb dM_copy_22 (by decide) (fun c22 => ?_) (fun c22 => ?_)
        · have g22 : 1 = 0 := (gx_eq (rfl : (1 : Int32) = nI 1) (rfl : (0 : Int32) = nI 0) (by decide) (by decide)).mp c22
          exfalso; omega
        · have g22 : ¬ (1 = 0) := fun z => c22 ((gx_eq (rfl : (1 : Int32) = nI 1) (rfl : (0 : Int32) = nI 0) (by decide) (by decide)).mpr z)
          refine lv_aload_n hx hb dM_copy_25 rfl (lv_at hl 1 rfl) ?_
          refine va_get (D := D) (ci := 6) (v := .ref (mq 16)) (C := R_M) (T := F_M) (N := 24) hx hb ht i_M hown hK hP 0 rfl rfl 16 (by decide) (ht _ m_470) (fun _ h9 => h9) rfl dM_copy_26 ?_
          refine lv_iload_n hx hb dM_copy_29 rfl (lv_at hl 3 rfl) ?_
          refine lv_iload hx hb dM_copy_30 (lv_at hl 0 rfl) ?_
          refine lv_iadd hx hb dM_copy_32 ?_
          refine lv_topi (fun v32 e32 => ?_)
          have n32 : v32 = nI (fr + k) := by rw [e32]; exact gx_add (rfl : (nI fr) = (nI fr)) (rfl : (nI k) = (nI k))
          subst n32
          have i33 : vp_in (nI (fr + k)) 448 := gx_in (rfl : (nI (fr + k)) = (nI (fr + k))) (by omega) (by decide)
          have k33 : ((nI (fr + k)) : Int32).toNatClampNeg = (fr + k) := gx_cl (rfl : (nI (fr + k)) = (nI (fr + k))) (by omega)
          refine va_lald hx hb hK hP 2 1 rfl rfl i33 dM_copy_33 ?_
          rw [k33]
          refine lv_topl (fun v33 e33 => ?_)
          refine lv_goto (tgt := 46) hx hb dM_copy_34 (by decide) ?_
          have i46 : vp_in (nI ((320 * d + 4 * e) + k)) 2560 := gx_in (rfl : (nI ((320 * d + 4 * e) + k)) = (nI ((320 * d + 4 * e) + k))) (by omega) (by decide)
          have k46 : ((nI ((320 * d + 4 * e) + k)) : Int32).toNatClampNeg = ((320 * d + 4 * e) + k) := gx_cl (rfl : (nI ((320 * d + 4 * e) + k)) = (nI ((320 * d + 4 * e) + k))) (by omega)
          refine va_last hx hb hK hP hD hS 1 1 rfl rfl i46 dM_copy_46 (fun H locs hP hD hS => ?_)
          rw [k46] at hP hD
          have hP : va_P D vwCl [(mo, .inr (6, [.ref (mq 0), .ref (mq 1), .ref (mq 2), .ref (mq 3), .int (nI n), .ref (mq 5), .ref (mq 6), .int (nI F), .ref (mq 8), .ref (mq 9), .ref (mq 10), .ref (mq 11), .ref (mq 12), .ref (mq 13), .ref (mq 14), .ref (mq 15), .ref (mq 16), .ref (mq 17), .ref (mq 18), .ref (mq 19), .ref (mq 20), .ref (mq 21), .ref (mq 22), .int (nI (d + 1))])), ((mq 17), .inl (cJ, 2560, .inr (.inl (vp_updL (lp pt (320 * d + 4 * e) (fun j => ce (fr + j)) k) ((320 * d + 4 * e) + k) v33)))), ((mq 16), .inl (cJ, 448, .inr (.inl ce)))] H := hP
          have hD : va_D A [(mo, .inr (6, [.ref (mq 0), .ref (mq 1), .ref (mq 2), .ref (mq 3), .int (nI n), .ref (mq 5), .ref (mq 6), .int (nI F), .ref (mq 8), .ref (mq 9), .ref (mq 10), .ref (mq 11), .ref (mq 12), .ref (mq 13), .ref (mq 14), .ref (mq 15), .ref (mq 16), .ref (mq 17), .ref (mq 18), .ref (mq 19), .ref (mq 20), .ref (mq 21), .ref (mq 22), .int (nI (d + 1))])), ((mq 17), .inl (cJ, 2560, .inr (.inl (vp_updL (lp pt (320 * d + 4 * e) (fun j => ce (fr + j)) k) ((320 * d + 4 * e) + k) v33)))), ((mq 16), .inl (cJ, 448, .inr (.inl ce)))] := hD
          rw [lp_s (s := (fun j => ce (fr + j))) (by exact e33)] at hP hD
          have hP : va_P D vwCl [(mo, .inr (6, [.ref (mq 0), .ref (mq 1), .ref (mq 2), .ref (mq 3), .int (nI n), .ref (mq 5), .ref (mq 6), .int (nI F), .ref (mq 8), .ref (mq 9), .ref (mq 10), .ref (mq 11), .ref (mq 12), .ref (mq 13), .ref (mq 14), .ref (mq 15), .ref (mq 16), .ref (mq 17), .ref (mq 18), .ref (mq 19), .ref (mq 20), .ref (mq 21), .ref (mq 22), .int (nI (d + 1))])), ((mq 17), .inl (cJ, 2560, .inr (.inl (lp pt (320 * d + 4 * e) (fun j => ce (fr + j)) (k + 1))))), ((mq 16), .inl (cJ, 448, .inr (.inl ce)))] H := hP
          have hD : va_D A [(mo, .inr (6, [.ref (mq 0), .ref (mq 1), .ref (mq 2), .ref (mq 3), .int (nI n), .ref (mq 5), .ref (mq 6), .int (nI F), .ref (mq 8), .ref (mq 9), .ref (mq 10), .ref (mq 11), .ref (mq 12), .ref (mq 13), .ref (mq 14), .ref (mq 15), .ref (mq 16), .ref (mq 17), .ref (mq 18), .ref (mq 19), .ref (mq 20), .ref (mq 21), .ref (mq 22), .int (nI (d + 1))])), ((mq 17), .inl (cJ, 2560, .inr (.inl (lp pt (320 * d + 4 * e) (fun j => ce (fr + j)) (k + 1))))), ((mq 16), .inl (cJ, 448, .inr (.inl ce)))] := hD
          refine lv_iinc (v := (nI (k + 1))) (lv' := [(4, .int (nI (k + 1))), (0, .ref mo), (1, .int (nI e)), (2, .int (nI fr)), (3, .int 1)]) hx hb dM_copy_47 hl (k := 0) rfl (gx_inc (rfl : (nI k) = (nI k))) (by decide) rfl (fun ls hl => ?_)
          refine lv_goto (tgt := 3) hx hb dM_copy_50 (by decide) ?_
          exact ih3 (k + 1) (by omega) (by omega) (by omega) _ _ _ hP hD hS (lv_sub hl [0, 1, 2, 3, 4] rfl)
  exact lp3 (4 - (0) + 1) 0 (by omega) (by omega) (by omega) _ _ _ hP hD hS (lv_sub hl [0, 1, 2, 3, 4] rfl)

set_option maxHeartbeats 4000000 in
set_option maxRecDepth 100000 in
theorem c_M_copyP (l : Launch) (D : va_G) (cI cJ cB cZ : ClassId) (mo : Nat) (mq : Nat → Nat) (n F d : Nat) (pt ce : Nat → Int64) (e fr : Nat) (hd : d < 8) (he : e < 80) (hfr : fr + 4 ≤ 320 * d + 4 * e) : ct_V l y_M_copy w_M_copy ({ frames := 1, cells := 0, slots := 0, locals := 21 }) D (gk_T cI cJ cB cZ) [.ref mo, .int (nI e), .int (nI fr), .int 0] [(mo, .inr (6, [.ref (mq 0), .ref (mq 1), .ref (mq 2), .ref (mq 3), .int (nI n), .ref (mq 5), .ref (mq 6), .int (nI F), .ref (mq 8), .ref (mq 9), .ref (mq 10), .ref (mq 11), .ref (mq 12), .ref (mq 13), .ref (mq 14), .ref (mq 15), .ref (mq 16), .ref (mq 17), .ref (mq 18), .ref (mq 19), .ref (mq 20), .ref (mq 21), .ref (mq 22), .int (nI (d + 1))])), ((mq 17), .inl (cJ, 2560, .inr (.inl pt))), ((mq 16), .inl (cJ, 448, .inr (.inl ce)))] (0) (0) (fun w => w = [(mo, .inr (6, [.ref (mq 0), .ref (mq 1), .ref (mq 2), .ref (mq 3), .int (nI n), .ref (mq 5), .ref (mq 6), .int (nI F), .ref (mq 8), .ref (mq 9), .ref (mq 10), .ref (mq 11), .ref (mq 12), .ref (mq 13), .ref (mq 14), .ref (mq 15), .ref (mq 16), .ref (mq 17), .ref (mq 18), .ref (mq 19), .ref (mq 20), .ref (mq 21), .ref (mq 22), .int (nI (d + 1))])), ((mq 17), .inl (cJ, 2560, .inr (.inl (lp pt (320 * d + 4 * e) (fun j => pt (fr + j)) 4)))), ((mq 16), .inl (cJ, 448, .inr (.inl ce)))]) := by
  intro sz
  refine Met.ofW (cc := b_M_copy) (maxL := 5) (ret := none) (by decide) rfl ?_
  intro p ev9 s m args below meth c s₁ B9 hml hv
  obtain ⟨rfl, hsz, hP, hK, hN, hD0⟩ := hv
  have hx := B9.exec
  have hb := B9.bytes
  have hr := B9.returns
  have hts := atoms_spec (ws := w_M_copy) B9.pre
  have ht : ∀ w ∈ gk_big, w.before _ s = true := fun w h => hts w (List.mem_cons_of_mem _ h)
  have hown : s.vm.findClass R_M = some m.cls := findClass_of_methodNamed B9.named
  have hlocks := B9.notSynchronized
  subst hsz
  have hD := hD0.self (sz := s.heap.size)
  generalize hAe : va_A [(mo, .inr (6, [.ref (mq 0), .ref (mq 1), .ref (mq 2), .ref (mq 3), .int (nI n), .ref (mq 5), .ref (mq 6), .int (nI F), .ref (mq 8), .ref (mq 9), .ref (mq 10), .ref (mq 11), .ref (mq 12), .ref (mq 13), .ref (mq 14), .ref (mq 15), .ref (mq 16), .ref (mq 17), .ref (mq 18), .ref (mq 19), .ref (mq 20), .ref (mq 21), .ref (mq 22), .int (nI (d + 1))])), ((mq 17), .inl (cJ, 2560, .inr (.inl pt))), ((mq 16), .inl (cJ, 448, .inr (.inl ce)))] s.heap.size = A at hD ⊢
  have hA : ∀ q : Nat, s.heap.size ≤ q → A q := fun q h => by rw [← hAe]; exact Or.inr h
  generalize hHe : s.heap = H at hP ⊢
  have hS : va_S A s.heap H [] := by rw [← hHe]; exact va_S.rf
  have hP : va_P D vwCl [(mo, .inr (6, [.ref (mq 0), .ref (mq 1), .ref (mq 2), .ref (mq 3), .int (nI n), .ref (mq 5), .ref (mq 6), .int (nI F), .ref (mq 8), .ref (mq 9), .ref (mq 10), .ref (mq 11), .ref (mq 12), .ref (mq 13), .ref (mq 14), .ref (mq 15), .ref (mq 16), .ref (mq 17), .ref (mq 18), .ref (mq 19), .ref (mq 20), .ref (mq 21), .ref (mq 22), .int (nI (d + 1))])), ((mq 17), .inl (cJ, 2560, .inr (.inl pt))), ((mq 16), .inl (cJ, 448, .inr (.inl ce)))] H := hP
  have hD : va_D A [(mo, .inr (6, [.ref (mq 0), .ref (mq 1), .ref (mq 2), .ref (mq 3), .int (nI n), .ref (mq 5), .ref (mq 6), .int (nI F), .ref (mq 8), .ref (mq 9), .ref (mq 10), .ref (mq 11), .ref (mq 12), .ref (mq 13), .ref (mq 14), .ref (mq 15), .ref (mq 16), .ref (mq 17), .ref (mq 18), .ref (mq 19), .ref (mq 20), .ref (mq 21), .ref (mq 22), .int (nI (d + 1))])), ((mq 17), .inl (cJ, 2560, .inr (.inl pt))), ((mq 16), .inl (cJ, 448, .inr (.inl ce)))] := hD
  have hl := lv_entry ([.ref mo, .int (nI e), .int (nI fr), .int 0]) (n := 5) (Nat.le_of_ble_eq_true rfl)
  rw [lg_entry_eq]
  generalize (lg_sl ([.ref mo, .int (nI e), .int (nI fr), .int 0]) ++ List.replicate (5 - (lg_sl ([.ref mo, .int (nI e), .int (nI fr), .int 0])).length) Slot.unset).toArray = ls at hl ⊢
  have hl : lv_has ls 5 [(0, .ref mo), (1, .int (nI e)), (2, .int (nI fr)), (3, .int 0)] := hl
  refine lv_iconst (v := 0) hx hb dM_copy_0 (by decide) ?_
  refine lv_istore (lv' := [(4, .int 0), (0, .ref mo), (1, .int (nI e)), (2, .int (nI fr)), (3, .int 0)]) hx hb dM_copy_1 hl (by decide) rfl (fun ls hl => ?_)
  rw [← lp_0 pt (320 * d + 4 * e) (fun j => pt (fr + j))] at hP hD
  have hP : va_P D vwCl [(mo, .inr (6, [.ref (mq 0), .ref (mq 1), .ref (mq 2), .ref (mq 3), .int (nI n), .ref (mq 5), .ref (mq 6), .int (nI F), .ref (mq 8), .ref (mq 9), .ref (mq 10), .ref (mq 11), .ref (mq 12), .ref (mq 13), .ref (mq 14), .ref (mq 15), .ref (mq 16), .ref (mq 17), .ref (mq 18), .ref (mq 19), .ref (mq 20), .ref (mq 21), .ref (mq 22), .int (nI (d + 1))])), ((mq 17), .inl (cJ, 2560, .inr (.inl (lp pt (320 * d + 4 * e) (fun j => pt (fr + j)) 0)))), ((mq 16), .inl (cJ, 448, .inr (.inl ce)))] H := hP
  have hD : va_D A [(mo, .inr (6, [.ref (mq 0), .ref (mq 1), .ref (mq 2), .ref (mq 3), .int (nI n), .ref (mq 5), .ref (mq 6), .int (nI F), .ref (mq 8), .ref (mq 9), .ref (mq 10), .ref (mq 11), .ref (mq 12), .ref (mq 13), .ref (mq 14), .ref (mq 15), .ref (mq 16), .ref (mq 17), .ref (mq 18), .ref (mq 19), .ref (mq 20), .ref (mq 21), .ref (mq 22), .int (nI (d + 1))])), ((mq 17), .inl (cJ, 2560, .inr (.inl (lp pt (320 * d + 4 * e) (fun j => pt (fr + j)) 0)))), ((mq 16), .inl (cJ, 448, .inr (.inl ce)))] := hD
  have lp3 : ∀ (n3 : Nat) (k : Nat), 4 - k + 1 ≤ n3 → (k ≤ 4) → (0 ≤ k) → ∀ (H : Heap) (locs : List Loc) (ls : Array Slot), va_P D vwCl [(mo, .inr (6, [.ref (mq 0), .ref (mq 1), .ref (mq 2), .ref (mq 3), .int (nI n), .ref (mq 5), .ref (mq 6), .int (nI F), .ref (mq 8), .ref (mq 9), .ref (mq 10), .ref (mq 11), .ref (mq 12), .ref (mq 13), .ref (mq 14), .ref (mq 15), .ref (mq 16), .ref (mq 17), .ref (mq 18), .ref (mq 19), .ref (mq 20), .ref (mq 21), .ref (mq 22), .int (nI (d + 1))])), ((mq 17), .inl (cJ, 2560, .inr (.inl (lp pt (320 * d + 4 * e) (fun j => pt (fr + j)) k)))), ((mq 16), .inl (cJ, 448, .inr (.inl ce)))] H → va_D A [(mo, .inr (6, [.ref (mq 0), .ref (mq 1), .ref (mq 2), .ref (mq 3), .int (nI n), .ref (mq 5), .ref (mq 6), .int (nI F), .ref (mq 8), .ref (mq 9), .ref (mq 10), .ref (mq 11), .ref (mq 12), .ref (mq 13), .ref (mq 14), .ref (mq 15), .ref (mq 16), .ref (mq 17), .ref (mq 18), .ref (mq 19), .ref (mq 20), .ref (mq 21), .ref (mq 22), .int (nI (d + 1))])), ((mq 17), .inl (cJ, 2560, .inr (.inl (lp pt (320 * d + 4 * e) (fun j => pt (fr + j)) k)))), ((mq 16), .inl (cJ, 448, .inr (.inl ce)))] → va_S A s.heap H locs → lv_has ls 5 [(4, .int (nI k)), (0, .ref mo), (1, .int (nI e)), (2, .int (nI fr)), (3, .int 0)] → W p l ev9 (headSpec w_M_copy ({ frames := 1, cells := 0, slots := 0, locals := 21 })).room s m ([.ref mo, .int (nI e), .int (nI fr), .int 0] : List Value).toArray below meth c H locs 0 0 (MQ below (gq_V D A (fun w => w = [(mo, .inr (6, [.ref (mq 0), .ref (mq 1), .ref (mq 2), .ref (mq 3), .int (nI n), .ref (mq 5), .ref (mq 6), .int (nI F), .ref (mq 8), .ref (mq 9), .ref (mq 10), .ref (mq 11), .ref (mq 12), .ref (mq 13), .ref (mq 14), .ref (mq 15), .ref (mq 16), .ref (mq 17), .ref (mq 18), .ref (mq 19), .ref (mq 20), .ref (mq 21), .ref (mq 22), .int (nI (d + 1))])), ((mq 17), .inl (cJ, 2560, .inr (.inl (lp pt (320 * d + 4 * e) (fun j => pt (fr + j)) 4)))), ((mq 16), .inl (cJ, 448, .inr (.inl ce)))])) ([.ref mo, .int (nI e), .int (nI fr), .int 0] : List Value).toArray s (0) (0) A) (F0 m 3 ls []) := by
    intro n3
    induction n3 with
    | zero =>
      intro k hm3
      exact absurd hm3 (by omega)
    | succ n3 ih3 =>
      intro k hm3 hk hk0 H locs ls hP hD hS hl
      refine lv_iload hx hb dM_copy_3 (lv_at hl 0 rfl) ?_
      refine lv_iconst (v := 4) hx hb dM_copy_5 (by decide) ?_
      refine lv_icmp_ge (tgt := 53) hx hb dM_copy_6 (by decide) (fun c6 => ?_) (fun c6 => ?_)
      · have g6 : 4 ≤ k := (gx_le (rfl : (4 : Int32) = nI 4) (rfl : (nI k) = (nI k)) (by decide) (by omega)).mp c6
        exact W.vret hx hb hr (fun t9 ht9 hW => ⟨⟨_, rfl, by rw [show k = 4 by omega], by rw [ht9]; exact hP, hD⟩, hS.F ht9⟩) hS.2.2 dM_copy_53
      · have g6 : ¬ (4 ≤ k) := fun z => c6 ((gx_le (rfl : (4 : Int32) = nI 4) (rfl : (nI k) = (nI k)) (by decide) (by omega)).mpr z)
        refine lv_aload_n hx hb dM_copy_9 rfl (lv_at hl 1 rfl) ?_
        refine va_get (D := D) (ci := 6) (v := .ref (mq 17)) (C := R_M) (T := F_M) (N := 24) hx hb ht i_M hown hK hP 0 rfl rfl 17 (by decide) (ht _ m_471) (fun _ h9 => h9) rfl dM_copy_10 ?_
        refine lv_aload_n hx hb dM_copy_13 rfl (lv_at hl 1 rfl) ?_
        refine lv_iload_n hx hb dM_copy_14 rfl (lv_at hl 2 rfl) ?_
        refine gc_i (va_runV (As := [.int (nI e)]) (rest := [.ref (mq 17)]) ⟨hx, hb, hml, hown, ht⟩ (c_M_base l D cI cJ cB cZ mo mq n F (d + 1) e (by omega) H.size) (cwV 1 ht (gw_V m_637 m_639 ms_35 m_6 m_640) rfl rfl rfl (by decide +kernel) ⟨Nat.le_of_ble_eq_true rfl, Nat.le_of_ble_eq_true rfl⟩) (gp_V (ci := 6) (q0 := 0) hK hN (hP.sub (ws' := [(mo, .inr (6, [.ref (mq 0), .ref (mq 1), .ref (mq 2), .ref (mq 3), .int (nI n), .ref (mq 5), .ref (mq 6), .int (nI F), .ref (mq 8), .ref (mq 9), .ref (mq 10), .ref (mq 11), .ref (mq 12), .ref (mq 13), .ref (mq 14), .ref (mq 15), .ref (mq 16), .ref (mq 17), .ref (mq 18), .ref (mq 19), .ref (mq 20), .ref (mq 21), .ref (mq 22), .int (nI (d + 1))]))]) [0] rfl) (hD.sub (ws' := [(mo, .inr (6, [.ref (mq 0), .ref (mq 1), .ref (mq 2), .ref (mq 3), .int (nI n), .ref (mq 5), .ref (mq 6), .int (nI F), .ref (mq 8), .ref (mq 9), .ref (mq 10), .ref (mq 11), .ref (mq 12), .ref (mq 13), .ref (mq 14), .ref (mq 15), .ref (mq 16), .ref (mq 17), .ref (mq 18), .ref (mq 19), .ref (mq 20), .ref (mq 21), .ref (mq 22), .int (nI (d + 1))]))]) [0] (by decide) rfl) rfl rfl) rfl rfl hl.1 rfl (lv_room (Nat.le_of_ble_eq_true rfl)) dM_copy_15 ⟨Nat.le_of_ble_eq_true rfl, Nat.le_of_ble_eq_true rfl⟩) hP hD hS hA [0] rfl (by decide) (fun r w h => by obtain ⟨_, rfl⟩ := h; rfl) (fun r15 w15 H locs p15 hP hD hS => ?_)
        obtain ⟨h15x, rfl⟩ := p15
        have h15y : r15 = nI (320 * d + 4 * e) := h15x
        subst h15y
        have hP : va_P D vwCl [(mo, .inr (6, [.ref (mq 0), .ref (mq 1), .ref (mq 2), .ref (mq 3), .int (nI n), .ref (mq 5), .ref (mq 6), .int (nI F), .ref (mq 8), .ref (mq 9), .ref (mq 10), .ref (mq 11), .ref (mq 12), .ref (mq 13), .ref (mq 14), .ref (mq 15), .ref (mq 16), .ref (mq 17), .ref (mq 18), .ref (mq 19), .ref (mq 20), .ref (mq 21), .ref (mq 22), .int (nI (d + 1))])), ((mq 17), .inl (cJ, 2560, .inr (.inl (lp pt (320 * d + 4 * e) (fun j => pt (fr + j)) k)))), ((mq 16), .inl (cJ, 448, .inr (.inl ce)))] H := hP
        have hD : va_D A [(mo, .inr (6, [.ref (mq 0), .ref (mq 1), .ref (mq 2), .ref (mq 3), .int (nI n), .ref (mq 5), .ref (mq 6), .int (nI F), .ref (mq 8), .ref (mq 9), .ref (mq 10), .ref (mq 11), .ref (mq 12), .ref (mq 13), .ref (mq 14), .ref (mq 15), .ref (mq 16), .ref (mq 17), .ref (mq 18), .ref (mq 19), .ref (mq 20), .ref (mq 21), .ref (mq 22), .int (nI (d + 1))])), ((mq 17), .inl (cJ, 2560, .inr (.inl (lp pt (320 * d + 4 * e) (fun j => pt (fr + j)) k)))), ((mq 16), .inl (cJ, 448, .inr (.inl ce)))] := hD
        refine lv_iload hx hb dM_copy_18 (lv_at hl 0 rfl) ?_
        refine lv_iadd hx hb dM_copy_20 ?_
        refine lv_topi (fun v20 e20 => ?_)
        have n20 : v20 = nI ((320 * d + 4 * e) + k) := by rw [e20]; exact gx_add (rfl : (nI (320 * d + 4 * e)) = (nI (320 * d + 4 * e))) (rfl : (nI k) = (nI k))
        subst n20
        refine lv_iload_n hx hb dM_copy_21 rfl (lv_at hl 4 rfl) ?_
        refine lv_if_eq (tgt := 37) hx hb dM_copy_22 (by decide) (fun c22 => ?_) (fun c22 => ?_)
        · have g22 : 0 = 0 := (gx_eq (rfl : (0 : Int32) = nI 0) (rfl : (0 : Int32) = nI 0) (by decide) (by decide)).mp c22
          refine lv_aload_n hx hb dM_copy_37 rfl (lv_at hl 1 rfl) ?_
          refine va_get (D := D) (ci := 6) (v := .ref (mq 17)) (C := R_M) (T := F_M) (N := 24) hx hb ht i_M hown hK hP 0 rfl rfl 17 (by decide) (ht _ m_471) (fun _ h9 => h9) rfl dM_copy_38 ?_
          refine lv_iload_n hx hb dM_copy_41 rfl (lv_at hl 3 rfl) ?_
          refine lv_iload hx hb dM_copy_42 (lv_at hl 0 rfl) ?_
          refine lv_iadd hx hb dM_copy_44 ?_
          refine lv_topi (fun v44 e44 => ?_)
          have n44 : v44 = nI (fr + k) := by rw [e44]; exact gx_add (rfl : (nI fr) = (nI fr)) (rfl : (nI k) = (nI k))
          subst n44
          have i45 : vp_in (nI (fr + k)) 2560 := gx_in (rfl : (nI (fr + k)) = (nI (fr + k))) (by omega) (by decide)
          have k45 : ((nI (fr + k)) : Int32).toNatClampNeg = (fr + k) := gx_cl (rfl : (nI (fr + k)) = (nI (fr + k))) (by omega)
          refine va_lald hx hb hK hP 1 1 rfl rfl i45 dM_copy_45 ?_
          rw [k45]
          refine lv_topl (fun v45 e45 => ?_)
          have i46 : vp_in (nI ((320 * d + 4 * e) + k)) 2560 := gx_in (rfl : (nI ((320 * d + 4 * e) + k)) = (nI ((320 * d + 4 * e) + k))) (by omega) (by decide)
          have k46 : ((nI ((320 * d + 4 * e) + k)) : Int32).toNatClampNeg = ((320 * d + 4 * e) + k) := gx_cl (rfl : (nI ((320 * d + 4 * e) + k)) = (nI ((320 * d + 4 * e) + k))) (by omega)
          refine va_last hx hb hK hP hD hS 1 1 rfl rfl i46 dM_copy_46 (fun H locs hP hD hS => ?_)
          rw [k46] at hP hD
          have hP : va_P D vwCl [(mo, .inr (6, [.ref (mq 0), .ref (mq 1), .ref (mq 2), .ref (mq 3), .int (nI n), .ref (mq 5), .ref (mq 6), .int (nI F), .ref (mq 8), .ref (mq 9), .ref (mq 10), .ref (mq 11), .ref (mq 12), .ref (mq 13), .ref (mq 14), .ref (mq 15), .ref (mq 16), .ref (mq 17), .ref (mq 18), .ref (mq 19), .ref (mq 20), .ref (mq 21), .ref (mq 22), .int (nI (d + 1))])), ((mq 17), .inl (cJ, 2560, .inr (.inl (vp_updL (lp pt (320 * d + 4 * e) (fun j => pt (fr + j)) k) ((320 * d + 4 * e) + k) v45)))), ((mq 16), .inl (cJ, 448, .inr (.inl ce)))] H := hP
          have hD : va_D A [(mo, .inr (6, [.ref (mq 0), .ref (mq 1), .ref (mq 2), .ref (mq 3), .int (nI n), .ref (mq 5), .ref (mq 6), .int (nI F), .ref (mq 8), .ref (mq 9), .ref (mq 10), .ref (mq 11), .ref (mq 12), .ref (mq 13), .ref (mq 14), .ref (mq 15), .ref (mq 16), .ref (mq 17), .ref (mq 18), .ref (mq 19), .ref (mq 20), .ref (mq 21), .ref (mq 22), .int (nI (d + 1))])), ((mq 17), .inl (cJ, 2560, .inr (.inl (vp_updL (lp pt (320 * d + 4 * e) (fun j => pt (fr + j)) k) ((320 * d + 4 * e) + k) v45)))), ((mq 16), .inl (cJ, 448, .inr (.inl ce)))] := hD
          rw [lp_s (s := (fun j => pt (fr + j))) (by rw [e45]; exact lp_o (by omega))] at hP hD
          have hP : va_P D vwCl [(mo, .inr (6, [.ref (mq 0), .ref (mq 1), .ref (mq 2), .ref (mq 3), .int (nI n), .ref (mq 5), .ref (mq 6), .int (nI F), .ref (mq 8), .ref (mq 9), .ref (mq 10), .ref (mq 11), .ref (mq 12), .ref (mq 13), .ref (mq 14), .ref (mq 15), .ref (mq 16), .ref (mq 17), .ref (mq 18), .ref (mq 19), .ref (mq 20), .ref (mq 21), .ref (mq 22), .int (nI (d + 1))])), ((mq 17), .inl (cJ, 2560, .inr (.inl (lp pt (320 * d + 4 * e) (fun j => pt (fr + j)) (k + 1))))), ((mq 16), .inl (cJ, 448, .inr (.inl ce)))] H := hP
          have hD : va_D A [(mo, .inr (6, [.ref (mq 0), .ref (mq 1), .ref (mq 2), .ref (mq 3), .int (nI n), .ref (mq 5), .ref (mq 6), .int (nI F), .ref (mq 8), .ref (mq 9), .ref (mq 10), .ref (mq 11), .ref (mq 12), .ref (mq 13), .ref (mq 14), .ref (mq 15), .ref (mq 16), .ref (mq 17), .ref (mq 18), .ref (mq 19), .ref (mq 20), .ref (mq 21), .ref (mq 22), .int (nI (d + 1))])), ((mq 17), .inl (cJ, 2560, .inr (.inl (lp pt (320 * d + 4 * e) (fun j => pt (fr + j)) (k + 1))))), ((mq 16), .inl (cJ, 448, .inr (.inl ce)))] := hD
          refine lv_iinc (v := (nI (k + 1))) (lv' := [(4, .int (nI (k + 1))), (0, .ref mo), (1, .int (nI e)), (2, .int (nI fr)), (3, .int 0)]) hx hb dM_copy_47 hl (k := 0) rfl (gx_inc (rfl : (nI k) = (nI k))) (by decide) rfl (fun ls hl => ?_)
          refine lv_goto (tgt := 3) hx hb dM_copy_50 (by decide) ?_
          exact ih3 (k + 1) (by omega) (by omega) (by omega) _ _ _ hP hD hS (lv_sub hl [0, 1, 2, 3, 4] rfl)
        · have g22 : ¬ (0 = 0) := fun z => c22 ((gx_eq (rfl : (0 : Int32) = nI 0) (rfl : (0 : Int32) = nI 0) (by decide) (by decide)).mpr z)
          exact absurd rfl g22
  exact lp3 (4 - (0) + 1) 0 (by omega) (by omega) (by omega) _ _ _ hP hD hS (lv_sub hl [0, 1, 2, 3, 4] rfl)

set_option maxHeartbeats 4000000 in
set_option maxRecDepth 100000 in
theorem c_M_scale (l : Launch) (D : va_G) (cI cJ cB cZ : ClassId) (mo : Nat) (mq : Nat → Nat) (n F d : Nat) (pt : Nat → Int64) (e fr : Nat) (y : Int64) (hd : d < 8) (he : e < 80) (hfr : fr + 4 ≤ 320 * d + 4 * e) : ct_V l y_M_scale w_M_scale ({ frames := 1, cells := 0, slots := 0, locals := 21 }) D (gk_T cI cJ cB cZ) [.ref mo, .int (nI e), .int (nI fr), .long y] [(mo, .inr (6, [.ref (mq 0), .ref (mq 1), .ref (mq 2), .ref (mq 3), .int (nI n), .ref (mq 5), .ref (mq 6), .int (nI F), .ref (mq 8), .ref (mq 9), .ref (mq 10), .ref (mq 11), .ref (mq 12), .ref (mq 13), .ref (mq 14), .ref (mq 15), .ref (mq 16), .ref (mq 17), .ref (mq 18), .ref (mq 19), .ref (mq 20), .ref (mq 21), .ref (mq 22), .int (nI (d + 1))])), ((mq 17), .inl (cJ, 2560, .inr (.inl pt)))] (0) (0) (fun w => w = [(mo, .inr (6, [.ref (mq 0), .ref (mq 1), .ref (mq 2), .ref (mq 3), .int (nI n), .ref (mq 5), .ref (mq 6), .int (nI F), .ref (mq 8), .ref (mq 9), .ref (mq 10), .ref (mq 11), .ref (mq 12), .ref (mq 13), .ref (mq 14), .ref (mq 15), .ref (mq 16), .ref (mq 17), .ref (mq 18), .ref (mq 19), .ref (mq 20), .ref (mq 21), .ref (mq 22), .int (nI (d + 1))])), ((mq 17), .inl (cJ, 2560, .inr (.inl (lp pt (320 * d + 4 * e) (fun j => pt (fr + j) * y) 4))))]) := by
  intro sz
  refine Met.ofW (cc := b_M_scale) (maxL := 6) (ret := none) (by decide) rfl ?_
  intro p ev9 s m args below meth c s₁ B9 hml hv
  obtain ⟨rfl, hsz, hP, hK, hN, hD0⟩ := hv
  have hx := B9.exec
  have hb := B9.bytes
  have hr := B9.returns
  have hts := atoms_spec (ws := w_M_scale) B9.pre
  have ht : ∀ w ∈ gk_big, w.before _ s = true := fun w h => hts w (List.mem_cons_of_mem _ h)
  have hown : s.vm.findClass R_M = some m.cls := findClass_of_methodNamed B9.named
  have hlocks := B9.notSynchronized
  subst hsz
  have hD := hD0.self (sz := s.heap.size)
  generalize hAe : va_A [(mo, .inr (6, [.ref (mq 0), .ref (mq 1), .ref (mq 2), .ref (mq 3), .int (nI n), .ref (mq 5), .ref (mq 6), .int (nI F), .ref (mq 8), .ref (mq 9), .ref (mq 10), .ref (mq 11), .ref (mq 12), .ref (mq 13), .ref (mq 14), .ref (mq 15), .ref (mq 16), .ref (mq 17), .ref (mq 18), .ref (mq 19), .ref (mq 20), .ref (mq 21), .ref (mq 22), .int (nI (d + 1))])), ((mq 17), .inl (cJ, 2560, .inr (.inl pt)))] s.heap.size = A at hD ⊢
  have hA : ∀ q : Nat, s.heap.size ≤ q → A q := fun q h => by rw [← hAe]; exact Or.inr h
  generalize hHe : s.heap = H at hP ⊢
  have hS : va_S A s.heap H [] := by rw [← hHe]; exact va_S.rf
  have hP : va_P D vwCl [(mo, .inr (6, [.ref (mq 0), .ref (mq 1), .ref (mq 2), .ref (mq 3), .int (nI n), .ref (mq 5), .ref (mq 6), .int (nI F), .ref (mq 8), .ref (mq 9), .ref (mq 10), .ref (mq 11), .ref (mq 12), .ref (mq 13), .ref (mq 14), .ref (mq 15), .ref (mq 16), .ref (mq 17), .ref (mq 18), .ref (mq 19), .ref (mq 20), .ref (mq 21), .ref (mq 22), .int (nI (d + 1))])), ((mq 17), .inl (cJ, 2560, .inr (.inl pt)))] H := hP
  have hD : va_D A [(mo, .inr (6, [.ref (mq 0), .ref (mq 1), .ref (mq 2), .ref (mq 3), .int (nI n), .ref (mq 5), .ref (mq 6), .int (nI F), .ref (mq 8), .ref (mq 9), .ref (mq 10), .ref (mq 11), .ref (mq 12), .ref (mq 13), .ref (mq 14), .ref (mq 15), .ref (mq 16), .ref (mq 17), .ref (mq 18), .ref (mq 19), .ref (mq 20), .ref (mq 21), .ref (mq 22), .int (nI (d + 1))])), ((mq 17), .inl (cJ, 2560, .inr (.inl pt)))] := hD
  have hl := lv_entry ([.ref mo, .int (nI e), .int (nI fr), .long y]) (n := 6) (Nat.le_of_ble_eq_true rfl)
  rw [lg_entry_eq]
  generalize (lg_sl ([.ref mo, .int (nI e), .int (nI fr), .long y]) ++ List.replicate (6 - (lg_sl ([.ref mo, .int (nI e), .int (nI fr), .long y])).length) Slot.unset).toArray = ls at hl ⊢
  have hl : lv_has ls 6 [(0, .ref mo), (1, .int (nI e)), (2, .int (nI fr)), (3, .long y)] := hl
  refine lv_iconst (v := 0) hx hb dM_scale_0 (by decide) ?_
  refine lv_istore (lv' := [(5, .int 0), (0, .ref mo), (1, .int (nI e)), (2, .int (nI fr)), (3, .long y)]) hx hb dM_scale_1 hl (by decide) rfl (fun ls hl => ?_)
  rw [← lp_0 pt (320 * d + 4 * e) (fun j => pt (fr + j) * y)] at hP hD
  have hP : va_P D vwCl [(mo, .inr (6, [.ref (mq 0), .ref (mq 1), .ref (mq 2), .ref (mq 3), .int (nI n), .ref (mq 5), .ref (mq 6), .int (nI F), .ref (mq 8), .ref (mq 9), .ref (mq 10), .ref (mq 11), .ref (mq 12), .ref (mq 13), .ref (mq 14), .ref (mq 15), .ref (mq 16), .ref (mq 17), .ref (mq 18), .ref (mq 19), .ref (mq 20), .ref (mq 21), .ref (mq 22), .int (nI (d + 1))])), ((mq 17), .inl (cJ, 2560, .inr (.inl (lp pt (320 * d + 4 * e) (fun j => pt (fr + j) * y) 0))))] H := hP
  have hD : va_D A [(mo, .inr (6, [.ref (mq 0), .ref (mq 1), .ref (mq 2), .ref (mq 3), .int (nI n), .ref (mq 5), .ref (mq 6), .int (nI F), .ref (mq 8), .ref (mq 9), .ref (mq 10), .ref (mq 11), .ref (mq 12), .ref (mq 13), .ref (mq 14), .ref (mq 15), .ref (mq 16), .ref (mq 17), .ref (mq 18), .ref (mq 19), .ref (mq 20), .ref (mq 21), .ref (mq 22), .int (nI (d + 1))])), ((mq 17), .inl (cJ, 2560, .inr (.inl (lp pt (320 * d + 4 * e) (fun j => pt (fr + j) * y) 0))))] := hD
  have lp3 : ∀ (n3 : Nat) (k : Nat), 4 - k + 1 ≤ n3 → (k ≤ 4) → (0 ≤ k) → ∀ (H : Heap) (locs : List Loc) (ls : Array Slot), va_P D vwCl [(mo, .inr (6, [.ref (mq 0), .ref (mq 1), .ref (mq 2), .ref (mq 3), .int (nI n), .ref (mq 5), .ref (mq 6), .int (nI F), .ref (mq 8), .ref (mq 9), .ref (mq 10), .ref (mq 11), .ref (mq 12), .ref (mq 13), .ref (mq 14), .ref (mq 15), .ref (mq 16), .ref (mq 17), .ref (mq 18), .ref (mq 19), .ref (mq 20), .ref (mq 21), .ref (mq 22), .int (nI (d + 1))])), ((mq 17), .inl (cJ, 2560, .inr (.inl (lp pt (320 * d + 4 * e) (fun j => pt (fr + j) * y) k))))] H → va_D A [(mo, .inr (6, [.ref (mq 0), .ref (mq 1), .ref (mq 2), .ref (mq 3), .int (nI n), .ref (mq 5), .ref (mq 6), .int (nI F), .ref (mq 8), .ref (mq 9), .ref (mq 10), .ref (mq 11), .ref (mq 12), .ref (mq 13), .ref (mq 14), .ref (mq 15), .ref (mq 16), .ref (mq 17), .ref (mq 18), .ref (mq 19), .ref (mq 20), .ref (mq 21), .ref (mq 22), .int (nI (d + 1))])), ((mq 17), .inl (cJ, 2560, .inr (.inl (lp pt (320 * d + 4 * e) (fun j => pt (fr + j) * y) k))))] → va_S A s.heap H locs → lv_has ls 6 [(5, .int (nI k)), (0, .ref mo), (1, .int (nI e)), (2, .int (nI fr)), (3, .long y)] → W p l ev9 (headSpec w_M_scale ({ frames := 1, cells := 0, slots := 0, locals := 21 })).room s m ([.ref mo, .int (nI e), .int (nI fr), .long y] : List Value).toArray below meth c H locs 0 0 (MQ below (gq_V D A (fun w => w = [(mo, .inr (6, [.ref (mq 0), .ref (mq 1), .ref (mq 2), .ref (mq 3), .int (nI n), .ref (mq 5), .ref (mq 6), .int (nI F), .ref (mq 8), .ref (mq 9), .ref (mq 10), .ref (mq 11), .ref (mq 12), .ref (mq 13), .ref (mq 14), .ref (mq 15), .ref (mq 16), .ref (mq 17), .ref (mq 18), .ref (mq 19), .ref (mq 20), .ref (mq 21), .ref (mq 22), .int (nI (d + 1))])), ((mq 17), .inl (cJ, 2560, .inr (.inl (lp pt (320 * d + 4 * e) (fun j => pt (fr + j) * y) 4))))])) ([.ref mo, .int (nI e), .int (nI fr), .long y] : List Value).toArray s (0) (0) A) (F0 m 3 ls []) := by
    intro n3
    induction n3 with
    | zero =>
      intro k hm3
      exact absurd hm3 (by omega)
    | succ n3 ih3 =>
      intro k hm3 hk hk0 H locs ls hP hD hS hl
      refine lv_iload hx hb dM_scale_3 (lv_at hl 0 rfl) ?_
      refine lv_iconst (v := 4) hx hb dM_scale_5 (by decide) ?_
      refine lv_icmp_ge (tgt := 39) hx hb dM_scale_6 (by decide) (fun c6 => ?_) (fun c6 => ?_)
      · have g6 : 4 ≤ k := (gx_le (rfl : (4 : Int32) = nI 4) (rfl : (nI k) = (nI k)) (by decide) (by omega)).mp c6
        exact W.vret hx hb hr (fun t9 ht9 hW => ⟨⟨_, rfl, by rw [show k = 4 by omega], by rw [ht9]; exact hP, hD⟩, hS.F ht9⟩) hS.2.2 dM_scale_39
      · have g6 : ¬ (4 ≤ k) := fun z => c6 ((gx_le (rfl : (4 : Int32) = nI 4) (rfl : (nI k) = (nI k)) (by decide) (by omega)).mpr z)
        refine lv_aload_n hx hb dM_scale_9 rfl (lv_at hl 1 rfl) ?_
        refine va_get (D := D) (ci := 6) (v := .ref (mq 17)) (C := R_M) (T := F_M) (N := 24) hx hb ht i_M hown hK hP 0 rfl rfl 17 (by decide) (ht _ m_471) (fun _ h9 => h9) rfl dM_scale_10 ?_
        refine lv_aload_n hx hb dM_scale_13 rfl (lv_at hl 1 rfl) ?_
        refine lv_iload_n hx hb dM_scale_14 rfl (lv_at hl 2 rfl) ?_
        refine gc_i (va_runV (As := [.int (nI e)]) (rest := [.ref (mq 17)]) ⟨hx, hb, hml, hown, ht⟩ (c_M_base l D cI cJ cB cZ mo mq n F (d + 1) e (by omega) H.size) (cwV 1 ht (gw_V m_637 m_639 ms_35 m_6 m_640) rfl rfl rfl (by decide +kernel) ⟨Nat.le_of_ble_eq_true rfl, Nat.le_of_ble_eq_true rfl⟩) (gp_V (ci := 6) (q0 := 0) hK hN (hP.sub (ws' := [(mo, .inr (6, [.ref (mq 0), .ref (mq 1), .ref (mq 2), .ref (mq 3), .int (nI n), .ref (mq 5), .ref (mq 6), .int (nI F), .ref (mq 8), .ref (mq 9), .ref (mq 10), .ref (mq 11), .ref (mq 12), .ref (mq 13), .ref (mq 14), .ref (mq 15), .ref (mq 16), .ref (mq 17), .ref (mq 18), .ref (mq 19), .ref (mq 20), .ref (mq 21), .ref (mq 22), .int (nI (d + 1))]))]) [0] rfl) (hD.sub (ws' := [(mo, .inr (6, [.ref (mq 0), .ref (mq 1), .ref (mq 2), .ref (mq 3), .int (nI n), .ref (mq 5), .ref (mq 6), .int (nI F), .ref (mq 8), .ref (mq 9), .ref (mq 10), .ref (mq 11), .ref (mq 12), .ref (mq 13), .ref (mq 14), .ref (mq 15), .ref (mq 16), .ref (mq 17), .ref (mq 18), .ref (mq 19), .ref (mq 20), .ref (mq 21), .ref (mq 22), .int (nI (d + 1))]))]) [0] (by decide) rfl) rfl rfl) rfl rfl hl.1 rfl (lv_room (Nat.le_of_ble_eq_true rfl)) dM_scale_15 ⟨Nat.le_of_ble_eq_true rfl, Nat.le_of_ble_eq_true rfl⟩) hP hD hS hA [0] rfl (by decide) (fun r w h => by obtain ⟨_, rfl⟩ := h; rfl) (fun r15 w15 H locs p15 hP hD hS => ?_)
        obtain ⟨h15x, rfl⟩ := p15
        have h15y : r15 = nI (320 * d + 4 * e) := h15x
        subst h15y
        have hP : va_P D vwCl [(mo, .inr (6, [.ref (mq 0), .ref (mq 1), .ref (mq 2), .ref (mq 3), .int (nI n), .ref (mq 5), .ref (mq 6), .int (nI F), .ref (mq 8), .ref (mq 9), .ref (mq 10), .ref (mq 11), .ref (mq 12), .ref (mq 13), .ref (mq 14), .ref (mq 15), .ref (mq 16), .ref (mq 17), .ref (mq 18), .ref (mq 19), .ref (mq 20), .ref (mq 21), .ref (mq 22), .int (nI (d + 1))])), ((mq 17), .inl (cJ, 2560, .inr (.inl (lp pt (320 * d + 4 * e) (fun j => pt (fr + j) * y) k))))] H := hP
        have hD : va_D A [(mo, .inr (6, [.ref (mq 0), .ref (mq 1), .ref (mq 2), .ref (mq 3), .int (nI n), .ref (mq 5), .ref (mq 6), .int (nI F), .ref (mq 8), .ref (mq 9), .ref (mq 10), .ref (mq 11), .ref (mq 12), .ref (mq 13), .ref (mq 14), .ref (mq 15), .ref (mq 16), .ref (mq 17), .ref (mq 18), .ref (mq 19), .ref (mq 20), .ref (mq 21), .ref (mq 22), .int (nI (d + 1))])), ((mq 17), .inl (cJ, 2560, .inr (.inl (lp pt (320 * d + 4 * e) (fun j => pt (fr + j) * y) k))))] := hD
        refine lv_iload hx hb dM_scale_18 (lv_at hl 0 rfl) ?_
        refine lv_iadd hx hb dM_scale_20 ?_
        refine lv_topi (fun v20 e20 => ?_)
        have n20 : v20 = nI ((320 * d + 4 * e) + k) := by rw [e20]; exact gx_add (rfl : (nI (320 * d + 4 * e)) = (nI (320 * d + 4 * e))) (rfl : (nI k) = (nI k))
        subst n20
        refine lv_aload_n hx hb dM_scale_21 rfl (lv_at hl 1 rfl) ?_
        refine va_get (D := D) (ci := 6) (v := .ref (mq 17)) (C := R_M) (T := F_M) (N := 24) hx hb ht i_M hown hK hP 0 rfl rfl 17 (by decide) (ht _ m_471) (fun _ h9 => h9) rfl dM_scale_22 ?_
        refine lv_iload_n hx hb dM_scale_25 rfl (lv_at hl 3 rfl) ?_
        refine lv_iload hx hb dM_scale_26 (lv_at hl 0 rfl) ?_
        refine lv_iadd hx hb dM_scale_28 ?_
        refine lv_topi (fun v28 e28 => ?_)
        have n28 : v28 = nI (fr + k) := by rw [e28]; exact gx_add (rfl : (nI fr) = (nI fr)) (rfl : (nI k) = (nI k))
        subst n28
        have i29 : vp_in (nI (fr + k)) 2560 := gx_in (rfl : (nI (fr + k)) = (nI (fr + k))) (by omega) (by decide)
        have k29 : ((nI (fr + k)) : Int32).toNatClampNeg = (fr + k) := gx_cl (rfl : (nI (fr + k)) = (nI (fr + k))) (by omega)
        refine va_lald hx hb hK hP 1 1 rfl rfl i29 dM_scale_29 ?_
        rw [k29]
        refine lv_topl (fun v29 e29 => ?_)
        refine lv_lload_n hx hb dM_scale_30 rfl (lv_at hl 4 rfl) ?_
        refine lv_lmul hx hb dM_scale_31 ?_
        refine lv_topl (fun v31 e31 => ?_)
        have i32 : vp_in (nI ((320 * d + 4 * e) + k)) 2560 := gx_in (rfl : (nI ((320 * d + 4 * e) + k)) = (nI ((320 * d + 4 * e) + k))) (by omega) (by decide)
        have k32 : ((nI ((320 * d + 4 * e) + k)) : Int32).toNatClampNeg = ((320 * d + 4 * e) + k) := gx_cl (rfl : (nI ((320 * d + 4 * e) + k)) = (nI ((320 * d + 4 * e) + k))) (by omega)
        refine va_last hx hb hK hP hD hS 1 1 rfl rfl i32 dM_scale_32 (fun H locs hP hD hS => ?_)
        rw [k32] at hP hD
        have hP : va_P D vwCl [(mo, .inr (6, [.ref (mq 0), .ref (mq 1), .ref (mq 2), .ref (mq 3), .int (nI n), .ref (mq 5), .ref (mq 6), .int (nI F), .ref (mq 8), .ref (mq 9), .ref (mq 10), .ref (mq 11), .ref (mq 12), .ref (mq 13), .ref (mq 14), .ref (mq 15), .ref (mq 16), .ref (mq 17), .ref (mq 18), .ref (mq 19), .ref (mq 20), .ref (mq 21), .ref (mq 22), .int (nI (d + 1))])), ((mq 17), .inl (cJ, 2560, .inr (.inl (vp_updL (lp pt (320 * d + 4 * e) (fun j => pt (fr + j) * y) k) ((320 * d + 4 * e) + k) v31))))] H := hP
        have hD : va_D A [(mo, .inr (6, [.ref (mq 0), .ref (mq 1), .ref (mq 2), .ref (mq 3), .int (nI n), .ref (mq 5), .ref (mq 6), .int (nI F), .ref (mq 8), .ref (mq 9), .ref (mq 10), .ref (mq 11), .ref (mq 12), .ref (mq 13), .ref (mq 14), .ref (mq 15), .ref (mq 16), .ref (mq 17), .ref (mq 18), .ref (mq 19), .ref (mq 20), .ref (mq 21), .ref (mq 22), .int (nI (d + 1))])), ((mq 17), .inl (cJ, 2560, .inr (.inl (vp_updL (lp pt (320 * d + 4 * e) (fun j => pt (fr + j) * y) k) ((320 * d + 4 * e) + k) v31))))] := hD
        rw [lp_s (s := (fun j => pt (fr + j) * y)) (by rw [e31, e29, lp_o (by omega)])] at hP hD
        have hP : va_P D vwCl [(mo, .inr (6, [.ref (mq 0), .ref (mq 1), .ref (mq 2), .ref (mq 3), .int (nI n), .ref (mq 5), .ref (mq 6), .int (nI F), .ref (mq 8), .ref (mq 9), .ref (mq 10), .ref (mq 11), .ref (mq 12), .ref (mq 13), .ref (mq 14), .ref (mq 15), .ref (mq 16), .ref (mq 17), .ref (mq 18), .ref (mq 19), .ref (mq 20), .ref (mq 21), .ref (mq 22), .int (nI (d + 1))])), ((mq 17), .inl (cJ, 2560, .inr (.inl (lp pt (320 * d + 4 * e) (fun j => pt (fr + j) * y) (k + 1)))))] H := hP
        have hD : va_D A [(mo, .inr (6, [.ref (mq 0), .ref (mq 1), .ref (mq 2), .ref (mq 3), .int (nI n), .ref (mq 5), .ref (mq 6), .int (nI F), .ref (mq 8), .ref (mq 9), .ref (mq 10), .ref (mq 11), .ref (mq 12), .ref (mq 13), .ref (mq 14), .ref (mq 15), .ref (mq 16), .ref (mq 17), .ref (mq 18), .ref (mq 19), .ref (mq 20), .ref (mq 21), .ref (mq 22), .int (nI (d + 1))])), ((mq 17), .inl (cJ, 2560, .inr (.inl (lp pt (320 * d + 4 * e) (fun j => pt (fr + j) * y) (k + 1)))))] := hD
        refine lv_iinc (v := (nI (k + 1))) (lv' := [(5, .int (nI (k + 1))), (0, .ref mo), (1, .int (nI e)), (2, .int (nI fr)), (3, .long y)]) hx hb dM_scale_33 hl (k := 0) rfl (gx_inc (rfl : (nI k) = (nI k))) (by decide) rfl (fun ls hl => ?_)
        refine lv_goto (tgt := 3) hx hb dM_scale_36 (by decide) ?_
        exact ih3 (k + 1) (by omega) (by omega) (by omega) _ _ _ hP hD hS (lv_sub hl [0, 1, 2, 3, 4] rfl)
  exact lp3 (4 - (0) + 1) 0 (by omega) (by omega) (by omega) _ _ _ hP hD hS (lv_sub hl [0, 1, 2, 3, 4] rfl)

set_option maxHeartbeats 4000000 in
set_option maxRecDepth 100000 in
theorem c_M_combine (l : Launch) (D : va_G) (cI cJ cB cZ : ClassId) (mo : Nat) (mq : Nat → Nat) (n F d : Nat) (pt : Nat → Int64) (e a b : Nat) (y : Int64) (hd : d < 8) (he : e < 80) (hfa : a + 4 ≤ 320 * d + 4 * e) (hfb : b + 4 ≤ 320 * d + 4 * e) : ct_V l y_M_combine w_M_combine ({ frames := 1, cells := 0, slots := 0, locals := 21 }) D (gk_T cI cJ cB cZ) [.ref mo, .int (nI e), .int (nI a), .int (nI b), .long y] [(mo, .inr (6, [.ref (mq 0), .ref (mq 1), .ref (mq 2), .ref (mq 3), .int (nI n), .ref (mq 5), .ref (mq 6), .int (nI F), .ref (mq 8), .ref (mq 9), .ref (mq 10), .ref (mq 11), .ref (mq 12), .ref (mq 13), .ref (mq 14), .ref (mq 15), .ref (mq 16), .ref (mq 17), .ref (mq 18), .ref (mq 19), .ref (mq 20), .ref (mq 21), .ref (mq 22), .int (nI (d + 1))])), ((mq 17), .inl (cJ, 2560, .inr (.inl pt)))] (0) (0) (fun w => w = [(mo, .inr (6, [.ref (mq 0), .ref (mq 1), .ref (mq 2), .ref (mq 3), .int (nI n), .ref (mq 5), .ref (mq 6), .int (nI F), .ref (mq 8), .ref (mq 9), .ref (mq 10), .ref (mq 11), .ref (mq 12), .ref (mq 13), .ref (mq 14), .ref (mq 15), .ref (mq 16), .ref (mq 17), .ref (mq 18), .ref (mq 19), .ref (mq 20), .ref (mq 21), .ref (mq 22), .int (nI (d + 1))])), ((mq 17), .inl (cJ, 2560, .inr (.inl (lp pt (320 * d + 4 * e) (fun j => pt (a + j) + y * pt (b + j)) 4))))]) := by
  intro sz
  refine Met.ofW (cc := b_M_combine) (maxL := 7) (ret := none) (by decide) rfl ?_
  intro p ev9 s m args below meth c s₁ B9 hml hv
  obtain ⟨rfl, hsz, hP, hK, hN, hD0⟩ := hv
  have hx := B9.exec
  have hb := B9.bytes
  have hr := B9.returns
  have hts := atoms_spec (ws := w_M_combine) B9.pre
  have ht : ∀ w ∈ gk_big, w.before _ s = true := fun w h => hts w (List.mem_cons_of_mem _ h)
  have hown : s.vm.findClass R_M = some m.cls := findClass_of_methodNamed B9.named
  have hlocks := B9.notSynchronized
  subst hsz
  have hD := hD0.self (sz := s.heap.size)
  generalize hAe : va_A [(mo, .inr (6, [.ref (mq 0), .ref (mq 1), .ref (mq 2), .ref (mq 3), .int (nI n), .ref (mq 5), .ref (mq 6), .int (nI F), .ref (mq 8), .ref (mq 9), .ref (mq 10), .ref (mq 11), .ref (mq 12), .ref (mq 13), .ref (mq 14), .ref (mq 15), .ref (mq 16), .ref (mq 17), .ref (mq 18), .ref (mq 19), .ref (mq 20), .ref (mq 21), .ref (mq 22), .int (nI (d + 1))])), ((mq 17), .inl (cJ, 2560, .inr (.inl pt)))] s.heap.size = A at hD ⊢
  have hA : ∀ q : Nat, s.heap.size ≤ q → A q := fun q h => by rw [← hAe]; exact Or.inr h
  generalize hHe : s.heap = H at hP ⊢
  have hS : va_S A s.heap H [] := by rw [← hHe]; exact va_S.rf
  have hP : va_P D vwCl [(mo, .inr (6, [.ref (mq 0), .ref (mq 1), .ref (mq 2), .ref (mq 3), .int (nI n), .ref (mq 5), .ref (mq 6), .int (nI F), .ref (mq 8), .ref (mq 9), .ref (mq 10), .ref (mq 11), .ref (mq 12), .ref (mq 13), .ref (mq 14), .ref (mq 15), .ref (mq 16), .ref (mq 17), .ref (mq 18), .ref (mq 19), .ref (mq 20), .ref (mq 21), .ref (mq 22), .int (nI (d + 1))])), ((mq 17), .inl (cJ, 2560, .inr (.inl pt)))] H := hP
  have hD : va_D A [(mo, .inr (6, [.ref (mq 0), .ref (mq 1), .ref (mq 2), .ref (mq 3), .int (nI n), .ref (mq 5), .ref (mq 6), .int (nI F), .ref (mq 8), .ref (mq 9), .ref (mq 10), .ref (mq 11), .ref (mq 12), .ref (mq 13), .ref (mq 14), .ref (mq 15), .ref (mq 16), .ref (mq 17), .ref (mq 18), .ref (mq 19), .ref (mq 20), .ref (mq 21), .ref (mq 22), .int (nI (d + 1))])), ((mq 17), .inl (cJ, 2560, .inr (.inl pt)))] := hD
  have hl := lv_entry ([.ref mo, .int (nI e), .int (nI a), .int (nI b), .long y]) (n := 7) (Nat.le_of_ble_eq_true rfl)
  rw [lg_entry_eq]
  generalize (lg_sl ([.ref mo, .int (nI e), .int (nI a), .int (nI b), .long y]) ++ List.replicate (7 - (lg_sl ([.ref mo, .int (nI e), .int (nI a), .int (nI b), .long y])).length) Slot.unset).toArray = ls at hl ⊢
  have hl : lv_has ls 7 [(0, .ref mo), (1, .int (nI e)), (2, .int (nI a)), (3, .int (nI b)), (4, .long y)] := hl
  refine lv_iconst (v := 0) hx hb dM_combine_0 (by decide) ?_
  refine lv_istore (lv' := [(6, .int 0), (0, .ref mo), (1, .int (nI e)), (2, .int (nI a)), (3, .int (nI b)), (4, .long y)]) hx hb dM_combine_1 hl (by decide) rfl (fun ls hl => ?_)
  rw [← lp_0 pt (320 * d + 4 * e) (fun j => pt (a + j) + y * pt (b + j))] at hP hD
  have hP : va_P D vwCl [(mo, .inr (6, [.ref (mq 0), .ref (mq 1), .ref (mq 2), .ref (mq 3), .int (nI n), .ref (mq 5), .ref (mq 6), .int (nI F), .ref (mq 8), .ref (mq 9), .ref (mq 10), .ref (mq 11), .ref (mq 12), .ref (mq 13), .ref (mq 14), .ref (mq 15), .ref (mq 16), .ref (mq 17), .ref (mq 18), .ref (mq 19), .ref (mq 20), .ref (mq 21), .ref (mq 22), .int (nI (d + 1))])), ((mq 17), .inl (cJ, 2560, .inr (.inl (lp pt (320 * d + 4 * e) (fun j => pt (a + j) + y * pt (b + j)) 0))))] H := hP
  have hD : va_D A [(mo, .inr (6, [.ref (mq 0), .ref (mq 1), .ref (mq 2), .ref (mq 3), .int (nI n), .ref (mq 5), .ref (mq 6), .int (nI F), .ref (mq 8), .ref (mq 9), .ref (mq 10), .ref (mq 11), .ref (mq 12), .ref (mq 13), .ref (mq 14), .ref (mq 15), .ref (mq 16), .ref (mq 17), .ref (mq 18), .ref (mq 19), .ref (mq 20), .ref (mq 21), .ref (mq 22), .int (nI (d + 1))])), ((mq 17), .inl (cJ, 2560, .inr (.inl (lp pt (320 * d + 4 * e) (fun j => pt (a + j) + y * pt (b + j)) 0))))] := hD
  have lp3 : ∀ (n3 : Nat) (k : Nat), 4 - k + 1 ≤ n3 → (k ≤ 4) → (0 ≤ k) → ∀ (H : Heap) (locs : List Loc) (ls : Array Slot), va_P D vwCl [(mo, .inr (6, [.ref (mq 0), .ref (mq 1), .ref (mq 2), .ref (mq 3), .int (nI n), .ref (mq 5), .ref (mq 6), .int (nI F), .ref (mq 8), .ref (mq 9), .ref (mq 10), .ref (mq 11), .ref (mq 12), .ref (mq 13), .ref (mq 14), .ref (mq 15), .ref (mq 16), .ref (mq 17), .ref (mq 18), .ref (mq 19), .ref (mq 20), .ref (mq 21), .ref (mq 22), .int (nI (d + 1))])), ((mq 17), .inl (cJ, 2560, .inr (.inl (lp pt (320 * d + 4 * e) (fun j => pt (a + j) + y * pt (b + j)) k))))] H → va_D A [(mo, .inr (6, [.ref (mq 0), .ref (mq 1), .ref (mq 2), .ref (mq 3), .int (nI n), .ref (mq 5), .ref (mq 6), .int (nI F), .ref (mq 8), .ref (mq 9), .ref (mq 10), .ref (mq 11), .ref (mq 12), .ref (mq 13), .ref (mq 14), .ref (mq 15), .ref (mq 16), .ref (mq 17), .ref (mq 18), .ref (mq 19), .ref (mq 20), .ref (mq 21), .ref (mq 22), .int (nI (d + 1))])), ((mq 17), .inl (cJ, 2560, .inr (.inl (lp pt (320 * d + 4 * e) (fun j => pt (a + j) + y * pt (b + j)) k))))] → va_S A s.heap H locs → lv_has ls 7 [(6, .int (nI k)), (0, .ref mo), (1, .int (nI e)), (2, .int (nI a)), (3, .int (nI b)), (4, .long y)] → W p l ev9 (headSpec w_M_combine ({ frames := 1, cells := 0, slots := 0, locals := 21 })).room s m ([.ref mo, .int (nI e), .int (nI a), .int (nI b), .long y] : List Value).toArray below meth c H locs 0 0 (MQ below (gq_V D A (fun w => w = [(mo, .inr (6, [.ref (mq 0), .ref (mq 1), .ref (mq 2), .ref (mq 3), .int (nI n), .ref (mq 5), .ref (mq 6), .int (nI F), .ref (mq 8), .ref (mq 9), .ref (mq 10), .ref (mq 11), .ref (mq 12), .ref (mq 13), .ref (mq 14), .ref (mq 15), .ref (mq 16), .ref (mq 17), .ref (mq 18), .ref (mq 19), .ref (mq 20), .ref (mq 21), .ref (mq 22), .int (nI (d + 1))])), ((mq 17), .inl (cJ, 2560, .inr (.inl (lp pt (320 * d + 4 * e) (fun j => pt (a + j) + y * pt (b + j)) 4))))])) ([.ref mo, .int (nI e), .int (nI a), .int (nI b), .long y] : List Value).toArray s (0) (0) A) (F0 m 3 ls []) := by
    intro n3
    induction n3 with
    | zero =>
      intro k hm3
      exact absurd hm3 (by omega)
    | succ n3 ih3 =>
      intro k hm3 hk hk0 H locs ls hP hD hS hl
      refine lv_iload hx hb dM_combine_3 (lv_at hl 0 rfl) ?_
      refine lv_iconst (v := 4) hx hb dM_combine_5 (by decide) ?_
      refine lv_icmp_ge (tgt := 50) hx hb dM_combine_6 (by decide) (fun c6 => ?_) (fun c6 => ?_)
      · have g6 : 4 ≤ k := (gx_le (rfl : (4 : Int32) = nI 4) (rfl : (nI k) = (nI k)) (by decide) (by omega)).mp c6
        exact W.vret hx hb hr (fun t9 ht9 hW => ⟨⟨_, rfl, by rw [show k = 4 by omega], by rw [ht9]; exact hP, hD⟩, hS.F ht9⟩) hS.2.2 dM_combine_50
      · have g6 : ¬ (4 ≤ k) := fun z => c6 ((gx_le (rfl : (4 : Int32) = nI 4) (rfl : (nI k) = (nI k)) (by decide) (by omega)).mpr z)
        refine lv_aload_n hx hb dM_combine_9 rfl (lv_at hl 1 rfl) ?_
        refine va_get (D := D) (ci := 6) (v := .ref (mq 17)) (C := R_M) (T := F_M) (N := 24) hx hb ht i_M hown hK hP 0 rfl rfl 17 (by decide) (ht _ m_471) (fun _ h9 => h9) rfl dM_combine_10 ?_
        refine lv_aload_n hx hb dM_combine_13 rfl (lv_at hl 1 rfl) ?_
        refine lv_iload_n hx hb dM_combine_14 rfl (lv_at hl 2 rfl) ?_
        refine gc_i (va_runV (As := [.int (nI e)]) (rest := [.ref (mq 17)]) ⟨hx, hb, hml, hown, ht⟩ (c_M_base l D cI cJ cB cZ mo mq n F (d + 1) e (by omega) H.size) (cwV 1 ht (gw_V m_637 m_639 ms_35 m_6 m_640) rfl rfl rfl (by decide +kernel) ⟨Nat.le_of_ble_eq_true rfl, Nat.le_of_ble_eq_true rfl⟩) (gp_V (ci := 6) (q0 := 0) hK hN (hP.sub (ws' := [(mo, .inr (6, [.ref (mq 0), .ref (mq 1), .ref (mq 2), .ref (mq 3), .int (nI n), .ref (mq 5), .ref (mq 6), .int (nI F), .ref (mq 8), .ref (mq 9), .ref (mq 10), .ref (mq 11), .ref (mq 12), .ref (mq 13), .ref (mq 14), .ref (mq 15), .ref (mq 16), .ref (mq 17), .ref (mq 18), .ref (mq 19), .ref (mq 20), .ref (mq 21), .ref (mq 22), .int (nI (d + 1))]))]) [0] rfl) (hD.sub (ws' := [(mo, .inr (6, [.ref (mq 0), .ref (mq 1), .ref (mq 2), .ref (mq 3), .int (nI n), .ref (mq 5), .ref (mq 6), .int (nI F), .ref (mq 8), .ref (mq 9), .ref (mq 10), .ref (mq 11), .ref (mq 12), .ref (mq 13), .ref (mq 14), .ref (mq 15), .ref (mq 16), .ref (mq 17), .ref (mq 18), .ref (mq 19), .ref (mq 20), .ref (mq 21), .ref (mq 22), .int (nI (d + 1))]))]) [0] (by decide) rfl) rfl rfl) rfl rfl hl.1 rfl (lv_room (Nat.le_of_ble_eq_true rfl)) dM_combine_15 ⟨Nat.le_of_ble_eq_true rfl, Nat.le_of_ble_eq_true rfl⟩) hP hD hS hA [0] rfl (by decide) (fun r w h => by obtain ⟨_, rfl⟩ := h; rfl) (fun r15 w15 H locs p15 hP hD hS => ?_)
        obtain ⟨h15x, rfl⟩ := p15
        have h15y : r15 = nI (320 * d + 4 * e) := h15x
        subst h15y
        have hP : va_P D vwCl [(mo, .inr (6, [.ref (mq 0), .ref (mq 1), .ref (mq 2), .ref (mq 3), .int (nI n), .ref (mq 5), .ref (mq 6), .int (nI F), .ref (mq 8), .ref (mq 9), .ref (mq 10), .ref (mq 11), .ref (mq 12), .ref (mq 13), .ref (mq 14), .ref (mq 15), .ref (mq 16), .ref (mq 17), .ref (mq 18), .ref (mq 19), .ref (mq 20), .ref (mq 21), .ref (mq 22), .int (nI (d + 1))])), ((mq 17), .inl (cJ, 2560, .inr (.inl (lp pt (320 * d + 4 * e) (fun j => pt (a + j) + y * pt (b + j)) k))))] H := hP
        have hD : va_D A [(mo, .inr (6, [.ref (mq 0), .ref (mq 1), .ref (mq 2), .ref (mq 3), .int (nI n), .ref (mq 5), .ref (mq 6), .int (nI F), .ref (mq 8), .ref (mq 9), .ref (mq 10), .ref (mq 11), .ref (mq 12), .ref (mq 13), .ref (mq 14), .ref (mq 15), .ref (mq 16), .ref (mq 17), .ref (mq 18), .ref (mq 19), .ref (mq 20), .ref (mq 21), .ref (mq 22), .int (nI (d + 1))])), ((mq 17), .inl (cJ, 2560, .inr (.inl (lp pt (320 * d + 4 * e) (fun j => pt (a + j) + y * pt (b + j)) k))))] := hD
        refine lv_iload hx hb dM_combine_18 (lv_at hl 0 rfl) ?_
        refine lv_iadd hx hb dM_combine_20 ?_
        refine lv_topi (fun v20 e20 => ?_)
        have n20 : v20 = nI ((320 * d + 4 * e) + k) := by rw [e20]; exact gx_add (rfl : (nI (320 * d + 4 * e)) = (nI (320 * d + 4 * e))) (rfl : (nI k) = (nI k))
        subst n20
        refine lv_aload_n hx hb dM_combine_21 rfl (lv_at hl 1 rfl) ?_
        refine va_get (D := D) (ci := 6) (v := .ref (mq 17)) (C := R_M) (T := F_M) (N := 24) hx hb ht i_M hown hK hP 0 rfl rfl 17 (by decide) (ht _ m_471) (fun _ h9 => h9) rfl dM_combine_22 ?_
        refine lv_iload_n hx hb dM_combine_25 rfl (lv_at hl 3 rfl) ?_
        refine lv_iload hx hb dM_combine_26 (lv_at hl 0 rfl) ?_
        refine lv_iadd hx hb dM_combine_28 ?_
        refine lv_topi (fun v28 e28 => ?_)
        have n28 : v28 = nI (a + k) := by rw [e28]; exact gx_add (rfl : (nI a) = (nI a)) (rfl : (nI k) = (nI k))
        subst n28
        have i29 : vp_in (nI (a + k)) 2560 := gx_in (rfl : (nI (a + k)) = (nI (a + k))) (by omega) (by decide)
        have k29 : ((nI (a + k)) : Int32).toNatClampNeg = (a + k) := gx_cl (rfl : (nI (a + k)) = (nI (a + k))) (by omega)
        refine va_lald hx hb hK hP 1 1 rfl rfl i29 dM_combine_29 ?_
        rw [k29]
        refine lv_topl (fun v29 e29 => ?_)
        refine lv_lload hx hb dM_combine_30 (lv_at hl 5 rfl) ?_
        refine lv_aload_n hx hb dM_combine_32 rfl (lv_at hl 1 rfl) ?_
        refine va_get (D := D) (ci := 6) (v := .ref (mq 17)) (C := R_M) (T := F_M) (N := 24) hx hb ht i_M hown hK hP 0 rfl rfl 17 (by decide) (ht _ m_471) (fun _ h9 => h9) rfl dM_combine_33 ?_
        refine lv_iload_n hx hb dM_combine_36 rfl (lv_at hl 4 rfl) ?_
        refine lv_iload hx hb dM_combine_37 (lv_at hl 0 rfl) ?_
        refine lv_iadd hx hb dM_combine_39 ?_
        refine lv_topi (fun v39 e39 => ?_)
        have n39 : v39 = nI (b + k) := by rw [e39]; exact gx_add (rfl : (nI b) = (nI b)) (rfl : (nI k) = (nI k))
        subst n39
        have i40 : vp_in (nI (b + k)) 2560 := gx_in (rfl : (nI (b + k)) = (nI (b + k))) (by omega) (by decide)
        have k40 : ((nI (b + k)) : Int32).toNatClampNeg = (b + k) := gx_cl (rfl : (nI (b + k)) = (nI (b + k))) (by omega)
        refine va_lald hx hb hK hP 1 1 rfl rfl i40 dM_combine_40 ?_
        rw [k40]
        refine lv_topl (fun v40 e40 => ?_)
        refine lv_lmul hx hb dM_combine_41 ?_
        refine lv_topl (fun v41 e41 => ?_)
        refine lv_ladd hx hb dM_combine_42 ?_
        refine lv_topl (fun v42 e42 => ?_)
        have i43 : vp_in (nI ((320 * d + 4 * e) + k)) 2560 := gx_in (rfl : (nI ((320 * d + 4 * e) + k)) = (nI ((320 * d + 4 * e) + k))) (by omega) (by decide)
        have k43 : ((nI ((320 * d + 4 * e) + k)) : Int32).toNatClampNeg = ((320 * d + 4 * e) + k) := gx_cl (rfl : (nI ((320 * d + 4 * e) + k)) = (nI ((320 * d + 4 * e) + k))) (by omega)
        refine va_last hx hb hK hP hD hS 1 1 rfl rfl i43 dM_combine_43 (fun H locs hP hD hS => ?_)
        rw [k43] at hP hD
        have hP : va_P D vwCl [(mo, .inr (6, [.ref (mq 0), .ref (mq 1), .ref (mq 2), .ref (mq 3), .int (nI n), .ref (mq 5), .ref (mq 6), .int (nI F), .ref (mq 8), .ref (mq 9), .ref (mq 10), .ref (mq 11), .ref (mq 12), .ref (mq 13), .ref (mq 14), .ref (mq 15), .ref (mq 16), .ref (mq 17), .ref (mq 18), .ref (mq 19), .ref (mq 20), .ref (mq 21), .ref (mq 22), .int (nI (d + 1))])), ((mq 17), .inl (cJ, 2560, .inr (.inl (vp_updL (lp pt (320 * d + 4 * e) (fun j => pt (a + j) + y * pt (b + j)) k) ((320 * d + 4 * e) + k) v42))))] H := hP
        have hD : va_D A [(mo, .inr (6, [.ref (mq 0), .ref (mq 1), .ref (mq 2), .ref (mq 3), .int (nI n), .ref (mq 5), .ref (mq 6), .int (nI F), .ref (mq 8), .ref (mq 9), .ref (mq 10), .ref (mq 11), .ref (mq 12), .ref (mq 13), .ref (mq 14), .ref (mq 15), .ref (mq 16), .ref (mq 17), .ref (mq 18), .ref (mq 19), .ref (mq 20), .ref (mq 21), .ref (mq 22), .int (nI (d + 1))])), ((mq 17), .inl (cJ, 2560, .inr (.inl (vp_updL (lp pt (320 * d + 4 * e) (fun j => pt (a + j) + y * pt (b + j)) k) ((320 * d + 4 * e) + k) v42))))] := hD
        rw [lp_s (s := (fun j => pt (a + j) + y * pt (b + j))) (by rw [e42, e41, e40, e29, lp_o (by omega), lp_o (by omega)])] at hP hD
        have hP : va_P D vwCl [(mo, .inr (6, [.ref (mq 0), .ref (mq 1), .ref (mq 2), .ref (mq 3), .int (nI n), .ref (mq 5), .ref (mq 6), .int (nI F), .ref (mq 8), .ref (mq 9), .ref (mq 10), .ref (mq 11), .ref (mq 12), .ref (mq 13), .ref (mq 14), .ref (mq 15), .ref (mq 16), .ref (mq 17), .ref (mq 18), .ref (mq 19), .ref (mq 20), .ref (mq 21), .ref (mq 22), .int (nI (d + 1))])), ((mq 17), .inl (cJ, 2560, .inr (.inl (lp pt (320 * d + 4 * e) (fun j => pt (a + j) + y * pt (b + j)) (k + 1)))))] H := hP
        have hD : va_D A [(mo, .inr (6, [.ref (mq 0), .ref (mq 1), .ref (mq 2), .ref (mq 3), .int (nI n), .ref (mq 5), .ref (mq 6), .int (nI F), .ref (mq 8), .ref (mq 9), .ref (mq 10), .ref (mq 11), .ref (mq 12), .ref (mq 13), .ref (mq 14), .ref (mq 15), .ref (mq 16), .ref (mq 17), .ref (mq 18), .ref (mq 19), .ref (mq 20), .ref (mq 21), .ref (mq 22), .int (nI (d + 1))])), ((mq 17), .inl (cJ, 2560, .inr (.inl (lp pt (320 * d + 4 * e) (fun j => pt (a + j) + y * pt (b + j)) (k + 1)))))] := hD
        refine lv_iinc (v := (nI (k + 1))) (lv' := [(6, .int (nI (k + 1))), (0, .ref mo), (1, .int (nI e)), (2, .int (nI a)), (3, .int (nI b)), (4, .long y)]) hx hb dM_combine_44 hl (k := 0) rfl (gx_inc (rfl : (nI k) = (nI k))) (by decide) rfl (fun ls hl => ?_)
        refine lv_goto (tgt := 3) hx hb dM_combine_47 (by decide) ?_
        exact ih3 (k + 1) (by omega) (by omega) (by omega) _ _ _ hP hD hS (lv_sub hl [0, 1, 2, 3, 4, 5] rfl)
  exact lp3 (4 - (0) + 1) 0 (by omega) (by omega) (by omega) _ _ _ hP hD hS (lv_sub hl [0, 1, 2, 3, 4, 5] rfl)

set_option maxHeartbeats 4000000 in
set_option maxRecDepth 100000 in
theorem c_M_multiply (l : Launch) (D : va_G) (cI cJ cB cZ : ClassId) (mo : Nat) (mq : Nat → Nat) (n F d : Nat) (pt : Nat → Int64) (e a b : Nat) (hd : d < 8) (he : e < 80) (hfa : a + 4 ≤ 2560) (hfb : b + 4 ≤ 2560) : ct_V l y_M_multiply w_M_multiply ({ frames := 1, cells := 0, slots := 0, locals := 21 }) D (gk_T cI cJ cB cZ) [.ref mo, .int (nI e), .int (nI a), .int (nI b)] [(mo, .inr (6, [.ref (mq 0), .ref (mq 1), .ref (mq 2), .ref (mq 3), .int (nI n), .ref (mq 5), .ref (mq 6), .int (nI F), .ref (mq 8), .ref (mq 9), .ref (mq 10), .ref (mq 11), .ref (mq 12), .ref (mq 13), .ref (mq 14), .ref (mq 15), .ref (mq 16), .ref (mq 17), .ref (mq 18), .ref (mq 19), .ref (mq 20), .ref (mq 21), .ref (mq 22), .int (nI (d + 1))])), ((mq 17), .inl (cJ, 2560, .inr (.inl pt)))] (0) (0) (fun w => w = [(mo, .inr (6, [.ref (mq 0), .ref (mq 1), .ref (mq 2), .ref (mq 3), .int (nI n), .ref (mq 5), .ref (mq 6), .int (nI F), .ref (mq 8), .ref (mq 9), .ref (mq 10), .ref (mq 11), .ref (mq 12), .ref (mq 13), .ref (mq 14), .ref (mq 15), .ref (mq 16), .ref (mq 17), .ref (mq 18), .ref (mq 19), .ref (mq 20), .ref (mq 21), .ref (mq 22), .int (nI (d + 1))])), ((mq 17), .inl (cJ, 2560, .inr (.inl (lp pt (320 * d + 4 * e) (jm (fun j => pt (a + j)) (fun j => pt (b + j))) 4))))]) := by
  intro sz
  refine Met.ofW (cc := b_M_multiply) (maxL := 13) (ret := none) (by decide) rfl ?_
  intro p ev9 s m args below meth c s₁ B9 hml hv
  obtain ⟨rfl, hsz, hP, hK, hN, hD0⟩ := hv
  have hx := B9.exec
  have hb := B9.bytes
  have hr := B9.returns
  have hts := atoms_spec (ws := w_M_multiply) B9.pre
  have ht : ∀ w ∈ gk_big, w.before _ s = true := fun w h => hts w (List.mem_cons_of_mem _ h)
  have hown : s.vm.findClass R_M = some m.cls := findClass_of_methodNamed B9.named
  have hlocks := B9.notSynchronized
  subst hsz
  have hD := hD0.self (sz := s.heap.size)
  generalize hAe : va_A [(mo, .inr (6, [.ref (mq 0), .ref (mq 1), .ref (mq 2), .ref (mq 3), .int (nI n), .ref (mq 5), .ref (mq 6), .int (nI F), .ref (mq 8), .ref (mq 9), .ref (mq 10), .ref (mq 11), .ref (mq 12), .ref (mq 13), .ref (mq 14), .ref (mq 15), .ref (mq 16), .ref (mq 17), .ref (mq 18), .ref (mq 19), .ref (mq 20), .ref (mq 21), .ref (mq 22), .int (nI (d + 1))])), ((mq 17), .inl (cJ, 2560, .inr (.inl pt)))] s.heap.size = A at hD ⊢
  have hA : ∀ q : Nat, s.heap.size ≤ q → A q := fun q h => by rw [← hAe]; exact Or.inr h
  generalize hHe : s.heap = H at hP ⊢
  have hS : va_S A s.heap H [] := by rw [← hHe]; exact va_S.rf
  have hP : va_P D vwCl [(mo, .inr (6, [.ref (mq 0), .ref (mq 1), .ref (mq 2), .ref (mq 3), .int (nI n), .ref (mq 5), .ref (mq 6), .int (nI F), .ref (mq 8), .ref (mq 9), .ref (mq 10), .ref (mq 11), .ref (mq 12), .ref (mq 13), .ref (mq 14), .ref (mq 15), .ref (mq 16), .ref (mq 17), .ref (mq 18), .ref (mq 19), .ref (mq 20), .ref (mq 21), .ref (mq 22), .int (nI (d + 1))])), ((mq 17), .inl (cJ, 2560, .inr (.inl pt)))] H := hP
  have hD : va_D A [(mo, .inr (6, [.ref (mq 0), .ref (mq 1), .ref (mq 2), .ref (mq 3), .int (nI n), .ref (mq 5), .ref (mq 6), .int (nI F), .ref (mq 8), .ref (mq 9), .ref (mq 10), .ref (mq 11), .ref (mq 12), .ref (mq 13), .ref (mq 14), .ref (mq 15), .ref (mq 16), .ref (mq 17), .ref (mq 18), .ref (mq 19), .ref (mq 20), .ref (mq 21), .ref (mq 22), .int (nI (d + 1))])), ((mq 17), .inl (cJ, 2560, .inr (.inl pt)))] := hD
  have hl := lv_entry ([.ref mo, .int (nI e), .int (nI a), .int (nI b)]) (n := 13) (Nat.le_of_ble_eq_true rfl)
  rw [lg_entry_eq]
  generalize (lg_sl ([.ref mo, .int (nI e), .int (nI a), .int (nI b)]) ++ List.replicate (13 - (lg_sl ([.ref mo, .int (nI e), .int (nI a), .int (nI b)])).length) Slot.unset).toArray = ls at hl ⊢
  have hl : lv_has ls 13 [(0, .ref mo), (1, .int (nI e)), (2, .int (nI a)), (3, .int (nI b))] := hl
  refine lv_aload_n hx hb dM_multiply_0 rfl (lv_at hl 0 rfl) ?_
  refine va_get (D := D) (ci := 6) (v := .ref (mq 17)) (C := R_M) (T := F_M) (N := 24) hx hb ht i_M hown hK hP 0 rfl rfl 17 (by decide) (ht _ m_471) (fun _ h9 => h9) rfl dM_multiply_1 ?_
  refine lv_iload_n hx hb dM_multiply_4 rfl (lv_at hl 2 rfl) ?_
  have i5 : vp_in (nI a) 2560 := gx_in (rfl : (nI a) = (nI a)) (by omega) (by decide)
  have k5 : ((nI a) : Int32).toNatClampNeg = a := gx_cl (rfl : (nI a) = (nI a)) (by omega)
  refine va_lald hx hb hK hP 1 1 rfl rfl i5 dM_multiply_5 ?_
  rw [k5]
  refine lv_topl (fun v5 e5 => ?_)
  refine lv_aload_n hx hb dM_multiply_6 rfl (lv_at hl 0 rfl) ?_
  refine va_get (D := D) (ci := 6) (v := .ref (mq 17)) (C := R_M) (T := F_M) (N := 24) hx hb ht i_M hown hK hP 0 rfl rfl 17 (by decide) (ht _ m_471) (fun _ h9 => h9) rfl dM_multiply_7 ?_
  refine lv_iload_n hx hb dM_multiply_10 rfl (lv_at hl 3 rfl) ?_
  have i11 : vp_in (nI b) 2560 := gx_in (rfl : (nI b) = (nI b)) (by omega) (by decide)
  have k11 : ((nI b) : Int32).toNatClampNeg = b := gx_cl (rfl : (nI b) = (nI b)) (by omega)
  refine va_lald hx hb hK hP 1 1 rfl rfl i11 dM_multiply_11 ?_
  rw [k11]
  refine lv_topl (fun v11 e11 => ?_)
  refine lv_lmul hx hb dM_multiply_12 ?_
  refine lv_topl (fun v12 e12 => ?_)
  refine lv_lstore (lv' := [(4, .long v12), (0, .ref mo), (1, .int (nI e)), (2, .int (nI a)), (3, .int (nI b))]) hx hb dM_multiply_13 hl (by decide) rfl (fun ls hl => ?_)
  refine lv_aload_n hx hb dM_multiply_15 rfl (lv_at hl 1 rfl) ?_
  refine va_get (D := D) (ci := 6) (v := .ref (mq 17)) (C := R_M) (T := F_M) (N := 24) hx hb ht i_M hown hK hP 0 rfl rfl 17 (by decide) (ht _ m_471) (fun _ h9 => h9) rfl dM_multiply_16 ?_
  refine lv_iload_n hx hb dM_multiply_19 rfl (lv_at hl 3 rfl) ?_
  have i20 : vp_in (nI a) 2560 := gx_in (rfl : (nI a) = (nI a)) (by omega) (by decide)
  have k20 : ((nI a) : Int32).toNatClampNeg = a := gx_cl (rfl : (nI a) = (nI a)) (by omega)
  refine va_lald hx hb hK hP 1 1 rfl rfl i20 dM_multiply_20 ?_
  rw [k20]
  refine lv_topl (fun v20 e20 => ?_)
  refine lv_aload_n hx hb dM_multiply_21 rfl (lv_at hl 1 rfl) ?_
  refine va_get (D := D) (ci := 6) (v := .ref (mq 17)) (C := R_M) (T := F_M) (N := 24) hx hb ht i_M hown hK hP 0 rfl rfl 17 (by decide) (ht _ m_471) (fun _ h9 => h9) rfl dM_multiply_22 ?_
  refine lv_iload_n hx hb dM_multiply_25 rfl (lv_at hl 4 rfl) ?_
  refine lv_iconst (v := 1) hx hb dM_multiply_26 (by decide) ?_
  refine lv_iadd hx hb dM_multiply_27 ?_
  refine lv_topi (fun v27 e27 => ?_)
  have n27 : v27 = nI (b + 1) := by rw [e27]; exact gx_add (rfl : (nI b) = (nI b)) (rfl : (1 : Int32) = nI 1)
  subst n27
  have i28 : vp_in (nI (b + 1)) 2560 := gx_in (rfl : (nI (b + 1)) = (nI (b + 1))) (by omega) (by decide)
  have k28 : ((nI (b + 1)) : Int32).toNatClampNeg = (b + 1) := gx_cl (rfl : (nI (b + 1)) = (nI (b + 1))) (by omega)
  refine va_lald hx hb hK hP 1 1 rfl rfl i28 dM_multiply_28 ?_
  rw [k28]
  refine lv_topl (fun v28 e28 => ?_)
  refine lv_lmul hx hb dM_multiply_29 ?_
  refine lv_topl (fun v29 e29 => ?_)
  refine lv_aload_n hx hb dM_multiply_30 rfl (lv_at hl 1 rfl) ?_
  refine va_get (D := D) (ci := 6) (v := .ref (mq 17)) (C := R_M) (T := F_M) (N := 24) hx hb ht i_M hown hK hP 0 rfl rfl 17 (by decide) (ht _ m_471) (fun _ h9 => h9) rfl dM_multiply_31 ?_
  refine lv_iload_n hx hb dM_multiply_34 rfl (lv_at hl 3 rfl) ?_
  refine lv_iconst (v := 1) hx hb dM_multiply_35 (by decide) ?_
  refine lv_iadd hx hb dM_multiply_36 ?_
  refine lv_topi (fun v36 e36 => ?_)
  have n36 : v36 = nI (a + 1) := by rw [e36]; exact gx_add (rfl : (nI a) = (nI a)) (rfl : (1 : Int32) = nI 1)
  subst n36
  have i37 : vp_in (nI (a + 1)) 2560 := gx_in (rfl : (nI (a + 1)) = (nI (a + 1))) (by omega) (by decide)
  have k37 : ((nI (a + 1)) : Int32).toNatClampNeg = (a + 1) := gx_cl (rfl : (nI (a + 1)) = (nI (a + 1))) (by omega)
  refine va_lald hx hb hK hP 1 1 rfl rfl i37 dM_multiply_37 ?_
  rw [k37]
  refine lv_topl (fun v37 e37 => ?_)
  refine lv_aload_n hx hb dM_multiply_38 rfl (lv_at hl 1 rfl) ?_
  refine va_get (D := D) (ci := 6) (v := .ref (mq 17)) (C := R_M) (T := F_M) (N := 24) hx hb ht i_M hown hK hP 0 rfl rfl 17 (by decide) (ht _ m_471) (fun _ h9 => h9) rfl dM_multiply_39 ?_
  refine lv_iload_n hx hb dM_multiply_42 rfl (lv_at hl 4 rfl) ?_
  have i43 : vp_in (nI b) 2560 := gx_in (rfl : (nI b) = (nI b)) (by omega) (by decide)
  have k43 : ((nI b) : Int32).toNatClampNeg = b := gx_cl (rfl : (nI b) = (nI b)) (by omega)
  refine va_lald hx hb hK hP 1 1 rfl rfl i43 dM_multiply_43 ?_
  rw [k43]
  refine lv_topl (fun v43 e43 => ?_)
  refine lv_lmul hx hb dM_multiply_44 ?_
  refine lv_topl (fun v44 e44 => ?_)
  refine lv_ladd hx hb dM_multiply_45 ?_
  refine lv_topl (fun v45 e45 => ?_)
  refine lv_lstore (lv' := [(6, .long v45), (4, .long v12), (0, .ref mo), (1, .int (nI e)), (2, .int (nI a)), (3, .int (nI b))]) hx hb dM_multiply_46 hl (by decide) rfl (fun ls hl => ?_)
  refine lv_aload_n hx hb dM_multiply_48 rfl (lv_at hl 2 rfl) ?_
  refine va_get (D := D) (ci := 6) (v := .ref (mq 17)) (C := R_M) (T := F_M) (N := 24) hx hb ht i_M hown hK hP 0 rfl rfl 17 (by decide) (ht _ m_471) (fun _ h9 => h9) rfl dM_multiply_49 ?_
  refine lv_iload_n hx hb dM_multiply_52 rfl (lv_at hl 4 rfl) ?_
  have i53 : vp_in (nI a) 2560 := gx_in (rfl : (nI a) = (nI a)) (by omega) (by decide)
  have k53 : ((nI a) : Int32).toNatClampNeg = a := gx_cl (rfl : (nI a) = (nI a)) (by omega)
  refine va_lald hx hb hK hP 1 1 rfl rfl i53 dM_multiply_53 ?_
  rw [k53]
  refine lv_topl (fun v53 e53 => ?_)
  refine lv_aload_n hx hb dM_multiply_54 rfl (lv_at hl 2 rfl) ?_
  refine va_get (D := D) (ci := 6) (v := .ref (mq 17)) (C := R_M) (T := F_M) (N := 24) hx hb ht i_M hown hK hP 0 rfl rfl 17 (by decide) (ht _ m_471) (fun _ h9 => h9) rfl dM_multiply_55 ?_
  refine lv_iload_n hx hb dM_multiply_58 rfl (lv_at hl 5 rfl) ?_
  refine lv_iconst (v := 2) hx hb dM_multiply_59 (by decide) ?_
  refine lv_iadd hx hb dM_multiply_60 ?_
  refine lv_topi (fun v60 e60 => ?_)
  have n60 : v60 = nI (b + 2) := by rw [e60]; exact gx_add (rfl : (nI b) = (nI b)) (rfl : (2 : Int32) = nI 2)
  subst n60
  have i61 : vp_in (nI (b + 2)) 2560 := gx_in (rfl : (nI (b + 2)) = (nI (b + 2))) (by omega) (by decide)
  have k61 : ((nI (b + 2)) : Int32).toNatClampNeg = (b + 2) := gx_cl (rfl : (nI (b + 2)) = (nI (b + 2))) (by omega)
  refine va_lald hx hb hK hP 1 1 rfl rfl i61 dM_multiply_61 ?_
  rw [k61]
  refine lv_topl (fun v61 e61 => ?_)
  refine lv_lmul hx hb dM_multiply_62 ?_
  refine lv_topl (fun v62 e62 => ?_)
  refine lv_aload_n hx hb dM_multiply_63 rfl (lv_at hl 2 rfl) ?_
  refine va_get (D := D) (ci := 6) (v := .ref (mq 17)) (C := R_M) (T := F_M) (N := 24) hx hb ht i_M hown hK hP 0 rfl rfl 17 (by decide) (ht _ m_471) (fun _ h9 => h9) rfl dM_multiply_64 ?_
  refine lv_iload_n hx hb dM_multiply_67 rfl (lv_at hl 4 rfl) ?_
  refine lv_iconst (v := 2) hx hb dM_multiply_68 (by decide) ?_
  refine lv_iadd hx hb dM_multiply_69 ?_
  refine lv_topi (fun v69 e69 => ?_)
  have n69 : v69 = nI (a + 2) := by rw [e69]; exact gx_add (rfl : (nI a) = (nI a)) (rfl : (2 : Int32) = nI 2)
  subst n69
  have i70 : vp_in (nI (a + 2)) 2560 := gx_in (rfl : (nI (a + 2)) = (nI (a + 2))) (by omega) (by decide)
  have k70 : ((nI (a + 2)) : Int32).toNatClampNeg = (a + 2) := gx_cl (rfl : (nI (a + 2)) = (nI (a + 2))) (by omega)
  refine va_lald hx hb hK hP 1 1 rfl rfl i70 dM_multiply_70 ?_
  rw [k70]
  refine lv_topl (fun v70 e70 => ?_)
  refine lv_aload_n hx hb dM_multiply_71 rfl (lv_at hl 2 rfl) ?_
  refine va_get (D := D) (ci := 6) (v := .ref (mq 17)) (C := R_M) (T := F_M) (N := 24) hx hb ht i_M hown hK hP 0 rfl rfl 17 (by decide) (ht _ m_471) (fun _ h9 => h9) rfl dM_multiply_72 ?_
  refine lv_iload_n hx hb dM_multiply_75 rfl (lv_at hl 5 rfl) ?_
  have i76 : vp_in (nI b) 2560 := gx_in (rfl : (nI b) = (nI b)) (by omega) (by decide)
  have k76 : ((nI b) : Int32).toNatClampNeg = b := gx_cl (rfl : (nI b) = (nI b)) (by omega)
  refine va_lald hx hb hK hP 1 1 rfl rfl i76 dM_multiply_76 ?_
  rw [k76]
  refine lv_topl (fun v76 e76 => ?_)
  refine lv_lmul hx hb dM_multiply_77 ?_
  refine lv_topl (fun v77 e77 => ?_)
  refine lv_ladd hx hb dM_multiply_78 ?_
  refine lv_topl (fun v78 e78 => ?_)
  refine lv_lstore (lv' := [(8, .long v78), (6, .long v45), (4, .long v12), (0, .ref mo), (1, .int (nI e)), (2, .int (nI a)), (3, .int (nI b))]) hx hb dM_multiply_79 hl (by decide) rfl (fun ls hl => ?_)
  refine lv_aload_n hx hb dM_multiply_81 rfl (lv_at hl 3 rfl) ?_
  refine va_get (D := D) (ci := 6) (v := .ref (mq 17)) (C := R_M) (T := F_M) (N := 24) hx hb ht i_M hown hK hP 0 rfl rfl 17 (by decide) (ht _ m_471) (fun _ h9 => h9) rfl dM_multiply_82 ?_
  refine lv_iload_n hx hb dM_multiply_85 rfl (lv_at hl 5 rfl) ?_
  have i86 : vp_in (nI a) 2560 := gx_in (rfl : (nI a) = (nI a)) (by omega) (by decide)
  have k86 : ((nI a) : Int32).toNatClampNeg = a := gx_cl (rfl : (nI a) = (nI a)) (by omega)
  refine va_lald hx hb hK hP 1 1 rfl rfl i86 dM_multiply_86 ?_
  rw [k86]
  refine lv_topl (fun v86 e86 => ?_)
  refine lv_aload_n hx hb dM_multiply_87 rfl (lv_at hl 3 rfl) ?_
  refine va_get (D := D) (ci := 6) (v := .ref (mq 17)) (C := R_M) (T := F_M) (N := 24) hx hb ht i_M hown hK hP 0 rfl rfl 17 (by decide) (ht _ m_471) (fun _ h9 => h9) rfl dM_multiply_88 ?_
  refine lv_iload_n hx hb dM_multiply_91 rfl (lv_at hl 6 rfl) ?_
  refine lv_iconst (v := 3) hx hb dM_multiply_92 (by decide) ?_
  refine lv_iadd hx hb dM_multiply_93 ?_
  refine lv_topi (fun v93 e93 => ?_)
  have n93 : v93 = nI (b + 3) := by rw [e93]; exact gx_add (rfl : (nI b) = (nI b)) (rfl : (3 : Int32) = nI 3)
  subst n93
  have i94 : vp_in (nI (b + 3)) 2560 := gx_in (rfl : (nI (b + 3)) = (nI (b + 3))) (by omega) (by decide)
  have k94 : ((nI (b + 3)) : Int32).toNatClampNeg = (b + 3) := gx_cl (rfl : (nI (b + 3)) = (nI (b + 3))) (by omega)
  refine va_lald hx hb hK hP 1 1 rfl rfl i94 dM_multiply_94 ?_
  rw [k94]
  refine lv_topl (fun v94 e94 => ?_)
  refine lv_lmul hx hb dM_multiply_95 ?_
  refine lv_topl (fun v95 e95 => ?_)
  refine lv_aload_n hx hb dM_multiply_96 rfl (lv_at hl 3 rfl) ?_
  refine va_get (D := D) (ci := 6) (v := .ref (mq 17)) (C := R_M) (T := F_M) (N := 24) hx hb ht i_M hown hK hP 0 rfl rfl 17 (by decide) (ht _ m_471) (fun _ h9 => h9) rfl dM_multiply_97 ?_
  refine lv_iload_n hx hb dM_multiply_100 rfl (lv_at hl 5 rfl) ?_
  refine lv_iconst (v := 1) hx hb dM_multiply_101 (by decide) ?_
  refine lv_iadd hx hb dM_multiply_102 ?_
  refine lv_topi (fun v102 e102 => ?_)
  have n102 : v102 = nI (a + 1) := by rw [e102]; exact gx_add (rfl : (nI a) = (nI a)) (rfl : (1 : Int32) = nI 1)
  subst n102
  have i103 : vp_in (nI (a + 1)) 2560 := gx_in (rfl : (nI (a + 1)) = (nI (a + 1))) (by omega) (by decide)
  have k103 : ((nI (a + 1)) : Int32).toNatClampNeg = (a + 1) := gx_cl (rfl : (nI (a + 1)) = (nI (a + 1))) (by omega)
  refine va_lald hx hb hK hP 1 1 rfl rfl i103 dM_multiply_103 ?_
  rw [k103]
  refine lv_topl (fun v103 e103 => ?_)
  refine lv_aload_n hx hb dM_multiply_104 rfl (lv_at hl 3 rfl) ?_
  refine va_get (D := D) (ci := 6) (v := .ref (mq 17)) (C := R_M) (T := F_M) (N := 24) hx hb ht i_M hown hK hP 0 rfl rfl 17 (by decide) (ht _ m_471) (fun _ h9 => h9) rfl dM_multiply_105 ?_
  refine lv_iload_n hx hb dM_multiply_108 rfl (lv_at hl 6 rfl) ?_
  refine lv_iconst (v := 2) hx hb dM_multiply_109 (by decide) ?_
  refine lv_iadd hx hb dM_multiply_110 ?_
  refine lv_topi (fun v110 e110 => ?_)
  have n110 : v110 = nI (b + 2) := by rw [e110]; exact gx_add (rfl : (nI b) = (nI b)) (rfl : (2 : Int32) = nI 2)
  subst n110
  have i111 : vp_in (nI (b + 2)) 2560 := gx_in (rfl : (nI (b + 2)) = (nI (b + 2))) (by omega) (by decide)
  have k111 : ((nI (b + 2)) : Int32).toNatClampNeg = (b + 2) := gx_cl (rfl : (nI (b + 2)) = (nI (b + 2))) (by omega)
  refine va_lald hx hb hK hP 1 1 rfl rfl i111 dM_multiply_111 ?_
  rw [k111]
  refine lv_topl (fun v111 e111 => ?_)
  refine lv_lmul hx hb dM_multiply_112 ?_
  refine lv_topl (fun v112 e112 => ?_)
  refine lv_ladd hx hb dM_multiply_113 ?_
  refine lv_topl (fun v113 e113 => ?_)
  refine lv_aload_n hx hb dM_multiply_114 rfl (lv_at hl 3 rfl) ?_
  refine va_get (D := D) (ci := 6) (v := .ref (mq 17)) (C := R_M) (T := F_M) (N := 24) hx hb ht i_M hown hK hP 0 rfl rfl 17 (by decide) (ht _ m_471) (fun _ h9 => h9) rfl dM_multiply_115 ?_
  refine lv_iload_n hx hb dM_multiply_118 rfl (lv_at hl 5 rfl) ?_
  refine lv_iconst (v := 2) hx hb dM_multiply_119 (by decide) ?_
  refine lv_iadd hx hb dM_multiply_120 ?_
  refine lv_topi (fun v120 e120 => ?_)
  have n120 : v120 = nI (a + 2) := by rw [e120]; exact gx_add (rfl : (nI a) = (nI a)) (rfl : (2 : Int32) = nI 2)
  subst n120
  have i121 : vp_in (nI (a + 2)) 2560 := gx_in (rfl : (nI (a + 2)) = (nI (a + 2))) (by omega) (by decide)
  have k121 : ((nI (a + 2)) : Int32).toNatClampNeg = (a + 2) := gx_cl (rfl : (nI (a + 2)) = (nI (a + 2))) (by omega)
  refine va_lald hx hb hK hP 1 1 rfl rfl i121 dM_multiply_121 ?_
  rw [k121]
  refine lv_topl (fun v121 e121 => ?_)
  refine lv_aload_n hx hb dM_multiply_122 rfl (lv_at hl 3 rfl) ?_
  refine va_get (D := D) (ci := 6) (v := .ref (mq 17)) (C := R_M) (T := F_M) (N := 24) hx hb ht i_M hown hK hP 0 rfl rfl 17 (by decide) (ht _ m_471) (fun _ h9 => h9) rfl dM_multiply_123 ?_
  refine lv_iload_n hx hb dM_multiply_126 rfl (lv_at hl 6 rfl) ?_
  refine lv_iconst (v := 1) hx hb dM_multiply_127 (by decide) ?_
  refine lv_iadd hx hb dM_multiply_128 ?_
  refine lv_topi (fun v128 e128 => ?_)
  have n128 : v128 = nI (b + 1) := by rw [e128]; exact gx_add (rfl : (nI b) = (nI b)) (rfl : (1 : Int32) = nI 1)
  subst n128
  have i129 : vp_in (nI (b + 1)) 2560 := gx_in (rfl : (nI (b + 1)) = (nI (b + 1))) (by omega) (by decide)
  have k129 : ((nI (b + 1)) : Int32).toNatClampNeg = (b + 1) := gx_cl (rfl : (nI (b + 1)) = (nI (b + 1))) (by omega)
  refine va_lald hx hb hK hP 1 1 rfl rfl i129 dM_multiply_129 ?_
  rw [k129]
  refine lv_topl (fun v129 e129 => ?_)
  refine lv_lmul hx hb dM_multiply_130 ?_
  refine lv_topl (fun v130 e130 => ?_)
  refine lv_ladd hx hb dM_multiply_131 ?_
  refine lv_topl (fun v131 e131 => ?_)
  refine lv_aload_n hx hb dM_multiply_132 rfl (lv_at hl 3 rfl) ?_
  refine va_get (D := D) (ci := 6) (v := .ref (mq 17)) (C := R_M) (T := F_M) (N := 24) hx hb ht i_M hown hK hP 0 rfl rfl 17 (by decide) (ht _ m_471) (fun _ h9 => h9) rfl dM_multiply_133 ?_
  refine lv_iload_n hx hb dM_multiply_136 rfl (lv_at hl 5 rfl) ?_
  refine lv_iconst (v := 3) hx hb dM_multiply_137 (by decide) ?_
  refine lv_iadd hx hb dM_multiply_138 ?_
  refine lv_topi (fun v138 e138 => ?_)
  have n138 : v138 = nI (a + 3) := by rw [e138]; exact gx_add (rfl : (nI a) = (nI a)) (rfl : (3 : Int32) = nI 3)
  subst n138
  have i139 : vp_in (nI (a + 3)) 2560 := gx_in (rfl : (nI (a + 3)) = (nI (a + 3))) (by omega) (by decide)
  have k139 : ((nI (a + 3)) : Int32).toNatClampNeg = (a + 3) := gx_cl (rfl : (nI (a + 3)) = (nI (a + 3))) (by omega)
  refine va_lald hx hb hK hP 1 1 rfl rfl i139 dM_multiply_139 ?_
  rw [k139]
  refine lv_topl (fun v139 e139 => ?_)
  refine lv_aload_n hx hb dM_multiply_140 rfl (lv_at hl 3 rfl) ?_
  refine va_get (D := D) (ci := 6) (v := .ref (mq 17)) (C := R_M) (T := F_M) (N := 24) hx hb ht i_M hown hK hP 0 rfl rfl 17 (by decide) (ht _ m_471) (fun _ h9 => h9) rfl dM_multiply_141 ?_
  refine lv_iload_n hx hb dM_multiply_144 rfl (lv_at hl 6 rfl) ?_
  have i145 : vp_in (nI b) 2560 := gx_in (rfl : (nI b) = (nI b)) (by omega) (by decide)
  have k145 : ((nI b) : Int32).toNatClampNeg = b := gx_cl (rfl : (nI b) = (nI b)) (by omega)
  refine va_lald hx hb hK hP 1 1 rfl rfl i145 dM_multiply_145 ?_
  rw [k145]
  refine lv_topl (fun v145 e145 => ?_)
  refine lv_lmul hx hb dM_multiply_146 ?_
  refine lv_topl (fun v146 e146 => ?_)
  refine lv_ladd hx hb dM_multiply_147 ?_
  refine lv_topl (fun v147 e147 => ?_)
  refine lv_lstore (lv' := [(10, .long v147), (8, .long v78), (6, .long v45), (4, .long v12), (0, .ref mo), (1, .int (nI e)), (2, .int (nI a)), (3, .int (nI b))]) hx hb dM_multiply_148 hl (by decide) rfl (fun ls hl => ?_)
  refine lv_aload_n hx hb dM_multiply_150 rfl (lv_at hl 4 rfl) ?_
  refine lv_iload_n hx hb dM_multiply_151 rfl (lv_at hl 5 rfl) ?_
  refine gc_i (va_runV (As := [.int (nI e)]) (rest := []) ⟨hx, hb, hml, hown, ht⟩ (c_M_base l D cI cJ cB cZ mo mq n F (d + 1) e (by omega) H.size) (cwV 1 ht (gw_V m_637 m_639 ms_35 m_6 m_640) rfl rfl rfl (by decide +kernel) ⟨Nat.le_of_ble_eq_true rfl, Nat.le_of_ble_eq_true rfl⟩) (gp_V (ci := 6) (q0 := 0) hK hN (hP.sub (ws' := [(mo, .inr (6, [.ref (mq 0), .ref (mq 1), .ref (mq 2), .ref (mq 3), .int (nI n), .ref (mq 5), .ref (mq 6), .int (nI F), .ref (mq 8), .ref (mq 9), .ref (mq 10), .ref (mq 11), .ref (mq 12), .ref (mq 13), .ref (mq 14), .ref (mq 15), .ref (mq 16), .ref (mq 17), .ref (mq 18), .ref (mq 19), .ref (mq 20), .ref (mq 21), .ref (mq 22), .int (nI (d + 1))]))]) [0] rfl) (hD.sub (ws' := [(mo, .inr (6, [.ref (mq 0), .ref (mq 1), .ref (mq 2), .ref (mq 3), .int (nI n), .ref (mq 5), .ref (mq 6), .int (nI F), .ref (mq 8), .ref (mq 9), .ref (mq 10), .ref (mq 11), .ref (mq 12), .ref (mq 13), .ref (mq 14), .ref (mq 15), .ref (mq 16), .ref (mq 17), .ref (mq 18), .ref (mq 19), .ref (mq 20), .ref (mq 21), .ref (mq 22), .int (nI (d + 1))]))]) [0] (by decide) rfl) rfl rfl) rfl rfl hl.1 rfl (lv_room (Nat.le_of_ble_eq_true rfl)) dM_multiply_152 ⟨Nat.le_of_ble_eq_true rfl, Nat.le_of_ble_eq_true rfl⟩) hP hD hS hA [0] rfl (by decide) (fun r w h => by obtain ⟨_, rfl⟩ := h; rfl) (fun r152 w152 H locs p152 hP hD hS => ?_)
  obtain ⟨h152x, rfl⟩ := p152
  have h152y : r152 = nI (320 * d + 4 * e) := h152x
  subst h152y
  have hP : va_P D vwCl [(mo, .inr (6, [.ref (mq 0), .ref (mq 1), .ref (mq 2), .ref (mq 3), .int (nI n), .ref (mq 5), .ref (mq 6), .int (nI F), .ref (mq 8), .ref (mq 9), .ref (mq 10), .ref (mq 11), .ref (mq 12), .ref (mq 13), .ref (mq 14), .ref (mq 15), .ref (mq 16), .ref (mq 17), .ref (mq 18), .ref (mq 19), .ref (mq 20), .ref (mq 21), .ref (mq 22), .int (nI (d + 1))])), ((mq 17), .inl (cJ, 2560, .inr (.inl pt)))] H := hP
  have hD : va_D A [(mo, .inr (6, [.ref (mq 0), .ref (mq 1), .ref (mq 2), .ref (mq 3), .int (nI n), .ref (mq 5), .ref (mq 6), .int (nI F), .ref (mq 8), .ref (mq 9), .ref (mq 10), .ref (mq 11), .ref (mq 12), .ref (mq 13), .ref (mq 14), .ref (mq 15), .ref (mq 16), .ref (mq 17), .ref (mq 18), .ref (mq 19), .ref (mq 20), .ref (mq 21), .ref (mq 22), .int (nI (d + 1))])), ((mq 17), .inl (cJ, 2560, .inr (.inl pt)))] := hD
  refine lv_istore (lv' := [(12, .int (nI (320 * d + 4 * e))), (10, .long v147), (8, .long v78), (6, .long v45), (4, .long v12), (0, .ref mo), (1, .int (nI e)), (2, .int (nI a)), (3, .int (nI b))]) hx hb dM_multiply_155 hl (by decide) rfl (fun ls hl => ?_)
  refine lv_aload_n hx hb dM_multiply_157 rfl (lv_at hl 5 rfl) ?_
  refine va_get (D := D) (ci := 6) (v := .ref (mq 17)) (C := R_M) (T := F_M) (N := 24) hx hb ht i_M hown hK hP 0 rfl rfl 17 (by decide) (ht _ m_471) (fun _ h9 => h9) rfl dM_multiply_158 ?_
  refine lv_iload hx hb dM_multiply_161 (lv_at hl 0 rfl) ?_
  refine lv_lload hx hb dM_multiply_163 (lv_at hl 4 rfl) ?_
  have i165 : vp_in (nI (320 * d + 4 * e)) 2560 := gx_in (rfl : (nI (320 * d + 4 * e)) = (nI (320 * d + 4 * e))) (by omega) (by decide)
  have k165 : ((nI (320 * d + 4 * e)) : Int32).toNatClampNeg = (320 * d + 4 * e) := gx_cl (rfl : (nI (320 * d + 4 * e)) = (nI (320 * d + 4 * e))) (by omega)
  refine va_last hx hb hK hP hD hS 1 1 rfl rfl i165 dM_multiply_165 (fun H locs hP hD hS => ?_)
  rw [k165] at hP hD
  have hP : va_P D vwCl [(mo, .inr (6, [.ref (mq 0), .ref (mq 1), .ref (mq 2), .ref (mq 3), .int (nI n), .ref (mq 5), .ref (mq 6), .int (nI F), .ref (mq 8), .ref (mq 9), .ref (mq 10), .ref (mq 11), .ref (mq 12), .ref (mq 13), .ref (mq 14), .ref (mq 15), .ref (mq 16), .ref (mq 17), .ref (mq 18), .ref (mq 19), .ref (mq 20), .ref (mq 21), .ref (mq 22), .int (nI (d + 1))])), ((mq 17), .inl (cJ, 2560, .inr (.inl (vp_updL pt (320 * d + 4 * e) v12))))] H := hP
  have hD : va_D A [(mo, .inr (6, [.ref (mq 0), .ref (mq 1), .ref (mq 2), .ref (mq 3), .int (nI n), .ref (mq 5), .ref (mq 6), .int (nI F), .ref (mq 8), .ref (mq 9), .ref (mq 10), .ref (mq 11), .ref (mq 12), .ref (mq 13), .ref (mq 14), .ref (mq 15), .ref (mq 16), .ref (mq 17), .ref (mq 18), .ref (mq 19), .ref (mq 20), .ref (mq 21), .ref (mq 22), .int (nI (d + 1))])), ((mq 17), .inl (cJ, 2560, .inr (.inl (vp_updL pt (320 * d + 4 * e) v12))))] := hD
  rw [lp_1 (s := (jm (fun j => pt (a + j)) (fun j => pt (b + j)))) (by rw [e12, e5, e11]; rfl)] at hP hD
  have hP : va_P D vwCl [(mo, .inr (6, [.ref (mq 0), .ref (mq 1), .ref (mq 2), .ref (mq 3), .int (nI n), .ref (mq 5), .ref (mq 6), .int (nI F), .ref (mq 8), .ref (mq 9), .ref (mq 10), .ref (mq 11), .ref (mq 12), .ref (mq 13), .ref (mq 14), .ref (mq 15), .ref (mq 16), .ref (mq 17), .ref (mq 18), .ref (mq 19), .ref (mq 20), .ref (mq 21), .ref (mq 22), .int (nI (d + 1))])), ((mq 17), .inl (cJ, 2560, .inr (.inl (lp pt (320 * d + 4 * e) (jm (fun j => pt (a + j)) (fun j => pt (b + j))) 1))))] H := hP
  have hD : va_D A [(mo, .inr (6, [.ref (mq 0), .ref (mq 1), .ref (mq 2), .ref (mq 3), .int (nI n), .ref (mq 5), .ref (mq 6), .int (nI F), .ref (mq 8), .ref (mq 9), .ref (mq 10), .ref (mq 11), .ref (mq 12), .ref (mq 13), .ref (mq 14), .ref (mq 15), .ref (mq 16), .ref (mq 17), .ref (mq 18), .ref (mq 19), .ref (mq 20), .ref (mq 21), .ref (mq 22), .int (nI (d + 1))])), ((mq 17), .inl (cJ, 2560, .inr (.inl (lp pt (320 * d + 4 * e) (jm (fun j => pt (a + j)) (fun j => pt (b + j))) 1))))] := hD
  refine lv_aload_n hx hb dM_multiply_166 rfl (lv_at hl 5 rfl) ?_
  refine va_get (D := D) (ci := 6) (v := .ref (mq 17)) (C := R_M) (T := F_M) (N := 24) hx hb ht i_M hown hK hP 0 rfl rfl 17 (by decide) (ht _ m_471) (fun _ h9 => h9) rfl dM_multiply_167 ?_
  refine lv_iload hx hb dM_multiply_170 (lv_at hl 0 rfl) ?_
  refine lv_iconst (v := 1) hx hb dM_multiply_172 (by decide) ?_
  refine lv_iadd hx hb dM_multiply_173 ?_
  refine lv_topi (fun v173 e173 => ?_)
  have n173 : v173 = nI ((320 * d + 4 * e) + 1) := by rw [e173]; exact gx_add (rfl : (nI (320 * d + 4 * e)) = (nI (320 * d + 4 * e))) (rfl : (1 : Int32) = nI 1)
  subst n173
  refine lv_lload hx hb dM_multiply_174 (lv_at hl 3 rfl) ?_
  have i176 : vp_in (nI ((320 * d + 4 * e) + 1)) 2560 := gx_in (rfl : (nI ((320 * d + 4 * e) + 1)) = (nI ((320 * d + 4 * e) + 1))) (by omega) (by decide)
  have k176 : ((nI ((320 * d + 4 * e) + 1)) : Int32).toNatClampNeg = ((320 * d + 4 * e) + 1) := gx_cl (rfl : (nI ((320 * d + 4 * e) + 1)) = (nI ((320 * d + 4 * e) + 1))) (by omega)
  refine va_last hx hb hK hP hD hS 1 1 rfl rfl i176 dM_multiply_176 (fun H locs hP hD hS => ?_)
  rw [k176] at hP hD
  have hP : va_P D vwCl [(mo, .inr (6, [.ref (mq 0), .ref (mq 1), .ref (mq 2), .ref (mq 3), .int (nI n), .ref (mq 5), .ref (mq 6), .int (nI F), .ref (mq 8), .ref (mq 9), .ref (mq 10), .ref (mq 11), .ref (mq 12), .ref (mq 13), .ref (mq 14), .ref (mq 15), .ref (mq 16), .ref (mq 17), .ref (mq 18), .ref (mq 19), .ref (mq 20), .ref (mq 21), .ref (mq 22), .int (nI (d + 1))])), ((mq 17), .inl (cJ, 2560, .inr (.inl (vp_updL (lp pt (320 * d + 4 * e) (jm (fun j => pt (a + j)) (fun j => pt (b + j))) 1) ((320 * d + 4 * e) + 1) v45))))] H := hP
  have hD : va_D A [(mo, .inr (6, [.ref (mq 0), .ref (mq 1), .ref (mq 2), .ref (mq 3), .int (nI n), .ref (mq 5), .ref (mq 6), .int (nI F), .ref (mq 8), .ref (mq 9), .ref (mq 10), .ref (mq 11), .ref (mq 12), .ref (mq 13), .ref (mq 14), .ref (mq 15), .ref (mq 16), .ref (mq 17), .ref (mq 18), .ref (mq 19), .ref (mq 20), .ref (mq 21), .ref (mq 22), .int (nI (d + 1))])), ((mq 17), .inl (cJ, 2560, .inr (.inl (vp_updL (lp pt (320 * d + 4 * e) (jm (fun j => pt (a + j)) (fun j => pt (b + j))) 1) ((320 * d + 4 * e) + 1) v45))))] := hD
  rw [lp_s (s := (jm (fun j => pt (a + j)) (fun j => pt (b + j)))) (by rw [e45, e29, e20, e28, e44, e37, e43]; rfl)] at hP hD
  have hP : va_P D vwCl [(mo, .inr (6, [.ref (mq 0), .ref (mq 1), .ref (mq 2), .ref (mq 3), .int (nI n), .ref (mq 5), .ref (mq 6), .int (nI F), .ref (mq 8), .ref (mq 9), .ref (mq 10), .ref (mq 11), .ref (mq 12), .ref (mq 13), .ref (mq 14), .ref (mq 15), .ref (mq 16), .ref (mq 17), .ref (mq 18), .ref (mq 19), .ref (mq 20), .ref (mq 21), .ref (mq 22), .int (nI (d + 1))])), ((mq 17), .inl (cJ, 2560, .inr (.inl (lp pt (320 * d + 4 * e) (jm (fun j => pt (a + j)) (fun j => pt (b + j))) 2))))] H := hP
  have hD : va_D A [(mo, .inr (6, [.ref (mq 0), .ref (mq 1), .ref (mq 2), .ref (mq 3), .int (nI n), .ref (mq 5), .ref (mq 6), .int (nI F), .ref (mq 8), .ref (mq 9), .ref (mq 10), .ref (mq 11), .ref (mq 12), .ref (mq 13), .ref (mq 14), .ref (mq 15), .ref (mq 16), .ref (mq 17), .ref (mq 18), .ref (mq 19), .ref (mq 20), .ref (mq 21), .ref (mq 22), .int (nI (d + 1))])), ((mq 17), .inl (cJ, 2560, .inr (.inl (lp pt (320 * d + 4 * e) (jm (fun j => pt (a + j)) (fun j => pt (b + j))) 2))))] := hD
  refine lv_aload_n hx hb dM_multiply_177 rfl (lv_at hl 5 rfl) ?_
  refine va_get (D := D) (ci := 6) (v := .ref (mq 17)) (C := R_M) (T := F_M) (N := 24) hx hb ht i_M hown hK hP 0 rfl rfl 17 (by decide) (ht _ m_471) (fun _ h9 => h9) rfl dM_multiply_178 ?_
  refine lv_iload hx hb dM_multiply_181 (lv_at hl 0 rfl) ?_
  refine lv_iconst (v := 2) hx hb dM_multiply_183 (by decide) ?_
  refine lv_iadd hx hb dM_multiply_184 ?_
  refine lv_topi (fun v184 e184 => ?_)
  have n184 : v184 = nI ((320 * d + 4 * e) + 2) := by rw [e184]; exact gx_add (rfl : (nI (320 * d + 4 * e)) = (nI (320 * d + 4 * e))) (rfl : (2 : Int32) = nI 2)
  subst n184
  refine lv_lload hx hb dM_multiply_185 (lv_at hl 2 rfl) ?_
  have i187 : vp_in (nI ((320 * d + 4 * e) + 2)) 2560 := gx_in (rfl : (nI ((320 * d + 4 * e) + 2)) = (nI ((320 * d + 4 * e) + 2))) (by omega) (by decide)
  have k187 : ((nI ((320 * d + 4 * e) + 2)) : Int32).toNatClampNeg = ((320 * d + 4 * e) + 2) := gx_cl (rfl : (nI ((320 * d + 4 * e) + 2)) = (nI ((320 * d + 4 * e) + 2))) (by omega)
  refine va_last hx hb hK hP hD hS 1 1 rfl rfl i187 dM_multiply_187 (fun H locs hP hD hS => ?_)
  rw [k187] at hP hD
  have hP : va_P D vwCl [(mo, .inr (6, [.ref (mq 0), .ref (mq 1), .ref (mq 2), .ref (mq 3), .int (nI n), .ref (mq 5), .ref (mq 6), .int (nI F), .ref (mq 8), .ref (mq 9), .ref (mq 10), .ref (mq 11), .ref (mq 12), .ref (mq 13), .ref (mq 14), .ref (mq 15), .ref (mq 16), .ref (mq 17), .ref (mq 18), .ref (mq 19), .ref (mq 20), .ref (mq 21), .ref (mq 22), .int (nI (d + 1))])), ((mq 17), .inl (cJ, 2560, .inr (.inl (vp_updL (lp pt (320 * d + 4 * e) (jm (fun j => pt (a + j)) (fun j => pt (b + j))) 2) ((320 * d + 4 * e) + 2) v78))))] H := hP
  have hD : va_D A [(mo, .inr (6, [.ref (mq 0), .ref (mq 1), .ref (mq 2), .ref (mq 3), .int (nI n), .ref (mq 5), .ref (mq 6), .int (nI F), .ref (mq 8), .ref (mq 9), .ref (mq 10), .ref (mq 11), .ref (mq 12), .ref (mq 13), .ref (mq 14), .ref (mq 15), .ref (mq 16), .ref (mq 17), .ref (mq 18), .ref (mq 19), .ref (mq 20), .ref (mq 21), .ref (mq 22), .int (nI (d + 1))])), ((mq 17), .inl (cJ, 2560, .inr (.inl (vp_updL (lp pt (320 * d + 4 * e) (jm (fun j => pt (a + j)) (fun j => pt (b + j))) 2) ((320 * d + 4 * e) + 2) v78))))] := hD
  rw [lp_s (s := (jm (fun j => pt (a + j)) (fun j => pt (b + j)))) (by rw [e78, e62, e53, e61, e77, e70, e76]; rfl)] at hP hD
  have hP : va_P D vwCl [(mo, .inr (6, [.ref (mq 0), .ref (mq 1), .ref (mq 2), .ref (mq 3), .int (nI n), .ref (mq 5), .ref (mq 6), .int (nI F), .ref (mq 8), .ref (mq 9), .ref (mq 10), .ref (mq 11), .ref (mq 12), .ref (mq 13), .ref (mq 14), .ref (mq 15), .ref (mq 16), .ref (mq 17), .ref (mq 18), .ref (mq 19), .ref (mq 20), .ref (mq 21), .ref (mq 22), .int (nI (d + 1))])), ((mq 17), .inl (cJ, 2560, .inr (.inl (lp pt (320 * d + 4 * e) (jm (fun j => pt (a + j)) (fun j => pt (b + j))) 3))))] H := hP
  have hD : va_D A [(mo, .inr (6, [.ref (mq 0), .ref (mq 1), .ref (mq 2), .ref (mq 3), .int (nI n), .ref (mq 5), .ref (mq 6), .int (nI F), .ref (mq 8), .ref (mq 9), .ref (mq 10), .ref (mq 11), .ref (mq 12), .ref (mq 13), .ref (mq 14), .ref (mq 15), .ref (mq 16), .ref (mq 17), .ref (mq 18), .ref (mq 19), .ref (mq 20), .ref (mq 21), .ref (mq 22), .int (nI (d + 1))])), ((mq 17), .inl (cJ, 2560, .inr (.inl (lp pt (320 * d + 4 * e) (jm (fun j => pt (a + j)) (fun j => pt (b + j))) 3))))] := hD
  refine lv_aload_n hx hb dM_multiply_188 rfl (lv_at hl 5 rfl) ?_
  refine va_get (D := D) (ci := 6) (v := .ref (mq 17)) (C := R_M) (T := F_M) (N := 24) hx hb ht i_M hown hK hP 0 rfl rfl 17 (by decide) (ht _ m_471) (fun _ h9 => h9) rfl dM_multiply_189 ?_
  refine lv_iload hx hb dM_multiply_192 (lv_at hl 0 rfl) ?_
  refine lv_iconst (v := 3) hx hb dM_multiply_194 (by decide) ?_
  refine lv_iadd hx hb dM_multiply_195 ?_
  refine lv_topi (fun v195 e195 => ?_)
  have n195 : v195 = nI ((320 * d + 4 * e) + 3) := by rw [e195]; exact gx_add (rfl : (nI (320 * d + 4 * e)) = (nI (320 * d + 4 * e))) (rfl : (3 : Int32) = nI 3)
  subst n195
  refine lv_lload hx hb dM_multiply_196 (lv_at hl 1 rfl) ?_
  have i198 : vp_in (nI ((320 * d + 4 * e) + 3)) 2560 := gx_in (rfl : (nI ((320 * d + 4 * e) + 3)) = (nI ((320 * d + 4 * e) + 3))) (by omega) (by decide)
  have k198 : ((nI ((320 * d + 4 * e) + 3)) : Int32).toNatClampNeg = ((320 * d + 4 * e) + 3) := gx_cl (rfl : (nI ((320 * d + 4 * e) + 3)) = (nI ((320 * d + 4 * e) + 3))) (by omega)
  refine va_last hx hb hK hP hD hS 1 1 rfl rfl i198 dM_multiply_198 (fun H locs hP hD hS => ?_)
  rw [k198] at hP hD
  have hP : va_P D vwCl [(mo, .inr (6, [.ref (mq 0), .ref (mq 1), .ref (mq 2), .ref (mq 3), .int (nI n), .ref (mq 5), .ref (mq 6), .int (nI F), .ref (mq 8), .ref (mq 9), .ref (mq 10), .ref (mq 11), .ref (mq 12), .ref (mq 13), .ref (mq 14), .ref (mq 15), .ref (mq 16), .ref (mq 17), .ref (mq 18), .ref (mq 19), .ref (mq 20), .ref (mq 21), .ref (mq 22), .int (nI (d + 1))])), ((mq 17), .inl (cJ, 2560, .inr (.inl (vp_updL (lp pt (320 * d + 4 * e) (jm (fun j => pt (a + j)) (fun j => pt (b + j))) 3) ((320 * d + 4 * e) + 3) v147))))] H := hP
  have hD : va_D A [(mo, .inr (6, [.ref (mq 0), .ref (mq 1), .ref (mq 2), .ref (mq 3), .int (nI n), .ref (mq 5), .ref (mq 6), .int (nI F), .ref (mq 8), .ref (mq 9), .ref (mq 10), .ref (mq 11), .ref (mq 12), .ref (mq 13), .ref (mq 14), .ref (mq 15), .ref (mq 16), .ref (mq 17), .ref (mq 18), .ref (mq 19), .ref (mq 20), .ref (mq 21), .ref (mq 22), .int (nI (d + 1))])), ((mq 17), .inl (cJ, 2560, .inr (.inl (vp_updL (lp pt (320 * d + 4 * e) (jm (fun j => pt (a + j)) (fun j => pt (b + j))) 3) ((320 * d + 4 * e) + 3) v147))))] := hD
  rw [lp_s (s := (jm (fun j => pt (a + j)) (fun j => pt (b + j)))) (by rw [e147, e131, e113, e95, e86, e94, e112, e103, e111, e130, e121, e129, e146, e139, e145]; rfl)] at hP hD
  have hP : va_P D vwCl [(mo, .inr (6, [.ref (mq 0), .ref (mq 1), .ref (mq 2), .ref (mq 3), .int (nI n), .ref (mq 5), .ref (mq 6), .int (nI F), .ref (mq 8), .ref (mq 9), .ref (mq 10), .ref (mq 11), .ref (mq 12), .ref (mq 13), .ref (mq 14), .ref (mq 15), .ref (mq 16), .ref (mq 17), .ref (mq 18), .ref (mq 19), .ref (mq 20), .ref (mq 21), .ref (mq 22), .int (nI (d + 1))])), ((mq 17), .inl (cJ, 2560, .inr (.inl (lp pt (320 * d + 4 * e) (jm (fun j => pt (a + j)) (fun j => pt (b + j))) 4))))] H := hP
  have hD : va_D A [(mo, .inr (6, [.ref (mq 0), .ref (mq 1), .ref (mq 2), .ref (mq 3), .int (nI n), .ref (mq 5), .ref (mq 6), .int (nI F), .ref (mq 8), .ref (mq 9), .ref (mq 10), .ref (mq 11), .ref (mq 12), .ref (mq 13), .ref (mq 14), .ref (mq 15), .ref (mq 16), .ref (mq 17), .ref (mq 18), .ref (mq 19), .ref (mq 20), .ref (mq 21), .ref (mq 22), .int (nI (d + 1))])), ((mq 17), .inl (cJ, 2560, .inr (.inl (lp pt (320 * d + 4 * e) (jm (fun j => pt (a + j)) (fun j => pt (b + j))) 4))))] := hD
  exact W.vret hx hb hr (fun t9 ht9 hW => ⟨⟨_, rfl, rfl, by rw [ht9]; exact hP, hD⟩, hS.F ht9⟩) hS.2.2 dM_multiply_199

set_option maxHeartbeats 4000000 in
set_option maxRecDepth 100000 in
theorem c_M_constant (l : Launch) (D : va_G) (cI cJ cB cZ : ClassId) (mo : Nat) (mq : Nat → Nat) (n F d : Nat) (pt : Nat → Int64) (e : Nat) (y : Int64) (hd : d < 8) (he : e < 80) : ct_V l y_M_constant w_M_constant ({ frames := 1, cells := 0, slots := 0, locals := 21 }) D (gk_T cI cJ cB cZ) [.ref mo, .int (nI e), .long y] [(mo, .inr (6, [.ref (mq 0), .ref (mq 1), .ref (mq 2), .ref (mq 3), .int (nI n), .ref (mq 5), .ref (mq 6), .int (nI F), .ref (mq 8), .ref (mq 9), .ref (mq 10), .ref (mq 11), .ref (mq 12), .ref (mq 13), .ref (mq 14), .ref (mq 15), .ref (mq 16), .ref (mq 17), .ref (mq 18), .ref (mq 19), .ref (mq 20), .ref (mq 21), .ref (mq 22), .int (nI (d + 1))])), ((mq 17), .inl (cJ, 2560, .inr (.inl pt)))] (0) (0) (fun w => w = [(mo, .inr (6, [.ref (mq 0), .ref (mq 1), .ref (mq 2), .ref (mq 3), .int (nI n), .ref (mq 5), .ref (mq 6), .int (nI F), .ref (mq 8), .ref (mq 9), .ref (mq 10), .ref (mq 11), .ref (mq 12), .ref (mq 13), .ref (mq 14), .ref (mq 15), .ref (mq 16), .ref (mq 17), .ref (mq 18), .ref (mq 19), .ref (mq 20), .ref (mq 21), .ref (mq 22), .int (nI (d + 1))])), ((mq 17), .inl (cJ, 2560, .inr (.inl (lp pt (320 * d + 4 * e) (jc y) 4))))]) := by
  intro sz
  refine Met.ofW (cc := b_M_constant) (maxL := 5) (ret := none) (by decide) rfl ?_
  intro p ev9 s m args below meth c s₁ B9 hml hv
  obtain ⟨rfl, hsz, hP, hK, hN, hD0⟩ := hv
  have hx := B9.exec
  have hb := B9.bytes
  have hr := B9.returns
  have hts := atoms_spec (ws := w_M_constant) B9.pre
  have ht : ∀ w ∈ gk_big, w.before _ s = true := fun w h => hts w (List.mem_cons_of_mem _ h)
  have hown : s.vm.findClass R_M = some m.cls := findClass_of_methodNamed B9.named
  have hlocks := B9.notSynchronized
  subst hsz
  have hD := hD0.self (sz := s.heap.size)
  generalize hAe : va_A [(mo, .inr (6, [.ref (mq 0), .ref (mq 1), .ref (mq 2), .ref (mq 3), .int (nI n), .ref (mq 5), .ref (mq 6), .int (nI F), .ref (mq 8), .ref (mq 9), .ref (mq 10), .ref (mq 11), .ref (mq 12), .ref (mq 13), .ref (mq 14), .ref (mq 15), .ref (mq 16), .ref (mq 17), .ref (mq 18), .ref (mq 19), .ref (mq 20), .ref (mq 21), .ref (mq 22), .int (nI (d + 1))])), ((mq 17), .inl (cJ, 2560, .inr (.inl pt)))] s.heap.size = A at hD ⊢
  have hA : ∀ q : Nat, s.heap.size ≤ q → A q := fun q h => by rw [← hAe]; exact Or.inr h
  generalize hHe : s.heap = H at hP ⊢
  have hS : va_S A s.heap H [] := by rw [← hHe]; exact va_S.rf
  have hP : va_P D vwCl [(mo, .inr (6, [.ref (mq 0), .ref (mq 1), .ref (mq 2), .ref (mq 3), .int (nI n), .ref (mq 5), .ref (mq 6), .int (nI F), .ref (mq 8), .ref (mq 9), .ref (mq 10), .ref (mq 11), .ref (mq 12), .ref (mq 13), .ref (mq 14), .ref (mq 15), .ref (mq 16), .ref (mq 17), .ref (mq 18), .ref (mq 19), .ref (mq 20), .ref (mq 21), .ref (mq 22), .int (nI (d + 1))])), ((mq 17), .inl (cJ, 2560, .inr (.inl pt)))] H := hP
  have hD : va_D A [(mo, .inr (6, [.ref (mq 0), .ref (mq 1), .ref (mq 2), .ref (mq 3), .int (nI n), .ref (mq 5), .ref (mq 6), .int (nI F), .ref (mq 8), .ref (mq 9), .ref (mq 10), .ref (mq 11), .ref (mq 12), .ref (mq 13), .ref (mq 14), .ref (mq 15), .ref (mq 16), .ref (mq 17), .ref (mq 18), .ref (mq 19), .ref (mq 20), .ref (mq 21), .ref (mq 22), .int (nI (d + 1))])), ((mq 17), .inl (cJ, 2560, .inr (.inl pt)))] := hD
  have hl := lv_entry ([.ref mo, .int (nI e), .long y]) (n := 5) (Nat.le_of_ble_eq_true rfl)
  rw [lg_entry_eq]
  generalize (lg_sl ([.ref mo, .int (nI e), .long y]) ++ List.replicate (5 - (lg_sl ([.ref mo, .int (nI e), .long y])).length) Slot.unset).toArray = ls at hl ⊢
  have hl : lv_has ls 5 [(0, .ref mo), (1, .int (nI e)), (2, .long y)] := hl
  refine lv_aload_n hx hb dM_constant_0 rfl (lv_at hl 0 rfl) ?_
  refine va_get (D := D) (ci := 6) (v := .ref (mq 17)) (C := R_M) (T := F_M) (N := 24) hx hb ht i_M hown hK hP 0 rfl rfl 17 (by decide) (ht _ m_471) (fun _ h9 => h9) rfl dM_constant_1 ?_
  refine lv_aload_n hx hb dM_constant_4 rfl (lv_at hl 0 rfl) ?_
  refine lv_iload_n hx hb dM_constant_5 rfl (lv_at hl 1 rfl) ?_
  refine gc_i (va_runV (As := [.int (nI e)]) (rest := [.ref (mq 17)]) ⟨hx, hb, hml, hown, ht⟩ (c_M_base l D cI cJ cB cZ mo mq n F (d + 1) e (by omega) H.size) (cwV 1 ht (gw_V m_637 m_639 ms_35 m_6 m_640) rfl rfl rfl (by decide +kernel) ⟨Nat.le_of_ble_eq_true rfl, Nat.le_of_ble_eq_true rfl⟩) (gp_V (ci := 6) (q0 := 0) hK hN (hP.sub (ws' := [(mo, .inr (6, [.ref (mq 0), .ref (mq 1), .ref (mq 2), .ref (mq 3), .int (nI n), .ref (mq 5), .ref (mq 6), .int (nI F), .ref (mq 8), .ref (mq 9), .ref (mq 10), .ref (mq 11), .ref (mq 12), .ref (mq 13), .ref (mq 14), .ref (mq 15), .ref (mq 16), .ref (mq 17), .ref (mq 18), .ref (mq 19), .ref (mq 20), .ref (mq 21), .ref (mq 22), .int (nI (d + 1))]))]) [0] rfl) (hD.sub (ws' := [(mo, .inr (6, [.ref (mq 0), .ref (mq 1), .ref (mq 2), .ref (mq 3), .int (nI n), .ref (mq 5), .ref (mq 6), .int (nI F), .ref (mq 8), .ref (mq 9), .ref (mq 10), .ref (mq 11), .ref (mq 12), .ref (mq 13), .ref (mq 14), .ref (mq 15), .ref (mq 16), .ref (mq 17), .ref (mq 18), .ref (mq 19), .ref (mq 20), .ref (mq 21), .ref (mq 22), .int (nI (d + 1))]))]) [0] (by decide) rfl) rfl rfl) rfl rfl hl.1 rfl (lv_room (Nat.le_of_ble_eq_true rfl)) dM_constant_6 ⟨Nat.le_of_ble_eq_true rfl, Nat.le_of_ble_eq_true rfl⟩) hP hD hS hA [0] rfl (by decide) (fun r w h => by obtain ⟨_, rfl⟩ := h; rfl) (fun r6 w6 H locs p6 hP hD hS => ?_)
  obtain ⟨h6x, rfl⟩ := p6
  have h6y : r6 = nI (320 * d + 4 * e) := h6x
  subst h6y
  have hP : va_P D vwCl [(mo, .inr (6, [.ref (mq 0), .ref (mq 1), .ref (mq 2), .ref (mq 3), .int (nI n), .ref (mq 5), .ref (mq 6), .int (nI F), .ref (mq 8), .ref (mq 9), .ref (mq 10), .ref (mq 11), .ref (mq 12), .ref (mq 13), .ref (mq 14), .ref (mq 15), .ref (mq 16), .ref (mq 17), .ref (mq 18), .ref (mq 19), .ref (mq 20), .ref (mq 21), .ref (mq 22), .int (nI (d + 1))])), ((mq 17), .inl (cJ, 2560, .inr (.inl pt)))] H := hP
  have hD : va_D A [(mo, .inr (6, [.ref (mq 0), .ref (mq 1), .ref (mq 2), .ref (mq 3), .int (nI n), .ref (mq 5), .ref (mq 6), .int (nI F), .ref (mq 8), .ref (mq 9), .ref (mq 10), .ref (mq 11), .ref (mq 12), .ref (mq 13), .ref (mq 14), .ref (mq 15), .ref (mq 16), .ref (mq 17), .ref (mq 18), .ref (mq 19), .ref (mq 20), .ref (mq 21), .ref (mq 22), .int (nI (d + 1))])), ((mq 17), .inl (cJ, 2560, .inr (.inl pt)))] := hD
  refine lv_lload_n hx hb dM_constant_9 rfl (lv_at hl 2 rfl) ?_
  have i10 : vp_in (nI (320 * d + 4 * e)) 2560 := gx_in (rfl : (nI (320 * d + 4 * e)) = (nI (320 * d + 4 * e))) (by omega) (by decide)
  have k10 : ((nI (320 * d + 4 * e)) : Int32).toNatClampNeg = (320 * d + 4 * e) := gx_cl (rfl : (nI (320 * d + 4 * e)) = (nI (320 * d + 4 * e))) (by omega)
  refine va_last hx hb hK hP hD hS 1 1 rfl rfl i10 dM_constant_10 (fun H locs hP hD hS => ?_)
  rw [k10] at hP hD
  have hP : va_P D vwCl [(mo, .inr (6, [.ref (mq 0), .ref (mq 1), .ref (mq 2), .ref (mq 3), .int (nI n), .ref (mq 5), .ref (mq 6), .int (nI F), .ref (mq 8), .ref (mq 9), .ref (mq 10), .ref (mq 11), .ref (mq 12), .ref (mq 13), .ref (mq 14), .ref (mq 15), .ref (mq 16), .ref (mq 17), .ref (mq 18), .ref (mq 19), .ref (mq 20), .ref (mq 21), .ref (mq 22), .int (nI (d + 1))])), ((mq 17), .inl (cJ, 2560, .inr (.inl (vp_updL pt (320 * d + 4 * e) y))))] H := hP
  have hD : va_D A [(mo, .inr (6, [.ref (mq 0), .ref (mq 1), .ref (mq 2), .ref (mq 3), .int (nI n), .ref (mq 5), .ref (mq 6), .int (nI F), .ref (mq 8), .ref (mq 9), .ref (mq 10), .ref (mq 11), .ref (mq 12), .ref (mq 13), .ref (mq 14), .ref (mq 15), .ref (mq 16), .ref (mq 17), .ref (mq 18), .ref (mq 19), .ref (mq 20), .ref (mq 21), .ref (mq 22), .int (nI (d + 1))])), ((mq 17), .inl (cJ, 2560, .inr (.inl (vp_updL pt (320 * d + 4 * e) y))))] := hD
  rw [lp_1 (s := (jc y)) (x := y) rfl] at hP hD
  have hP : va_P D vwCl [(mo, .inr (6, [.ref (mq 0), .ref (mq 1), .ref (mq 2), .ref (mq 3), .int (nI n), .ref (mq 5), .ref (mq 6), .int (nI F), .ref (mq 8), .ref (mq 9), .ref (mq 10), .ref (mq 11), .ref (mq 12), .ref (mq 13), .ref (mq 14), .ref (mq 15), .ref (mq 16), .ref (mq 17), .ref (mq 18), .ref (mq 19), .ref (mq 20), .ref (mq 21), .ref (mq 22), .int (nI (d + 1))])), ((mq 17), .inl (cJ, 2560, .inr (.inl (lp pt (320 * d + 4 * e) (jc y) 1))))] H := hP
  have hD : va_D A [(mo, .inr (6, [.ref (mq 0), .ref (mq 1), .ref (mq 2), .ref (mq 3), .int (nI n), .ref (mq 5), .ref (mq 6), .int (nI F), .ref (mq 8), .ref (mq 9), .ref (mq 10), .ref (mq 11), .ref (mq 12), .ref (mq 13), .ref (mq 14), .ref (mq 15), .ref (mq 16), .ref (mq 17), .ref (mq 18), .ref (mq 19), .ref (mq 20), .ref (mq 21), .ref (mq 22), .int (nI (d + 1))])), ((mq 17), .inl (cJ, 2560, .inr (.inl (lp pt (320 * d + 4 * e) (jc y) 1))))] := hD
  refine lv_iconst (v := 1) hx hb dM_constant_11 (by decide) ?_
  refine lv_istore (lv' := [(4, .int 1), (0, .ref mo), (1, .int (nI e)), (2, .long y)]) hx hb dM_constant_12 hl (by decide) rfl (fun ls hl => ?_)
  have lp14 : ∀ (n14 : Nat) (k : Nat), 4 - k + 1 ≤ n14 → (k ≤ 4) → (1 ≤ k) → ∀ (H : Heap) (locs : List Loc) (ls : Array Slot), va_P D vwCl [(mo, .inr (6, [.ref (mq 0), .ref (mq 1), .ref (mq 2), .ref (mq 3), .int (nI n), .ref (mq 5), .ref (mq 6), .int (nI F), .ref (mq 8), .ref (mq 9), .ref (mq 10), .ref (mq 11), .ref (mq 12), .ref (mq 13), .ref (mq 14), .ref (mq 15), .ref (mq 16), .ref (mq 17), .ref (mq 18), .ref (mq 19), .ref (mq 20), .ref (mq 21), .ref (mq 22), .int (nI (d + 1))])), ((mq 17), .inl (cJ, 2560, .inr (.inl (lp pt (320 * d + 4 * e) (jc y) k))))] H → va_D A [(mo, .inr (6, [.ref (mq 0), .ref (mq 1), .ref (mq 2), .ref (mq 3), .int (nI n), .ref (mq 5), .ref (mq 6), .int (nI F), .ref (mq 8), .ref (mq 9), .ref (mq 10), .ref (mq 11), .ref (mq 12), .ref (mq 13), .ref (mq 14), .ref (mq 15), .ref (mq 16), .ref (mq 17), .ref (mq 18), .ref (mq 19), .ref (mq 20), .ref (mq 21), .ref (mq 22), .int (nI (d + 1))])), ((mq 17), .inl (cJ, 2560, .inr (.inl (lp pt (320 * d + 4 * e) (jc y) k))))] → va_S A s.heap H locs → lv_has ls 5 [(4, .int (nI k)), (0, .ref mo), (1, .int (nI e)), (2, .long y)] → W p l ev9 (headSpec w_M_constant ({ frames := 1, cells := 0, slots := 0, locals := 21 })).room s m ([.ref mo, .int (nI e), .long y] : List Value).toArray below meth c H locs 0 0 (MQ below (gq_V D A (fun w => w = [(mo, .inr (6, [.ref (mq 0), .ref (mq 1), .ref (mq 2), .ref (mq 3), .int (nI n), .ref (mq 5), .ref (mq 6), .int (nI F), .ref (mq 8), .ref (mq 9), .ref (mq 10), .ref (mq 11), .ref (mq 12), .ref (mq 13), .ref (mq 14), .ref (mq 15), .ref (mq 16), .ref (mq 17), .ref (mq 18), .ref (mq 19), .ref (mq 20), .ref (mq 21), .ref (mq 22), .int (nI (d + 1))])), ((mq 17), .inl (cJ, 2560, .inr (.inl (lp pt (320 * d + 4 * e) (jc y) 4))))])) ([.ref mo, .int (nI e), .long y] : List Value).toArray s (0) (0) A) (F0 m 14 ls []) := by
    intro n14
    induction n14 with
    | zero =>
      intro k hm14
      exact absurd hm14 (by omega)
    | succ n14 ih14 =>
      intro k hm14 hk hk0 H locs ls hP hD hS hl
      refine lv_iload hx hb dM_constant_14 (lv_at hl 0 rfl) ?_
      refine lv_iconst (v := 4) hx hb dM_constant_16 (by decide) ?_
      refine lv_icmp_ge (tgt := 40) hx hb dM_constant_17 (by decide) (fun c17 => ?_) (fun c17 => ?_)
      · have g17 : 4 ≤ k := (gx_le (rfl : (4 : Int32) = nI 4) (rfl : (nI k) = (nI k)) (by decide) (by omega)).mp c17
        exact W.vret hx hb hr (fun t9 ht9 hW => ⟨⟨_, rfl, by rw [show k = 4 by omega], by rw [ht9]; exact hP, hD⟩, hS.F ht9⟩) hS.2.2 dM_constant_40
      · have g17 : ¬ (4 ≤ k) := fun z => c17 ((gx_le (rfl : (4 : Int32) = nI 4) (rfl : (nI k) = (nI k)) (by decide) (by omega)).mpr z)
        refine lv_aload_n hx hb dM_constant_20 rfl (lv_at hl 1 rfl) ?_
        refine va_get (D := D) (ci := 6) (v := .ref (mq 17)) (C := R_M) (T := F_M) (N := 24) hx hb ht i_M hown hK hP 0 rfl rfl 17 (by decide) (ht _ m_471) (fun _ h9 => h9) rfl dM_constant_21 ?_
        refine lv_aload_n hx hb dM_constant_24 rfl (lv_at hl 1 rfl) ?_
        refine lv_iload_n hx hb dM_constant_25 rfl (lv_at hl 2 rfl) ?_
        refine gc_i (va_runV (As := [.int (nI e)]) (rest := [.ref (mq 17)]) ⟨hx, hb, hml, hown, ht⟩ (c_M_base l D cI cJ cB cZ mo mq n F (d + 1) e (by omega) H.size) (cwV 1 ht (gw_V m_637 m_639 ms_35 m_6 m_640) rfl rfl rfl (by decide +kernel) ⟨Nat.le_of_ble_eq_true rfl, Nat.le_of_ble_eq_true rfl⟩) (gp_V (ci := 6) (q0 := 0) hK hN (hP.sub (ws' := [(mo, .inr (6, [.ref (mq 0), .ref (mq 1), .ref (mq 2), .ref (mq 3), .int (nI n), .ref (mq 5), .ref (mq 6), .int (nI F), .ref (mq 8), .ref (mq 9), .ref (mq 10), .ref (mq 11), .ref (mq 12), .ref (mq 13), .ref (mq 14), .ref (mq 15), .ref (mq 16), .ref (mq 17), .ref (mq 18), .ref (mq 19), .ref (mq 20), .ref (mq 21), .ref (mq 22), .int (nI (d + 1))]))]) [0] rfl) (hD.sub (ws' := [(mo, .inr (6, [.ref (mq 0), .ref (mq 1), .ref (mq 2), .ref (mq 3), .int (nI n), .ref (mq 5), .ref (mq 6), .int (nI F), .ref (mq 8), .ref (mq 9), .ref (mq 10), .ref (mq 11), .ref (mq 12), .ref (mq 13), .ref (mq 14), .ref (mq 15), .ref (mq 16), .ref (mq 17), .ref (mq 18), .ref (mq 19), .ref (mq 20), .ref (mq 21), .ref (mq 22), .int (nI (d + 1))]))]) [0] (by decide) rfl) rfl rfl) rfl rfl hl.1 rfl (lv_room (Nat.le_of_ble_eq_true rfl)) dM_constant_26 ⟨Nat.le_of_ble_eq_true rfl, Nat.le_of_ble_eq_true rfl⟩) hP hD hS hA [0] rfl (by decide) (fun r w h => by obtain ⟨_, rfl⟩ := h; rfl) (fun r26 w26 H locs p26 hP hD hS => ?_)
        obtain ⟨h26x, rfl⟩ := p26
        have h26y : r26 = nI (320 * d + 4 * e) := h26x
        subst h26y
        have hP : va_P D vwCl [(mo, .inr (6, [.ref (mq 0), .ref (mq 1), .ref (mq 2), .ref (mq 3), .int (nI n), .ref (mq 5), .ref (mq 6), .int (nI F), .ref (mq 8), .ref (mq 9), .ref (mq 10), .ref (mq 11), .ref (mq 12), .ref (mq 13), .ref (mq 14), .ref (mq 15), .ref (mq 16), .ref (mq 17), .ref (mq 18), .ref (mq 19), .ref (mq 20), .ref (mq 21), .ref (mq 22), .int (nI (d + 1))])), ((mq 17), .inl (cJ, 2560, .inr (.inl (lp pt (320 * d + 4 * e) (jc y) k))))] H := hP
        have hD : va_D A [(mo, .inr (6, [.ref (mq 0), .ref (mq 1), .ref (mq 2), .ref (mq 3), .int (nI n), .ref (mq 5), .ref (mq 6), .int (nI F), .ref (mq 8), .ref (mq 9), .ref (mq 10), .ref (mq 11), .ref (mq 12), .ref (mq 13), .ref (mq 14), .ref (mq 15), .ref (mq 16), .ref (mq 17), .ref (mq 18), .ref (mq 19), .ref (mq 20), .ref (mq 21), .ref (mq 22), .int (nI (d + 1))])), ((mq 17), .inl (cJ, 2560, .inr (.inl (lp pt (320 * d + 4 * e) (jc y) k))))] := hD
        refine lv_iload hx hb dM_constant_29 (lv_at hl 0 rfl) ?_
        refine lv_iadd hx hb dM_constant_31 ?_
        refine lv_topi (fun v31 e31 => ?_)
        have n31 : v31 = nI ((320 * d + 4 * e) + k) := by rw [e31]; exact gx_add (rfl : (nI (320 * d + 4 * e)) = (nI (320 * d + 4 * e))) (rfl : (nI k) = (nI k))
        subst n31
        refine lv_lconst (v := 0) hx hb dM_constant_32 (by decide) ?_
        have i33 : vp_in (nI ((320 * d + 4 * e) + k)) 2560 := gx_in (rfl : (nI ((320 * d + 4 * e) + k)) = (nI ((320 * d + 4 * e) + k))) (by omega) (by decide)
        have k33 : ((nI ((320 * d + 4 * e) + k)) : Int32).toNatClampNeg = ((320 * d + 4 * e) + k) := gx_cl (rfl : (nI ((320 * d + 4 * e) + k)) = (nI ((320 * d + 4 * e) + k))) (by omega)
        refine va_last hx hb hK hP hD hS 1 1 rfl rfl i33 dM_constant_33 (fun H locs hP hD hS => ?_)
        rw [k33] at hP hD
        have hP : va_P D vwCl [(mo, .inr (6, [.ref (mq 0), .ref (mq 1), .ref (mq 2), .ref (mq 3), .int (nI n), .ref (mq 5), .ref (mq 6), .int (nI F), .ref (mq 8), .ref (mq 9), .ref (mq 10), .ref (mq 11), .ref (mq 12), .ref (mq 13), .ref (mq 14), .ref (mq 15), .ref (mq 16), .ref (mq 17), .ref (mq 18), .ref (mq 19), .ref (mq 20), .ref (mq 21), .ref (mq 22), .int (nI (d + 1))])), ((mq 17), .inl (cJ, 2560, .inr (.inl (vp_updL (lp pt (320 * d + 4 * e) (jc y) k) ((320 * d + 4 * e) + k) 0))))] H := hP
        have hD : va_D A [(mo, .inr (6, [.ref (mq 0), .ref (mq 1), .ref (mq 2), .ref (mq 3), .int (nI n), .ref (mq 5), .ref (mq 6), .int (nI F), .ref (mq 8), .ref (mq 9), .ref (mq 10), .ref (mq 11), .ref (mq 12), .ref (mq 13), .ref (mq 14), .ref (mq 15), .ref (mq 16), .ref (mq 17), .ref (mq 18), .ref (mq 19), .ref (mq 20), .ref (mq 21), .ref (mq 22), .int (nI (d + 1))])), ((mq 17), .inl (cJ, 2560, .inr (.inl (vp_updL (lp pt (320 * d + 4 * e) (jc y) k) ((320 * d + 4 * e) + k) 0))))] := hD
        rw [lp_s (s := (jc y)) (by unfold jc; rw [if_neg (by omega)])] at hP hD
        have hP : va_P D vwCl [(mo, .inr (6, [.ref (mq 0), .ref (mq 1), .ref (mq 2), .ref (mq 3), .int (nI n), .ref (mq 5), .ref (mq 6), .int (nI F), .ref (mq 8), .ref (mq 9), .ref (mq 10), .ref (mq 11), .ref (mq 12), .ref (mq 13), .ref (mq 14), .ref (mq 15), .ref (mq 16), .ref (mq 17), .ref (mq 18), .ref (mq 19), .ref (mq 20), .ref (mq 21), .ref (mq 22), .int (nI (d + 1))])), ((mq 17), .inl (cJ, 2560, .inr (.inl (lp pt (320 * d + 4 * e) (jc y) (k + 1)))))] H := hP
        have hD : va_D A [(mo, .inr (6, [.ref (mq 0), .ref (mq 1), .ref (mq 2), .ref (mq 3), .int (nI n), .ref (mq 5), .ref (mq 6), .int (nI F), .ref (mq 8), .ref (mq 9), .ref (mq 10), .ref (mq 11), .ref (mq 12), .ref (mq 13), .ref (mq 14), .ref (mq 15), .ref (mq 16), .ref (mq 17), .ref (mq 18), .ref (mq 19), .ref (mq 20), .ref (mq 21), .ref (mq 22), .int (nI (d + 1))])), ((mq 17), .inl (cJ, 2560, .inr (.inl (lp pt (320 * d + 4 * e) (jc y) (k + 1)))))] := hD
        refine lv_iinc (v := (nI (k + 1))) (lv' := [(4, .int (nI (k + 1))), (0, .ref mo), (1, .int (nI e)), (2, .long y)]) hx hb dM_constant_34 hl (k := 0) rfl (gx_inc (rfl : (nI k) = (nI k))) (by decide) rfl (fun ls hl => ?_)
        refine lv_goto (tgt := 14) hx hb dM_constant_37 (by decide) ?_
        exact ih14 (k + 1) (by omega) (by omega) (by omega) _ _ _ hP hD hS (lv_sub hl [0, 1, 2, 3] rfl)
  exact lp14 (4 - (1) + 1) 1 (by omega) (by omega) (by omega) _ _ _ hP hD hS (lv_sub hl [0, 1, 2, 3] rfl)

set_option maxHeartbeats 4000000 in
set_option maxRecDepth 100000 in
theorem c_M_store (l : Launch) (D : va_G) (cI cJ cB cZ : ClassId) (mo : Nat) (mq : Nat → Nat) (n F d : Nat) (pt ce : Nat → Int64) (t e : Nat) (hd : d < 8) (he : e < 80) (ht14 : t < 14) : ct_V l y_M_store w_M_store ({ frames := 1, cells := 0, slots := 0, locals := 21 }) D (gk_T cI cJ cB cZ) [.ref mo, .int (nI t), .int (nI e)] [(mo, .inr (6, [.ref (mq 0), .ref (mq 1), .ref (mq 2), .ref (mq 3), .int (nI n), .ref (mq 5), .ref (mq 6), .int (nI F), .ref (mq 8), .ref (mq 9), .ref (mq 10), .ref (mq 11), .ref (mq 12), .ref (mq 13), .ref (mq 14), .ref (mq 15), .ref (mq 16), .ref (mq 17), .ref (mq 18), .ref (mq 19), .ref (mq 20), .ref (mq 21), .ref (mq 22), .int (nI (d + 1))])), ((mq 16), .inl (cJ, 448, .inr (.inl ce))), ((mq 17), .inl (cJ, 2560, .inr (.inl pt)))] (0) (0) (fun w => w = [(mo, .inr (6, [.ref (mq 0), .ref (mq 1), .ref (mq 2), .ref (mq 3), .int (nI n), .ref (mq 5), .ref (mq 6), .int (nI F), .ref (mq 8), .ref (mq 9), .ref (mq 10), .ref (mq 11), .ref (mq 12), .ref (mq 13), .ref (mq 14), .ref (mq 15), .ref (mq 16), .ref (mq 17), .ref (mq 18), .ref (mq 19), .ref (mq 20), .ref (mq 21), .ref (mq 22), .int (nI (d + 1))])), ((mq 16), .inl (cJ, 448, .inr (.inl (lp ce (56 * d + 4 * t) (fun j => pt (320 * d + 4 * e + j)) 4)))), ((mq 17), .inl (cJ, 2560, .inr (.inl pt)))]) := by
  intro sz
  refine Met.ofW (cc := b_M_store) (maxL := 4) (ret := none) (by decide) rfl ?_
  intro p ev9 s m args below meth c s₁ B9 hml hv
  obtain ⟨rfl, hsz, hP, hK, hN, hD0⟩ := hv
  have hx := B9.exec
  have hb := B9.bytes
  have hr := B9.returns
  have hts := atoms_spec (ws := w_M_store) B9.pre
  have ht : ∀ w ∈ gk_big, w.before _ s = true := fun w h => hts w (List.mem_cons_of_mem _ h)
  have hown : s.vm.findClass R_M = some m.cls := findClass_of_methodNamed B9.named
  have hlocks := B9.notSynchronized
  subst hsz
  have hD := hD0.self (sz := s.heap.size)
  generalize hAe : va_A [(mo, .inr (6, [.ref (mq 0), .ref (mq 1), .ref (mq 2), .ref (mq 3), .int (nI n), .ref (mq 5), .ref (mq 6), .int (nI F), .ref (mq 8), .ref (mq 9), .ref (mq 10), .ref (mq 11), .ref (mq 12), .ref (mq 13), .ref (mq 14), .ref (mq 15), .ref (mq 16), .ref (mq 17), .ref (mq 18), .ref (mq 19), .ref (mq 20), .ref (mq 21), .ref (mq 22), .int (nI (d + 1))])), ((mq 16), .inl (cJ, 448, .inr (.inl ce))), ((mq 17), .inl (cJ, 2560, .inr (.inl pt)))] s.heap.size = A at hD ⊢
  have hA : ∀ q : Nat, s.heap.size ≤ q → A q := fun q h => by rw [← hAe]; exact Or.inr h
  generalize hHe : s.heap = H at hP ⊢
  have hS : va_S A s.heap H [] := by rw [← hHe]; exact va_S.rf
  have hP : va_P D vwCl [(mo, .inr (6, [.ref (mq 0), .ref (mq 1), .ref (mq 2), .ref (mq 3), .int (nI n), .ref (mq 5), .ref (mq 6), .int (nI F), .ref (mq 8), .ref (mq 9), .ref (mq 10), .ref (mq 11), .ref (mq 12), .ref (mq 13), .ref (mq 14), .ref (mq 15), .ref (mq 16), .ref (mq 17), .ref (mq 18), .ref (mq 19), .ref (mq 20), .ref (mq 21), .ref (mq 22), .int (nI (d + 1))])), ((mq 16), .inl (cJ, 448, .inr (.inl ce))), ((mq 17), .inl (cJ, 2560, .inr (.inl pt)))] H := hP
  have hD : va_D A [(mo, .inr (6, [.ref (mq 0), .ref (mq 1), .ref (mq 2), .ref (mq 3), .int (nI n), .ref (mq 5), .ref (mq 6), .int (nI F), .ref (mq 8), .ref (mq 9), .ref (mq 10), .ref (mq 11), .ref (mq 12), .ref (mq 13), .ref (mq 14), .ref (mq 15), .ref (mq 16), .ref (mq 17), .ref (mq 18), .ref (mq 19), .ref (mq 20), .ref (mq 21), .ref (mq 22), .int (nI (d + 1))])), ((mq 16), .inl (cJ, 448, .inr (.inl ce))), ((mq 17), .inl (cJ, 2560, .inr (.inl pt)))] := hD
  have hl := lv_entry ([.ref mo, .int (nI t), .int (nI e)]) (n := 4) (Nat.le_of_ble_eq_true rfl)
  rw [lg_entry_eq]
  generalize (lg_sl ([.ref mo, .int (nI t), .int (nI e)]) ++ List.replicate (4 - (lg_sl ([.ref mo, .int (nI t), .int (nI e)])).length) Slot.unset).toArray = ls at hl ⊢
  have hl : lv_has ls 4 [(0, .ref mo), (1, .int (nI t)), (2, .int (nI e))] := hl
  refine lv_iconst (v := 0) hx hb dM_store_0 (by decide) ?_
  refine lv_istore_n (lv' := [(3, .int 0), (0, .ref mo), (1, .int (nI t)), (2, .int (nI e))]) hx hb dM_store_1 rfl hl (by decide) rfl (fun ls hl => ?_)
  rw [← lp_0 ce (56 * d + 4 * t) (fun j => pt (320 * d + 4 * e + j))] at hP hD
  have hP : va_P D vwCl [(mo, .inr (6, [.ref (mq 0), .ref (mq 1), .ref (mq 2), .ref (mq 3), .int (nI n), .ref (mq 5), .ref (mq 6), .int (nI F), .ref (mq 8), .ref (mq 9), .ref (mq 10), .ref (mq 11), .ref (mq 12), .ref (mq 13), .ref (mq 14), .ref (mq 15), .ref (mq 16), .ref (mq 17), .ref (mq 18), .ref (mq 19), .ref (mq 20), .ref (mq 21), .ref (mq 22), .int (nI (d + 1))])), ((mq 16), .inl (cJ, 448, .inr (.inl (lp ce (56 * d + 4 * t) (fun j => pt (320 * d + 4 * e + j)) 0)))), ((mq 17), .inl (cJ, 2560, .inr (.inl pt)))] H := hP
  have hD : va_D A [(mo, .inr (6, [.ref (mq 0), .ref (mq 1), .ref (mq 2), .ref (mq 3), .int (nI n), .ref (mq 5), .ref (mq 6), .int (nI F), .ref (mq 8), .ref (mq 9), .ref (mq 10), .ref (mq 11), .ref (mq 12), .ref (mq 13), .ref (mq 14), .ref (mq 15), .ref (mq 16), .ref (mq 17), .ref (mq 18), .ref (mq 19), .ref (mq 20), .ref (mq 21), .ref (mq 22), .int (nI (d + 1))])), ((mq 16), .inl (cJ, 448, .inr (.inl (lp ce (56 * d + 4 * t) (fun j => pt (320 * d + 4 * e + j)) 0)))), ((mq 17), .inl (cJ, 2560, .inr (.inl pt)))] := hD
  have lp2 : ∀ (n2 : Nat) (k : Nat), 4 - k + 1 ≤ n2 → (k ≤ 4) → (0 ≤ k) → ∀ (H : Heap) (locs : List Loc) (ls : Array Slot), va_P D vwCl [(mo, .inr (6, [.ref (mq 0), .ref (mq 1), .ref (mq 2), .ref (mq 3), .int (nI n), .ref (mq 5), .ref (mq 6), .int (nI F), .ref (mq 8), .ref (mq 9), .ref (mq 10), .ref (mq 11), .ref (mq 12), .ref (mq 13), .ref (mq 14), .ref (mq 15), .ref (mq 16), .ref (mq 17), .ref (mq 18), .ref (mq 19), .ref (mq 20), .ref (mq 21), .ref (mq 22), .int (nI (d + 1))])), ((mq 16), .inl (cJ, 448, .inr (.inl (lp ce (56 * d + 4 * t) (fun j => pt (320 * d + 4 * e + j)) k)))), ((mq 17), .inl (cJ, 2560, .inr (.inl pt)))] H → va_D A [(mo, .inr (6, [.ref (mq 0), .ref (mq 1), .ref (mq 2), .ref (mq 3), .int (nI n), .ref (mq 5), .ref (mq 6), .int (nI F), .ref (mq 8), .ref (mq 9), .ref (mq 10), .ref (mq 11), .ref (mq 12), .ref (mq 13), .ref (mq 14), .ref (mq 15), .ref (mq 16), .ref (mq 17), .ref (mq 18), .ref (mq 19), .ref (mq 20), .ref (mq 21), .ref (mq 22), .int (nI (d + 1))])), ((mq 16), .inl (cJ, 448, .inr (.inl (lp ce (56 * d + 4 * t) (fun j => pt (320 * d + 4 * e + j)) k)))), ((mq 17), .inl (cJ, 2560, .inr (.inl pt)))] → va_S A s.heap H locs → lv_has ls 4 [(3, .int (nI k)), (0, .ref mo), (1, .int (nI t)), (2, .int (nI e))] → W p l ev9 (headSpec w_M_store ({ frames := 1, cells := 0, slots := 0, locals := 21 })).room s m ([.ref mo, .int (nI t), .int (nI e)] : List Value).toArray below meth c H locs 0 0 (MQ below (gq_V D A (fun w => w = [(mo, .inr (6, [.ref (mq 0), .ref (mq 1), .ref (mq 2), .ref (mq 3), .int (nI n), .ref (mq 5), .ref (mq 6), .int (nI F), .ref (mq 8), .ref (mq 9), .ref (mq 10), .ref (mq 11), .ref (mq 12), .ref (mq 13), .ref (mq 14), .ref (mq 15), .ref (mq 16), .ref (mq 17), .ref (mq 18), .ref (mq 19), .ref (mq 20), .ref (mq 21), .ref (mq 22), .int (nI (d + 1))])), ((mq 16), .inl (cJ, 448, .inr (.inl (lp ce (56 * d + 4 * t) (fun j => pt (320 * d + 4 * e + j)) 4)))), ((mq 17), .inl (cJ, 2560, .inr (.inl pt)))])) ([.ref mo, .int (nI t), .int (nI e)] : List Value).toArray s (0) (0) A) (F0 m 2 ls []) := by
    intro n2
    induction n2 with
    | zero =>
      intro k hm2
      exact absurd hm2 (by omega)
    | succ n2 ih2 =>
      intro k hm2 hk hk0 H locs ls hP hD hS hl
      refine lv_iload_n hx hb dM_store_2 rfl (lv_at hl 0 rfl) ?_
      refine lv_iconst (v := 4) hx hb dM_store_3 (by decide) ?_
      refine lv_icmp_ge (tgt := 37) hx hb dM_store_4 (by decide) (fun c4 => ?_) (fun c4 => ?_)
      · have g4 : 4 ≤ k := (gx_le (rfl : (4 : Int32) = nI 4) (rfl : (nI k) = (nI k)) (by decide) (by omega)).mp c4
        exact W.vret hx hb hr (fun t9 ht9 hW => ⟨⟨_, rfl, by rw [show k = 4 by omega], by rw [ht9]; exact hP, hD⟩, hS.F ht9⟩) hS.2.2 dM_store_37
      · have g4 : ¬ (4 ≤ k) := fun z => c4 ((gx_le (rfl : (4 : Int32) = nI 4) (rfl : (nI k) = (nI k)) (by decide) (by omega)).mpr z)
        refine lv_aload_n hx hb dM_store_7 rfl (lv_at hl 1 rfl) ?_
        refine va_get (D := D) (ci := 6) (v := .ref (mq 16)) (C := R_M) (T := F_M) (N := 24) hx hb ht i_M hown hK hP 0 rfl rfl 16 (by decide) (ht _ m_470) (fun _ h9 => h9) rfl dM_store_8 ?_
        refine lv_aload_n hx hb dM_store_11 rfl (lv_at hl 1 rfl) ?_
        refine lv_iload_n hx hb dM_store_12 rfl (lv_at hl 2 rfl) ?_
        refine gc_i (va_runV (As := [.int (nI t)]) (rest := [.ref (mq 16)]) ⟨hx, hb, hml, hown, ht⟩ (c_M_slot l D cI cJ cB cZ mo mq n F (d + 1) t (by omega) H.size) (cwV 1 ht (gw_V m_633 m_635 ms_34 m_6 m_636) rfl rfl rfl (by decide +kernel) ⟨Nat.le_of_ble_eq_true rfl, Nat.le_of_ble_eq_true rfl⟩) (gp_V (ci := 6) (q0 := 0) hK hN (hP.sub (ws' := [(mo, .inr (6, [.ref (mq 0), .ref (mq 1), .ref (mq 2), .ref (mq 3), .int (nI n), .ref (mq 5), .ref (mq 6), .int (nI F), .ref (mq 8), .ref (mq 9), .ref (mq 10), .ref (mq 11), .ref (mq 12), .ref (mq 13), .ref (mq 14), .ref (mq 15), .ref (mq 16), .ref (mq 17), .ref (mq 18), .ref (mq 19), .ref (mq 20), .ref (mq 21), .ref (mq 22), .int (nI (d + 1))]))]) [0] rfl) (hD.sub (ws' := [(mo, .inr (6, [.ref (mq 0), .ref (mq 1), .ref (mq 2), .ref (mq 3), .int (nI n), .ref (mq 5), .ref (mq 6), .int (nI F), .ref (mq 8), .ref (mq 9), .ref (mq 10), .ref (mq 11), .ref (mq 12), .ref (mq 13), .ref (mq 14), .ref (mq 15), .ref (mq 16), .ref (mq 17), .ref (mq 18), .ref (mq 19), .ref (mq 20), .ref (mq 21), .ref (mq 22), .int (nI (d + 1))]))]) [0] (by decide) rfl) rfl rfl) rfl rfl hl.1 rfl (lv_room (Nat.le_of_ble_eq_true rfl)) dM_store_13 ⟨Nat.le_of_ble_eq_true rfl, Nat.le_of_ble_eq_true rfl⟩) hP hD hS hA [0] rfl (by decide) (fun r w h => by obtain ⟨_, rfl⟩ := h; rfl) (fun r13 w13 H locs p13 hP hD hS => ?_)
        obtain ⟨h13x, rfl⟩ := p13
        have h13y : r13 = nI (56 * d + 4 * t) := h13x
        subst h13y
        have hP : va_P D vwCl [(mo, .inr (6, [.ref (mq 0), .ref (mq 1), .ref (mq 2), .ref (mq 3), .int (nI n), .ref (mq 5), .ref (mq 6), .int (nI F), .ref (mq 8), .ref (mq 9), .ref (mq 10), .ref (mq 11), .ref (mq 12), .ref (mq 13), .ref (mq 14), .ref (mq 15), .ref (mq 16), .ref (mq 17), .ref (mq 18), .ref (mq 19), .ref (mq 20), .ref (mq 21), .ref (mq 22), .int (nI (d + 1))])), ((mq 16), .inl (cJ, 448, .inr (.inl (lp ce (56 * d + 4 * t) (fun j => pt (320 * d + 4 * e + j)) k)))), ((mq 17), .inl (cJ, 2560, .inr (.inl pt)))] H := hP
        have hD : va_D A [(mo, .inr (6, [.ref (mq 0), .ref (mq 1), .ref (mq 2), .ref (mq 3), .int (nI n), .ref (mq 5), .ref (mq 6), .int (nI F), .ref (mq 8), .ref (mq 9), .ref (mq 10), .ref (mq 11), .ref (mq 12), .ref (mq 13), .ref (mq 14), .ref (mq 15), .ref (mq 16), .ref (mq 17), .ref (mq 18), .ref (mq 19), .ref (mq 20), .ref (mq 21), .ref (mq 22), .int (nI (d + 1))])), ((mq 16), .inl (cJ, 448, .inr (.inl (lp ce (56 * d + 4 * t) (fun j => pt (320 * d + 4 * e + j)) k)))), ((mq 17), .inl (cJ, 2560, .inr (.inl pt)))] := hD
        refine lv_iload_n hx hb dM_store_16 rfl (lv_at hl 0 rfl) ?_
        refine lv_iadd hx hb dM_store_17 ?_
        refine lv_topi (fun v17 e17 => ?_)
        have n17 : v17 = nI ((56 * d + 4 * t) + k) := by rw [e17]; exact gx_add (rfl : (nI (56 * d + 4 * t)) = (nI (56 * d + 4 * t))) (rfl : (nI k) = (nI k))
        subst n17
        refine lv_aload_n hx hb dM_store_18 rfl (lv_at hl 1 rfl) ?_
        refine va_get (D := D) (ci := 6) (v := .ref (mq 17)) (C := R_M) (T := F_M) (N := 24) hx hb ht i_M hown hK hP 0 rfl rfl 17 (by decide) (ht _ m_471) (fun _ h9 => h9) rfl dM_store_19 ?_
        refine lv_aload_n hx hb dM_store_22 rfl (lv_at hl 1 rfl) ?_
        refine lv_iload_n hx hb dM_store_23 rfl (lv_at hl 3 rfl) ?_
        refine gc_i (va_runV (As := [.int (nI e)]) (rest := [.ref (mq 17), .int (nI ((56 * d + 4 * t) + k)), .ref (mq 16)]) ⟨hx, hb, hml, hown, ht⟩ (c_M_base l D cI cJ cB cZ mo mq n F (d + 1) e (by omega) H.size) (cwV 1 ht (gw_V m_637 m_639 ms_35 m_6 m_640) rfl rfl rfl (by decide +kernel) ⟨Nat.le_of_ble_eq_true rfl, Nat.le_of_ble_eq_true rfl⟩) (gp_V (ci := 6) (q0 := 0) hK hN (hP.sub (ws' := [(mo, .inr (6, [.ref (mq 0), .ref (mq 1), .ref (mq 2), .ref (mq 3), .int (nI n), .ref (mq 5), .ref (mq 6), .int (nI F), .ref (mq 8), .ref (mq 9), .ref (mq 10), .ref (mq 11), .ref (mq 12), .ref (mq 13), .ref (mq 14), .ref (mq 15), .ref (mq 16), .ref (mq 17), .ref (mq 18), .ref (mq 19), .ref (mq 20), .ref (mq 21), .ref (mq 22), .int (nI (d + 1))]))]) [0] rfl) (hD.sub (ws' := [(mo, .inr (6, [.ref (mq 0), .ref (mq 1), .ref (mq 2), .ref (mq 3), .int (nI n), .ref (mq 5), .ref (mq 6), .int (nI F), .ref (mq 8), .ref (mq 9), .ref (mq 10), .ref (mq 11), .ref (mq 12), .ref (mq 13), .ref (mq 14), .ref (mq 15), .ref (mq 16), .ref (mq 17), .ref (mq 18), .ref (mq 19), .ref (mq 20), .ref (mq 21), .ref (mq 22), .int (nI (d + 1))]))]) [0] (by decide) rfl) rfl rfl) rfl rfl hl.1 rfl (lv_room (Nat.le_of_ble_eq_true rfl)) dM_store_24 ⟨Nat.le_of_ble_eq_true rfl, Nat.le_of_ble_eq_true rfl⟩) hP hD hS hA [0] rfl (by decide) (fun r w h => by obtain ⟨_, rfl⟩ := h; rfl) (fun r24 w24 H locs p24 hP hD hS => ?_)
        obtain ⟨h24x, rfl⟩ := p24
        have h24y : r24 = nI (320 * d + 4 * e) := h24x
        subst h24y
        have hP : va_P D vwCl [(mo, .inr (6, [.ref (mq 0), .ref (mq 1), .ref (mq 2), .ref (mq 3), .int (nI n), .ref (mq 5), .ref (mq 6), .int (nI F), .ref (mq 8), .ref (mq 9), .ref (mq 10), .ref (mq 11), .ref (mq 12), .ref (mq 13), .ref (mq 14), .ref (mq 15), .ref (mq 16), .ref (mq 17), .ref (mq 18), .ref (mq 19), .ref (mq 20), .ref (mq 21), .ref (mq 22), .int (nI (d + 1))])), ((mq 16), .inl (cJ, 448, .inr (.inl (lp ce (56 * d + 4 * t) (fun j => pt (320 * d + 4 * e + j)) k)))), ((mq 17), .inl (cJ, 2560, .inr (.inl pt)))] H := hP
        have hD : va_D A [(mo, .inr (6, [.ref (mq 0), .ref (mq 1), .ref (mq 2), .ref (mq 3), .int (nI n), .ref (mq 5), .ref (mq 6), .int (nI F), .ref (mq 8), .ref (mq 9), .ref (mq 10), .ref (mq 11), .ref (mq 12), .ref (mq 13), .ref (mq 14), .ref (mq 15), .ref (mq 16), .ref (mq 17), .ref (mq 18), .ref (mq 19), .ref (mq 20), .ref (mq 21), .ref (mq 22), .int (nI (d + 1))])), ((mq 16), .inl (cJ, 448, .inr (.inl (lp ce (56 * d + 4 * t) (fun j => pt (320 * d + 4 * e + j)) k)))), ((mq 17), .inl (cJ, 2560, .inr (.inl pt)))] := hD
        refine lv_iload_n hx hb dM_store_27 rfl (lv_at hl 0 rfl) ?_
        refine lv_iadd hx hb dM_store_28 ?_
        refine lv_topi (fun v28 e28 => ?_)
        have n28 : v28 = nI ((320 * d + 4 * e) + k) := by rw [e28]; exact gx_add (rfl : (nI (320 * d + 4 * e)) = (nI (320 * d + 4 * e))) (rfl : (nI k) = (nI k))
        subst n28
        have i29 : vp_in (nI ((320 * d + 4 * e) + k)) 2560 := gx_in (rfl : (nI ((320 * d + 4 * e) + k)) = (nI ((320 * d + 4 * e) + k))) (by omega) (by decide)
        have k29 : ((nI ((320 * d + 4 * e) + k)) : Int32).toNatClampNeg = ((320 * d + 4 * e) + k) := gx_cl (rfl : (nI ((320 * d + 4 * e) + k)) = (nI ((320 * d + 4 * e) + k))) (by omega)
        refine va_lald hx hb hK hP 2 1 rfl rfl i29 dM_store_29 ?_
        rw [k29]
        refine lv_topl (fun v29 e29 => ?_)
        have i30 : vp_in (nI ((56 * d + 4 * t) + k)) 448 := gx_in (rfl : (nI ((56 * d + 4 * t) + k)) = (nI ((56 * d + 4 * t) + k))) (by omega) (by decide)
        have k30 : ((nI ((56 * d + 4 * t) + k)) : Int32).toNatClampNeg = ((56 * d + 4 * t) + k) := gx_cl (rfl : (nI ((56 * d + 4 * t) + k)) = (nI ((56 * d + 4 * t) + k))) (by omega)
        refine va_last hx hb hK hP hD hS 1 1 rfl rfl i30 dM_store_30 (fun H locs hP hD hS => ?_)
        rw [k30] at hP hD
        have hP : va_P D vwCl [(mo, .inr (6, [.ref (mq 0), .ref (mq 1), .ref (mq 2), .ref (mq 3), .int (nI n), .ref (mq 5), .ref (mq 6), .int (nI F), .ref (mq 8), .ref (mq 9), .ref (mq 10), .ref (mq 11), .ref (mq 12), .ref (mq 13), .ref (mq 14), .ref (mq 15), .ref (mq 16), .ref (mq 17), .ref (mq 18), .ref (mq 19), .ref (mq 20), .ref (mq 21), .ref (mq 22), .int (nI (d + 1))])), ((mq 16), .inl (cJ, 448, .inr (.inl (vp_updL (lp ce (56 * d + 4 * t) (fun j => pt (320 * d + 4 * e + j)) k) ((56 * d + 4 * t) + k) v29)))), ((mq 17), .inl (cJ, 2560, .inr (.inl pt)))] H := hP
        have hD : va_D A [(mo, .inr (6, [.ref (mq 0), .ref (mq 1), .ref (mq 2), .ref (mq 3), .int (nI n), .ref (mq 5), .ref (mq 6), .int (nI F), .ref (mq 8), .ref (mq 9), .ref (mq 10), .ref (mq 11), .ref (mq 12), .ref (mq 13), .ref (mq 14), .ref (mq 15), .ref (mq 16), .ref (mq 17), .ref (mq 18), .ref (mq 19), .ref (mq 20), .ref (mq 21), .ref (mq 22), .int (nI (d + 1))])), ((mq 16), .inl (cJ, 448, .inr (.inl (vp_updL (lp ce (56 * d + 4 * t) (fun j => pt (320 * d + 4 * e + j)) k) ((56 * d + 4 * t) + k) v29)))), ((mq 17), .inl (cJ, 2560, .inr (.inl pt)))] := hD
        rw [lp_s (s := (fun j => pt (320 * d + 4 * e + j))) (by exact e29)] at hP hD
        have hP : va_P D vwCl [(mo, .inr (6, [.ref (mq 0), .ref (mq 1), .ref (mq 2), .ref (mq 3), .int (nI n), .ref (mq 5), .ref (mq 6), .int (nI F), .ref (mq 8), .ref (mq 9), .ref (mq 10), .ref (mq 11), .ref (mq 12), .ref (mq 13), .ref (mq 14), .ref (mq 15), .ref (mq 16), .ref (mq 17), .ref (mq 18), .ref (mq 19), .ref (mq 20), .ref (mq 21), .ref (mq 22), .int (nI (d + 1))])), ((mq 16), .inl (cJ, 448, .inr (.inl (lp ce (56 * d + 4 * t) (fun j => pt (320 * d + 4 * e + j)) (k + 1))))), ((mq 17), .inl (cJ, 2560, .inr (.inl pt)))] H := hP
        have hD : va_D A [(mo, .inr (6, [.ref (mq 0), .ref (mq 1), .ref (mq 2), .ref (mq 3), .int (nI n), .ref (mq 5), .ref (mq 6), .int (nI F), .ref (mq 8), .ref (mq 9), .ref (mq 10), .ref (mq 11), .ref (mq 12), .ref (mq 13), .ref (mq 14), .ref (mq 15), .ref (mq 16), .ref (mq 17), .ref (mq 18), .ref (mq 19), .ref (mq 20), .ref (mq 21), .ref (mq 22), .int (nI (d + 1))])), ((mq 16), .inl (cJ, 448, .inr (.inl (lp ce (56 * d + 4 * t) (fun j => pt (320 * d + 4 * e + j)) (k + 1))))), ((mq 17), .inl (cJ, 2560, .inr (.inl pt)))] := hD
        refine lv_iinc (v := (nI (k + 1))) (lv' := [(3, .int (nI (k + 1))), (0, .ref mo), (1, .int (nI t)), (2, .int (nI e))]) hx hb dM_store_31 hl (k := 0) rfl (gx_inc (rfl : (nI k) = (nI k))) (by decide) rfl (fun ls hl => ?_)
        refine lv_goto (tgt := 2) hx hb dM_store_34 (by decide) ?_
        exact ih2 (k + 1) (by omega) (by omega) (by omega) _ _ _ hP hD hS (lv_sub hl [0, 1, 2, 3] rfl)
  exact lp2 (4 - (0) + 1) 0 (by omega) (by omega) (by omega) _ _ _ hP hD hS (lv_sub hl [0, 1, 2, 3] rfl)

set_option maxHeartbeats 4000000 in
set_option maxRecDepth 100000 in
theorem c_M_leave0 (l : Launch) (D : va_G) (cI cJ cB cZ : ClassId) (mo : Nat) (mq : Nat → Nat) (n F : Nat) (pt ce : Nat → Int64) (fA : Nat → Int32)  : ct_V l y_M_leave w_M_leave ({ frames := 1, cells := 0, slots := 0, locals := 21 }) D (gk_T cI cJ cB cZ) [.ref mo] [(mo, .inr (6, [.ref (mq 0), .ref (mq 1), .ref (mq 2), .ref (mq 3), .int (nI n), .ref (mq 5), .ref (mq 6), .int (nI F), .ref (mq 8), .ref (mq 9), .ref (mq 10), .ref (mq 11), .ref (mq 12), .ref (mq 13), .ref (mq 14), .ref (mq 15), .ref (mq 16), .ref (mq 17), .ref (mq 18), .ref (mq 19), .ref (mq 20), .ref (mq 21), .ref (mq 22), .int (nI (0 + 1))])), ((mq 17), .inl (cJ, 2560, .inr (.inl pt))), ((mq 16), .inl (cJ, 448, .inr (.inl ce))), ((mq 21), .inl (cI, 8, .inl fA))] (0) (0) (fun w => w = [(mo, .inr (6, [.ref (mq 0), .ref (mq 1), .ref (mq 2), .ref (mq 3), .int (nI n), .ref (mq 5), .ref (mq 6), .int (nI F), .ref (mq 8), .ref (mq 9), .ref (mq 10), .ref (mq 11), .ref (mq 12), .ref (mq 13), .ref (mq 14), .ref (mq 15), .ref (mq 16), .ref (mq 17), .ref (mq 18), .ref (mq 19), .ref (mq 20), .ref (mq 21), .ref (mq 22), .int (nI 0)])), ((mq 17), .inl (cJ, 2560, .inr (.inl pt))), ((mq 16), .inl (cJ, 448, .inr (.inl ce))), ((mq 21), .inl (cI, 8, .inl fA))]) := by
  intro sz
  refine Met.ofW (cc := b_M_leave) (maxL := 4) (ret := none) (by decide) rfl ?_
  intro p ev9 s m args below meth c s₁ B9 hml hv
  obtain ⟨rfl, hsz, hP, hK, hN, hD0⟩ := hv
  have hx := B9.exec
  have hb := B9.bytes
  have hr := B9.returns
  have hts := atoms_spec (ws := w_M_leave) B9.pre
  have ht : ∀ w ∈ gk_big, w.before _ s = true := fun w h => hts w (List.mem_cons_of_mem _ h)
  have hown : s.vm.findClass R_M = some m.cls := findClass_of_methodNamed B9.named
  have hlocks := B9.notSynchronized
  subst hsz
  have hD := hD0.self (sz := s.heap.size)
  generalize hAe : va_A [(mo, .inr (6, [.ref (mq 0), .ref (mq 1), .ref (mq 2), .ref (mq 3), .int (nI n), .ref (mq 5), .ref (mq 6), .int (nI F), .ref (mq 8), .ref (mq 9), .ref (mq 10), .ref (mq 11), .ref (mq 12), .ref (mq 13), .ref (mq 14), .ref (mq 15), .ref (mq 16), .ref (mq 17), .ref (mq 18), .ref (mq 19), .ref (mq 20), .ref (mq 21), .ref (mq 22), .int (nI (0 + 1))])), ((mq 17), .inl (cJ, 2560, .inr (.inl pt))), ((mq 16), .inl (cJ, 448, .inr (.inl ce))), ((mq 21), .inl (cI, 8, .inl fA))] s.heap.size = A at hD ⊢
  have hA : ∀ q : Nat, s.heap.size ≤ q → A q := fun q h => by rw [← hAe]; exact Or.inr h
  generalize hHe : s.heap = H at hP ⊢
  have hS : va_S A s.heap H [] := by rw [← hHe]; exact va_S.rf
  have hP : va_P D vwCl [(mo, .inr (6, [.ref (mq 0), .ref (mq 1), .ref (mq 2), .ref (mq 3), .int (nI n), .ref (mq 5), .ref (mq 6), .int (nI F), .ref (mq 8), .ref (mq 9), .ref (mq 10), .ref (mq 11), .ref (mq 12), .ref (mq 13), .ref (mq 14), .ref (mq 15), .ref (mq 16), .ref (mq 17), .ref (mq 18), .ref (mq 19), .ref (mq 20), .ref (mq 21), .ref (mq 22), .int (nI (0 + 1))])), ((mq 17), .inl (cJ, 2560, .inr (.inl pt))), ((mq 16), .inl (cJ, 448, .inr (.inl ce))), ((mq 21), .inl (cI, 8, .inl fA))] H := hP
  have hD : va_D A [(mo, .inr (6, [.ref (mq 0), .ref (mq 1), .ref (mq 2), .ref (mq 3), .int (nI n), .ref (mq 5), .ref (mq 6), .int (nI F), .ref (mq 8), .ref (mq 9), .ref (mq 10), .ref (mq 11), .ref (mq 12), .ref (mq 13), .ref (mq 14), .ref (mq 15), .ref (mq 16), .ref (mq 17), .ref (mq 18), .ref (mq 19), .ref (mq 20), .ref (mq 21), .ref (mq 22), .int (nI (0 + 1))])), ((mq 17), .inl (cJ, 2560, .inr (.inl pt))), ((mq 16), .inl (cJ, 448, .inr (.inl ce))), ((mq 21), .inl (cI, 8, .inl fA))] := hD
  have hl := lv_entry ([.ref mo]) (n := 4) (Nat.le_of_ble_eq_true rfl)
  rw [lg_entry_eq]
  generalize (lg_sl ([.ref mo]) ++ List.replicate (4 - (lg_sl ([.ref mo])).length) Slot.unset).toArray = ls at hl ⊢
  have hl : lv_has ls 4 [(0, .ref mo)] := hl
  refine lv_aload_n hx hb dM_leave_0 rfl (lv_at hl 0 rfl) ?_
  refine lv_iconst (v := 0) hx hb dM_leave_1 (by decide) ?_
  refine gc_i (va_runV (As := [.int 0]) (rest := []) ⟨hx, hb, hml, hown, ht⟩ (c_M_slot l D cI cJ cB cZ mo mq n F (0 + 1) 0 (by omega) H.size) (cwV 1 ht (gw_V m_633 m_635 ms_34 m_6 m_636) rfl rfl rfl (by decide +kernel) ⟨Nat.le_of_ble_eq_true rfl, Nat.le_of_ble_eq_true rfl⟩) (gp_V (ci := 6) (q0 := 0) hK hN (hP.sub (ws' := [(mo, .inr (6, [.ref (mq 0), .ref (mq 1), .ref (mq 2), .ref (mq 3), .int (nI n), .ref (mq 5), .ref (mq 6), .int (nI F), .ref (mq 8), .ref (mq 9), .ref (mq 10), .ref (mq 11), .ref (mq 12), .ref (mq 13), .ref (mq 14), .ref (mq 15), .ref (mq 16), .ref (mq 17), .ref (mq 18), .ref (mq 19), .ref (mq 20), .ref (mq 21), .ref (mq 22), .int (nI (0 + 1))]))]) [0] rfl) (hD.sub (ws' := [(mo, .inr (6, [.ref (mq 0), .ref (mq 1), .ref (mq 2), .ref (mq 3), .int (nI n), .ref (mq 5), .ref (mq 6), .int (nI F), .ref (mq 8), .ref (mq 9), .ref (mq 10), .ref (mq 11), .ref (mq 12), .ref (mq 13), .ref (mq 14), .ref (mq 15), .ref (mq 16), .ref (mq 17), .ref (mq 18), .ref (mq 19), .ref (mq 20), .ref (mq 21), .ref (mq 22), .int (nI (0 + 1))]))]) [0] (by decide) rfl) rfl rfl) rfl rfl hl.1 rfl (lv_room (Nat.le_of_ble_eq_true rfl)) dM_leave_2 ⟨Nat.le_of_ble_eq_true rfl, Nat.le_of_ble_eq_true rfl⟩) hP hD hS hA [0] rfl (by decide) (fun r w h => by obtain ⟨_, rfl⟩ := h; rfl) (fun r2 w2 H locs p2 hP hD hS => ?_)
  obtain ⟨h2x, rfl⟩ := p2
  have h2y : r2 = nI (56 * 0 + 4 * 0) := h2x
  subst h2y
  have hP : va_P D vwCl [(mo, .inr (6, [.ref (mq 0), .ref (mq 1), .ref (mq 2), .ref (mq 3), .int (nI n), .ref (mq 5), .ref (mq 6), .int (nI F), .ref (mq 8), .ref (mq 9), .ref (mq 10), .ref (mq 11), .ref (mq 12), .ref (mq 13), .ref (mq 14), .ref (mq 15), .ref (mq 16), .ref (mq 17), .ref (mq 18), .ref (mq 19), .ref (mq 20), .ref (mq 21), .ref (mq 22), .int (nI (0 + 1))])), ((mq 17), .inl (cJ, 2560, .inr (.inl pt))), ((mq 16), .inl (cJ, 448, .inr (.inl ce))), ((mq 21), .inl (cI, 8, .inl fA))] H := hP
  have hD : va_D A [(mo, .inr (6, [.ref (mq 0), .ref (mq 1), .ref (mq 2), .ref (mq 3), .int (nI n), .ref (mq 5), .ref (mq 6), .int (nI F), .ref (mq 8), .ref (mq 9), .ref (mq 10), .ref (mq 11), .ref (mq 12), .ref (mq 13), .ref (mq 14), .ref (mq 15), .ref (mq 16), .ref (mq 17), .ref (mq 18), .ref (mq 19), .ref (mq 20), .ref (mq 21), .ref (mq 22), .int (nI (0 + 1))])), ((mq 17), .inl (cJ, 2560, .inr (.inl pt))), ((mq 16), .inl (cJ, 448, .inr (.inl ce))), ((mq 21), .inl (cI, 8, .inl fA))] := hD
  refine lv_istore_n (lv' := [(1, .int (nI (56 * 0 + 4 * 0))), (0, .ref mo)]) hx hb dM_leave_5 rfl hl (by decide) rfl (fun ls hl => ?_)
  refine lv_aload_n hx hb dM_leave_6 rfl (lv_at hl 1 rfl) ?_
  refine lv_dup hx hb dM_leave_7 rfl ?_
  refine va_get (D := D) (ci := 6) (v := .int (nI (0 + 1))) (C := R_M) (T := F_M) (N := 24) hx hb ht i_M hown hK hP 0 rfl rfl 23 (by decide) (ht _ m_477) (fun _ h9 => h9) rfl dM_leave_8 ?_
  refine lv_iconst (v := 1) hx hb dM_leave_11 (by decide) ?_
  refine lv_isub hx hb dM_leave_12 ?_
  refine lv_topi (fun v12 e12 => ?_)
  have n12 : v12 = nI ((0 + 1) - 1) := by rw [e12]; exact gx_sub (rfl : (nI (0 + 1)) = (nI (0 + 1))) (rfl : (1 : Int32) = nI 1) (by omega)
  subst n12
  rw [show 0 + 1 - 1 = 0 from rfl]
  refine va_put (D := D) (ci := 6) (v := .int (nI 0)) (ty := .int) (C := R_M) (T := F_M) (N := 24) hx hb ht i_M ft_M ft_M_ok fn_M hown hK hP hD hS 0 rfl rfl 23 (by decide) (ht _ m_477) (fun _ h9 => h9) rfl (by decide +kernel) rfl rfl (Nat.le_of_ble_eq_true rfl) dM_leave_13 (fun H locs hP hD hS => ?_)
  have hP : va_P D vwCl [(mo, .inr (6, [.ref (mq 0), .ref (mq 1), .ref (mq 2), .ref (mq 3), .int (nI n), .ref (mq 5), .ref (mq 6), .int (nI F), .ref (mq 8), .ref (mq 9), .ref (mq 10), .ref (mq 11), .ref (mq 12), .ref (mq 13), .ref (mq 14), .ref (mq 15), .ref (mq 16), .ref (mq 17), .ref (mq 18), .ref (mq 19), .ref (mq 20), .ref (mq 21), .ref (mq 22), .int (nI 0)])), ((mq 17), .inl (cJ, 2560, .inr (.inl pt))), ((mq 16), .inl (cJ, 448, .inr (.inl ce))), ((mq 21), .inl (cI, 8, .inl fA))] H := hP
  have hD : va_D A [(mo, .inr (6, [.ref (mq 0), .ref (mq 1), .ref (mq 2), .ref (mq 3), .int (nI n), .ref (mq 5), .ref (mq 6), .int (nI F), .ref (mq 8), .ref (mq 9), .ref (mq 10), .ref (mq 11), .ref (mq 12), .ref (mq 13), .ref (mq 14), .ref (mq 15), .ref (mq 16), .ref (mq 17), .ref (mq 18), .ref (mq 19), .ref (mq 20), .ref (mq 21), .ref (mq 22), .int (nI 0)])), ((mq 17), .inl (cJ, 2560, .inr (.inl pt))), ((mq 16), .inl (cJ, 448, .inr (.inl ce))), ((mq 21), .inl (cI, 8, .inl fA))] := hD
  refine lv_aload_n hx hb dM_leave_16 rfl (lv_at hl 1 rfl) ?_
  refine va_get (D := D) (ci := 6) (v := .int (nI 0)) (C := R_M) (T := F_M) (N := 24) hx hb ht i_M hown hK hP 0 rfl rfl 23 (by decide) (ht _ m_477) (fun _ h9 => h9) rfl dM_leave_17 ?_
  refine lv_if_ne (tgt := 24) hx hb dM_leave_20 (by decide) (fun c20 => ?_) (fun c20 => ?_)
  · have g20 : ¬ (0 = 0) := fun z => c20 ((gx_eq (rfl : (nI 0) = (nI 0)) (rfl : (0 : Int32) = nI 0) (by omega) (by decide)).mpr z)
    exact absurd rfl g20
  · have g20 : 0 = 0 := (gx_eq (rfl : (nI 0) = (nI 0)) (rfl : (0 : Int32) = nI 0) (by omega) (by decide)).mp c20
    exact W.vret hx hb hr (fun t9 ht9 hW => ⟨⟨_, rfl, rfl, by rw [ht9]; exact hP, hD⟩, hS.F ht9⟩) hS.2.2 dM_leave_23

set_option maxHeartbeats 4000000 in
set_option maxRecDepth 100000 in
theorem c_M_leave1 (l : Launch) (D : va_G) (cI cJ cB cZ : ClassId) (mo : Nat) (mq : Nat → Nat) (n F d : Nat) (pt ce : Nat → Int64) (fA : Nat → Int32) (e : Nat) (hd : d + 1 < 8) (he : e < 80) (hfa : fA d = nI (e + 1)) : ct_V l y_M_leave w_M_leave ({ frames := 1, cells := 0, slots := 0, locals := 21 }) D (gk_T cI cJ cB cZ) [.ref mo] [(mo, .inr (6, [.ref (mq 0), .ref (mq 1), .ref (mq 2), .ref (mq 3), .int (nI n), .ref (mq 5), .ref (mq 6), .int (nI F), .ref (mq 8), .ref (mq 9), .ref (mq 10), .ref (mq 11), .ref (mq 12), .ref (mq 13), .ref (mq 14), .ref (mq 15), .ref (mq 16), .ref (mq 17), .ref (mq 18), .ref (mq 19), .ref (mq 20), .ref (mq 21), .ref (mq 22), .int (nI (d + 1 + 1))])), ((mq 17), .inl (cJ, 2560, .inr (.inl pt))), ((mq 16), .inl (cJ, 448, .inr (.inl ce))), ((mq 21), .inl (cI, 8, .inl fA))] (0) (0) (fun w => w = [(mo, .inr (6, [.ref (mq 0), .ref (mq 1), .ref (mq 2), .ref (mq 3), .int (nI n), .ref (mq 5), .ref (mq 6), .int (nI F), .ref (mq 8), .ref (mq 9), .ref (mq 10), .ref (mq 11), .ref (mq 12), .ref (mq 13), .ref (mq 14), .ref (mq 15), .ref (mq 16), .ref (mq 17), .ref (mq 18), .ref (mq 19), .ref (mq 20), .ref (mq 21), .ref (mq 22), .int (nI (d + 1))])), ((mq 17), .inl (cJ, 2560, .inr (.inl (lp pt (320 * d + 4 * e) (fun j => ce (56 * (d + 1) + 4 * 0 + j)) 4)))), ((mq 16), .inl (cJ, 448, .inr (.inl ce))), ((mq 21), .inl (cI, 8, .inl fA))]) := by
  intro sz
  refine Met.ofW (cc := b_M_leave) (maxL := 4) (ret := none) (by decide) rfl ?_
  intro p ev9 s m args below meth c s₁ B9 hml hv
  obtain ⟨rfl, hsz, hP, hK, hN, hD0⟩ := hv
  have hx := B9.exec
  have hb := B9.bytes
  have hr := B9.returns
  have hts := atoms_spec (ws := w_M_leave) B9.pre
  have ht : ∀ w ∈ gk_big, w.before _ s = true := fun w h => hts w (List.mem_cons_of_mem _ h)
  have hown : s.vm.findClass R_M = some m.cls := findClass_of_methodNamed B9.named
  have hlocks := B9.notSynchronized
  subst hsz
  have hD := hD0.self (sz := s.heap.size)
  generalize hAe : va_A [(mo, .inr (6, [.ref (mq 0), .ref (mq 1), .ref (mq 2), .ref (mq 3), .int (nI n), .ref (mq 5), .ref (mq 6), .int (nI F), .ref (mq 8), .ref (mq 9), .ref (mq 10), .ref (mq 11), .ref (mq 12), .ref (mq 13), .ref (mq 14), .ref (mq 15), .ref (mq 16), .ref (mq 17), .ref (mq 18), .ref (mq 19), .ref (mq 20), .ref (mq 21), .ref (mq 22), .int (nI (d + 1 + 1))])), ((mq 17), .inl (cJ, 2560, .inr (.inl pt))), ((mq 16), .inl (cJ, 448, .inr (.inl ce))), ((mq 21), .inl (cI, 8, .inl fA))] s.heap.size = A at hD ⊢
  have hA : ∀ q : Nat, s.heap.size ≤ q → A q := fun q h => by rw [← hAe]; exact Or.inr h
  generalize hHe : s.heap = H at hP ⊢
  have hS : va_S A s.heap H [] := by rw [← hHe]; exact va_S.rf
  have hP : va_P D vwCl [(mo, .inr (6, [.ref (mq 0), .ref (mq 1), .ref (mq 2), .ref (mq 3), .int (nI n), .ref (mq 5), .ref (mq 6), .int (nI F), .ref (mq 8), .ref (mq 9), .ref (mq 10), .ref (mq 11), .ref (mq 12), .ref (mq 13), .ref (mq 14), .ref (mq 15), .ref (mq 16), .ref (mq 17), .ref (mq 18), .ref (mq 19), .ref (mq 20), .ref (mq 21), .ref (mq 22), .int (nI (d + 1 + 1))])), ((mq 17), .inl (cJ, 2560, .inr (.inl pt))), ((mq 16), .inl (cJ, 448, .inr (.inl ce))), ((mq 21), .inl (cI, 8, .inl fA))] H := hP
  have hD : va_D A [(mo, .inr (6, [.ref (mq 0), .ref (mq 1), .ref (mq 2), .ref (mq 3), .int (nI n), .ref (mq 5), .ref (mq 6), .int (nI F), .ref (mq 8), .ref (mq 9), .ref (mq 10), .ref (mq 11), .ref (mq 12), .ref (mq 13), .ref (mq 14), .ref (mq 15), .ref (mq 16), .ref (mq 17), .ref (mq 18), .ref (mq 19), .ref (mq 20), .ref (mq 21), .ref (mq 22), .int (nI (d + 1 + 1))])), ((mq 17), .inl (cJ, 2560, .inr (.inl pt))), ((mq 16), .inl (cJ, 448, .inr (.inl ce))), ((mq 21), .inl (cI, 8, .inl fA))] := hD
  have hl := lv_entry ([.ref mo]) (n := 4) (Nat.le_of_ble_eq_true rfl)
  rw [lg_entry_eq]
  generalize (lg_sl ([.ref mo]) ++ List.replicate (4 - (lg_sl ([.ref mo])).length) Slot.unset).toArray = ls at hl ⊢
  have hl : lv_has ls 4 [(0, .ref mo)] := hl
  refine lv_aload_n hx hb dM_leave_0 rfl (lv_at hl 0 rfl) ?_
  refine lv_iconst (v := 0) hx hb dM_leave_1 (by decide) ?_
  refine gc_i (va_runV (As := [.int 0]) (rest := []) ⟨hx, hb, hml, hown, ht⟩ (c_M_slot l D cI cJ cB cZ mo mq n F (d + 1 + 1) 0 (by omega) H.size) (cwV 1 ht (gw_V m_633 m_635 ms_34 m_6 m_636) rfl rfl rfl (by decide +kernel) ⟨Nat.le_of_ble_eq_true rfl, Nat.le_of_ble_eq_true rfl⟩) (gp_V (ci := 6) (q0 := 0) hK hN (hP.sub (ws' := [(mo, .inr (6, [.ref (mq 0), .ref (mq 1), .ref (mq 2), .ref (mq 3), .int (nI n), .ref (mq 5), .ref (mq 6), .int (nI F), .ref (mq 8), .ref (mq 9), .ref (mq 10), .ref (mq 11), .ref (mq 12), .ref (mq 13), .ref (mq 14), .ref (mq 15), .ref (mq 16), .ref (mq 17), .ref (mq 18), .ref (mq 19), .ref (mq 20), .ref (mq 21), .ref (mq 22), .int (nI (d + 1 + 1))]))]) [0] rfl) (hD.sub (ws' := [(mo, .inr (6, [.ref (mq 0), .ref (mq 1), .ref (mq 2), .ref (mq 3), .int (nI n), .ref (mq 5), .ref (mq 6), .int (nI F), .ref (mq 8), .ref (mq 9), .ref (mq 10), .ref (mq 11), .ref (mq 12), .ref (mq 13), .ref (mq 14), .ref (mq 15), .ref (mq 16), .ref (mq 17), .ref (mq 18), .ref (mq 19), .ref (mq 20), .ref (mq 21), .ref (mq 22), .int (nI (d + 1 + 1))]))]) [0] (by decide) rfl) rfl rfl) rfl rfl hl.1 rfl (lv_room (Nat.le_of_ble_eq_true rfl)) dM_leave_2 ⟨Nat.le_of_ble_eq_true rfl, Nat.le_of_ble_eq_true rfl⟩) hP hD hS hA [0] rfl (by decide) (fun r w h => by obtain ⟨_, rfl⟩ := h; rfl) (fun r2 w2 H locs p2 hP hD hS => ?_)
  obtain ⟨h2x, rfl⟩ := p2
  have h2y : r2 = nI (56 * (d + 1) + 4 * 0) := h2x
  subst h2y
  have hP : va_P D vwCl [(mo, .inr (6, [.ref (mq 0), .ref (mq 1), .ref (mq 2), .ref (mq 3), .int (nI n), .ref (mq 5), .ref (mq 6), .int (nI F), .ref (mq 8), .ref (mq 9), .ref (mq 10), .ref (mq 11), .ref (mq 12), .ref (mq 13), .ref (mq 14), .ref (mq 15), .ref (mq 16), .ref (mq 17), .ref (mq 18), .ref (mq 19), .ref (mq 20), .ref (mq 21), .ref (mq 22), .int (nI (d + 1 + 1))])), ((mq 17), .inl (cJ, 2560, .inr (.inl pt))), ((mq 16), .inl (cJ, 448, .inr (.inl ce))), ((mq 21), .inl (cI, 8, .inl fA))] H := hP
  have hD : va_D A [(mo, .inr (6, [.ref (mq 0), .ref (mq 1), .ref (mq 2), .ref (mq 3), .int (nI n), .ref (mq 5), .ref (mq 6), .int (nI F), .ref (mq 8), .ref (mq 9), .ref (mq 10), .ref (mq 11), .ref (mq 12), .ref (mq 13), .ref (mq 14), .ref (mq 15), .ref (mq 16), .ref (mq 17), .ref (mq 18), .ref (mq 19), .ref (mq 20), .ref (mq 21), .ref (mq 22), .int (nI (d + 1 + 1))])), ((mq 17), .inl (cJ, 2560, .inr (.inl pt))), ((mq 16), .inl (cJ, 448, .inr (.inl ce))), ((mq 21), .inl (cI, 8, .inl fA))] := hD
  refine lv_istore_n (lv' := [(1, .int (nI (56 * (d + 1) + 4 * 0))), (0, .ref mo)]) hx hb dM_leave_5 rfl hl (by decide) rfl (fun ls hl => ?_)
  refine lv_aload_n hx hb dM_leave_6 rfl (lv_at hl 1 rfl) ?_
  refine lv_dup hx hb dM_leave_7 rfl ?_
  refine va_get (D := D) (ci := 6) (v := .int (nI (d + 1 + 1))) (C := R_M) (T := F_M) (N := 24) hx hb ht i_M hown hK hP 0 rfl rfl 23 (by decide) (ht _ m_477) (fun _ h9 => h9) rfl dM_leave_8 ?_
  refine lv_iconst (v := 1) hx hb dM_leave_11 (by decide) ?_
  refine lv_isub hx hb dM_leave_12 ?_
  refine lv_topi (fun v12 e12 => ?_)
  have n12 : v12 = nI ((d + 1 + 1) - 1) := by rw [e12]; exact gx_sub (rfl : (nI (d + 1 + 1)) = (nI (d + 1 + 1))) (rfl : (1 : Int32) = nI 1) (by omega)
  subst n12
  rw [show d + 1 + 1 - 1 = d + 1 from rfl]
  refine va_put (D := D) (ci := 6) (v := .int (nI (d + 1))) (ty := .int) (C := R_M) (T := F_M) (N := 24) hx hb ht i_M ft_M ft_M_ok fn_M hown hK hP hD hS 0 rfl rfl 23 (by decide) (ht _ m_477) (fun _ h9 => h9) rfl (by decide +kernel) rfl rfl (Nat.le_of_ble_eq_true rfl) dM_leave_13 (fun H locs hP hD hS => ?_)
  have hP : va_P D vwCl [(mo, .inr (6, [.ref (mq 0), .ref (mq 1), .ref (mq 2), .ref (mq 3), .int (nI n), .ref (mq 5), .ref (mq 6), .int (nI F), .ref (mq 8), .ref (mq 9), .ref (mq 10), .ref (mq 11), .ref (mq 12), .ref (mq 13), .ref (mq 14), .ref (mq 15), .ref (mq 16), .ref (mq 17), .ref (mq 18), .ref (mq 19), .ref (mq 20), .ref (mq 21), .ref (mq 22), .int (nI (d + 1))])), ((mq 17), .inl (cJ, 2560, .inr (.inl pt))), ((mq 16), .inl (cJ, 448, .inr (.inl ce))), ((mq 21), .inl (cI, 8, .inl fA))] H := hP
  have hD : va_D A [(mo, .inr (6, [.ref (mq 0), .ref (mq 1), .ref (mq 2), .ref (mq 3), .int (nI n), .ref (mq 5), .ref (mq 6), .int (nI F), .ref (mq 8), .ref (mq 9), .ref (mq 10), .ref (mq 11), .ref (mq 12), .ref (mq 13), .ref (mq 14), .ref (mq 15), .ref (mq 16), .ref (mq 17), .ref (mq 18), .ref (mq 19), .ref (mq 20), .ref (mq 21), .ref (mq 22), .int (nI (d + 1))])), ((mq 17), .inl (cJ, 2560, .inr (.inl pt))), ((mq 16), .inl (cJ, 448, .inr (.inl ce))), ((mq 21), .inl (cI, 8, .inl fA))] := hD
  refine lv_aload_n hx hb dM_leave_16 rfl (lv_at hl 1 rfl) ?_
  refine va_get (D := D) (ci := 6) (v := .int (nI (d + 1))) (C := R_M) (T := F_M) (N := 24) hx hb ht i_M hown hK hP 0 rfl rfl 23 (by decide) (ht _ m_477) (fun _ h9 => h9) rfl dM_leave_17 ?_
  refine lv_if_ne (tgt := 24) hx hb dM_leave_20 (by decide) (fun c20 => ?_) (fun c20 => ?_)
  · have g20 : ¬ ((d + 1) = 0) := fun z => c20 ((gx_eq (rfl : (nI (d + 1)) = (nI (d + 1))) (rfl : (0 : Int32) = nI 0) (by omega) (by decide)).mpr z)
    refine lv_aload_n hx hb dM_leave_24 rfl (lv_at hl 1 rfl) ?_
    refine va_get (D := D) (ci := 6) (v := .ref (mq 21)) (C := R_M) (T := F_M) (N := 24) hx hb ht i_M hown hK hP 0 rfl rfl 21 (by decide) (ht _ m_475) (fun _ h9 => h9) rfl dM_leave_25 ?_
    refine lv_aload_n hx hb dM_leave_28 rfl (lv_at hl 1 rfl) ?_
    refine va_get (D := D) (ci := 6) (v := .int (nI (d + 1))) (C := R_M) (T := F_M) (N := 24) hx hb ht i_M hown hK hP 0 rfl rfl 23 (by decide) (ht _ m_477) (fun _ h9 => h9) rfl dM_leave_29 ?_
    refine lv_iconst (v := 1) hx hb dM_leave_32 (by decide) ?_
    refine lv_isub hx hb dM_leave_33 ?_
    refine lv_topi (fun v33 e33 => ?_)
    have n33 : v33 = nI ((d + 1) - 1) := by rw [e33]; exact gx_sub (rfl : (nI (d + 1)) = (nI (d + 1))) (rfl : (1 : Int32) = nI 1) (by omega)
    subst n33
    rw [show d + 1 - 1 = d from rfl]
    have i34 : vp_in (nI d) 8 := gx_in (rfl : (nI d) = (nI d)) (by omega) (by decide)
    have k34 : ((nI d) : Int32).toNatClampNeg = d := gx_cl (rfl : (nI d) = (nI d)) (by omega)
    refine va_iald hx hb hK hP 3 0 rfl rfl i34 dM_leave_34 ?_
    rw [k34]
    refine lv_topi (fun v34 e34 => ?_)
    rw [hfa] at e34
    subst e34
    refine lv_iconst (v := 1) hx hb dM_leave_35 (by decide) ?_
    refine lv_isub hx hb dM_leave_36 ?_
    refine lv_topi (fun v36 e36 => ?_)
    have n36 : v36 = nI ((e + 1) - 1) := by rw [e36]; exact gx_sub (rfl : (nI (e + 1)) = (nI (e + 1))) (rfl : (1 : Int32) = nI 1) (by omega)
    subst n36
    rw [show e + 1 - 1 = e from rfl]
    refine lv_istore_n (lv' := [(2, .int (nI e)), (1, .int (nI (56 * (d + 1) + 4 * 0))), (0, .ref mo)]) hx hb dM_leave_37 rfl hl (by decide) rfl (fun ls hl => ?_)
    refine lv_iconst (v := 0) hx hb dM_leave_38 (by decide) ?_
    refine lv_istore_n (lv' := [(3, .int 0), (2, .int (nI e)), (1, .int (nI (56 * (d + 1) + 4 * 0))), (0, .ref mo)]) hx hb dM_leave_39 rfl hl (by decide) rfl (fun ls hl => ?_)
    rw [← lp_0 pt (320 * d + 4 * e) (fun j => ce (56 * (d + 1) + 4 * 0 + j))] at hP hD
    have hP : va_P D vwCl [(mo, .inr (6, [.ref (mq 0), .ref (mq 1), .ref (mq 2), .ref (mq 3), .int (nI n), .ref (mq 5), .ref (mq 6), .int (nI F), .ref (mq 8), .ref (mq 9), .ref (mq 10), .ref (mq 11), .ref (mq 12), .ref (mq 13), .ref (mq 14), .ref (mq 15), .ref (mq 16), .ref (mq 17), .ref (mq 18), .ref (mq 19), .ref (mq 20), .ref (mq 21), .ref (mq 22), .int (nI (d + 1))])), ((mq 17), .inl (cJ, 2560, .inr (.inl (lp pt (320 * d + 4 * e) (fun j => ce (56 * (d + 1) + 4 * 0 + j)) 0)))), ((mq 16), .inl (cJ, 448, .inr (.inl ce))), ((mq 21), .inl (cI, 8, .inl fA))] H := hP
    have hD : va_D A [(mo, .inr (6, [.ref (mq 0), .ref (mq 1), .ref (mq 2), .ref (mq 3), .int (nI n), .ref (mq 5), .ref (mq 6), .int (nI F), .ref (mq 8), .ref (mq 9), .ref (mq 10), .ref (mq 11), .ref (mq 12), .ref (mq 13), .ref (mq 14), .ref (mq 15), .ref (mq 16), .ref (mq 17), .ref (mq 18), .ref (mq 19), .ref (mq 20), .ref (mq 21), .ref (mq 22), .int (nI (d + 1))])), ((mq 17), .inl (cJ, 2560, .inr (.inl (lp pt (320 * d + 4 * e) (fun j => ce (56 * (d + 1) + 4 * 0 + j)) 0)))), ((mq 16), .inl (cJ, 448, .inr (.inl ce))), ((mq 21), .inl (cI, 8, .inl fA))] := hD
    have lp40 : ∀ (n40 : Nat) (k : Nat), 4 - k + 1 ≤ n40 → (k ≤ 4) → (0 ≤ k) → ∀ (H : Heap) (locs : List Loc) (ls : Array Slot), va_P D vwCl [(mo, .inr (6, [.ref (mq 0), .ref (mq 1), .ref (mq 2), .ref (mq 3), .int (nI n), .ref (mq 5), .ref (mq 6), .int (nI F), .ref (mq 8), .ref (mq 9), .ref (mq 10), .ref (mq 11), .ref (mq 12), .ref (mq 13), .ref (mq 14), .ref (mq 15), .ref (mq 16), .ref (mq 17), .ref (mq 18), .ref (mq 19), .ref (mq 20), .ref (mq 21), .ref (mq 22), .int (nI (d + 1))])), ((mq 17), .inl (cJ, 2560, .inr (.inl (lp pt (320 * d + 4 * e) (fun j => ce (56 * (d + 1) + 4 * 0 + j)) k)))), ((mq 16), .inl (cJ, 448, .inr (.inl ce))), ((mq 21), .inl (cI, 8, .inl fA))] H → va_D A [(mo, .inr (6, [.ref (mq 0), .ref (mq 1), .ref (mq 2), .ref (mq 3), .int (nI n), .ref (mq 5), .ref (mq 6), .int (nI F), .ref (mq 8), .ref (mq 9), .ref (mq 10), .ref (mq 11), .ref (mq 12), .ref (mq 13), .ref (mq 14), .ref (mq 15), .ref (mq 16), .ref (mq 17), .ref (mq 18), .ref (mq 19), .ref (mq 20), .ref (mq 21), .ref (mq 22), .int (nI (d + 1))])), ((mq 17), .inl (cJ, 2560, .inr (.inl (lp pt (320 * d + 4 * e) (fun j => ce (56 * (d + 1) + 4 * 0 + j)) k)))), ((mq 16), .inl (cJ, 448, .inr (.inl ce))), ((mq 21), .inl (cI, 8, .inl fA))] → va_S A s.heap H locs → lv_has ls 4 [(3, .int (nI k)), (2, .int (nI e)), (1, .int (nI (56 * (d + 1) + 4 * 0))), (0, .ref mo)] → W p l ev9 (headSpec w_M_leave ({ frames := 1, cells := 0, slots := 0, locals := 21 })).room s m ([.ref mo] : List Value).toArray below meth c H locs 0 0 (MQ below (gq_V D A (fun w => w = [(mo, .inr (6, [.ref (mq 0), .ref (mq 1), .ref (mq 2), .ref (mq 3), .int (nI n), .ref (mq 5), .ref (mq 6), .int (nI F), .ref (mq 8), .ref (mq 9), .ref (mq 10), .ref (mq 11), .ref (mq 12), .ref (mq 13), .ref (mq 14), .ref (mq 15), .ref (mq 16), .ref (mq 17), .ref (mq 18), .ref (mq 19), .ref (mq 20), .ref (mq 21), .ref (mq 22), .int (nI (d + 1))])), ((mq 17), .inl (cJ, 2560, .inr (.inl (lp pt (320 * d + 4 * e) (fun j => ce (56 * (d + 1) + 4 * 0 + j)) 4)))), ((mq 16), .inl (cJ, 448, .inr (.inl ce))), ((mq 21), .inl (cI, 8, .inl fA))])) ([.ref mo] : List Value).toArray s (0) (0) A) (F0 m 40 ls []) := by
      intro n40
      induction n40 with
      | zero =>
        intro k hm40
        exact absurd hm40 (by omega)
      | succ n40 ih40 =>
        intro k hm40 hk hk0 H locs ls hP hD hS hl
        refine lv_iload_n hx hb dM_leave_40 rfl (lv_at hl 0 rfl) ?_
        refine lv_iconst (v := 4) hx hb dM_leave_41 (by decide) ?_
        refine lv_icmp_ge (tgt := 71) hx hb dM_leave_42 (by decide) (fun c42 => ?_) (fun c42 => ?_)
        · have g42 : 4 ≤ k := (gx_le (rfl : (4 : Int32) = nI 4) (rfl : (nI k) = (nI k)) (by decide) (by omega)).mp c42
          exact W.vret hx hb hr (fun t9 ht9 hW => ⟨⟨_, rfl, by rw [show k = 4 by omega], by rw [ht9]; exact hP, hD⟩, hS.F ht9⟩) hS.2.2 dM_leave_71
        · have g42 : ¬ (4 ≤ k) := fun z => c42 ((gx_le (rfl : (4 : Int32) = nI 4) (rfl : (nI k) = (nI k)) (by decide) (by omega)).mpr z)
          refine lv_aload_n hx hb dM_leave_45 rfl (lv_at hl 3 rfl) ?_
          refine va_get (D := D) (ci := 6) (v := .ref (mq 17)) (C := R_M) (T := F_M) (N := 24) hx hb ht i_M hown hK hP 0 rfl rfl 17 (by decide) (ht _ m_471) (fun _ h9 => h9) rfl dM_leave_46 ?_
          refine lv_aload_n hx hb dM_leave_49 rfl (lv_at hl 3 rfl) ?_
          refine lv_iload_n hx hb dM_leave_50 rfl (lv_at hl 1 rfl) ?_
          refine gc_i (va_runV (As := [.int (nI e)]) (rest := [.ref (mq 17)]) ⟨hx, hb, hml, hown, ht⟩ (c_M_base l D cI cJ cB cZ mo mq n F (d + 1) e (by omega) H.size) (cwV 1 ht (gw_V m_637 m_639 ms_35 m_6 m_640) rfl rfl rfl (by decide +kernel) ⟨Nat.le_of_ble_eq_true rfl, Nat.le_of_ble_eq_true rfl⟩) (gp_V (ci := 6) (q0 := 0) hK hN (hP.sub (ws' := [(mo, .inr (6, [.ref (mq 0), .ref (mq 1), .ref (mq 2), .ref (mq 3), .int (nI n), .ref (mq 5), .ref (mq 6), .int (nI F), .ref (mq 8), .ref (mq 9), .ref (mq 10), .ref (mq 11), .ref (mq 12), .ref (mq 13), .ref (mq 14), .ref (mq 15), .ref (mq 16), .ref (mq 17), .ref (mq 18), .ref (mq 19), .ref (mq 20), .ref (mq 21), .ref (mq 22), .int (nI (d + 1))]))]) [0] rfl) (hD.sub (ws' := [(mo, .inr (6, [.ref (mq 0), .ref (mq 1), .ref (mq 2), .ref (mq 3), .int (nI n), .ref (mq 5), .ref (mq 6), .int (nI F), .ref (mq 8), .ref (mq 9), .ref (mq 10), .ref (mq 11), .ref (mq 12), .ref (mq 13), .ref (mq 14), .ref (mq 15), .ref (mq 16), .ref (mq 17), .ref (mq 18), .ref (mq 19), .ref (mq 20), .ref (mq 21), .ref (mq 22), .int (nI (d + 1))]))]) [0] (by decide) rfl) rfl rfl) rfl rfl hl.1 rfl (lv_room (Nat.le_of_ble_eq_true rfl)) dM_leave_51 ⟨Nat.le_of_ble_eq_true rfl, Nat.le_of_ble_eq_true rfl⟩) hP hD hS hA [0] rfl (by decide) (fun r w h => by obtain ⟨_, rfl⟩ := h; rfl) (fun r51 w51 H locs p51 hP hD hS => ?_)
          obtain ⟨h51x, rfl⟩ := p51
          have h51y : r51 = nI (320 * d + 4 * e) := h51x
          subst h51y
          have hP : va_P D vwCl [(mo, .inr (6, [.ref (mq 0), .ref (mq 1), .ref (mq 2), .ref (mq 3), .int (nI n), .ref (mq 5), .ref (mq 6), .int (nI F), .ref (mq 8), .ref (mq 9), .ref (mq 10), .ref (mq 11), .ref (mq 12), .ref (mq 13), .ref (mq 14), .ref (mq 15), .ref (mq 16), .ref (mq 17), .ref (mq 18), .ref (mq 19), .ref (mq 20), .ref (mq 21), .ref (mq 22), .int (nI (d + 1))])), ((mq 17), .inl (cJ, 2560, .inr (.inl (lp pt (320 * d + 4 * e) (fun j => ce (56 * (d + 1) + 4 * 0 + j)) k)))), ((mq 16), .inl (cJ, 448, .inr (.inl ce))), ((mq 21), .inl (cI, 8, .inl fA))] H := hP
          have hD : va_D A [(mo, .inr (6, [.ref (mq 0), .ref (mq 1), .ref (mq 2), .ref (mq 3), .int (nI n), .ref (mq 5), .ref (mq 6), .int (nI F), .ref (mq 8), .ref (mq 9), .ref (mq 10), .ref (mq 11), .ref (mq 12), .ref (mq 13), .ref (mq 14), .ref (mq 15), .ref (mq 16), .ref (mq 17), .ref (mq 18), .ref (mq 19), .ref (mq 20), .ref (mq 21), .ref (mq 22), .int (nI (d + 1))])), ((mq 17), .inl (cJ, 2560, .inr (.inl (lp pt (320 * d + 4 * e) (fun j => ce (56 * (d + 1) + 4 * 0 + j)) k)))), ((mq 16), .inl (cJ, 448, .inr (.inl ce))), ((mq 21), .inl (cI, 8, .inl fA))] := hD
          refine lv_iload_n hx hb dM_leave_54 rfl (lv_at hl 0 rfl) ?_
          refine lv_iadd hx hb dM_leave_55 ?_
          refine lv_topi (fun v55 e55 => ?_)
          have n55 : v55 = nI ((320 * d + 4 * e) + k) := by rw [e55]; exact gx_add (rfl : (nI (320 * d + 4 * e)) = (nI (320 * d + 4 * e))) (rfl : (nI k) = (nI k))
          subst n55
          refine lv_aload_n hx hb dM_leave_56 rfl (lv_at hl 3 rfl) ?_
          refine va_get (D := D) (ci := 6) (v := .ref (mq 16)) (C := R_M) (T := F_M) (N := 24) hx hb ht i_M hown hK hP 0 rfl rfl 16 (by decide) (ht _ m_470) (fun _ h9 => h9) rfl dM_leave_57 ?_
          refine lv_iload_n hx hb dM_leave_60 rfl (lv_at hl 2 rfl) ?_
          refine lv_iload_n hx hb dM_leave_61 rfl (lv_at hl 0 rfl) ?_
          refine lv_iadd hx hb dM_leave_62 ?_
          refine lv_topi (fun v62 e62 => ?_)
          have n62 : v62 = nI ((56 * (d + 1) + 4 * 0) + k) := by rw [e62]; exact gx_add (rfl : (nI (56 * (d + 1) + 4 * 0)) = (nI (56 * (d + 1) + 4 * 0))) (rfl : (nI k) = (nI k))
          subst n62
          have i63 : vp_in (nI ((56 * (d + 1) + 4 * 0) + k)) 448 := gx_in (rfl : (nI ((56 * (d + 1) + 4 * 0) + k)) = (nI ((56 * (d + 1) + 4 * 0) + k))) (by omega) (by decide)
          have k63 : ((nI ((56 * (d + 1) + 4 * 0) + k)) : Int32).toNatClampNeg = ((56 * (d + 1) + 4 * 0) + k) := gx_cl (rfl : (nI ((56 * (d + 1) + 4 * 0) + k)) = (nI ((56 * (d + 1) + 4 * 0) + k))) (by omega)
          refine va_lald hx hb hK hP 2 1 rfl rfl i63 dM_leave_63 ?_
          rw [k63]
          refine lv_topl (fun v63 e63 => ?_)
          have i64 : vp_in (nI ((320 * d + 4 * e) + k)) 2560 := gx_in (rfl : (nI ((320 * d + 4 * e) + k)) = (nI ((320 * d + 4 * e) + k))) (by omega) (by decide)
          have k64 : ((nI ((320 * d + 4 * e) + k)) : Int32).toNatClampNeg = ((320 * d + 4 * e) + k) := gx_cl (rfl : (nI ((320 * d + 4 * e) + k)) = (nI ((320 * d + 4 * e) + k))) (by omega)
          refine va_last hx hb hK hP hD hS 1 1 rfl rfl i64 dM_leave_64 (fun H locs hP hD hS => ?_)
          rw [k64] at hP hD
          have hP : va_P D vwCl [(mo, .inr (6, [.ref (mq 0), .ref (mq 1), .ref (mq 2), .ref (mq 3), .int (nI n), .ref (mq 5), .ref (mq 6), .int (nI F), .ref (mq 8), .ref (mq 9), .ref (mq 10), .ref (mq 11), .ref (mq 12), .ref (mq 13), .ref (mq 14), .ref (mq 15), .ref (mq 16), .ref (mq 17), .ref (mq 18), .ref (mq 19), .ref (mq 20), .ref (mq 21), .ref (mq 22), .int (nI (d + 1))])), ((mq 17), .inl (cJ, 2560, .inr (.inl (vp_updL (lp pt (320 * d + 4 * e) (fun j => ce (56 * (d + 1) + 4 * 0 + j)) k) ((320 * d + 4 * e) + k) v63)))), ((mq 16), .inl (cJ, 448, .inr (.inl ce))), ((mq 21), .inl (cI, 8, .inl fA))] H := hP
          have hD : va_D A [(mo, .inr (6, [.ref (mq 0), .ref (mq 1), .ref (mq 2), .ref (mq 3), .int (nI n), .ref (mq 5), .ref (mq 6), .int (nI F), .ref (mq 8), .ref (mq 9), .ref (mq 10), .ref (mq 11), .ref (mq 12), .ref (mq 13), .ref (mq 14), .ref (mq 15), .ref (mq 16), .ref (mq 17), .ref (mq 18), .ref (mq 19), .ref (mq 20), .ref (mq 21), .ref (mq 22), .int (nI (d + 1))])), ((mq 17), .inl (cJ, 2560, .inr (.inl (vp_updL (lp pt (320 * d + 4 * e) (fun j => ce (56 * (d + 1) + 4 * 0 + j)) k) ((320 * d + 4 * e) + k) v63)))), ((mq 16), .inl (cJ, 448, .inr (.inl ce))), ((mq 21), .inl (cI, 8, .inl fA))] := hD
          rw [lp_s (s := (fun j => ce (56 * (d + 1) + 4 * 0 + j))) (by exact e63)] at hP hD
          have hP : va_P D vwCl [(mo, .inr (6, [.ref (mq 0), .ref (mq 1), .ref (mq 2), .ref (mq 3), .int (nI n), .ref (mq 5), .ref (mq 6), .int (nI F), .ref (mq 8), .ref (mq 9), .ref (mq 10), .ref (mq 11), .ref (mq 12), .ref (mq 13), .ref (mq 14), .ref (mq 15), .ref (mq 16), .ref (mq 17), .ref (mq 18), .ref (mq 19), .ref (mq 20), .ref (mq 21), .ref (mq 22), .int (nI (d + 1))])), ((mq 17), .inl (cJ, 2560, .inr (.inl (lp pt (320 * d + 4 * e) (fun j => ce (56 * (d + 1) + 4 * 0 + j)) (k + 1))))), ((mq 16), .inl (cJ, 448, .inr (.inl ce))), ((mq 21), .inl (cI, 8, .inl fA))] H := hP
          have hD : va_D A [(mo, .inr (6, [.ref (mq 0), .ref (mq 1), .ref (mq 2), .ref (mq 3), .int (nI n), .ref (mq 5), .ref (mq 6), .int (nI F), .ref (mq 8), .ref (mq 9), .ref (mq 10), .ref (mq 11), .ref (mq 12), .ref (mq 13), .ref (mq 14), .ref (mq 15), .ref (mq 16), .ref (mq 17), .ref (mq 18), .ref (mq 19), .ref (mq 20), .ref (mq 21), .ref (mq 22), .int (nI (d + 1))])), ((mq 17), .inl (cJ, 2560, .inr (.inl (lp pt (320 * d + 4 * e) (fun j => ce (56 * (d + 1) + 4 * 0 + j)) (k + 1))))), ((mq 16), .inl (cJ, 448, .inr (.inl ce))), ((mq 21), .inl (cI, 8, .inl fA))] := hD
          refine lv_iinc (v := (nI (k + 1))) (lv' := [(3, .int (nI (k + 1))), (2, .int (nI e)), (1, .int (nI (56 * (d + 1) + 4 * 0))), (0, .ref mo)]) hx hb dM_leave_65 hl (k := 0) rfl (gx_inc (rfl : (nI k) = (nI k))) (by decide) rfl (fun ls hl => ?_)
          refine lv_goto (tgt := 40) hx hb dM_leave_68 (by decide) ?_
          exact ih40 (k + 1) (by omega) (by omega) (by omega) _ _ _ hP hD hS (lv_sub hl [0, 1, 2, 3] rfl)
    exact lp40 (4 - (0) + 1) 0 (by omega) (by omega) (by omega) _ _ _ hP hD hS (lv_sub hl [0, 1, 2, 3] rfl)
  · have g20 : (d + 1) = 0 := (gx_eq (rfl : (nI (d + 1)) = (nI (d + 1))) (rfl : (0 : Int32) = nI 0) (by omega) (by decide)).mp c20
    exfalso; omega

set_option maxHeartbeats 4000000 in
set_option maxRecDepth 100000 in
theorem c_M_need (l : Launch) (D : va_G) (cI cJ cB cZ : ClassId) (mo : Nat) (mq : Nat → Nat) (F d : Nat) (X : Ex) (nd : Nat → Prop) (fA : Nat → Int32) (e : Nat) (hd : d < 8) (he : e < X.2.2.2.2) (hX : ex_ok X) : ct_V l y_M_need w_M_need ({ frames := 1, cells := 0, slots := 0, locals := 20 }) D (gk_T cI cJ cB cZ) [.ref mo, .int (nI e)] [(mo, .inr (6, [.ref (mq 0), .ref (mq 1), .ref (mq 2), .ref (mq 3), .int (nI X.2.2.2.2), .ref (mq 5), .ref (mq 6), .int (nI F), .ref (mq 8), .ref (mq 9), .ref (mq 10), .ref (mq 11), .ref (mq 12), .ref (mq 13), .ref (mq 14), .ref (mq 15), .ref (mq 16), .ref (mq 17), .ref (mq 18), .ref (mq 19), .ref (mq 20), .ref (mq 21), .ref (mq 22), .int (nI (d + 1))])), ((mq 0), .inl (cI, 80, .inl X.1)), ((mq 1), .inl (cI, 80, .inl X.2.1)), ((mq 2), .inl (cI, 80, .inl X.2.2.1)), ((mq 18), .inl (cZ, 640, .inl (fun z9 => gb (nd z9)))), ((mq 21), .inl (cI, 8, .inl fA))] (0) (0) (fun w => w = [(mo, .inr (6, [.ref (mq 0), .ref (mq 1), .ref (mq 2), .ref (mq 3), .int (nI X.2.2.2.2), .ref (mq 5), .ref (mq 6), .int (nI F), .ref (mq 8), .ref (mq 9), .ref (mq 10), .ref (mq 11), .ref (mq 12), .ref (mq 13), .ref (mq 14), .ref (mq 15), .ref (mq 16), .ref (mq 17), .ref (mq 18), .ref (mq 19), .ref (mq 20), .ref (mq 21), .ref (mq 22), .int (nI (d + 1))])), ((mq 0), .inl (cI, 80, .inl X.1)), ((mq 1), .inl (cI, 80, .inl X.2.1)), ((mq 2), .inl (cI, 80, .inl X.2.2.1)), ((mq 18), .inl (cZ, 640, .inl (fun z9 => gb ((ndx nd d (Rx X (fun z => z = e))) z9)))), ((mq 21), .inl (cI, 8, .inl (upd fA d 0)))]) := by
  intro sz
  refine Met.ofW (cc := b_M_need) (maxL := 4) (ret := none) (by decide) rfl ?_
  intro p ev9 s m args below meth c s₁ B9 hml hv
  obtain ⟨rfl, hsz, hP, hK, hN, hD0⟩ := hv
  have hx := B9.exec
  have hb := B9.bytes
  have hr := B9.returns
  have hts := atoms_spec (ws := w_M_need) B9.pre
  have ht : ∀ w ∈ gk_big, w.before _ s = true := fun w h => hts w (List.mem_cons_of_mem _ h)
  have hown : s.vm.findClass R_M = some m.cls := findClass_of_methodNamed B9.named
  have hlocks := B9.notSynchronized
  subst hsz
  have hD := hD0.self (sz := s.heap.size)
  generalize hAe : va_A [(mo, .inr (6, [.ref (mq 0), .ref (mq 1), .ref (mq 2), .ref (mq 3), .int (nI X.2.2.2.2), .ref (mq 5), .ref (mq 6), .int (nI F), .ref (mq 8), .ref (mq 9), .ref (mq 10), .ref (mq 11), .ref (mq 12), .ref (mq 13), .ref (mq 14), .ref (mq 15), .ref (mq 16), .ref (mq 17), .ref (mq 18), .ref (mq 19), .ref (mq 20), .ref (mq 21), .ref (mq 22), .int (nI (d + 1))])), ((mq 0), .inl (cI, 80, .inl X.1)), ((mq 1), .inl (cI, 80, .inl X.2.1)), ((mq 2), .inl (cI, 80, .inl X.2.2.1)), ((mq 18), .inl (cZ, 640, .inl (fun z9 => gb (nd z9)))), ((mq 21), .inl (cI, 8, .inl fA))] s.heap.size = A at hD ⊢
  have hA : ∀ q : Nat, s.heap.size ≤ q → A q := fun q h => by rw [← hAe]; exact Or.inr h
  generalize hHe : s.heap = H at hP ⊢
  have hS : va_S A s.heap H [] := by rw [← hHe]; exact va_S.rf
  have hP : va_P D vwCl [(mo, .inr (6, [.ref (mq 0), .ref (mq 1), .ref (mq 2), .ref (mq 3), .int (nI X.2.2.2.2), .ref (mq 5), .ref (mq 6), .int (nI F), .ref (mq 8), .ref (mq 9), .ref (mq 10), .ref (mq 11), .ref (mq 12), .ref (mq 13), .ref (mq 14), .ref (mq 15), .ref (mq 16), .ref (mq 17), .ref (mq 18), .ref (mq 19), .ref (mq 20), .ref (mq 21), .ref (mq 22), .int (nI (d + 1))])), ((mq 0), .inl (cI, 80, .inl X.1)), ((mq 1), .inl (cI, 80, .inl X.2.1)), ((mq 2), .inl (cI, 80, .inl X.2.2.1)), ((mq 18), .inl (cZ, 640, .inl (fun z9 => gb (nd z9)))), ((mq 21), .inl (cI, 8, .inl fA))] H := hP
  have hD : va_D A [(mo, .inr (6, [.ref (mq 0), .ref (mq 1), .ref (mq 2), .ref (mq 3), .int (nI X.2.2.2.2), .ref (mq 5), .ref (mq 6), .int (nI F), .ref (mq 8), .ref (mq 9), .ref (mq 10), .ref (mq 11), .ref (mq 12), .ref (mq 13), .ref (mq 14), .ref (mq 15), .ref (mq 16), .ref (mq 17), .ref (mq 18), .ref (mq 19), .ref (mq 20), .ref (mq 21), .ref (mq 22), .int (nI (d + 1))])), ((mq 0), .inl (cI, 80, .inl X.1)), ((mq 1), .inl (cI, 80, .inl X.2.1)), ((mq 2), .inl (cI, 80, .inl X.2.2.1)), ((mq 18), .inl (cZ, 640, .inl (fun z9 => gb (nd z9)))), ((mq 21), .inl (cI, 8, .inl fA))] := hD
  have hl := lv_entry ([.ref mo, .int (nI e)]) (n := 4) (Nat.le_of_ble_eq_true rfl)
  rw [lg_entry_eq]
  generalize (lg_sl ([.ref mo, .int (nI e)]) ++ List.replicate (4 - (lg_sl ([.ref mo, .int (nI e)])).length) Slot.unset).toArray = ls at hl ⊢
  have hl : lv_has ls 4 [(0, .ref mo), (1, .int (nI e))] := hl
  have hn80 := hX.1
  refine lv_bipush (v := 80) hx hb dM_need_0 (by decide) ?_
  refine lv_aload_n hx hb dM_need_2 rfl (lv_at hl 0 rfl) ?_
  refine va_get (D := D) (ci := 6) (v := .int (nI (d + 1))) (C := R_M) (T := F_M) (N := 24) hx hb ht i_M hown hK hP 0 rfl rfl 23 (by decide) (ht _ m_477) (fun _ h9 => h9) rfl dM_need_3 ?_
  refine lv_iconst (v := 1) hx hb dM_need_6 (by decide) ?_
  refine lv_isub hx hb dM_need_7 ?_
  refine lv_topi (fun v7 e7 => ?_)
  have n7 : v7 = nI ((d + 1) - 1) := by rw [e7]; exact gx_sub (rfl : (nI (d + 1)) = (nI (d + 1))) (rfl : (1 : Int32) = nI 1) (by omega)
  subst n7
  rw [show d + 1 - 1 = d from rfl]
  refine lv_imul hx hb dM_need_8 ?_
  refine lv_topi (fun v8 e8 => ?_)
  have n8 : v8 = nI (80 * d) := by rw [e8]; exact gx_mul (rfl : (80 : Int32) = nI 80) (rfl : (nI d) = (nI d))
  subst n8
  refine lv_istore_n (lv' := [(2, .int (nI (80 * d))), (0, .ref mo), (1, .int (nI e))]) hx hb dM_need_9 rfl hl (by decide) rfl (fun ls hl => ?_)
  refine lv_iconst (v := 0) hx hb dM_need_10 (by decide) ?_
  refine lv_istore_n (lv' := [(3, .int 0), (2, .int (nI (80 * d))), (0, .ref mo), (1, .int (nI e))]) hx hb dM_need_11 rfl hl (by decide) rfl (fun ls hl => ?_)
  have lp12 : ∀ (n12 : Nat) (k : Nat) (R : Nat → Prop), 80 - k + 1 ≤ n12 → (k ≤ 80) → (∀ z, z < k → (R (80 * d + z) ↔ z = e)) → (∀ z, (z < 80 * d ∨ 80 * d + 80 ≤ z) → (R z ↔ nd z)) → ∀ (H : Heap) (locs : List Loc) (ls : Array Slot), va_P D vwCl [(mo, .inr (6, [.ref (mq 0), .ref (mq 1), .ref (mq 2), .ref (mq 3), .int (nI X.2.2.2.2), .ref (mq 5), .ref (mq 6), .int (nI F), .ref (mq 8), .ref (mq 9), .ref (mq 10), .ref (mq 11), .ref (mq 12), .ref (mq 13), .ref (mq 14), .ref (mq 15), .ref (mq 16), .ref (mq 17), .ref (mq 18), .ref (mq 19), .ref (mq 20), .ref (mq 21), .ref (mq 22), .int (nI (d + 1))])), ((mq 0), .inl (cI, 80, .inl X.1)), ((mq 1), .inl (cI, 80, .inl X.2.1)), ((mq 2), .inl (cI, 80, .inl X.2.2.1)), ((mq 18), .inl (cZ, 640, .inl (fun z9 => gb (R z9)))), ((mq 21), .inl (cI, 8, .inl fA))] H → va_D A [(mo, .inr (6, [.ref (mq 0), .ref (mq 1), .ref (mq 2), .ref (mq 3), .int (nI X.2.2.2.2), .ref (mq 5), .ref (mq 6), .int (nI F), .ref (mq 8), .ref (mq 9), .ref (mq 10), .ref (mq 11), .ref (mq 12), .ref (mq 13), .ref (mq 14), .ref (mq 15), .ref (mq 16), .ref (mq 17), .ref (mq 18), .ref (mq 19), .ref (mq 20), .ref (mq 21), .ref (mq 22), .int (nI (d + 1))])), ((mq 0), .inl (cI, 80, .inl X.1)), ((mq 1), .inl (cI, 80, .inl X.2.1)), ((mq 2), .inl (cI, 80, .inl X.2.2.1)), ((mq 18), .inl (cZ, 640, .inl (fun z9 => gb (R z9)))), ((mq 21), .inl (cI, 8, .inl fA))] → va_S A s.heap H locs → lv_has ls 4 [(3, .int (nI k)), (2, .int (nI (80 * d))), (0, .ref mo), (1, .int (nI e))] → W p l ev9 (headSpec w_M_need ({ frames := 1, cells := 0, slots := 0, locals := 20 })).room s m ([.ref mo, .int (nI e)] : List Value).toArray below meth c H locs 0 0 (MQ below (gq_V D A (fun w => w = [(mo, .inr (6, [.ref (mq 0), .ref (mq 1), .ref (mq 2), .ref (mq 3), .int (nI X.2.2.2.2), .ref (mq 5), .ref (mq 6), .int (nI F), .ref (mq 8), .ref (mq 9), .ref (mq 10), .ref (mq 11), .ref (mq 12), .ref (mq 13), .ref (mq 14), .ref (mq 15), .ref (mq 16), .ref (mq 17), .ref (mq 18), .ref (mq 19), .ref (mq 20), .ref (mq 21), .ref (mq 22), .int (nI (d + 1))])), ((mq 0), .inl (cI, 80, .inl X.1)), ((mq 1), .inl (cI, 80, .inl X.2.1)), ((mq 2), .inl (cI, 80, .inl X.2.2.1)), ((mq 18), .inl (cZ, 640, .inl (fun z9 => gb ((ndx nd d (Rx X (fun z => z = e))) z9)))), ((mq 21), .inl (cI, 8, .inl (upd fA d 0)))])) ([.ref mo, .int (nI e)] : List Value).toArray s (0) (0) A) (F0 m 12 ls []) := by
    intro n12
    induction n12 with
    | zero =>
      intro k R hm12
      exact absurd hm12 (by omega)
    | succ n12 ih12 =>
      intro k R hm12 hk hR hO H locs ls hP hD hS hl
      refine lv_iload_n hx hb dM_need_12 rfl (lv_at hl 0 rfl) ?_
      refine lv_bipush (v := 80) hx hb dM_need_13 (by decide) ?_
      refine lv_icmp_ge (tgt := 42) hx hb dM_need_15 (by decide) (fun c15 => ?_) (fun c15 => ?_)
      · have g15 : 80 ≤ k := (gx_le (rfl : (80 : Int32) = nI 80) (rfl : (nI k) = (nI k)) (by decide) (by omega)).mp c15
        refine lv_iload_n hx hb dM_need_42 rfl (lv_at hl 3 rfl) ?_
        refine lv_istore_n (lv' := [(3, .int (nI e)), (2, .int (nI (80 * d))), (0, .ref mo), (1, .int (nI e))]) hx hb dM_need_43 rfl hl (by decide) rfl (fun ls hl => ?_)
        have lp44 : ∀ (n44 : Nat) (i : Nat) (v : Int32) (R3 : Nat → Prop), i + 1 ≤ n44 → (i ≤ e + 1) → (v = nI i - 1) → (DN X (fun z => z = e) i (fun z => R3 (80 * d + z) ∧ z < 80)) → (∀ z, (z < 80 * d ∨ 80 * d + 80 ≤ z) → (R3 z ↔ nd z)) → ∀ (H : Heap) (locs : List Loc) (ls : Array Slot), va_P D vwCl [(mo, .inr (6, [.ref (mq 0), .ref (mq 1), .ref (mq 2), .ref (mq 3), .int (nI X.2.2.2.2), .ref (mq 5), .ref (mq 6), .int (nI F), .ref (mq 8), .ref (mq 9), .ref (mq 10), .ref (mq 11), .ref (mq 12), .ref (mq 13), .ref (mq 14), .ref (mq 15), .ref (mq 16), .ref (mq 17), .ref (mq 18), .ref (mq 19), .ref (mq 20), .ref (mq 21), .ref (mq 22), .int (nI (d + 1))])), ((mq 0), .inl (cI, 80, .inl X.1)), ((mq 1), .inl (cI, 80, .inl X.2.1)), ((mq 2), .inl (cI, 80, .inl X.2.2.1)), ((mq 18), .inl (cZ, 640, .inl (fun z9 => gb (R3 z9)))), ((mq 21), .inl (cI, 8, .inl fA))] H → va_D A [(mo, .inr (6, [.ref (mq 0), .ref (mq 1), .ref (mq 2), .ref (mq 3), .int (nI X.2.2.2.2), .ref (mq 5), .ref (mq 6), .int (nI F), .ref (mq 8), .ref (mq 9), .ref (mq 10), .ref (mq 11), .ref (mq 12), .ref (mq 13), .ref (mq 14), .ref (mq 15), .ref (mq 16), .ref (mq 17), .ref (mq 18), .ref (mq 19), .ref (mq 20), .ref (mq 21), .ref (mq 22), .int (nI (d + 1))])), ((mq 0), .inl (cI, 80, .inl X.1)), ((mq 1), .inl (cI, 80, .inl X.2.1)), ((mq 2), .inl (cI, 80, .inl X.2.2.1)), ((mq 18), .inl (cZ, 640, .inl (fun z9 => gb (R3 z9)))), ((mq 21), .inl (cI, 8, .inl fA))] → va_S A s.heap H locs → lv_has ls 4 [(3, .int v), (2, .int (nI (80 * d))), (0, .ref mo), (1, .int (nI e))] → W p l ev9 (headSpec w_M_need ({ frames := 1, cells := 0, slots := 0, locals := 20 })).room s m ([.ref mo, .int (nI e)] : List Value).toArray below meth c H locs 0 0 (MQ below (gq_V D A (fun w => w = [(mo, .inr (6, [.ref (mq 0), .ref (mq 1), .ref (mq 2), .ref (mq 3), .int (nI X.2.2.2.2), .ref (mq 5), .ref (mq 6), .int (nI F), .ref (mq 8), .ref (mq 9), .ref (mq 10), .ref (mq 11), .ref (mq 12), .ref (mq 13), .ref (mq 14), .ref (mq 15), .ref (mq 16), .ref (mq 17), .ref (mq 18), .ref (mq 19), .ref (mq 20), .ref (mq 21), .ref (mq 22), .int (nI (d + 1))])), ((mq 0), .inl (cI, 80, .inl X.1)), ((mq 1), .inl (cI, 80, .inl X.2.1)), ((mq 2), .inl (cI, 80, .inl X.2.2.1)), ((mq 18), .inl (cZ, 640, .inl (fun z9 => gb ((ndx nd d (Rx X (fun z => z = e))) z9)))), ((mq 21), .inl (cI, 8, .inl (upd fA d 0)))])) ([.ref mo, .int (nI e)] : List Value).toArray s (0) (0) A) (F0 m 44 ls []) := by
          intro n44
          induction n44 with
          | zero =>
            intro i v R3 hm44
            exact absurd hm44 (by omega)
          | succ n44 ih44 =>
            intro i v R3 hm44 hi hv hDN hO3 H locs ls hP hD hS hl
            refine lv_iload_n hx hb dM_need_44 rfl (lv_at hl 0 rfl) ?_
            refine lv_if_lt (tgt := 118) hx hb dM_need_45 (by decide) (fun c45 => ?_) (fun c45 => ?_)
            · refine lv_aload_n hx hb dM_need_118 rfl (lv_at hl 2 rfl) ?_
              refine va_get (D := D) (ci := 6) (v := .ref (mq 21)) (C := R_M) (T := F_M) (N := 24) hx hb ht i_M hown hK hP 0 rfl rfl 21 (by decide) (ht _ m_475) (fun _ h9 => h9) rfl dM_need_119 ?_
              refine lv_aload_n hx hb dM_need_122 rfl (lv_at hl 2 rfl) ?_
              refine va_get (D := D) (ci := 6) (v := .int (nI (d + 1))) (C := R_M) (T := F_M) (N := 24) hx hb ht i_M hown hK hP 0 rfl rfl 23 (by decide) (ht _ m_477) (fun _ h9 => h9) rfl dM_need_123 ?_
              refine lv_iconst (v := 1) hx hb dM_need_126 (by decide) ?_
              refine lv_isub hx hb dM_need_127 ?_
              refine lv_topi (fun v127 e127 => ?_)
              have n127 : v127 = nI ((d + 1) - 1) := by rw [e127]; exact gx_sub (rfl : (nI (d + 1)) = (nI (d + 1))) (rfl : (1 : Int32) = nI 1) (by omega)
              subst n127
              rw [show d + 1 - 1 = d from rfl]
              refine lv_iconst (v := 0) hx hb dM_need_128 (by decide) ?_
              have i129 : vp_in (nI d) 8 := gx_in (rfl : (nI d) = (nI d)) (by omega) (by decide)
              have k129 : ((nI d) : Int32).toNatClampNeg = d := gx_cl (rfl : (nI d) = (nI d)) (by omega)
              refine va_iast hx hb hK hP hD hS 5 0 rfl rfl i129 dM_need_129 (fun H locs hP hD hS => ?_)
              rw [k129] at hP hD
              have hP : va_P D vwCl [(mo, .inr (6, [.ref (mq 0), .ref (mq 1), .ref (mq 2), .ref (mq 3), .int (nI X.2.2.2.2), .ref (mq 5), .ref (mq 6), .int (nI F), .ref (mq 8), .ref (mq 9), .ref (mq 10), .ref (mq 11), .ref (mq 12), .ref (mq 13), .ref (mq 14), .ref (mq 15), .ref (mq 16), .ref (mq 17), .ref (mq 18), .ref (mq 19), .ref (mq 20), .ref (mq 21), .ref (mq 22), .int (nI (d + 1))])), ((mq 0), .inl (cI, 80, .inl X.1)), ((mq 1), .inl (cI, 80, .inl X.2.1)), ((mq 2), .inl (cI, 80, .inl X.2.2.1)), ((mq 18), .inl (cZ, 640, .inl (fun z9 => gb (R3 z9)))), ((mq 21), .inl (cI, 8, .inl (upd fA d 0)))] H := hP
              have hD : va_D A [(mo, .inr (6, [.ref (mq 0), .ref (mq 1), .ref (mq 2), .ref (mq 3), .int (nI X.2.2.2.2), .ref (mq 5), .ref (mq 6), .int (nI F), .ref (mq 8), .ref (mq 9), .ref (mq 10), .ref (mq 11), .ref (mq 12), .ref (mq 13), .ref (mq 14), .ref (mq 15), .ref (mq 16), .ref (mq 17), .ref (mq 18), .ref (mq 19), .ref (mq 20), .ref (mq 21), .ref (mq 22), .int (nI (d + 1))])), ((mq 0), .inl (cI, 80, .inl X.1)), ((mq 1), .inl (cI, 80, .inl X.2.1)), ((mq 2), .inl (cI, 80, .inl X.2.2.1)), ((mq 18), .inl (cZ, 640, .inl (fun z9 => gb (R3 z9)))), ((mq 21), .inl (cI, 8, .inl (upd fA d 0)))] := hD
              have hi0 := gm_down0 hv (by omega) c45
              subst hi0
              have hfin : (fun z => gb (R3 z)) = (fun z => gb ((ndx nd d (Rx X (fun z => z = e))) z)) := by
                funext z; refine gb_e ?_; unfold ndx
                by_cases hz : 80 * d ≤ z ∧ z < 80 * d + 80
                · rw [if_pos hz]; have := dn_end hDN (z - 80 * d); rw [show 80 * d + (z - 80 * d) = z by omega] at this; exact ⟨fun y => this.mp ⟨y, by omega⟩, fun y => (this.mpr y).1⟩
                · rw [if_neg hz]; exact hO3 z (by omega)
              rw [hfin] at hP hD
              have hP : va_P D vwCl [(mo, .inr (6, [.ref (mq 0), .ref (mq 1), .ref (mq 2), .ref (mq 3), .int (nI X.2.2.2.2), .ref (mq 5), .ref (mq 6), .int (nI F), .ref (mq 8), .ref (mq 9), .ref (mq 10), .ref (mq 11), .ref (mq 12), .ref (mq 13), .ref (mq 14), .ref (mq 15), .ref (mq 16), .ref (mq 17), .ref (mq 18), .ref (mq 19), .ref (mq 20), .ref (mq 21), .ref (mq 22), .int (nI (d + 1))])), ((mq 0), .inl (cI, 80, .inl X.1)), ((mq 1), .inl (cI, 80, .inl X.2.1)), ((mq 2), .inl (cI, 80, .inl X.2.2.1)), ((mq 18), .inl (cZ, 640, .inl (fun z9 => gb ((ndx nd d (Rx X (fun z => z = e))) z9)))), ((mq 21), .inl (cI, 8, .inl (upd fA d 0)))] H := hP
              have hD : va_D A [(mo, .inr (6, [.ref (mq 0), .ref (mq 1), .ref (mq 2), .ref (mq 3), .int (nI X.2.2.2.2), .ref (mq 5), .ref (mq 6), .int (nI F), .ref (mq 8), .ref (mq 9), .ref (mq 10), .ref (mq 11), .ref (mq 12), .ref (mq 13), .ref (mq 14), .ref (mq 15), .ref (mq 16), .ref (mq 17), .ref (mq 18), .ref (mq 19), .ref (mq 20), .ref (mq 21), .ref (mq 22), .int (nI (d + 1))])), ((mq 0), .inl (cI, 80, .inl X.1)), ((mq 1), .inl (cI, 80, .inl X.2.1)), ((mq 2), .inl (cI, 80, .inl X.2.2.1)), ((mq 18), .inl (cZ, 640, .inl (fun z9 => gb ((ndx nd d (Rx X (fun z => z = e))) z9)))), ((mq 21), .inl (cI, 8, .inl (upd fA d 0)))] := hD
              exact W.vret hx hb hr (fun t9 ht9 hW => ⟨⟨_, rfl, rfl, by rw [ht9]; exact hP, hD⟩, hS.F ht9⟩) hS.2.2 dM_need_130
            · obtain ⟨j, rfl, rfl⟩ := gm_down hv (by omega) c45
              obtain ⟨kd, hkd, hk1, hka, hkb, -, -, -, hkc⟩ := hX.2 j (by omega)
              refine lv_aload_n hx hb dM_need_48 rfl (lv_at hl 2 rfl) ?_
              refine va_get (D := D) (ci := 6) (v := .ref (mq 18)) (C := R_M) (T := F_M) (N := 24) hx hb ht i_M hown hK hP 0 rfl rfl 18 (by decide) (ht _ m_472) (fun _ h9 => h9) rfl dM_need_49 ?_
              refine lv_iload_n hx hb dM_need_52 rfl (lv_at hl 1 rfl) ?_
              refine lv_iload_n hx hb dM_need_53 rfl (lv_at hl 0 rfl) ?_
              refine lv_iadd hx hb dM_need_54 ?_
              refine lv_topi (fun v54 e54 => ?_)
              have n54 : v54 = nI ((80 * d) + j) := by rw [e54]; exact gx_add (rfl : (nI (80 * d)) = (nI (80 * d))) (rfl : (nI j) = (nI j))
              subst n54
              have i55 : vp_in (nI ((80 * d) + j)) 640 := gx_in (rfl : (nI ((80 * d) + j)) = (nI ((80 * d) + j))) (by omega) (by decide)
              have k55 : ((nI ((80 * d) + j)) : Int32).toNatClampNeg = ((80 * d) + j) := gx_cl (rfl : (nI ((80 * d) + j)) = (nI ((80 * d) + j))) (by omega)
              refine va_zald hx hb hK hP 4 3 rfl rfl i55 dM_need_55 ?_
              rw [k55]
              refine lv_topi (fun v55 e55 => ?_)
              have n55 : v55 = (gb (R3 ((80 * d) + j))) := e55
              subst n55
              refine lv_if_eq (tgt := 112) hx hb dM_need_56 (by decide) (fun c56 => ?_) (fun c56 => ?_)
              · obtain ⟨v112, e112⟩ : ∃ y : Int32, y = (nI j) + Int32.ofInt (-1) := ⟨_, rfl⟩
                refine lv_iinc (v := v112) (lv' := [(3, .int v112), (2, .int (nI (80 * d))), (0, .ref mo), (1, .int (nI e))]) hx hb dM_need_112 hl (k := 0) rfl (e112.symm) (by decide) rfl (fun ls hl => ?_)
                refine lv_goto (tgt := 44) hx hb dM_need_115 (by decide) ?_
                exact ih44 j v112 R3 (by omega) (by omega) (by rw [e112]; exact gm_m1 _) (dn_skip hDN (fun y => absurd y.1 (gb_1.mp c56))) hO3 _ _ _ hP hD hS (lv_sub hl [0, 1, 2, 3] rfl)
              · refine lv_aload_n hx hb dM_need_59 rfl (lv_at hl 2 rfl) ?_
                refine va_get (D := D) (ci := 6) (v := .ref (mq 0)) (C := R_M) (T := F_M) (N := 24) hx hb ht i_M hown hK hP 0 rfl rfl 0 (by decide) (ht _ m_454) (fun _ h9 => h9) rfl dM_need_60 ?_
                refine lv_iload_n hx hb dM_need_63 rfl (lv_at hl 0 rfl) ?_
                have i64 : vp_in (nI j) 80 := gx_in (rfl : (nI j) = (nI j)) (by omega) (by decide)
                have k64 : ((nI j) : Int32).toNatClampNeg = j := gx_cl (rfl : (nI j) = (nI j)) (by omega)
                refine va_iald hx hb hK hP 1 0 rfl rfl i64 dM_need_64 ?_
                rw [k64]
                refine lv_topi (fun v64 e64 => ?_)
                rw [hk1] at e64
                subst e64
                refine lv_iconst (v := 2) hx hb dM_need_65 (by decide) ?_
                refine lv_icmp_ge (tgt := 72) hx hb dM_need_66 (by decide) (fun c66 => ?_) (fun c66 => ?_)
                · have g66 : 2 ≤ kd := (gx_le (rfl : (2 : Int32) = nI 2) (rfl : (nI kd) = (nI kd)) (by decide) (by omega)).mp c66
                  obtain ⟨a0, hal, hae⟩ := hka (by omega)
                  refine lv_aload_n hx hb dM_need_72 rfl (lv_at hl 2 rfl) ?_
                  refine va_get (D := D) (ci := 6) (v := .ref (mq 18)) (C := R_M) (T := F_M) (N := 24) hx hb ht i_M hown hK hP 0 rfl rfl 18 (by decide) (ht _ m_472) (fun _ h9 => h9) rfl dM_need_73 ?_
                  refine lv_iload_n hx hb dM_need_76 rfl (lv_at hl 1 rfl) ?_
                  refine lv_aload_n hx hb dM_need_77 rfl (lv_at hl 2 rfl) ?_
                  refine va_get (D := D) (ci := 6) (v := .ref (mq 1)) (C := R_M) (T := F_M) (N := 24) hx hb ht i_M hown hK hP 0 rfl rfl 1 (by decide) (ht _ m_455) (fun _ h9 => h9) rfl dM_need_78 ?_
                  refine lv_iload_n hx hb dM_need_81 rfl (lv_at hl 0 rfl) ?_
                  have i82 : vp_in (nI j) 80 := gx_in (rfl : (nI j) = (nI j)) (by omega) (by decide)
                  have k82 : ((nI j) : Int32).toNatClampNeg = j := gx_cl (rfl : (nI j) = (nI j)) (by omega)
                  refine va_iald hx hb hK hP 2 0 rfl rfl i82 dM_need_82 ?_
                  rw [k82]
                  refine lv_topi (fun v82 e82 => ?_)
                  rw [hae] at e82
                  subst e82
                  refine lv_iadd hx hb dM_need_83 ?_
                  refine lv_topi (fun v83 e83 => ?_)
                  have n83 : v83 = nI ((80 * d) + a0) := by rw [e83]; exact gx_add (rfl : (nI (80 * d)) = (nI (80 * d))) (rfl : (nI a0) = (nI a0))
                  subst n83
                  refine lv_iconst (v := 1) hx hb dM_need_84 (by decide) ?_
                  have i85 : vp_in (nI ((80 * d) + a0)) 640 := gx_in (rfl : (nI ((80 * d) + a0)) = (nI ((80 * d) + a0))) (by omega) (by decide)
                  have k85 : ((nI ((80 * d) + a0)) : Int32).toNatClampNeg = ((80 * d) + a0) := gx_cl (rfl : (nI ((80 * d) + a0)) = (nI ((80 * d) + a0))) (by omega)
                  refine va_zast hx hb hK hP hD hS 4 3 rfl rfl i85 dM_need_85 (fun H locs hP hD hS => ?_)
                  rw [k85] at hP hD
                  have hP : va_P D vwCl [(mo, .inr (6, [.ref (mq 0), .ref (mq 1), .ref (mq 2), .ref (mq 3), .int (nI X.2.2.2.2), .ref (mq 5), .ref (mq 6), .int (nI F), .ref (mq 8), .ref (mq 9), .ref (mq 10), .ref (mq 11), .ref (mq 12), .ref (mq 13), .ref (mq 14), .ref (mq 15), .ref (mq 16), .ref (mq 17), .ref (mq 18), .ref (mq 19), .ref (mq 20), .ref (mq 21), .ref (mq 22), .int (nI (d + 1))])), ((mq 0), .inl (cI, 80, .inl X.1)), ((mq 1), .inl (cI, 80, .inl X.2.1)), ((mq 2), .inl (cI, 80, .inl X.2.2.1)), ((mq 18), .inl (cZ, 640, .inl (upd (fun z9 => gb (R3 z9)) ((80 * d) + a0) (vp_nar .boolean 1)))), ((mq 21), .inl (cI, 8, .inl fA))] H := hP
                  have hD : va_D A [(mo, .inr (6, [.ref (mq 0), .ref (mq 1), .ref (mq 2), .ref (mq 3), .int (nI X.2.2.2.2), .ref (mq 5), .ref (mq 6), .int (nI F), .ref (mq 8), .ref (mq 9), .ref (mq 10), .ref (mq 11), .ref (mq 12), .ref (mq 13), .ref (mq 14), .ref (mq 15), .ref (mq 16), .ref (mq 17), .ref (mq 18), .ref (mq 19), .ref (mq 20), .ref (mq 21), .ref (mq 22), .int (nI (d + 1))])), ((mq 0), .inl (cI, 80, .inl X.1)), ((mq 1), .inl (cI, 80, .inl X.2.1)), ((mq 2), .inl (cI, 80, .inl X.2.2.1)), ((mq 18), .inl (cZ, 640, .inl (upd (fun z9 => gb (R3 z9)) ((80 * d) + a0) (vp_nar .boolean 1)))), ((mq 21), .inl (cI, 8, .inl fA))] := hD
                  rw [gm_bp1] at hP hD
                  have hP : va_P D vwCl [(mo, .inr (6, [.ref (mq 0), .ref (mq 1), .ref (mq 2), .ref (mq 3), .int (nI X.2.2.2.2), .ref (mq 5), .ref (mq 6), .int (nI F), .ref (mq 8), .ref (mq 9), .ref (mq 10), .ref (mq 11), .ref (mq 12), .ref (mq 13), .ref (mq 14), .ref (mq 15), .ref (mq 16), .ref (mq 17), .ref (mq 18), .ref (mq 19), .ref (mq 20), .ref (mq 21), .ref (mq 22), .int (nI (d + 1))])), ((mq 0), .inl (cI, 80, .inl X.1)), ((mq 1), .inl (cI, 80, .inl X.2.1)), ((mq 2), .inl (cI, 80, .inl X.2.2.1)), ((mq 18), .inl (cZ, 640, .inl (fun z9 => gb ((bp R3 ((80 * d) + a0) True) z9)))), ((mq 21), .inl (cI, 8, .inl fA))] H := hP
                  have hD : va_D A [(mo, .inr (6, [.ref (mq 0), .ref (mq 1), .ref (mq 2), .ref (mq 3), .int (nI X.2.2.2.2), .ref (mq 5), .ref (mq 6), .int (nI F), .ref (mq 8), .ref (mq 9), .ref (mq 10), .ref (mq 11), .ref (mq 12), .ref (mq 13), .ref (mq 14), .ref (mq 15), .ref (mq 16), .ref (mq 17), .ref (mq 18), .ref (mq 19), .ref (mq 20), .ref (mq 21), .ref (mq 22), .int (nI (d + 1))])), ((mq 0), .inl (cI, 80, .inl X.1)), ((mq 1), .inl (cI, 80, .inl X.2.1)), ((mq 2), .inl (cI, 80, .inl X.2.2.1)), ((mq 18), .inl (cZ, 640, .inl (fun z9 => gb ((bp R3 ((80 * d) + a0) True) z9)))), ((mq 21), .inl (cI, 8, .inl fA))] := hD
                  refine lv_aload_n hx hb dM_need_86 rfl (lv_at hl 2 rfl) ?_
                  refine va_get (D := D) (ci := 6) (v := .ref (mq 0)) (C := R_M) (T := F_M) (N := 24) hx hb ht i_M hown hK hP 0 rfl rfl 0 (by decide) (ht _ m_454) (fun _ h9 => h9) rfl dM_need_87 ?_
                  refine lv_iload_n hx hb dM_need_90 rfl (lv_at hl 0 rfl) ?_
                  have i91 : vp_in (nI j) 80 := gx_in (rfl : (nI j) = (nI j)) (by omega) (by decide)
                  have k91 : ((nI j) : Int32).toNatClampNeg = j := gx_cl (rfl : (nI j) = (nI j)) (by omega)
                  refine va_iald hx hb hK hP 1 0 rfl rfl i91 dM_need_91 ?_
                  rw [k91]
                  refine lv_topi (fun v91 e91 => ?_)
                  rw [hk1] at e91
                  subst e91
                  refine gc_i (va_runS (As := [.int (nI kd)]) (rest := []) ⟨hx, hb, hml, hown, ht⟩ (c_M_hasSecond l D cI cJ cB cZ (nI kd) H.size) (va_cwS 1 ht (gw_S m_539 m_540 m_6 m_541) rfl rfl rfl (by decide +kernel) ⟨Nat.le_of_ble_eq_true rfl, Nat.le_of_ble_eq_true rfl⟩) (gp_S hK hN (hP.sub (ws' := ([] : va_W)) [] rfl) (hD.sub (ws' := ([] : va_W)) [] (by decide) rfl)) rfl rfl hl.1 rfl (lv_room (Nat.le_of_ble_eq_true rfl)) dM_need_92 ⟨Nat.le_of_ble_eq_true rfl, Nat.le_of_ble_eq_true rfl⟩) hP hD hS hA [] rfl (by decide) (fun r w h => by obtain ⟨_, rfl⟩ := h; rfl) (fun r92 w92 H locs p92 hP hD hS => ?_)
                  obtain ⟨rfl, rfl⟩ := p92
                  have hP : va_P D vwCl [(mo, .inr (6, [.ref (mq 0), .ref (mq 1), .ref (mq 2), .ref (mq 3), .int (nI X.2.2.2.2), .ref (mq 5), .ref (mq 6), .int (nI F), .ref (mq 8), .ref (mq 9), .ref (mq 10), .ref (mq 11), .ref (mq 12), .ref (mq 13), .ref (mq 14), .ref (mq 15), .ref (mq 16), .ref (mq 17), .ref (mq 18), .ref (mq 19), .ref (mq 20), .ref (mq 21), .ref (mq 22), .int (nI (d + 1))])), ((mq 0), .inl (cI, 80, .inl X.1)), ((mq 1), .inl (cI, 80, .inl X.2.1)), ((mq 2), .inl (cI, 80, .inl X.2.2.1)), ((mq 18), .inl (cZ, 640, .inl (fun z9 => gb ((bp R3 ((80 * d) + a0) True) z9)))), ((mq 21), .inl (cI, 8, .inl fA))] H := hP
                  have hD : va_D A [(mo, .inr (6, [.ref (mq 0), .ref (mq 1), .ref (mq 2), .ref (mq 3), .int (nI X.2.2.2.2), .ref (mq 5), .ref (mq 6), .int (nI F), .ref (mq 8), .ref (mq 9), .ref (mq 10), .ref (mq 11), .ref (mq 12), .ref (mq 13), .ref (mq 14), .ref (mq 15), .ref (mq 16), .ref (mq 17), .ref (mq 18), .ref (mq 19), .ref (mq 20), .ref (mq 21), .ref (mq 22), .int (nI (d + 1))])), ((mq 0), .inl (cI, 80, .inl X.1)), ((mq 1), .inl (cI, 80, .inl X.2.1)), ((mq 2), .inl (cI, 80, .inl X.2.2.1)), ((mq 18), .inl (cZ, 640, .inl (fun z9 => gb ((bp R3 ((80 * d) + a0) True) z9)))), ((mq 21), .inl (cI, 8, .inl fA))] := hD
                  refine lv_if_eq (tgt := 112) hx hb dM_need_95 (by decide) (fun c95 => ?_) (fun c95 => ?_)
                  · have hpx : ¬ px_R kd := fun z => gb_1.mp c95 ((gm_R hkd).mpr z)
                    obtain ⟨v112, e112⟩ : ∃ y : Int32, y = (nI j) + Int32.ofInt (-1) := ⟨_, rfl⟩
                    refine lv_iinc (v := v112) (lv' := [(3, .int v112), (2, .int (nI (80 * d))), (0, .ref mo), (1, .int (nI e))]) hx hb dM_need_112 hl (k := 0) rfl (e112.symm) (by decide) rfl (fun ls hl => ?_)
                    refine lv_goto (tgt := 44) hx hb dM_need_115 (by decide) ?_
                    exact ih44 j v112 (bp R3 ((80 * d) + a0) True) (by omega) (by omega) (by rw [e112]; exact gm_m1 _) (dn_step hDN (by omega) ⟨gb_0 c56, by omega⟩ (by rw [hk1, cn_nI (by omega)]; omega) (by rw [hae, cn_nI (by omega)]; exact hal) (by rw [hk1, cn_nI (by omega)]; intro y; exact absurd y hpx) (fun z => by rw [bp_t, hk1, hae, cn_nI (by omega), cn_nI (by omega)]; exact ⟨fun y => by rcases y with ⟨y | y, yz⟩; exact Or.inl ⟨y, yz⟩; exact Or.inr (Or.inl (by omega)), fun y => by rcases y with y | y | y; exact ⟨Or.inl y.1, y.2⟩; exact ⟨Or.inr (by omega), by omega⟩; exact absurd y.1 hpx⟩)) (fun z hz => by rw [bp_t]; exact ⟨fun y => by rcases y with y | y; exact (hO3 z hz).mp y; omega, fun y => Or.inl ((hO3 z hz).mpr y)⟩) _ _ _ hP hD hS (lv_sub hl [0, 1, 2, 3] rfl)
                  · have hpx := (gm_R hkd).mp (gb_0 c95)
                    obtain ⟨b0, hbl, hbe⟩ := hkb hpx
                    refine lv_aload_n hx hb dM_need_98 rfl (lv_at hl 2 rfl) ?_
                    refine va_get (D := D) (ci := 6) (v := .ref (mq 18)) (C := R_M) (T := F_M) (N := 24) hx hb ht i_M hown hK hP 0 rfl rfl 18 (by decide) (ht _ m_472) (fun _ h9 => h9) rfl dM_need_99 ?_
                    refine lv_iload_n hx hb dM_need_102 rfl (lv_at hl 1 rfl) ?_
                    refine lv_aload_n hx hb dM_need_103 rfl (lv_at hl 2 rfl) ?_
                    refine va_get (D := D) (ci := 6) (v := .ref (mq 2)) (C := R_M) (T := F_M) (N := 24) hx hb ht i_M hown hK hP 0 rfl rfl 2 (by decide) (ht _ m_456) (fun _ h9 => h9) rfl dM_need_104 ?_
                    refine lv_iload_n hx hb dM_need_107 rfl (lv_at hl 0 rfl) ?_
                    have i108 : vp_in (nI j) 80 := gx_in (rfl : (nI j) = (nI j)) (by omega) (by decide)
                    have k108 : ((nI j) : Int32).toNatClampNeg = j := gx_cl (rfl : (nI j) = (nI j)) (by omega)
                    refine va_iald hx hb hK hP 3 0 rfl rfl i108 dM_need_108 ?_
                    rw [k108]
                    refine lv_topi (fun v108 e108 => ?_)
                    rw [hbe] at e108
                    subst e108
                    refine lv_iadd hx hb dM_need_109 ?_
                    refine lv_topi (fun v109 e109 => ?_)
                    have n109 : v109 = nI ((80 * d) + b0) := by rw [e109]; exact gx_add (rfl : (nI (80 * d)) = (nI (80 * d))) (rfl : (nI b0) = (nI b0))
                    subst n109
                    refine lv_iconst (v := 1) hx hb dM_need_110 (by decide) ?_
                    have i111 : vp_in (nI ((80 * d) + b0)) 640 := gx_in (rfl : (nI ((80 * d) + b0)) = (nI ((80 * d) + b0))) (by omega) (by decide)
                    have k111 : ((nI ((80 * d) + b0)) : Int32).toNatClampNeg = ((80 * d) + b0) := gx_cl (rfl : (nI ((80 * d) + b0)) = (nI ((80 * d) + b0))) (by omega)
                    refine va_zast hx hb hK hP hD hS 4 3 rfl rfl i111 dM_need_111 (fun H locs hP hD hS => ?_)
                    rw [k111] at hP hD
                    have hP : va_P D vwCl [(mo, .inr (6, [.ref (mq 0), .ref (mq 1), .ref (mq 2), .ref (mq 3), .int (nI X.2.2.2.2), .ref (mq 5), .ref (mq 6), .int (nI F), .ref (mq 8), .ref (mq 9), .ref (mq 10), .ref (mq 11), .ref (mq 12), .ref (mq 13), .ref (mq 14), .ref (mq 15), .ref (mq 16), .ref (mq 17), .ref (mq 18), .ref (mq 19), .ref (mq 20), .ref (mq 21), .ref (mq 22), .int (nI (d + 1))])), ((mq 0), .inl (cI, 80, .inl X.1)), ((mq 1), .inl (cI, 80, .inl X.2.1)), ((mq 2), .inl (cI, 80, .inl X.2.2.1)), ((mq 18), .inl (cZ, 640, .inl (upd (fun z9 => gb ((bp R3 ((80 * d) + a0) True) z9)) ((80 * d) + b0) (vp_nar .boolean 1)))), ((mq 21), .inl (cI, 8, .inl fA))] H := hP
                    have hD : va_D A [(mo, .inr (6, [.ref (mq 0), .ref (mq 1), .ref (mq 2), .ref (mq 3), .int (nI X.2.2.2.2), .ref (mq 5), .ref (mq 6), .int (nI F), .ref (mq 8), .ref (mq 9), .ref (mq 10), .ref (mq 11), .ref (mq 12), .ref (mq 13), .ref (mq 14), .ref (mq 15), .ref (mq 16), .ref (mq 17), .ref (mq 18), .ref (mq 19), .ref (mq 20), .ref (mq 21), .ref (mq 22), .int (nI (d + 1))])), ((mq 0), .inl (cI, 80, .inl X.1)), ((mq 1), .inl (cI, 80, .inl X.2.1)), ((mq 2), .inl (cI, 80, .inl X.2.2.1)), ((mq 18), .inl (cZ, 640, .inl (upd (fun z9 => gb ((bp R3 ((80 * d) + a0) True) z9)) ((80 * d) + b0) (vp_nar .boolean 1)))), ((mq 21), .inl (cI, 8, .inl fA))] := hD
                    rw [gm_bp1] at hP hD
                    have hP : va_P D vwCl [(mo, .inr (6, [.ref (mq 0), .ref (mq 1), .ref (mq 2), .ref (mq 3), .int (nI X.2.2.2.2), .ref (mq 5), .ref (mq 6), .int (nI F), .ref (mq 8), .ref (mq 9), .ref (mq 10), .ref (mq 11), .ref (mq 12), .ref (mq 13), .ref (mq 14), .ref (mq 15), .ref (mq 16), .ref (mq 17), .ref (mq 18), .ref (mq 19), .ref (mq 20), .ref (mq 21), .ref (mq 22), .int (nI (d + 1))])), ((mq 0), .inl (cI, 80, .inl X.1)), ((mq 1), .inl (cI, 80, .inl X.2.1)), ((mq 2), .inl (cI, 80, .inl X.2.2.1)), ((mq 18), .inl (cZ, 640, .inl (fun z9 => gb ((bp (bp R3 ((80 * d) + a0) True) ((80 * d) + b0) True) z9)))), ((mq 21), .inl (cI, 8, .inl fA))] H := hP
                    have hD : va_D A [(mo, .inr (6, [.ref (mq 0), .ref (mq 1), .ref (mq 2), .ref (mq 3), .int (nI X.2.2.2.2), .ref (mq 5), .ref (mq 6), .int (nI F), .ref (mq 8), .ref (mq 9), .ref (mq 10), .ref (mq 11), .ref (mq 12), .ref (mq 13), .ref (mq 14), .ref (mq 15), .ref (mq 16), .ref (mq 17), .ref (mq 18), .ref (mq 19), .ref (mq 20), .ref (mq 21), .ref (mq 22), .int (nI (d + 1))])), ((mq 0), .inl (cI, 80, .inl X.1)), ((mq 1), .inl (cI, 80, .inl X.2.1)), ((mq 2), .inl (cI, 80, .inl X.2.2.1)), ((mq 18), .inl (cZ, 640, .inl (fun z9 => gb ((bp (bp R3 ((80 * d) + a0) True) ((80 * d) + b0) True) z9)))), ((mq 21), .inl (cI, 8, .inl fA))] := hD
                    obtain ⟨v112, e112⟩ : ∃ y : Int32, y = (nI j) + Int32.ofInt (-1) := ⟨_, rfl⟩
                    refine lv_iinc (v := v112) (lv' := [(3, .int v112), (2, .int (nI (80 * d))), (0, .ref mo), (1, .int (nI e))]) hx hb dM_need_112 hl (k := 0) rfl (e112.symm) (by decide) rfl (fun ls hl => ?_)
                    refine lv_goto (tgt := 44) hx hb dM_need_115 (by decide) ?_
                    exact ih44 j v112 (bp (bp R3 ((80 * d) + a0) True) ((80 * d) + b0) True) (by omega) (by omega) (by rw [e112]; exact gm_m1 _) (dn_step hDN (by omega) ⟨gb_0 c56, by omega⟩ (by rw [hk1, cn_nI (by omega)]; omega) (by rw [hae, cn_nI (by omega)]; exact hal) (by rw [hk1, cn_nI (by omega)]; intro y; rw [hbe, cn_nI (by omega)]; exact hbl) (fun z => by rw [bp_t, bp_t, hk1, hae, cn_nI (by omega), cn_nI (by omega), hbe, cn_nI (by omega)]; exact ⟨fun y => by rcases y with ⟨(y | y) | y, yz⟩; exact Or.inl ⟨y, yz⟩; exact Or.inr (Or.inl (by omega)); exact Or.inr (Or.inr ⟨hpx, by omega⟩), fun y => by rcases y with y | y | y; exact ⟨Or.inl (Or.inl y.1), y.2⟩; exact ⟨Or.inl (Or.inr (by omega)), by omega⟩; exact ⟨Or.inr (by omega), by omega⟩⟩)) (fun z hz => by rw [bp_t, bp_t]; exact ⟨fun y => by rcases y with (y | y) | y; exact (hO3 z hz).mp y; omega; omega, fun y => Or.inl (Or.inl ((hO3 z hz).mpr y))⟩) _ _ _ hP hD hS (lv_sub hl [0, 1, 2, 3] rfl)
                · have g66 : ¬ (2 ≤ kd) := fun z => c66 ((gx_le (rfl : (2 : Int32) = nI 2) (rfl : (nI kd) = (nI kd)) (by decide) (by omega)).mpr z)
                  refine lv_goto (tgt := 112) hx hb dM_need_69 (by decide) ?_
                  obtain ⟨v112, e112⟩ : ∃ y : Int32, y = (nI j) + Int32.ofInt (-1) := ⟨_, rfl⟩
                  refine lv_iinc (v := v112) (lv' := [(3, .int v112), (2, .int (nI (80 * d))), (0, .ref mo), (1, .int (nI e))]) hx hb dM_need_112 hl (k := 0) rfl (e112.symm) (by decide) rfl (fun ls hl => ?_)
                  refine lv_goto (tgt := 44) hx hb dM_need_115 (by decide) ?_
                  exact ih44 j v112 R3 (by omega) (by omega) (by rw [e112]; exact gm_m1 _) (dn_skip hDN (fun _ => by rw [hk1, cn_nI (by omega)]; omega)) hO3 _ _ _ hP hD hS (lv_sub hl [0, 1, 2, 3] rfl)
        exact lp44 ((e + 1) + 1) (e + 1) (nI e) R (by omega) (by omega) ((nI_pred e).symm) (dn_beg (by omega) (fun z => ⟨fun y => (hR z (by omega)).mp y.1, fun y => ⟨(hR z (by omega)).mpr y, by omega⟩⟩)) hO _ _ _ hP hD hS (lv_sub hl [0, 1, 2, 3] rfl)
      · have g15 : ¬ (80 ≤ k) := fun z => c15 ((gx_le (rfl : (80 : Int32) = nI 80) (rfl : (nI k) = (nI k)) (by decide) (by omega)).mpr z)
        refine lv_aload_n hx hb dM_need_18 rfl (lv_at hl 2 rfl) ?_
        refine va_get (D := D) (ci := 6) (v := .ref (mq 18)) (C := R_M) (T := F_M) (N := 24) hx hb ht i_M hown hK hP 0 rfl rfl 18 (by decide) (ht _ m_472) (fun _ h9 => h9) rfl dM_need_19 ?_
        refine lv_iload_n hx hb dM_need_22 rfl (lv_at hl 1 rfl) ?_
        refine lv_iload_n hx hb dM_need_23 rfl (lv_at hl 0 rfl) ?_
        refine lv_iadd hx hb dM_need_24 ?_
        refine lv_topi (fun v24 e24 => ?_)
        have n24 : v24 = nI ((80 * d) + k) := by rw [e24]; exact gx_add (rfl : (nI (80 * d)) = (nI (80 * d))) (rfl : (nI k) = (nI k))
        subst n24
        refine lv_iload_n hx hb dM_need_25 rfl (lv_at hl 0 rfl) ?_
        refine lv_iload_n hx hb dM_need_26 rfl (lv_at hl 3 rfl) ?_
        refine lv_icmp_ne (tgt := 34) hx hb dM_need_27 (by decide) (fun c27 => ?_) (fun c27 => ?_)
        · have g27 : ¬ (k = e) := fun z => c27 ((gx_eq (rfl : (nI k) = (nI k)) (rfl : (nI e) = (nI e)) (by omega) (by omega)).mpr z)
          refine lv_iconst (v := 0) hx hb dM_need_34 (by decide) ?_
          have i35 : vp_in (nI ((80 * d) + k)) 640 := gx_in (rfl : (nI ((80 * d) + k)) = (nI ((80 * d) + k))) (by omega) (by decide)
          have k35 : ((nI ((80 * d) + k)) : Int32).toNatClampNeg = ((80 * d) + k) := gx_cl (rfl : (nI ((80 * d) + k)) = (nI ((80 * d) + k))) (by omega)
          refine va_zast hx hb hK hP hD hS 4 3 rfl rfl i35 dM_need_35 (fun H locs hP hD hS => ?_)
          rw [k35] at hP hD
          have hP : va_P D vwCl [(mo, .inr (6, [.ref (mq 0), .ref (mq 1), .ref (mq 2), .ref (mq 3), .int (nI X.2.2.2.2), .ref (mq 5), .ref (mq 6), .int (nI F), .ref (mq 8), .ref (mq 9), .ref (mq 10), .ref (mq 11), .ref (mq 12), .ref (mq 13), .ref (mq 14), .ref (mq 15), .ref (mq 16), .ref (mq 17), .ref (mq 18), .ref (mq 19), .ref (mq 20), .ref (mq 21), .ref (mq 22), .int (nI (d + 1))])), ((mq 0), .inl (cI, 80, .inl X.1)), ((mq 1), .inl (cI, 80, .inl X.2.1)), ((mq 2), .inl (cI, 80, .inl X.2.2.1)), ((mq 18), .inl (cZ, 640, .inl (upd (fun z9 => gb (R z9)) ((80 * d) + k) (vp_nar .boolean 0)))), ((mq 21), .inl (cI, 8, .inl fA))] H := hP
          have hD : va_D A [(mo, .inr (6, [.ref (mq 0), .ref (mq 1), .ref (mq 2), .ref (mq 3), .int (nI X.2.2.2.2), .ref (mq 5), .ref (mq 6), .int (nI F), .ref (mq 8), .ref (mq 9), .ref (mq 10), .ref (mq 11), .ref (mq 12), .ref (mq 13), .ref (mq 14), .ref (mq 15), .ref (mq 16), .ref (mq 17), .ref (mq 18), .ref (mq 19), .ref (mq 20), .ref (mq 21), .ref (mq 22), .int (nI (d + 1))])), ((mq 0), .inl (cI, 80, .inl X.1)), ((mq 1), .inl (cI, 80, .inl X.2.1)), ((mq 2), .inl (cI, 80, .inl X.2.2.1)), ((mq 18), .inl (cZ, 640, .inl (upd (fun z9 => gb (R z9)) ((80 * d) + k) (vp_nar .boolean 0)))), ((mq 21), .inl (cI, 8, .inl fA))] := hD
          rw [gm_bp0] at hP hD
          have hP : va_P D vwCl [(mo, .inr (6, [.ref (mq 0), .ref (mq 1), .ref (mq 2), .ref (mq 3), .int (nI X.2.2.2.2), .ref (mq 5), .ref (mq 6), .int (nI F), .ref (mq 8), .ref (mq 9), .ref (mq 10), .ref (mq 11), .ref (mq 12), .ref (mq 13), .ref (mq 14), .ref (mq 15), .ref (mq 16), .ref (mq 17), .ref (mq 18), .ref (mq 19), .ref (mq 20), .ref (mq 21), .ref (mq 22), .int (nI (d + 1))])), ((mq 0), .inl (cI, 80, .inl X.1)), ((mq 1), .inl (cI, 80, .inl X.2.1)), ((mq 2), .inl (cI, 80, .inl X.2.2.1)), ((mq 18), .inl (cZ, 640, .inl (fun z9 => gb ((bp R ((80 * d) + k) False) z9)))), ((mq 21), .inl (cI, 8, .inl fA))] H := hP
          have hD : va_D A [(mo, .inr (6, [.ref (mq 0), .ref (mq 1), .ref (mq 2), .ref (mq 3), .int (nI X.2.2.2.2), .ref (mq 5), .ref (mq 6), .int (nI F), .ref (mq 8), .ref (mq 9), .ref (mq 10), .ref (mq 11), .ref (mq 12), .ref (mq 13), .ref (mq 14), .ref (mq 15), .ref (mq 16), .ref (mq 17), .ref (mq 18), .ref (mq 19), .ref (mq 20), .ref (mq 21), .ref (mq 22), .int (nI (d + 1))])), ((mq 0), .inl (cI, 80, .inl X.1)), ((mq 1), .inl (cI, 80, .inl X.2.1)), ((mq 2), .inl (cI, 80, .inl X.2.2.1)), ((mq 18), .inl (cZ, 640, .inl (fun z9 => gb ((bp R ((80 * d) + k) False) z9)))), ((mq 21), .inl (cI, 8, .inl fA))] := hD
          refine lv_iinc (v := (nI (k + 1))) (lv' := [(3, .int (nI (k + 1))), (2, .int (nI (80 * d))), (0, .ref mo), (1, .int (nI e))]) hx hb dM_need_36 hl (k := 0) rfl (gx_inc (rfl : (nI k) = (nI k))) (by decide) rfl (fun ls hl => ?_)
          refine lv_goto (tgt := 12) hx hb dM_need_39 (by decide) ?_
          exact ih12 (k + 1) (bp R (80 * d + k) False) (by omega) (by omega) (fun z hz => by rw [bp_f]; by_cases hzk : z = k; exact ⟨fun y => absurd (by omega) y.2, fun y => by omega⟩; exact ⟨fun y => (hR z (by omega)).mp y.1, fun y => ⟨(hR z (by omega)).mpr y, by omega⟩⟩) (fun z hz => by rw [bp_f]; exact ⟨fun y => (hO z hz).mp y.1, fun y => ⟨(hO z hz).mpr y, by omega⟩⟩) _ _ _ hP hD hS (lv_sub hl [0, 1, 2, 3] rfl)
        · have g27 : k = e := (gx_eq (rfl : (nI k) = (nI k)) (rfl : (nI e) = (nI e)) (by omega) (by omega)).mp c27
          refine lv_iconst (v := 1) hx hb dM_need_30 (by decide) ?_
          refine lv_goto (tgt := 35) hx hb dM_need_31 (by decide) ?_
          have i35 : vp_in (nI ((80 * d) + k)) 640 := gx_in (rfl : (nI ((80 * d) + k)) = (nI ((80 * d) + k))) (by omega) (by decide)
          have k35 : ((nI ((80 * d) + k)) : Int32).toNatClampNeg = ((80 * d) + k) := gx_cl (rfl : (nI ((80 * d) + k)) = (nI ((80 * d) + k))) (by omega)
          refine va_zast hx hb hK hP hD hS 4 3 rfl rfl i35 dM_need_35 (fun H locs hP hD hS => ?_)
          rw [k35] at hP hD
          have hP : va_P D vwCl [(mo, .inr (6, [.ref (mq 0), .ref (mq 1), .ref (mq 2), .ref (mq 3), .int (nI X.2.2.2.2), .ref (mq 5), .ref (mq 6), .int (nI F), .ref (mq 8), .ref (mq 9), .ref (mq 10), .ref (mq 11), .ref (mq 12), .ref (mq 13), .ref (mq 14), .ref (mq 15), .ref (mq 16), .ref (mq 17), .ref (mq 18), .ref (mq 19), .ref (mq 20), .ref (mq 21), .ref (mq 22), .int (nI (d + 1))])), ((mq 0), .inl (cI, 80, .inl X.1)), ((mq 1), .inl (cI, 80, .inl X.2.1)), ((mq 2), .inl (cI, 80, .inl X.2.2.1)), ((mq 18), .inl (cZ, 640, .inl (upd (fun z9 => gb (R z9)) ((80 * d) + k) (vp_nar .boolean 1)))), ((mq 21), .inl (cI, 8, .inl fA))] H := hP
          have hD : va_D A [(mo, .inr (6, [.ref (mq 0), .ref (mq 1), .ref (mq 2), .ref (mq 3), .int (nI X.2.2.2.2), .ref (mq 5), .ref (mq 6), .int (nI F), .ref (mq 8), .ref (mq 9), .ref (mq 10), .ref (mq 11), .ref (mq 12), .ref (mq 13), .ref (mq 14), .ref (mq 15), .ref (mq 16), .ref (mq 17), .ref (mq 18), .ref (mq 19), .ref (mq 20), .ref (mq 21), .ref (mq 22), .int (nI (d + 1))])), ((mq 0), .inl (cI, 80, .inl X.1)), ((mq 1), .inl (cI, 80, .inl X.2.1)), ((mq 2), .inl (cI, 80, .inl X.2.2.1)), ((mq 18), .inl (cZ, 640, .inl (upd (fun z9 => gb (R z9)) ((80 * d) + k) (vp_nar .boolean 1)))), ((mq 21), .inl (cI, 8, .inl fA))] := hD
          rw [gm_bp1] at hP hD
          have hP : va_P D vwCl [(mo, .inr (6, [.ref (mq 0), .ref (mq 1), .ref (mq 2), .ref (mq 3), .int (nI X.2.2.2.2), .ref (mq 5), .ref (mq 6), .int (nI F), .ref (mq 8), .ref (mq 9), .ref (mq 10), .ref (mq 11), .ref (mq 12), .ref (mq 13), .ref (mq 14), .ref (mq 15), .ref (mq 16), .ref (mq 17), .ref (mq 18), .ref (mq 19), .ref (mq 20), .ref (mq 21), .ref (mq 22), .int (nI (d + 1))])), ((mq 0), .inl (cI, 80, .inl X.1)), ((mq 1), .inl (cI, 80, .inl X.2.1)), ((mq 2), .inl (cI, 80, .inl X.2.2.1)), ((mq 18), .inl (cZ, 640, .inl (fun z9 => gb ((bp R ((80 * d) + k) True) z9)))), ((mq 21), .inl (cI, 8, .inl fA))] H := hP
          have hD : va_D A [(mo, .inr (6, [.ref (mq 0), .ref (mq 1), .ref (mq 2), .ref (mq 3), .int (nI X.2.2.2.2), .ref (mq 5), .ref (mq 6), .int (nI F), .ref (mq 8), .ref (mq 9), .ref (mq 10), .ref (mq 11), .ref (mq 12), .ref (mq 13), .ref (mq 14), .ref (mq 15), .ref (mq 16), .ref (mq 17), .ref (mq 18), .ref (mq 19), .ref (mq 20), .ref (mq 21), .ref (mq 22), .int (nI (d + 1))])), ((mq 0), .inl (cI, 80, .inl X.1)), ((mq 1), .inl (cI, 80, .inl X.2.1)), ((mq 2), .inl (cI, 80, .inl X.2.2.1)), ((mq 18), .inl (cZ, 640, .inl (fun z9 => gb ((bp R ((80 * d) + k) True) z9)))), ((mq 21), .inl (cI, 8, .inl fA))] := hD
          refine lv_iinc (v := (nI (k + 1))) (lv' := [(3, .int (nI (k + 1))), (2, .int (nI (80 * d))), (0, .ref mo), (1, .int (nI e))]) hx hb dM_need_36 hl (k := 0) rfl (gx_inc (rfl : (nI k) = (nI k))) (by decide) rfl (fun ls hl => ?_)
          refine lv_goto (tgt := 12) hx hb dM_need_39 (by decide) ?_
          exact ih12 (k + 1) (bp R (80 * d + k) True) (by omega) (by omega) (fun z hz => by rw [bp_t]; by_cases hzk : z = k; exact ⟨fun _ => by omega, fun _ => Or.inr (by omega)⟩; exact ⟨fun y => y.elim (fun y => (hR z (by omega)).mp y) (fun y => by omega), fun y => by omega⟩) (fun z hz => by rw [bp_t]; exact ⟨fun y => y.elim (hO z hz).mp (fun y => by omega), fun y => Or.inl ((hO z hz).mpr y)⟩) _ _ _ hP hD hS (lv_sub hl [0, 1, 2, 3] rfl)
  exact lp12 (80 - (0) + 1) 0 nd (by omega) (by omega) (fun z hz => absurd hz (by omega)) (fun z hz => Iff.rfl) _ _ _ hP hD hS (lv_sub hl [0, 1, 2, 3] rfl)

