/-- the costs: plain, named, counted, totals, added -/
abbrev Cs : Type := (Nat → Nat) × (Nat → Nat) × (Nat → Nat) × (Nat → Nat) × (Nat → Nat)
def cs_0 : Cs := (fun _ => 0, fun _ => 0, fun _ => 0, fun _ => 0, fun _ => 0)
def cs_fun (C : Cs) (f : Nat) : Cs := (C.1, C.2.1, va_up C.2.2.1 (f * 8 + f) 1, va_up C.2.2.2.1 f 1, C.2.2.2.2)
def kc_cost (C : Cs) (e : Nat) : Nat → Nat
  | 0 => C.1 e
  | i + 1 => kc_cost C e i + C.2.1 (e * 8 + i) * C.2.2.2.1 i
def ka_in (C : Cs) (a : Nat → Nat) (o b i : Nat) : Nat → Nat := fun j => if j < i then a j + o * C.2.2.1 (b * 8 + j) else a j
def ka_out (C : Cs) (e t : Nat) (a : Nat → Nat) : Nat → (Nat → Nat)
  | 0 => a
  | b + 1 => ka_in C (ka_out C e t a b) (t * C.2.1 (e * 8 + b)) b 8
theorem ka_in_0 (C : Cs) (a : Nat → Nat) (o b : Nat) : ka_in C a o b 0 = a := by funext j; simp [ka_in]
theorem ka_in_s (C : Cs) (a : Nat → Nat) (o b i : Nat) : va_up (ka_in C a o b i) i (ka_in C a o b i i + o * C.2.2.1 (b * 8 + i)) = ka_in C a o b (i + 1) := by
  funext j; unfold va_up ka_in
  by_cases h : j = i
  · subst h; simp
  · by_cases h2 : j < i
    · simp [h, h2, show j < i + 1 by omega]
    · simp [h, h2, show ¬ j < i + 1 by omega]
def kt_up (C : Cs) (f p i : Nat) : Nat → Nat := fun x => if x < i then C.2.2.2.1 x + C.2.2.1 (x * 8 + f) * p else C.2.2.2.1 x
theorem kt_up_0 (C : Cs) (f p : Nat) : kt_up C f p 0 = C.2.2.2.1 := by funext j; simp [kt_up]
theorem kt_up_s (C : Cs) (f p i : Nat) : va_up (kt_up C f p i) i (kt_up C f p i i + C.2.2.1 (i * 8 + f) * p) = kt_up C f p (i + 1) := by
  funext j; unfold va_up kt_up
  by_cases h : j = i
  · subst h; simp
  · by_cases h2 : j < i
    · simp [h, h2, show j < i + 1 by omega]
    · simp [h, h2, show ¬ j < i + 1 by omega]
def kn_up (C : Cs) (f : Nat) (a : Nat → Nat) (n : Nat) : Nat → Nat := fun x => if x < n then C.2.2.1 x + C.2.2.1 (x / 8 * 8 + f) * a (x % 8) else C.2.2.1 x
theorem kn_up_0 (C : Cs) (f : Nat) (a : Nat → Nat) : kn_up C f a 0 = C.2.2.1 := by funext j; simp [kn_up]
theorem kn_up_s (C : Cs) (f : Nat) (a : Nat → Nat) (i j : Nat) (hj : j < 8) : va_up (kn_up C f a (i * 8 + j)) (i * 8 + j) (kn_up C f a (i * 8 + j) (i * 8 + j) + C.2.2.1 (i * 8 + f) * a j) = kn_up C f a (i * 8 + (j + 1)) := by
  funext x; unfold va_up kn_up
  by_cases h : x = i * 8 + j
  · subst h
    rw [if_pos rfl, if_neg (by omega), if_pos (by omega), show (i * 8 + j) / 8 = i by omega, show (i * 8 + j) % 8 = j by omega]
  · rw [if_neg h]
    by_cases h2 : x < i * 8 + j
    · rw [if_pos h2, if_pos (by omega)]
    · rw [if_neg h2, if_neg (by omega)]
theorem kn_up_r (C : Cs) (f : Nat) (a : Nat → Nat) (i : Nat) : kn_up C f a (i * 8) (i * 8 + f) = C.2.2.1 (i * 8 + f) := by
  unfold kn_up; rw [if_neg (by omega)]
def cs_price (C : Cs) (e t : Nat) : Nat := t + t * kc_cost C e 8
def cs_put (C : Cs) (f p : Nat) (a : Nat → Nat) : Cs := (C.1, C.2.1, kn_up C f a 64, kt_up C f p 8, a)
abbrev wK (cI : ClassId) (o : Nat) (q : Nat → Nat) (C : Cs) : va_W := [(o, .inr (1, [.ref (q 0), .ref (q 1), .ref (q 2), .ref (q 3), .ref (q 4)])), ((q 0), .inl (cI, 80, .inl (fun z9 => nI (C.1 z9)))), ((q 1), .inl (cI, 640, .inl (fun z9 => nI (C.2.1 z9)))), ((q 2), .inl (cI, 64, .inl (fun z9 => nI (C.2.2.1 z9)))), ((q 3), .inl (cI, 8, .inl (fun z9 => nI (C.2.2.2.1 z9)))), ((q 4), .inl (cI, 8, .inl (fun z9 => nI (C.2.2.2.2 z9))))]
set_option maxHeartbeats 4000000 in
set_option maxRecDepth 100000 in
theorem c_K_init (l : Launch) (D : va_G) (cI cJ cB cZ : ClassId) (o : Nat)  : ct_V l y_K_init w_K_init ({ frames := 1, cells := 5, slots := 800, locals := 20 }) D (gk_T cI cJ cB cZ) [.ref o] [(o, .inr (1, [.null, .null, .null, .null, .null]))] (5) (800) (fun w => ∃ q : Nat → Nat, w = wK cI o q cs_0) := by
  intro sz
  refine Met.ofW (cc := b_K_init) (maxL := 1) (ret := none) (by decide) rfl ?_
  intro p ev9 s m args below meth c s₁ B9 hml hv
  obtain ⟨rfl, hsz, hP, hK, hN, hD0⟩ := hv
  have hx := B9.exec
  have hb := B9.bytes
  have hr := B9.returns
  have hts := atoms_spec (ws := w_K_init) B9.pre
  have ht : ∀ w ∈ gk_big, w.before _ s = true := fun w h => hts w (List.mem_cons_of_mem _ h)
  have hown : s.vm.findClass R_K = some m.cls := findClass_of_methodNamed B9.named
  have hlocks := B9.notSynchronized
  have hin : meth.name = "<init>" := (name_of_methodNamed B9.named B9.method).1
  subst hsz
  have hD := hD0.self (sz := s.heap.size)
  generalize hAe : va_A [(o, .inr (1, [.null, .null, .null, .null, .null]))] s.heap.size = A at hD ⊢
  have hA : ∀ q : Nat, s.heap.size ≤ q → A q := fun q h => by rw [← hAe]; exact Or.inr h
  generalize hHe : s.heap = H at hP ⊢
  have hS : va_S A s.heap H [] := by rw [← hHe]; exact va_S.rf
  have hP : va_P D vwCl [(o, .inr (1, [.null, .null, .null, .null, .null]))] H := hP
  have hD : va_D A [(o, .inr (1, [.null, .null, .null, .null, .null]))] := hD
  have hl := lv_entry ([.ref o]) (n := 1) (Nat.le_of_ble_eq_true rfl)
  rw [lg_entry_eq]
  generalize (lg_sl ([.ref o]) ++ List.replicate (1 - (lg_sl ([.ref o])).length) Slot.unset).toArray = ls at hl ⊢
  have hl : lv_has ls 1 [(0, .ref o)] := hl
  refine lv_aload_n hx hb dK_init_0 rfl (lv_at hl 0 rfl) ?_
  refine W.objInit hx hb hown (ht _ m_112) (ht _ m_16) (ht _ m_17) rfl (by rw [hml]; exact hl.1) rfl dK_init_1 (Nat.le_of_ble_eq_true rfl) (Nat.le_of_ble_eq_true rfl) ?_
  refine W.eq (g2 := F0 m 4 ls []) rfl ?_
  refine lv_aload_n hx hb dK_init_4 rfl (lv_at hl 0 rfl) ?_
  refine lv_bipush (v := 80) hx hb dK_init_5 (by decide) ?_
  refine gn_I (N := 80) hx hb (ht _ m_51) hK hP hD hS hA (by decide) (by decide) (by decide) (Nat.le_of_ble_eq_true rfl) (Nat.le_of_ble_eq_true rfl) dK_init_7 (fun q7 H hP hD hS => ?_)
  refine W.widen (k := 1) (n := 80) (by decide) (by decide) ?_
  have hP : va_P D vwCl [(o, .inr (1, [.null, .null, .null, .null, .null])), (q7, .inl (cI, 80, .inl (fun z9 => nI ((fun _ => 0) z9))))] H := hP
  have hD : va_D A [(o, .inr (1, [.null, .null, .null, .null, .null])), (q7, .inl (cI, 80, .inl (fun z9 => nI ((fun _ => 0) z9))))] := hD
  refine va_putF (D := D) (ci := 1) (v := .ref q7) (ty := .array .int) (C := R_K) (T := F_K) (N := 5) hx hb ht i_K ft_K ft_K_ok fn_K hown hK hP hD hS 0 rfl rfl 0 (by decide) (ht _ m_113) (fun _ h9 => h9) rfl hin rfl (by decide +kernel) rfl rfl (Nat.le_of_ble_eq_true rfl) dK_init_9 (fun H locs hP hD hS => ?_)
  have hP : va_P D vwCl [(o, .inr (1, [.ref q7, .null, .null, .null, .null])), (q7, .inl (cI, 80, .inl (fun z9 => nI ((fun _ => 0) z9))))] H := hP
  have hD : va_D A [(o, .inr (1, [.ref q7, .null, .null, .null, .null])), (q7, .inl (cI, 80, .inl (fun z9 => nI ((fun _ => 0) z9))))] := hD
  refine lv_aload_n hx hb dK_init_12 rfl (lv_at hl 0 rfl) ?_
  refine lv_sipush (v := 640) hx hb dK_init_13 (by decide) ?_
  refine gn_I (N := 640) hx hb (ht _ m_51) hK hP hD hS hA (by decide) (by decide) (by decide) (Nat.le_of_ble_eq_true rfl) (Nat.le_of_ble_eq_true rfl) dK_init_16 (fun q16 H hP hD hS => ?_)
  refine W.widen (k := 2) (n := 720) (by decide) (by decide) ?_
  have hP : va_P D vwCl [(o, .inr (1, [.ref q7, .null, .null, .null, .null])), (q7, .inl (cI, 80, .inl (fun z9 => nI ((fun _ => 0) z9)))), (q16, .inl (cI, 640, .inl (fun z9 => nI ((fun _ => 0) z9))))] H := hP
  have hD : va_D A [(o, .inr (1, [.ref q7, .null, .null, .null, .null])), (q7, .inl (cI, 80, .inl (fun z9 => nI ((fun _ => 0) z9)))), (q16, .inl (cI, 640, .inl (fun z9 => nI ((fun _ => 0) z9))))] := hD
  refine va_putF (D := D) (ci := 1) (v := .ref q16) (ty := .array .int) (C := R_K) (T := F_K) (N := 5) hx hb ht i_K ft_K ft_K_ok fn_K hown hK hP hD hS 0 rfl rfl 1 (by decide) (ht _ m_114) (fun _ h9 => h9) rfl hin rfl (by decide +kernel) rfl rfl (Nat.le_of_ble_eq_true rfl) dK_init_18 (fun H locs hP hD hS => ?_)
  have hP : va_P D vwCl [(o, .inr (1, [.ref q7, .ref q16, .null, .null, .null])), (q7, .inl (cI, 80, .inl (fun z9 => nI ((fun _ => 0) z9)))), (q16, .inl (cI, 640, .inl (fun z9 => nI ((fun _ => 0) z9))))] H := hP
  have hD : va_D A [(o, .inr (1, [.ref q7, .ref q16, .null, .null, .null])), (q7, .inl (cI, 80, .inl (fun z9 => nI ((fun _ => 0) z9)))), (q16, .inl (cI, 640, .inl (fun z9 => nI ((fun _ => 0) z9))))] := hD
  refine lv_aload_n hx hb dK_init_21 rfl (lv_at hl 0 rfl) ?_
  refine lv_bipush (v := 64) hx hb dK_init_22 (by decide) ?_
  refine gn_I (N := 64) hx hb (ht _ m_51) hK hP hD hS hA (by decide) (by decide) (by decide) (Nat.le_of_ble_eq_true rfl) (Nat.le_of_ble_eq_true rfl) dK_init_24 (fun q24 H hP hD hS => ?_)
  refine W.widen (k := 3) (n := 784) (by decide) (by decide) ?_
  have hP : va_P D vwCl [(o, .inr (1, [.ref q7, .ref q16, .null, .null, .null])), (q7, .inl (cI, 80, .inl (fun z9 => nI ((fun _ => 0) z9)))), (q16, .inl (cI, 640, .inl (fun z9 => nI ((fun _ => 0) z9)))), (q24, .inl (cI, 64, .inl (fun z9 => nI ((fun _ => 0) z9))))] H := hP
  have hD : va_D A [(o, .inr (1, [.ref q7, .ref q16, .null, .null, .null])), (q7, .inl (cI, 80, .inl (fun z9 => nI ((fun _ => 0) z9)))), (q16, .inl (cI, 640, .inl (fun z9 => nI ((fun _ => 0) z9)))), (q24, .inl (cI, 64, .inl (fun z9 => nI ((fun _ => 0) z9))))] := hD
  refine va_putF (D := D) (ci := 1) (v := .ref q24) (ty := .array .int) (C := R_K) (T := F_K) (N := 5) hx hb ht i_K ft_K ft_K_ok fn_K hown hK hP hD hS 0 rfl rfl 2 (by decide) (ht _ m_115) (fun _ h9 => h9) rfl hin rfl (by decide +kernel) rfl rfl (Nat.le_of_ble_eq_true rfl) dK_init_26 (fun H locs hP hD hS => ?_)
  have hP : va_P D vwCl [(o, .inr (1, [.ref q7, .ref q16, .ref q24, .null, .null])), (q7, .inl (cI, 80, .inl (fun z9 => nI ((fun _ => 0) z9)))), (q16, .inl (cI, 640, .inl (fun z9 => nI ((fun _ => 0) z9)))), (q24, .inl (cI, 64, .inl (fun z9 => nI ((fun _ => 0) z9))))] H := hP
  have hD : va_D A [(o, .inr (1, [.ref q7, .ref q16, .ref q24, .null, .null])), (q7, .inl (cI, 80, .inl (fun z9 => nI ((fun _ => 0) z9)))), (q16, .inl (cI, 640, .inl (fun z9 => nI ((fun _ => 0) z9)))), (q24, .inl (cI, 64, .inl (fun z9 => nI ((fun _ => 0) z9))))] := hD
  refine lv_aload_n hx hb dK_init_29 rfl (lv_at hl 0 rfl) ?_
  refine lv_bipush (v := 8) hx hb dK_init_30 (by decide) ?_
  refine gn_I (N := 8) hx hb (ht _ m_51) hK hP hD hS hA (by decide) (by decide) (by decide) (Nat.le_of_ble_eq_true rfl) (Nat.le_of_ble_eq_true rfl) dK_init_32 (fun q32 H hP hD hS => ?_)
  refine W.widen (k := 4) (n := 792) (by decide) (by decide) ?_
  have hP : va_P D vwCl [(o, .inr (1, [.ref q7, .ref q16, .ref q24, .null, .null])), (q7, .inl (cI, 80, .inl (fun z9 => nI ((fun _ => 0) z9)))), (q16, .inl (cI, 640, .inl (fun z9 => nI ((fun _ => 0) z9)))), (q24, .inl (cI, 64, .inl (fun z9 => nI ((fun _ => 0) z9)))), (q32, .inl (cI, 8, .inl (fun z9 => nI ((fun _ => 0) z9))))] H := hP
  have hD : va_D A [(o, .inr (1, [.ref q7, .ref q16, .ref q24, .null, .null])), (q7, .inl (cI, 80, .inl (fun z9 => nI ((fun _ => 0) z9)))), (q16, .inl (cI, 640, .inl (fun z9 => nI ((fun _ => 0) z9)))), (q24, .inl (cI, 64, .inl (fun z9 => nI ((fun _ => 0) z9)))), (q32, .inl (cI, 8, .inl (fun z9 => nI ((fun _ => 0) z9))))] := hD
  refine va_putF (D := D) (ci := 1) (v := .ref q32) (ty := .array .int) (C := R_K) (T := F_K) (N := 5) hx hb ht i_K ft_K ft_K_ok fn_K hown hK hP hD hS 0 rfl rfl 3 (by decide) (ht _ m_116) (fun _ h9 => h9) rfl hin rfl (by decide +kernel) rfl rfl (Nat.le_of_ble_eq_true rfl) dK_init_34 (fun H locs hP hD hS => ?_)
  have hP : va_P D vwCl [(o, .inr (1, [.ref q7, .ref q16, .ref q24, .ref q32, .null])), (q7, .inl (cI, 80, .inl (fun z9 => nI ((fun _ => 0) z9)))), (q16, .inl (cI, 640, .inl (fun z9 => nI ((fun _ => 0) z9)))), (q24, .inl (cI, 64, .inl (fun z9 => nI ((fun _ => 0) z9)))), (q32, .inl (cI, 8, .inl (fun z9 => nI ((fun _ => 0) z9))))] H := hP
  have hD : va_D A [(o, .inr (1, [.ref q7, .ref q16, .ref q24, .ref q32, .null])), (q7, .inl (cI, 80, .inl (fun z9 => nI ((fun _ => 0) z9)))), (q16, .inl (cI, 640, .inl (fun z9 => nI ((fun _ => 0) z9)))), (q24, .inl (cI, 64, .inl (fun z9 => nI ((fun _ => 0) z9)))), (q32, .inl (cI, 8, .inl (fun z9 => nI ((fun _ => 0) z9))))] := hD
  refine lv_aload_n hx hb dK_init_37 rfl (lv_at hl 0 rfl) ?_
  refine lv_bipush (v := 8) hx hb dK_init_38 (by decide) ?_
  refine gn_I (N := 8) hx hb (ht _ m_51) hK hP hD hS hA (by decide) (by decide) (by decide) (Nat.le_of_ble_eq_true rfl) (Nat.le_of_ble_eq_true rfl) dK_init_40 (fun q40 H hP hD hS => ?_)
  refine W.widen (k := 5) (n := 800) (by decide) (by decide) ?_
  have hP : va_P D vwCl [(o, .inr (1, [.ref q7, .ref q16, .ref q24, .ref q32, .null])), (q7, .inl (cI, 80, .inl (fun z9 => nI ((fun _ => 0) z9)))), (q16, .inl (cI, 640, .inl (fun z9 => nI ((fun _ => 0) z9)))), (q24, .inl (cI, 64, .inl (fun z9 => nI ((fun _ => 0) z9)))), (q32, .inl (cI, 8, .inl (fun z9 => nI ((fun _ => 0) z9)))), (q40, .inl (cI, 8, .inl (fun z9 => nI ((fun _ => 0) z9))))] H := hP
  have hD : va_D A [(o, .inr (1, [.ref q7, .ref q16, .ref q24, .ref q32, .null])), (q7, .inl (cI, 80, .inl (fun z9 => nI ((fun _ => 0) z9)))), (q16, .inl (cI, 640, .inl (fun z9 => nI ((fun _ => 0) z9)))), (q24, .inl (cI, 64, .inl (fun z9 => nI ((fun _ => 0) z9)))), (q32, .inl (cI, 8, .inl (fun z9 => nI ((fun _ => 0) z9)))), (q40, .inl (cI, 8, .inl (fun z9 => nI ((fun _ => 0) z9))))] := hD
  refine va_putF (D := D) (ci := 1) (v := .ref q40) (ty := .array .int) (C := R_K) (T := F_K) (N := 5) hx hb ht i_K ft_K ft_K_ok fn_K hown hK hP hD hS 0 rfl rfl 4 (by decide) (ht _ m_118) (fun _ h9 => h9) rfl hin rfl (by decide +kernel) rfl rfl (Nat.le_of_ble_eq_true rfl) dK_init_42 (fun H locs hP hD hS => ?_)
  have hP : va_P D vwCl [(o, .inr (1, [.ref q7, .ref q16, .ref q24, .ref q32, .ref q40])), (q7, .inl (cI, 80, .inl (fun z9 => nI ((fun _ => 0) z9)))), (q16, .inl (cI, 640, .inl (fun z9 => nI ((fun _ => 0) z9)))), (q24, .inl (cI, 64, .inl (fun z9 => nI ((fun _ => 0) z9)))), (q32, .inl (cI, 8, .inl (fun z9 => nI ((fun _ => 0) z9)))), (q40, .inl (cI, 8, .inl (fun z9 => nI ((fun _ => 0) z9))))] H := hP
  have hD : va_D A [(o, .inr (1, [.ref q7, .ref q16, .ref q24, .ref q32, .ref q40])), (q7, .inl (cI, 80, .inl (fun z9 => nI ((fun _ => 0) z9)))), (q16, .inl (cI, 640, .inl (fun z9 => nI ((fun _ => 0) z9)))), (q24, .inl (cI, 64, .inl (fun z9 => nI ((fun _ => 0) z9)))), (q32, .inl (cI, 8, .inl (fun z9 => nI ((fun _ => 0) z9)))), (q40, .inl (cI, 8, .inl (fun z9 => nI ((fun _ => 0) z9))))] := hD
  exact W.vret hx hb hr (fun t9 ht9 hW => ⟨⟨_, rfl, ⟨(fun k => match k with | 0 => q7 | 1 => q16 | 2 => q24 | 3 => q32 | _ => q40), rfl⟩, by rw [ht9]; exact hP, hD⟩, hS.F ht9⟩) hS.2.2 dK_init_45

set_option maxHeartbeats 4000000 in
set_option maxRecDepth 100000 in
theorem c_K_addFunction (l : Launch) (D : va_G) (cI cJ cB cZ : ClassId) (o : Nat) (q : Nat → Nat) (C : Cs) (f : Nat) (hf : f < 8) : ct_V l y_K_addFunction w_K_addFunction ({ frames := 0, cells := 0, slots := 0, locals := 0 }) D (gk_T cI cJ cB cZ) [.ref o, .int (nI f)] (wK cI o q C) (0) (0) (fun w => w = wK cI o q (cs_fun C f)) := by
  intro sz
  refine Met.ofW (cc := b_K_addFunction) (maxL := 2) (ret := none) (by decide) rfl ?_
  intro p ev9 s m args below meth c s₁ B9 hml hv
  obtain ⟨rfl, hsz, hP, hK, hN, hD0⟩ := hv
  have hx := B9.exec
  have hb := B9.bytes
  have hr := B9.returns
  have hts := atoms_spec (ws := w_K_addFunction) B9.pre
  have ht : ∀ w ∈ gk_big, w.before _ s = true := fun w h => hts w (List.mem_cons_of_mem _ h)
  have hown : s.vm.findClass R_K = some m.cls := findClass_of_methodNamed B9.named
  have hlocks := B9.notSynchronized
  subst hsz
  have hD := hD0.self (sz := s.heap.size)
  generalize hAe : va_A (wK cI o q C) s.heap.size = A at hD ⊢
  have hA : ∀ q : Nat, s.heap.size ≤ q → A q := fun q h => by rw [← hAe]; exact Or.inr h
  generalize hHe : s.heap = H at hP ⊢
  have hS : va_S A s.heap H [] := by rw [← hHe]; exact va_S.rf
  have hP : va_P D vwCl [(o, .inr (1, [.ref (q 0), .ref (q 1), .ref (q 2), .ref (q 3), .ref (q 4)])), ((q 0), .inl (cI, 80, .inl (fun z9 => nI (C.1 z9)))), ((q 1), .inl (cI, 640, .inl (fun z9 => nI (C.2.1 z9)))), ((q 2), .inl (cI, 64, .inl (fun z9 => nI (C.2.2.1 z9)))), ((q 3), .inl (cI, 8, .inl (fun z9 => nI (C.2.2.2.1 z9)))), ((q 4), .inl (cI, 8, .inl (fun z9 => nI (C.2.2.2.2 z9))))] H := hP
  have hD : va_D A [(o, .inr (1, [.ref (q 0), .ref (q 1), .ref (q 2), .ref (q 3), .ref (q 4)])), ((q 0), .inl (cI, 80, .inl (fun z9 => nI (C.1 z9)))), ((q 1), .inl (cI, 640, .inl (fun z9 => nI (C.2.1 z9)))), ((q 2), .inl (cI, 64, .inl (fun z9 => nI (C.2.2.1 z9)))), ((q 3), .inl (cI, 8, .inl (fun z9 => nI (C.2.2.2.1 z9)))), ((q 4), .inl (cI, 8, .inl (fun z9 => nI (C.2.2.2.2 z9))))] := hD
  have hl := lv_entry ([.ref o, .int (nI f)]) (n := 2) (Nat.le_of_ble_eq_true rfl)
  rw [lg_entry_eq]
  generalize (lg_sl ([.ref o, .int (nI f)]) ++ List.replicate (2 - (lg_sl ([.ref o, .int (nI f)])).length) Slot.unset).toArray = ls at hl ⊢
  have hl : lv_has ls 2 [(0, .ref o), (1, .int (nI f))] := hl
  refine lv_aload_n hx hb dK_addFunction_0 rfl (lv_at hl 0 rfl) ?_
  refine va_get (D := D) (ci := 1) (v := .ref (q 2)) (C := R_K) (T := F_K) (N := 5) hx hb ht i_K hown hK hP 0 rfl rfl 2 (by decide) (ht _ m_115) (fun _ h9 => h9) rfl dK_addFunction_1 ?_
  refine lv_iload_n hx hb dK_addFunction_4 rfl (lv_at hl 1 rfl) ?_
  refine lv_bipush (v := 8) hx hb dK_addFunction_5 (by decide) ?_
  refine lv_imul hx hb dK_addFunction_7 ?_
  refine lv_topi (fun v7 e7 => ?_)
  have n7 : v7 = nI (f * 8) := by rw [e7]; exact gx_mul (rfl : (nI f) = (nI f)) (rfl : (8 : Int32) = nI 8)
  subst n7
  refine lv_iload_n hx hb dK_addFunction_8 rfl (lv_at hl 1 rfl) ?_
  refine lv_iadd hx hb dK_addFunction_9 ?_
  refine lv_topi (fun v9 e9 => ?_)
  have n9 : v9 = nI ((f * 8) + f) := by rw [e9]; exact gx_add (rfl : (nI (f * 8)) = (nI (f * 8))) (rfl : (nI f) = (nI f))
  subst n9
  refine lv_iconst (v := 1) hx hb dK_addFunction_10 (by decide) ?_
  have i11 : vp_in (nI ((f * 8) + f)) 64 := gx_in (rfl : (nI ((f * 8) + f)) = (nI ((f * 8) + f))) (by omega) (by decide)
  have k11 : ((nI ((f * 8) + f)) : Int32).toNatClampNeg = ((f * 8) + f) := gx_cl (rfl : (nI ((f * 8) + f)) = (nI ((f * 8) + f))) (by omega)
  refine va_iast hx hb hK hP hD hS 3 0 rfl rfl i11 dK_addFunction_11 (fun H locs hP hD hS => ?_)
  rw [k11] at hP hD
  have hP : va_P D vwCl [(o, .inr (1, [.ref (q 0), .ref (q 1), .ref (q 2), .ref (q 3), .ref (q 4)])), ((q 0), .inl (cI, 80, .inl (fun z9 => nI (C.1 z9)))), ((q 1), .inl (cI, 640, .inl (fun z9 => nI (C.2.1 z9)))), ((q 2), .inl (cI, 64, .inl (upd (fun z9 => nI (C.2.2.1 z9)) ((f * 8) + f) (nI 1)))), ((q 3), .inl (cI, 8, .inl (fun z9 => nI (C.2.2.2.1 z9)))), ((q 4), .inl (cI, 8, .inl (fun z9 => nI (C.2.2.2.2 z9))))] H := hP
  have hD : va_D A [(o, .inr (1, [.ref (q 0), .ref (q 1), .ref (q 2), .ref (q 3), .ref (q 4)])), ((q 0), .inl (cI, 80, .inl (fun z9 => nI (C.1 z9)))), ((q 1), .inl (cI, 640, .inl (fun z9 => nI (C.2.1 z9)))), ((q 2), .inl (cI, 64, .inl (upd (fun z9 => nI (C.2.2.1 z9)) ((f * 8) + f) (nI 1)))), ((q 3), .inl (cI, 8, .inl (fun z9 => nI (C.2.2.2.1 z9)))), ((q 4), .inl (cI, 8, .inl (fun z9 => nI (C.2.2.2.2 z9))))] := hD
  rw [gx_upd] at hP hD
  refine lv_aload_n hx hb dK_addFunction_12 rfl (lv_at hl 0 rfl) ?_
  refine va_get (D := D) (ci := 1) (v := .ref (q 3)) (C := R_K) (T := F_K) (N := 5) hx hb ht i_K hown hK hP 0 rfl rfl 3 (by decide) (ht _ m_116) (fun _ h9 => h9) rfl dK_addFunction_13 ?_
  refine lv_iload_n hx hb dK_addFunction_16 rfl (lv_at hl 1 rfl) ?_
  refine lv_iconst (v := 1) hx hb dK_addFunction_17 (by decide) ?_
  have i18 : vp_in (nI f) 8 := gx_in (rfl : (nI f) = (nI f)) (by omega) (by decide)
  have k18 : ((nI f) : Int32).toNatClampNeg = f := gx_cl (rfl : (nI f) = (nI f)) (by omega)
  refine va_iast hx hb hK hP hD hS 4 0 rfl rfl i18 dK_addFunction_18 (fun H locs hP hD hS => ?_)
  rw [k18] at hP hD
  have hP : va_P D vwCl [(o, .inr (1, [.ref (q 0), .ref (q 1), .ref (q 2), .ref (q 3), .ref (q 4)])), ((q 0), .inl (cI, 80, .inl (fun z9 => nI (C.1 z9)))), ((q 1), .inl (cI, 640, .inl (fun z9 => nI (C.2.1 z9)))), ((q 2), .inl (cI, 64, .inl (fun z9 => nI ((va_up C.2.2.1 ((f * 8) + f) 1) z9)))), ((q 3), .inl (cI, 8, .inl (upd (fun z9 => nI (C.2.2.2.1 z9)) f (nI 1)))), ((q 4), .inl (cI, 8, .inl (fun z9 => nI (C.2.2.2.2 z9))))] H := hP
  have hD : va_D A [(o, .inr (1, [.ref (q 0), .ref (q 1), .ref (q 2), .ref (q 3), .ref (q 4)])), ((q 0), .inl (cI, 80, .inl (fun z9 => nI (C.1 z9)))), ((q 1), .inl (cI, 640, .inl (fun z9 => nI (C.2.1 z9)))), ((q 2), .inl (cI, 64, .inl (fun z9 => nI ((va_up C.2.2.1 ((f * 8) + f) 1) z9)))), ((q 3), .inl (cI, 8, .inl (upd (fun z9 => nI (C.2.2.2.1 z9)) f (nI 1)))), ((q 4), .inl (cI, 8, .inl (fun z9 => nI (C.2.2.2.2 z9))))] := hD
  rw [gx_upd] at hP hD
  have hP : va_P D vwCl (wK cI o q (cs_fun C f)) _ := hP
  have hD : va_D A (wK cI o q (cs_fun C f)) := hD
  exact W.vret hx hb hr (fun t9 ht9 hW => ⟨⟨_, rfl, rfl, by rw [ht9]; exact hP, hD⟩, hS.F ht9⟩) hS.2.2 dK_addFunction_19

set_option maxHeartbeats 4000000 in
set_option maxRecDepth 100000 in
theorem c_K_costOf (l : Launch) (D : va_G) (cI cJ cB cZ : ClassId) (o : Nat) (q : Nat → Nat) (C : Cs) (e : Nat) (he : e < 80) : ct_I l y_K_costOf w_K_costOf ({ frames := 0, cells := 0, slots := 0, locals := 0 }) D (gk_T cI cJ cB cZ) [.ref o, .int (nI e)] (wK cI o q C) (0) (0) (fun r w => r = nI (kc_cost C e 8) ∧ w = wK cI o q C) := by
  intro sz
  refine Met.ofW (cc := b_K_costOf) (maxL := 4) (ret := (some .int)) (by decide) rfl ?_
  intro p ev9 s m args below meth c s₁ B9 hml hv
  obtain ⟨rfl, hsz, hP, hK, hN, hD0⟩ := hv
  have hx := B9.exec
  have hb := B9.bytes
  have hr := B9.returns
  have hts := atoms_spec (ws := w_K_costOf) B9.pre
  have ht : ∀ w ∈ gk_big, w.before _ s = true := fun w h => hts w (List.mem_cons_of_mem _ h)
  have hown : s.vm.findClass R_K = some m.cls := findClass_of_methodNamed B9.named
  have hlocks := B9.notSynchronized
  subst hsz
  have hD := hD0.self (sz := s.heap.size)
  generalize hAe : va_A (wK cI o q C) s.heap.size = A at hD ⊢
  have hA : ∀ q : Nat, s.heap.size ≤ q → A q := fun q h => by rw [← hAe]; exact Or.inr h
  generalize hHe : s.heap = H at hP ⊢
  have hS : va_S A s.heap H [] := by rw [← hHe]; exact va_S.rf
  have hP : va_P D vwCl [(o, .inr (1, [.ref (q 0), .ref (q 1), .ref (q 2), .ref (q 3), .ref (q 4)])), ((q 0), .inl (cI, 80, .inl (fun z9 => nI (C.1 z9)))), ((q 1), .inl (cI, 640, .inl (fun z9 => nI (C.2.1 z9)))), ((q 2), .inl (cI, 64, .inl (fun z9 => nI (C.2.2.1 z9)))), ((q 3), .inl (cI, 8, .inl (fun z9 => nI (C.2.2.2.1 z9)))), ((q 4), .inl (cI, 8, .inl (fun z9 => nI (C.2.2.2.2 z9))))] H := hP
  have hD : va_D A [(o, .inr (1, [.ref (q 0), .ref (q 1), .ref (q 2), .ref (q 3), .ref (q 4)])), ((q 0), .inl (cI, 80, .inl (fun z9 => nI (C.1 z9)))), ((q 1), .inl (cI, 640, .inl (fun z9 => nI (C.2.1 z9)))), ((q 2), .inl (cI, 64, .inl (fun z9 => nI (C.2.2.1 z9)))), ((q 3), .inl (cI, 8, .inl (fun z9 => nI (C.2.2.2.1 z9)))), ((q 4), .inl (cI, 8, .inl (fun z9 => nI (C.2.2.2.2 z9))))] := hD
  have hl := lv_entry ([.ref o, .int (nI e)]) (n := 4) (Nat.le_of_ble_eq_true rfl)
  rw [lg_entry_eq]
  generalize (lg_sl ([.ref o, .int (nI e)]) ++ List.replicate (4 - (lg_sl ([.ref o, .int (nI e)])).length) Slot.unset).toArray = ls at hl ⊢
  have hl : lv_has ls 4 [(0, .ref o), (1, .int (nI e))] := hl
  refine lv_aload_n hx hb dK_costOf_0 rfl (lv_at hl 0 rfl) ?_
  refine va_get (D := D) (ci := 1) (v := .ref (q 0)) (C := R_K) (T := F_K) (N := 5) hx hb ht i_K hown hK hP 0 rfl rfl 0 (by decide) (ht _ m_113) (fun _ h9 => h9) rfl dK_costOf_1 ?_
  refine lv_iload_n hx hb dK_costOf_4 rfl (lv_at hl 1 rfl) ?_
  have i5 : vp_in (nI e) 80 := gx_in (rfl : (nI e) = (nI e)) (by omega) (by decide)
  have k5 : ((nI e) : Int32).toNatClampNeg = e := gx_cl (rfl : (nI e) = (nI e)) (by omega)
  refine va_iald hx hb hK hP 1 0 rfl rfl i5 dK_costOf_5 ?_
  rw [k5]
  refine lv_topi (fun v5 e5 => ?_)
  have n5 : v5 = nI (C.1 e) := e5
  subst n5
  refine lv_istore_n (lv' := [(2, .int (nI (C.1 e))), (0, .ref o), (1, .int (nI e))]) hx hb dK_costOf_6 rfl hl (by decide) rfl (fun ls hl => ?_)
  refine lv_iconst (v := 0) hx hb dK_costOf_7 (by decide) ?_
  refine lv_istore_n (lv' := [(3, .int 0), (2, .int (nI (C.1 e))), (0, .ref o), (1, .int (nI e))]) hx hb dK_costOf_8 rfl hl (by decide) rfl (fun ls hl => ?_)
  have lp9 : ∀ (n9 : Nat) (i : Nat), 8 - i + 1 ≤ n9 → (i ≤ 8) → ∀ (H : Heap) (locs : List Loc) (ls : Array Slot), va_P D vwCl [(o, .inr (1, [.ref (q 0), .ref (q 1), .ref (q 2), .ref (q 3), .ref (q 4)])), ((q 0), .inl (cI, 80, .inl (fun z9 => nI (C.1 z9)))), ((q 1), .inl (cI, 640, .inl (fun z9 => nI (C.2.1 z9)))), ((q 2), .inl (cI, 64, .inl (fun z9 => nI (C.2.2.1 z9)))), ((q 3), .inl (cI, 8, .inl (fun z9 => nI (C.2.2.2.1 z9)))), ((q 4), .inl (cI, 8, .inl (fun z9 => nI (C.2.2.2.2 z9))))] H → va_D A [(o, .inr (1, [.ref (q 0), .ref (q 1), .ref (q 2), .ref (q 3), .ref (q 4)])), ((q 0), .inl (cI, 80, .inl (fun z9 => nI (C.1 z9)))), ((q 1), .inl (cI, 640, .inl (fun z9 => nI (C.2.1 z9)))), ((q 2), .inl (cI, 64, .inl (fun z9 => nI (C.2.2.1 z9)))), ((q 3), .inl (cI, 8, .inl (fun z9 => nI (C.2.2.2.1 z9)))), ((q 4), .inl (cI, 8, .inl (fun z9 => nI (C.2.2.2.2 z9))))] → va_S A s.heap H locs → lv_has ls 4 [(2, .int (nI (kc_cost C e i))), (3, .int (nI i)), (0, .ref o), (1, .int (nI e))] → W p l ev9 (headSpec w_K_costOf ({ frames := 0, cells := 0, slots := 0, locals := 0 })).room s m ([.ref o, .int (nI e)] : List Value).toArray below meth c H locs 0 0 (MQ below (gq_I D A (fun r w => r = nI (kc_cost C e 8) ∧ w = wK cI o q C)) ([.ref o, .int (nI e)] : List Value).toArray s (0) (0) A) (F0 m 9 ls []) := by
    intro n9
    induction n9 with
    | zero =>
      intro i hm9
      exact absurd hm9 (by omega)
    | succ n9 ih9 =>
      intro i hm9 hi H locs ls hP hD hS hl
      refine lv_iload_n hx hb dK_costOf_9 rfl (lv_at hl 1 rfl) ?_
      refine lv_bipush (v := 8) hx hb dK_costOf_10 (by decide) ?_
      refine lv_icmp_ge (tgt := 42) hx hb dK_costOf_12 (by decide) (fun c12 => ?_) (fun c12 => ?_)
      · have g12 : 8 ≤ i := (gx_le (rfl : (8 : Int32) = nI 8) (rfl : (nI i) = (nI i)) (by decide) (by omega)).mp c12
        refine lv_iload_n hx hb dK_costOf_42 rfl (lv_at hl 0 rfl) ?_
        have zi : i = 8 := by omega
        subst zi
        exact W.iret (v := (nI (kc_cost C e 8))) hx hb hr (fun t9 ht9 hW => ⟨⟨(nI (kc_cost C e 8)), _, rfl, ⟨rfl, rfl⟩, by rw [ht9]; exact hP, hD⟩, hS.F ht9⟩) hS.2.2 dK_costOf_43
      · have g12 : ¬ (8 ≤ i) := fun z => c12 ((gx_le (rfl : (8 : Int32) = nI 8) (rfl : (nI i) = (nI i)) (by decide) (by omega)).mpr z)
        refine lv_iload_n hx hb dK_costOf_15 rfl (lv_at hl 0 rfl) ?_
        refine lv_aload_n hx hb dK_costOf_16 rfl (lv_at hl 2 rfl) ?_
        refine va_get (D := D) (ci := 1) (v := .ref (q 1)) (C := R_K) (T := F_K) (N := 5) hx hb ht i_K hown hK hP 0 rfl rfl 1 (by decide) (ht _ m_114) (fun _ h9 => h9) rfl dK_costOf_17 ?_
        refine lv_iload_n hx hb dK_costOf_20 rfl (lv_at hl 3 rfl) ?_
        refine lv_bipush (v := 8) hx hb dK_costOf_21 (by decide) ?_
        refine lv_imul hx hb dK_costOf_23 ?_
        refine lv_topi (fun v23 e23 => ?_)
        have n23 : v23 = nI (e * 8) := by rw [e23]; exact gx_mul (rfl : (nI e) = (nI e)) (rfl : (8 : Int32) = nI 8)
        subst n23
        refine lv_iload_n hx hb dK_costOf_24 rfl (lv_at hl 1 rfl) ?_
        refine lv_iadd hx hb dK_costOf_25 ?_
        refine lv_topi (fun v25 e25 => ?_)
        have n25 : v25 = nI ((e * 8) + i) := by rw [e25]; exact gx_add (rfl : (nI (e * 8)) = (nI (e * 8))) (rfl : (nI i) = (nI i))
        subst n25
        have i26 : vp_in (nI ((e * 8) + i)) 640 := gx_in (rfl : (nI ((e * 8) + i)) = (nI ((e * 8) + i))) (by omega) (by decide)
        have k26 : ((nI ((e * 8) + i)) : Int32).toNatClampNeg = ((e * 8) + i) := gx_cl (rfl : (nI ((e * 8) + i)) = (nI ((e * 8) + i))) (by omega)
        refine va_iald hx hb hK hP 2 0 rfl rfl i26 dK_costOf_26 ?_
        rw [k26]
        refine lv_topi (fun v26 e26 => ?_)
        have n26 : v26 = nI (C.2.1 ((e * 8) + i)) := e26
        subst n26
        refine lv_aload_n hx hb dK_costOf_27 rfl (lv_at hl 2 rfl) ?_
        refine va_get (D := D) (ci := 1) (v := .ref (q 3)) (C := R_K) (T := F_K) (N := 5) hx hb ht i_K hown hK hP 0 rfl rfl 3 (by decide) (ht _ m_116) (fun _ h9 => h9) rfl dK_costOf_28 ?_
        refine lv_iload_n hx hb dK_costOf_31 rfl (lv_at hl 1 rfl) ?_
        have i32 : vp_in (nI i) 8 := gx_in (rfl : (nI i) = (nI i)) (by omega) (by decide)
        have k32 : ((nI i) : Int32).toNatClampNeg = i := gx_cl (rfl : (nI i) = (nI i)) (by omega)
        refine va_iald hx hb hK hP 4 0 rfl rfl i32 dK_costOf_32 ?_
        rw [k32]
        refine lv_topi (fun v32 e32 => ?_)
        have n32 : v32 = nI (C.2.2.2.1 i) := e32
        subst n32
        refine lv_imul hx hb dK_costOf_33 ?_
        refine lv_topi (fun v33 e33 => ?_)
        have n33 : v33 = nI ((C.2.1 ((e * 8) + i)) * (C.2.2.2.1 i)) := by rw [e33]; exact gx_mul (rfl : (nI (C.2.1 ((e * 8) + i))) = (nI (C.2.1 ((e * 8) + i)))) (rfl : (nI (C.2.2.2.1 i)) = (nI (C.2.2.2.1 i)))
        subst n33
        refine lv_iadd hx hb dK_costOf_34 ?_
        refine lv_topi (fun v34 e34 => ?_)
        have n34 : v34 = nI ((kc_cost C e i) + ((C.2.1 ((e * 8) + i)) * (C.2.2.2.1 i))) := by rw [e34]; exact gx_add (rfl : (nI (kc_cost C e i)) = (nI (kc_cost C e i))) (rfl : (nI ((C.2.1 ((e * 8) + i)) * (C.2.2.2.1 i))) = (nI ((C.2.1 ((e * 8) + i)) * (C.2.2.2.1 i))))
        subst n34
        refine lv_istore_n (lv' := [(2, .int (nI ((kc_cost C e i) + ((C.2.1 ((e * 8) + i)) * (C.2.2.2.1 i))))), (3, .int (nI i)), (0, .ref o), (1, .int (nI e))]) hx hb dK_costOf_35 rfl hl (by decide) rfl (fun ls hl => ?_)
        refine lv_iinc (v := (nI (i + 1))) (lv' := [(3, .int (nI (i + 1))), (2, .int (nI ((kc_cost C e i) + ((C.2.1 ((e * 8) + i)) * (C.2.2.2.1 i))))), (0, .ref o), (1, .int (nI e))]) hx hb dK_costOf_36 hl (k := 1) rfl (gx_inc (rfl : (nI i) = (nI i))) (by decide) rfl (fun ls hl => ?_)
        refine lv_goto (tgt := 9) hx hb dK_costOf_39 (by decide) ?_
        exact ih9 (i + 1) (by omega) (by omega) _ _ _ hP hD hS (lv_sub hl [1, 0, 2, 3] rfl)
  exact lp9 (8 - (0) + 1) 0 (by omega) (by omega) _ _ _ hP hD hS (lv_sub hl [1, 0, 2, 3] rfl)

set_option maxHeartbeats 4000000 in
set_option maxRecDepth 100000 in
theorem c_K_workOutAdded (l : Launch) (D : va_G) (cI cJ cB cZ : ClassId) (o : Nat) (q : Nat → Nat) (C : Cs) (a : Nat → Nat) (e t : Nat) (he : e < 80) : ct_V l y_K_workOutAdded w_K_workOutAdded ({ frames := 0, cells := 0, slots := 0, locals := 0 }) D (gk_T cI cJ cB cZ) [.ref o, .int (nI e), .int (nI t)] (wK cI o q (C.1, C.2.1, C.2.2.1, C.2.2.2.1, a)) (0) (0) (fun w => w = wK cI o q (C.1, C.2.1, C.2.2.1, C.2.2.2.1, ka_out C e t a 8)) := by
  intro sz
  refine Met.ofW (cc := b_K_workOutAdded) (maxL := 6) (ret := none) (by decide) rfl ?_
  intro p ev9 s m args below meth c s₁ B9 hml hv
  obtain ⟨rfl, hsz, hP, hK, hN, hD0⟩ := hv
  have hx := B9.exec
  have hb := B9.bytes
  have hr := B9.returns
  have hts := atoms_spec (ws := w_K_workOutAdded) B9.pre
  have ht : ∀ w ∈ gk_big, w.before _ s = true := fun w h => hts w (List.mem_cons_of_mem _ h)
  have hown : s.vm.findClass R_K = some m.cls := findClass_of_methodNamed B9.named
  have hlocks := B9.notSynchronized
  subst hsz
  have hD := hD0.self (sz := s.heap.size)
  generalize hAe : va_A (wK cI o q (C.1, C.2.1, C.2.2.1, C.2.2.2.1, a)) s.heap.size = A at hD ⊢
  have hA : ∀ q : Nat, s.heap.size ≤ q → A q := fun q h => by rw [← hAe]; exact Or.inr h
  generalize hHe : s.heap = H at hP ⊢
  have hS : va_S A s.heap H [] := by rw [← hHe]; exact va_S.rf
  have hP : va_P D vwCl [(o, .inr (1, [.ref (q 0), .ref (q 1), .ref (q 2), .ref (q 3), .ref (q 4)])), ((q 0), .inl (cI, 80, .inl (fun z9 => nI (C.1 z9)))), ((q 1), .inl (cI, 640, .inl (fun z9 => nI (C.2.1 z9)))), ((q 2), .inl (cI, 64, .inl (fun z9 => nI (C.2.2.1 z9)))), ((q 3), .inl (cI, 8, .inl (fun z9 => nI (C.2.2.2.1 z9)))), ((q 4), .inl (cI, 8, .inl (fun z9 => nI (a z9))))] H := hP
  have hD : va_D A [(o, .inr (1, [.ref (q 0), .ref (q 1), .ref (q 2), .ref (q 3), .ref (q 4)])), ((q 0), .inl (cI, 80, .inl (fun z9 => nI (C.1 z9)))), ((q 1), .inl (cI, 640, .inl (fun z9 => nI (C.2.1 z9)))), ((q 2), .inl (cI, 64, .inl (fun z9 => nI (C.2.2.1 z9)))), ((q 3), .inl (cI, 8, .inl (fun z9 => nI (C.2.2.2.1 z9)))), ((q 4), .inl (cI, 8, .inl (fun z9 => nI (a z9))))] := hD
  have hl := lv_entry ([.ref o, .int (nI e), .int (nI t)]) (n := 6) (Nat.le_of_ble_eq_true rfl)
  rw [lg_entry_eq]
  generalize (lg_sl ([.ref o, .int (nI e), .int (nI t)]) ++ List.replicate (6 - (lg_sl ([.ref o, .int (nI e), .int (nI t)])).length) Slot.unset).toArray = ls at hl ⊢
  have hl : lv_has ls 6 [(0, .ref o), (1, .int (nI e)), (2, .int (nI t))] := hl
  refine lv_iconst (v := 0) hx hb dK_workOutAdded_0 (by decide) ?_
  refine lv_istore_n (lv' := [(3, .int 0), (0, .ref o), (1, .int (nI e)), (2, .int (nI t))]) hx hb dK_workOutAdded_1 rfl hl (by decide) rfl (fun ls hl => ?_)
  have lp2 : ∀ (n2 : Nat) (b : Nat), 8 - b + 1 ≤ n2 → (b ≤ 8) → ∀ (H : Heap) (locs : List Loc) (ls : Array Slot), va_P D vwCl [(o, .inr (1, [.ref (q 0), .ref (q 1), .ref (q 2), .ref (q 3), .ref (q 4)])), ((q 0), .inl (cI, 80, .inl (fun z9 => nI (C.1 z9)))), ((q 1), .inl (cI, 640, .inl (fun z9 => nI (C.2.1 z9)))), ((q 2), .inl (cI, 64, .inl (fun z9 => nI (C.2.2.1 z9)))), ((q 3), .inl (cI, 8, .inl (fun z9 => nI (C.2.2.2.1 z9)))), ((q 4), .inl (cI, 8, .inl (fun z9 => nI ((ka_out C e t a b) z9))))] H → va_D A [(o, .inr (1, [.ref (q 0), .ref (q 1), .ref (q 2), .ref (q 3), .ref (q 4)])), ((q 0), .inl (cI, 80, .inl (fun z9 => nI (C.1 z9)))), ((q 1), .inl (cI, 640, .inl (fun z9 => nI (C.2.1 z9)))), ((q 2), .inl (cI, 64, .inl (fun z9 => nI (C.2.2.1 z9)))), ((q 3), .inl (cI, 8, .inl (fun z9 => nI (C.2.2.2.1 z9)))), ((q 4), .inl (cI, 8, .inl (fun z9 => nI ((ka_out C e t a b) z9))))] → va_S A s.heap H locs → lv_has ls 6 [(3, .int (nI b)), (0, .ref o), (1, .int (nI e)), (2, .int (nI t))] → W p l ev9 (headSpec w_K_workOutAdded ({ frames := 0, cells := 0, slots := 0, locals := 0 })).room s m ([.ref o, .int (nI e), .int (nI t)] : List Value).toArray below meth c H locs 0 0 (MQ below (gq_V D A (fun w => w = wK cI o q (C.1, C.2.1, C.2.2.1, C.2.2.2.1, ka_out C e t a 8))) ([.ref o, .int (nI e), .int (nI t)] : List Value).toArray s (0) (0) A) (F0 m 2 ls []) := by
    intro n2
    induction n2 with
    | zero =>
      intro b hm2
      exact absurd hm2 (by omega)
    | succ n2 ih2 =>
      intro b hm2 hb8 H locs ls hP hD hS hl
      refine lv_iload_n hx hb dK_workOutAdded_2 rfl (lv_at hl 0 rfl) ?_
      refine lv_bipush (v := 8) hx hb dK_workOutAdded_3 (by decide) ?_
      refine lv_icmp_ge (tgt := 70) hx hb dK_workOutAdded_5 (by decide) (fun c5 => ?_) (fun c5 => ?_)
      · have g5 : 8 ≤ b := (gx_le (rfl : (8 : Int32) = nI 8) (rfl : (nI b) = (nI b)) (by decide) (by omega)).mp c5
        have zb : b = 8 := by omega
        subst zb
        exact W.vret hx hb hr (fun t9 ht9 hW => ⟨⟨_, rfl, rfl, by rw [ht9]; exact hP, hD⟩, hS.F ht9⟩) hS.2.2 dK_workOutAdded_70
      · have g5 : ¬ (8 ≤ b) := fun z => c5 ((gx_le (rfl : (8 : Int32) = nI 8) (rfl : (nI b) = (nI b)) (by decide) (by omega)).mpr z)
        refine lv_iload_n hx hb dK_workOutAdded_8 rfl (lv_at hl 3 rfl) ?_
        refine lv_aload_n hx hb dK_workOutAdded_9 rfl (lv_at hl 1 rfl) ?_
        refine va_get (D := D) (ci := 1) (v := .ref (q 1)) (C := R_K) (T := F_K) (N := 5) hx hb ht i_K hown hK hP 0 rfl rfl 1 (by decide) (ht _ m_114) (fun _ h9 => h9) rfl dK_workOutAdded_10 ?_
        refine lv_iload_n hx hb dK_workOutAdded_13 rfl (lv_at hl 2 rfl) ?_
        refine lv_bipush (v := 8) hx hb dK_workOutAdded_14 (by decide) ?_
        refine lv_imul hx hb dK_workOutAdded_16 ?_
        refine lv_topi (fun v16 e16 => ?_)
        have n16 : v16 = nI (e * 8) := by rw [e16]; exact gx_mul (rfl : (nI e) = (nI e)) (rfl : (8 : Int32) = nI 8)
        subst n16
        refine lv_iload_n hx hb dK_workOutAdded_17 rfl (lv_at hl 0 rfl) ?_
        refine lv_iadd hx hb dK_workOutAdded_18 ?_
        refine lv_topi (fun v18 e18 => ?_)
        have n18 : v18 = nI ((e * 8) + b) := by rw [e18]; exact gx_add (rfl : (nI (e * 8)) = (nI (e * 8))) (rfl : (nI b) = (nI b))
        subst n18
        have i19 : vp_in (nI ((e * 8) + b)) 640 := gx_in (rfl : (nI ((e * 8) + b)) = (nI ((e * 8) + b))) (by omega) (by decide)
        have k19 : ((nI ((e * 8) + b)) : Int32).toNatClampNeg = ((e * 8) + b) := gx_cl (rfl : (nI ((e * 8) + b)) = (nI ((e * 8) + b))) (by omega)
        refine va_iald hx hb hK hP 2 0 rfl rfl i19 dK_workOutAdded_19 ?_
        rw [k19]
        refine lv_topi (fun v19 e19 => ?_)
        have n19 : v19 = nI (C.2.1 ((e * 8) + b)) := e19
        subst n19
        refine lv_imul hx hb dK_workOutAdded_20 ?_
        refine lv_topi (fun v20 e20 => ?_)
        have n20 : v20 = nI (t * (C.2.1 ((e * 8) + b))) := by rw [e20]; exact gx_mul (rfl : (nI t) = (nI t)) (rfl : (nI (C.2.1 ((e * 8) + b))) = (nI (C.2.1 ((e * 8) + b))))
        subst n20
        refine lv_istore (lv' := [(4, .int (nI (t * (C.2.1 ((e * 8) + b))))), (3, .int (nI b)), (0, .ref o), (1, .int (nI e)), (2, .int (nI t))]) hx hb dK_workOutAdded_21 hl (by decide) rfl (fun ls hl => ?_)
        refine lv_iconst (v := 0) hx hb dK_workOutAdded_23 (by decide) ?_
        refine lv_istore (lv' := [(5, .int 0), (4, .int (nI (t * (C.2.1 ((e * 8) + b))))), (3, .int (nI b)), (0, .ref o), (1, .int (nI e)), (2, .int (nI t))]) hx hb dK_workOutAdded_24 hl (by decide) rfl (fun ls hl => ?_)
        rw [← ka_in_0 C (ka_out C e t a b) (t * C.2.1 (e * 8 + b)) b] at hP hD
        have lp26 : ∀ (n26 : Nat) (i : Nat), 8 - i + 1 ≤ n26 → (i ≤ 8) → ∀ (H : Heap) (locs : List Loc) (ls : Array Slot), va_P D vwCl [(o, .inr (1, [.ref (q 0), .ref (q 1), .ref (q 2), .ref (q 3), .ref (q 4)])), ((q 0), .inl (cI, 80, .inl (fun z9 => nI (C.1 z9)))), ((q 1), .inl (cI, 640, .inl (fun z9 => nI (C.2.1 z9)))), ((q 2), .inl (cI, 64, .inl (fun z9 => nI (C.2.2.1 z9)))), ((q 3), .inl (cI, 8, .inl (fun z9 => nI (C.2.2.2.1 z9)))), ((q 4), .inl (cI, 8, .inl (fun z9 => nI ((ka_in C (ka_out C e t a b) (t * C.2.1 (e * 8 + b)) b i) z9))))] H → va_D A [(o, .inr (1, [.ref (q 0), .ref (q 1), .ref (q 2), .ref (q 3), .ref (q 4)])), ((q 0), .inl (cI, 80, .inl (fun z9 => nI (C.1 z9)))), ((q 1), .inl (cI, 640, .inl (fun z9 => nI (C.2.1 z9)))), ((q 2), .inl (cI, 64, .inl (fun z9 => nI (C.2.2.1 z9)))), ((q 3), .inl (cI, 8, .inl (fun z9 => nI (C.2.2.2.1 z9)))), ((q 4), .inl (cI, 8, .inl (fun z9 => nI ((ka_in C (ka_out C e t a b) (t * C.2.1 (e * 8 + b)) b i) z9))))] → va_S A s.heap H locs → lv_has ls 6 [(5, .int (nI i)), (4, .int (nI (t * (C.2.1 ((e * 8) + b))))), (3, .int (nI b)), (0, .ref o), (1, .int (nI e)), (2, .int (nI t))] → W p l ev9 (headSpec w_K_workOutAdded ({ frames := 0, cells := 0, slots := 0, locals := 0 })).room s m ([.ref o, .int (nI e), .int (nI t)] : List Value).toArray below meth c H locs 0 0 (MQ below (gq_V D A (fun w => w = wK cI o q (C.1, C.2.1, C.2.2.1, C.2.2.2.1, ka_out C e t a 8))) ([.ref o, .int (nI e), .int (nI t)] : List Value).toArray s (0) (0) A) (F0 m 26 ls []) := by
          intro n26
          induction n26 with
          | zero =>
            intro i hm26
            exact absurd hm26 (by omega)
          | succ n26 ih26 =>
            intro i hm26 hi H locs ls hP hD hS hl
            refine lv_iload hx hb dK_workOutAdded_26 (lv_at hl 0 rfl) ?_
            refine lv_bipush (v := 8) hx hb dK_workOutAdded_28 (by decide) ?_
            refine lv_icmp_ge (tgt := 64) hx hb dK_workOutAdded_30 (by decide) (fun c30 => ?_) (fun c30 => ?_)
            · have g30 : 8 ≤ i := (gx_le (rfl : (8 : Int32) = nI 8) (rfl : (nI i) = (nI i)) (by decide) (by omega)).mp c30
              have zi : i = 8 := by omega
              subst zi
              have hP : va_P D vwCl [(o, .inr (1, [.ref (q 0), .ref (q 1), .ref (q 2), .ref (q 3), .ref (q 4)])), ((q 0), .inl (cI, 80, .inl (fun z9 => nI (C.1 z9)))), ((q 1), .inl (cI, 640, .inl (fun z9 => nI (C.2.1 z9)))), ((q 2), .inl (cI, 64, .inl (fun z9 => nI (C.2.2.1 z9)))), ((q 3), .inl (cI, 8, .inl (fun z9 => nI (C.2.2.2.1 z9)))), ((q 4), .inl (cI, 8, .inl (fun z9 => nI ((ka_out C e t a (b + 1)) z9))))] H := hP
              have hD : va_D A [(o, .inr (1, [.ref (q 0), .ref (q 1), .ref (q 2), .ref (q 3), .ref (q 4)])), ((q 0), .inl (cI, 80, .inl (fun z9 => nI (C.1 z9)))), ((q 1), .inl (cI, 640, .inl (fun z9 => nI (C.2.1 z9)))), ((q 2), .inl (cI, 64, .inl (fun z9 => nI (C.2.2.1 z9)))), ((q 3), .inl (cI, 8, .inl (fun z9 => nI (C.2.2.2.1 z9)))), ((q 4), .inl (cI, 8, .inl (fun z9 => nI ((ka_out C e t a (b + 1)) z9))))] := hD
              refine lv_iinc (v := (nI (b + 1))) (lv' := [(3, .int (nI (b + 1))), (5, .int (nI 8)), (4, .int (nI (t * (C.2.1 ((e * 8) + b))))), (0, .ref o), (1, .int (nI e)), (2, .int (nI t))]) hx hb dK_workOutAdded_64 hl (k := 2) rfl (gx_inc (rfl : (nI b) = (nI b))) (by decide) rfl (fun ls hl => ?_)
              refine lv_goto (tgt := 2) hx hb dK_workOutAdded_67 (by decide) ?_
              exact ih2 (b + 1) (by omega) (by omega) _ _ _ hP hD hS (lv_sub hl [0, 3, 4, 5] rfl)
            · have g30 : ¬ (8 ≤ i) := fun z => c30 ((gx_le (rfl : (8 : Int32) = nI 8) (rfl : (nI i) = (nI i)) (by decide) (by omega)).mpr z)
              refine lv_aload_n hx hb dK_workOutAdded_33 rfl (lv_at hl 3 rfl) ?_
              refine va_get (D := D) (ci := 1) (v := .ref (q 4)) (C := R_K) (T := F_K) (N := 5) hx hb ht i_K hown hK hP 0 rfl rfl 4 (by decide) (ht _ m_118) (fun _ h9 => h9) rfl dK_workOutAdded_34 ?_
              refine lv_iload hx hb dK_workOutAdded_37 (lv_at hl 0 rfl) ?_
              refine lv_dup2_11 hx hb dK_workOutAdded_39 rfl rfl ?_
              have i40 : vp_in (nI i) 8 := gx_in (rfl : (nI i) = (nI i)) (by omega) (by decide)
              have k40 : ((nI i) : Int32).toNatClampNeg = i := gx_cl (rfl : (nI i) = (nI i)) (by omega)
              refine va_iald hx hb hK hP 5 0 rfl rfl i40 dK_workOutAdded_40 ?_
              rw [k40]
              refine lv_topi (fun v40 e40 => ?_)
              have n40 : v40 = nI ((ka_in C (ka_out C e t a b) (t * C.2.1 (e * 8 + b)) b i) i) := e40
              subst n40
              refine lv_iload hx hb dK_workOutAdded_41 (lv_at hl 1 rfl) ?_
              refine lv_aload_n hx hb dK_workOutAdded_43 rfl (lv_at hl 3 rfl) ?_
              refine va_get (D := D) (ci := 1) (v := .ref (q 2)) (C := R_K) (T := F_K) (N := 5) hx hb ht i_K hown hK hP 0 rfl rfl 2 (by decide) (ht _ m_115) (fun _ h9 => h9) rfl dK_workOutAdded_44 ?_
              refine lv_iload_n hx hb dK_workOutAdded_47 rfl (lv_at hl 2 rfl) ?_
              refine lv_bipush (v := 8) hx hb dK_workOutAdded_48 (by decide) ?_
              refine lv_imul hx hb dK_workOutAdded_50 ?_
              refine lv_topi (fun v50 e50 => ?_)
              have n50 : v50 = nI (b * 8) := by rw [e50]; exact gx_mul (rfl : (nI b) = (nI b)) (rfl : (8 : Int32) = nI 8)
              subst n50
              refine lv_iload hx hb dK_workOutAdded_51 (lv_at hl 0 rfl) ?_
              refine lv_iadd hx hb dK_workOutAdded_53 ?_
              refine lv_topi (fun v53 e53 => ?_)
              have n53 : v53 = nI ((b * 8) + i) := by rw [e53]; exact gx_add (rfl : (nI (b * 8)) = (nI (b * 8))) (rfl : (nI i) = (nI i))
              subst n53
              have i54 : vp_in (nI ((b * 8) + i)) 64 := gx_in (rfl : (nI ((b * 8) + i)) = (nI ((b * 8) + i))) (by omega) (by decide)
              have k54 : ((nI ((b * 8) + i)) : Int32).toNatClampNeg = ((b * 8) + i) := gx_cl (rfl : (nI ((b * 8) + i)) = (nI ((b * 8) + i))) (by omega)
              refine va_iald hx hb hK hP 3 0 rfl rfl i54 dK_workOutAdded_54 ?_
              rw [k54]
              refine lv_topi (fun v54 e54 => ?_)
              have n54 : v54 = nI (C.2.2.1 ((b * 8) + i)) := e54
              subst n54
              refine lv_imul hx hb dK_workOutAdded_55 ?_
              refine lv_topi (fun v55 e55 => ?_)
              have n55 : v55 = nI ((t * (C.2.1 ((e * 8) + b))) * (C.2.2.1 ((b * 8) + i))) := by rw [e55]; exact gx_mul (rfl : (nI (t * (C.2.1 ((e * 8) + b)))) = (nI (t * (C.2.1 ((e * 8) + b))))) (rfl : (nI (C.2.2.1 ((b * 8) + i))) = (nI (C.2.2.1 ((b * 8) + i))))
              subst n55
              refine lv_iadd hx hb dK_workOutAdded_56 ?_
              refine lv_topi (fun v56 e56 => ?_)
              have n56 : v56 = nI (((ka_in C (ka_out C e t a b) (t * C.2.1 (e * 8 + b)) b i) i) + ((t * (C.2.1 ((e * 8) + b))) * (C.2.2.1 ((b * 8) + i)))) := by rw [e56]; exact gx_add (rfl : (nI ((ka_in C (ka_out C e t a b) (t * C.2.1 (e * 8 + b)) b i) i)) = (nI ((ka_in C (ka_out C e t a b) (t * C.2.1 (e * 8 + b)) b i) i))) (rfl : (nI ((t * (C.2.1 ((e * 8) + b))) * (C.2.2.1 ((b * 8) + i)))) = (nI ((t * (C.2.1 ((e * 8) + b))) * (C.2.2.1 ((b * 8) + i)))))
              subst n56
              have i57 : vp_in (nI i) 8 := gx_in (rfl : (nI i) = (nI i)) (by omega) (by decide)
              have k57 : ((nI i) : Int32).toNatClampNeg = i := gx_cl (rfl : (nI i) = (nI i)) (by omega)
              refine va_iast hx hb hK hP hD hS 5 0 rfl rfl i57 dK_workOutAdded_57 (fun H locs hP hD hS => ?_)
              rw [k57] at hP hD
              have hP : va_P D vwCl [(o, .inr (1, [.ref (q 0), .ref (q 1), .ref (q 2), .ref (q 3), .ref (q 4)])), ((q 0), .inl (cI, 80, .inl (fun z9 => nI (C.1 z9)))), ((q 1), .inl (cI, 640, .inl (fun z9 => nI (C.2.1 z9)))), ((q 2), .inl (cI, 64, .inl (fun z9 => nI (C.2.2.1 z9)))), ((q 3), .inl (cI, 8, .inl (fun z9 => nI (C.2.2.2.1 z9)))), ((q 4), .inl (cI, 8, .inl (upd (fun z9 => nI ((ka_in C (ka_out C e t a b) (t * C.2.1 (e * 8 + b)) b i) z9)) i (nI (((ka_in C (ka_out C e t a b) (t * C.2.1 (e * 8 + b)) b i) i) + ((t * (C.2.1 ((e * 8) + b))) * (C.2.2.1 ((b * 8) + i))))))))] H := hP
              have hD : va_D A [(o, .inr (1, [.ref (q 0), .ref (q 1), .ref (q 2), .ref (q 3), .ref (q 4)])), ((q 0), .inl (cI, 80, .inl (fun z9 => nI (C.1 z9)))), ((q 1), .inl (cI, 640, .inl (fun z9 => nI (C.2.1 z9)))), ((q 2), .inl (cI, 64, .inl (fun z9 => nI (C.2.2.1 z9)))), ((q 3), .inl (cI, 8, .inl (fun z9 => nI (C.2.2.2.1 z9)))), ((q 4), .inl (cI, 8, .inl (upd (fun z9 => nI ((ka_in C (ka_out C e t a b) (t * C.2.1 (e * 8 + b)) b i) z9)) i (nI (((ka_in C (ka_out C e t a b) (t * C.2.1 (e * 8 + b)) b i) i) + ((t * (C.2.1 ((e * 8) + b))) * (C.2.2.1 ((b * 8) + i))))))))] := hD
              rw [gx_upd] at hP hD
              rw [ka_in_s] at hP hD
              have hP : va_P D vwCl [(o, .inr (1, [.ref (q 0), .ref (q 1), .ref (q 2), .ref (q 3), .ref (q 4)])), ((q 0), .inl (cI, 80, .inl (fun z9 => nI (C.1 z9)))), ((q 1), .inl (cI, 640, .inl (fun z9 => nI (C.2.1 z9)))), ((q 2), .inl (cI, 64, .inl (fun z9 => nI (C.2.2.1 z9)))), ((q 3), .inl (cI, 8, .inl (fun z9 => nI (C.2.2.2.1 z9)))), ((q 4), .inl (cI, 8, .inl (fun z9 => nI ((ka_in C (ka_out C e t a b) (t * C.2.1 (e * 8 + b)) b (i + 1)) z9))))] H := hP
              have hD : va_D A [(o, .inr (1, [.ref (q 0), .ref (q 1), .ref (q 2), .ref (q 3), .ref (q 4)])), ((q 0), .inl (cI, 80, .inl (fun z9 => nI (C.1 z9)))), ((q 1), .inl (cI, 640, .inl (fun z9 => nI (C.2.1 z9)))), ((q 2), .inl (cI, 64, .inl (fun z9 => nI (C.2.2.1 z9)))), ((q 3), .inl (cI, 8, .inl (fun z9 => nI (C.2.2.2.1 z9)))), ((q 4), .inl (cI, 8, .inl (fun z9 => nI ((ka_in C (ka_out C e t a b) (t * C.2.1 (e * 8 + b)) b (i + 1)) z9))))] := hD
              refine lv_iinc (v := (nI (i + 1))) (lv' := [(5, .int (nI (i + 1))), (4, .int (nI (t * (C.2.1 ((e * 8) + b))))), (3, .int (nI b)), (0, .ref o), (1, .int (nI e)), (2, .int (nI t))]) hx hb dK_workOutAdded_58 hl (k := 0) rfl (gx_inc (rfl : (nI i) = (nI i))) (by decide) rfl (fun ls hl => ?_)
              refine lv_goto (tgt := 26) hx hb dK_workOutAdded_61 (by decide) ?_
              exact ih26 (i + 1) (by omega) (by omega) _ _ _ hP hD hS (lv_sub hl [0, 1, 2, 3, 4, 5] rfl)
        exact lp26 (8 - (0) + 1) 0 (by omega) (by omega) _ _ _ hP hD hS (lv_sub hl [0, 1, 2, 3, 4, 5] rfl)
  exact lp2 (8 - (0) + 1) 0 (by omega) (by omega) _ _ _ hP hD hS (lv_sub hl [0, 1, 2, 3] rfl)

set_option maxHeartbeats 4000000 in
set_option maxRecDepth 100000 in
theorem c_K_isTooDear (l : Launch) (D : va_G) (cI cJ cB cZ : ClassId) (o : Nat) (q : Nat → Nat) (C : Cs) (f p9 : Nat) (hf : f < 8) (hbd : ∀ x, x < 8 → C.2.2.2.1 x < 2 ^ 31 ∧ C.2.2.1 (x * 8 + f) < 2 ^ 31 ∧ C.2.2.2.1 x + C.2.2.1 (x * 8 + f) * p9 < 2 ^ 62) : ct_I l y_K_isTooDear w_K_isTooDear ({ frames := 0, cells := 0, slots := 0, locals := 0 }) D (gk_T cI cJ cB cZ) [.ref o, .int (nI f), .long (lN p9)] (wK cI o q C) (0) (0) (fun r w => r = gb (¬ ∀ x, x < 8 → C.2.2.2.1 x + C.2.2.1 (x * 8 + f) * p9 ≤ 40) ∧ w = wK cI o q C) := by
  intro sz
  refine Met.ofW (cc := b_K_isTooDear) (maxL := 5) (ret := (some .boolean)) (by decide) rfl ?_
  intro p ev9 s m args below meth c s₁ B9 hml hv
  obtain ⟨rfl, hsz, hP, hK, hN, hD0⟩ := hv
  have hx := B9.exec
  have hb := B9.bytes
  have hr := B9.returns
  have hts := atoms_spec (ws := w_K_isTooDear) B9.pre
  have ht : ∀ w ∈ gk_big, w.before _ s = true := fun w h => hts w (List.mem_cons_of_mem _ h)
  have hown : s.vm.findClass R_K = some m.cls := findClass_of_methodNamed B9.named
  have hlocks := B9.notSynchronized
  subst hsz
  have hD := hD0.self (sz := s.heap.size)
  generalize hAe : va_A (wK cI o q C) s.heap.size = A at hD ⊢
  have hA : ∀ q : Nat, s.heap.size ≤ q → A q := fun q h => by rw [← hAe]; exact Or.inr h
  generalize hHe : s.heap = H at hP ⊢
  have hS : va_S A s.heap H [] := by rw [← hHe]; exact va_S.rf
  have hP : va_P D vwCl [(o, .inr (1, [.ref (q 0), .ref (q 1), .ref (q 2), .ref (q 3), .ref (q 4)])), ((q 0), .inl (cI, 80, .inl (fun z9 => nI (C.1 z9)))), ((q 1), .inl (cI, 640, .inl (fun z9 => nI (C.2.1 z9)))), ((q 2), .inl (cI, 64, .inl (fun z9 => nI (C.2.2.1 z9)))), ((q 3), .inl (cI, 8, .inl (fun z9 => nI (C.2.2.2.1 z9)))), ((q 4), .inl (cI, 8, .inl (fun z9 => nI (C.2.2.2.2 z9))))] H := hP
  have hD : va_D A [(o, .inr (1, [.ref (q 0), .ref (q 1), .ref (q 2), .ref (q 3), .ref (q 4)])), ((q 0), .inl (cI, 80, .inl (fun z9 => nI (C.1 z9)))), ((q 1), .inl (cI, 640, .inl (fun z9 => nI (C.2.1 z9)))), ((q 2), .inl (cI, 64, .inl (fun z9 => nI (C.2.2.1 z9)))), ((q 3), .inl (cI, 8, .inl (fun z9 => nI (C.2.2.2.1 z9)))), ((q 4), .inl (cI, 8, .inl (fun z9 => nI (C.2.2.2.2 z9))))] := hD
  have hl := lv_entry ([.ref o, .int (nI f), .long (lN p9)]) (n := 5) (Nat.le_of_ble_eq_true rfl)
  rw [lg_entry_eq]
  generalize (lg_sl ([.ref o, .int (nI f), .long (lN p9)]) ++ List.replicate (5 - (lg_sl ([.ref o, .int (nI f), .long (lN p9)])).length) Slot.unset).toArray = ls at hl ⊢
  have hl : lv_has ls 5 [(0, .ref o), (1, .int (nI f)), (2, .long (lN p9))] := hl
  refine lv_iconst (v := 0) hx hb dK_isTooDear_0 (by decide) ?_
  refine lv_istore (lv' := [(4, .int 0), (0, .ref o), (1, .int (nI f)), (2, .long (lN p9))]) hx hb dK_isTooDear_1 hl (by decide) rfl (fun ls hl => ?_)
  have lp3 : ∀ (n3 : Nat) (i : Nat), 8 - i + 1 ≤ n3 → (i ≤ 8) → (∀ x, x < i → C.2.2.2.1 x + C.2.2.1 (x * 8 + f) * p9 ≤ 40) → ∀ (H : Heap) (locs : List Loc) (ls : Array Slot), va_P D vwCl [(o, .inr (1, [.ref (q 0), .ref (q 1), .ref (q 2), .ref (q 3), .ref (q 4)])), ((q 0), .inl (cI, 80, .inl (fun z9 => nI (C.1 z9)))), ((q 1), .inl (cI, 640, .inl (fun z9 => nI (C.2.1 z9)))), ((q 2), .inl (cI, 64, .inl (fun z9 => nI (C.2.2.1 z9)))), ((q 3), .inl (cI, 8, .inl (fun z9 => nI (C.2.2.2.1 z9)))), ((q 4), .inl (cI, 8, .inl (fun z9 => nI (C.2.2.2.2 z9))))] H → va_D A [(o, .inr (1, [.ref (q 0), .ref (q 1), .ref (q 2), .ref (q 3), .ref (q 4)])), ((q 0), .inl (cI, 80, .inl (fun z9 => nI (C.1 z9)))), ((q 1), .inl (cI, 640, .inl (fun z9 => nI (C.2.1 z9)))), ((q 2), .inl (cI, 64, .inl (fun z9 => nI (C.2.2.1 z9)))), ((q 3), .inl (cI, 8, .inl (fun z9 => nI (C.2.2.2.1 z9)))), ((q 4), .inl (cI, 8, .inl (fun z9 => nI (C.2.2.2.2 z9))))] → va_S A s.heap H locs → lv_has ls 5 [(4, .int (nI i)), (0, .ref o), (1, .int (nI f)), (2, .long (lN p9))] → W p l ev9 (headSpec w_K_isTooDear ({ frames := 0, cells := 0, slots := 0, locals := 0 })).room s m ([.ref o, .int (nI f), .long (lN p9)] : List Value).toArray below meth c H locs 0 0 (MQ below (gq_I D A (fun r w => r = gb (¬ ∀ x, x < 8 → C.2.2.2.1 x + C.2.2.1 (x * 8 + f) * p9 ≤ 40) ∧ w = wK cI o q C)) ([.ref o, .int (nI f), .long (lN p9)] : List Value).toArray s (0) (0) A) (F0 m 3 ls []) := by
    intro n3
    induction n3 with
    | zero =>
      intro i hm3
      exact absurd hm3 (by omega)
    | succ n3 ih3 =>
      intro i hm3 hi hall H locs ls hP hD hS hl
      refine lv_iload hx hb dK_isTooDear_3 (lv_at hl 0 rfl) ?_
      refine lv_bipush (v := 8) hx hb dK_isTooDear_5 (by decide) ?_
      refine lv_icmp_ge (tgt := 49) hx hb dK_isTooDear_7 (by decide) (fun c7 => ?_) (fun c7 => ?_)
      · have g7 : 8 ≤ i := (gx_le (rfl : (8 : Int32) = nI 8) (rfl : (nI i) = (nI i)) (by decide) (by omega)).mp c7
        refine lv_iconst (v := 0) hx hb dK_isTooDear_49 (by decide) ?_
        exact W.zret (v := 0) hx hb hr (by decide) (fun t9 ht9 hW => ⟨⟨0, _, rfl, ⟨gb_f (fun z => z (fun x hx9 => hall x (by omega))), rfl⟩, by rw [ht9]; exact hP, hD⟩, hS.F ht9⟩) hS.2.2 dK_isTooDear_50
      · have g7 : ¬ (8 ≤ i) := fun z => c7 ((gx_le (rfl : (8 : Int32) = nI 8) (rfl : (nI i) = (nI i)) (by decide) (by omega)).mpr z)
        obtain ⟨hb1, hb2, hb3⟩ := hbd i (by omega)
        refine lv_aload_n hx hb dK_isTooDear_10 rfl (lv_at hl 1 rfl) ?_
        refine va_get (D := D) (ci := 1) (v := .ref (q 3)) (C := R_K) (T := F_K) (N := 5) hx hb ht i_K hown hK hP 0 rfl rfl 3 (by decide) (ht _ m_116) (fun _ h9 => h9) rfl dK_isTooDear_11 ?_
        refine lv_iload hx hb dK_isTooDear_14 (lv_at hl 0 rfl) ?_
        have i16 : vp_in (nI i) 8 := gx_in (rfl : (nI i) = (nI i)) (by omega) (by decide)
        have k16 : ((nI i) : Int32).toNatClampNeg = i := gx_cl (rfl : (nI i) = (nI i)) (by omega)
        refine va_iald hx hb hK hP 4 0 rfl rfl i16 dK_isTooDear_16 ?_
        rw [k16]
        refine lv_topi (fun v16 e16 => ?_)
        have n16 : v16 = nI (C.2.2.2.1 i) := e16
        subst n16
        refine lv_i2l (v := lN (C.2.2.2.1 i)) hx hb dK_isTooDear_17 (nI_l (by omega)) ?_
        refine lv_aload_n hx hb dK_isTooDear_18 rfl (lv_at hl 1 rfl) ?_
        refine va_get (D := D) (ci := 1) (v := .ref (q 2)) (C := R_K) (T := F_K) (N := 5) hx hb ht i_K hown hK hP 0 rfl rfl 2 (by decide) (ht _ m_115) (fun _ h9 => h9) rfl dK_isTooDear_19 ?_
        refine lv_iload hx hb dK_isTooDear_22 (lv_at hl 0 rfl) ?_
        refine lv_bipush (v := 8) hx hb dK_isTooDear_24 (by decide) ?_
        refine lv_imul hx hb dK_isTooDear_26 ?_
        refine lv_topi (fun v26 e26 => ?_)
        have n26 : v26 = nI (i * 8) := by rw [e26]; exact gx_mul (rfl : (nI i) = (nI i)) (rfl : (8 : Int32) = nI 8)
        subst n26
        refine lv_iload_n hx hb dK_isTooDear_27 rfl (lv_at hl 2 rfl) ?_
        refine lv_iadd hx hb dK_isTooDear_28 ?_
        refine lv_topi (fun v28 e28 => ?_)
        have n28 : v28 = nI ((i * 8) + f) := by rw [e28]; exact gx_add (rfl : (nI (i * 8)) = (nI (i * 8))) (rfl : (nI f) = (nI f))
        subst n28
        have i29 : vp_in (nI ((i * 8) + f)) 64 := gx_in (rfl : (nI ((i * 8) + f)) = (nI ((i * 8) + f))) (by omega) (by decide)
        have k29 : ((nI ((i * 8) + f)) : Int32).toNatClampNeg = ((i * 8) + f) := gx_cl (rfl : (nI ((i * 8) + f)) = (nI ((i * 8) + f))) (by omega)
        refine va_iald hx hb hK hP 3 0 rfl rfl i29 dK_isTooDear_29 ?_
        rw [k29]
        refine lv_topi (fun v29 e29 => ?_)
        have n29 : v29 = nI (C.2.2.1 ((i * 8) + f)) := e29
        subst n29
        refine lv_i2l (v := lN (C.2.2.1 ((i * 8) + f))) hx hb dK_isTooDear_30 (nI_l (by omega)) ?_
        refine lv_lload_n hx hb dK_isTooDear_31 rfl (lv_at hl 3 rfl) ?_
        refine lv_lmul hx hb dK_isTooDear_32 ?_
        refine lv_topl (fun v32 e32 => ?_)
        have n32 : v32 = lN ((C.2.2.1 ((i * 8) + f)) * p9) := by rw [e32]; exact lN_mul _ _
        subst n32
        refine lv_ladd hx hb dK_isTooDear_33 ?_
        refine lv_topl (fun v33 e33 => ?_)
        have n33 : v33 = lN ((C.2.2.2.1 i) + ((C.2.2.1 ((i * 8) + f)) * p9)) := by rw [e33]; exact lN_add _ _
        subst n33
        refine lv_ldc2 (v := 40) hx hb hown (ht _ m_293) dK_isTooDear_34 ?_
        refine W.lcmp hx hb dK_isTooDear_37 ?_
        refine lv_topi (fun v37 e37 => ?_)
        refine lv_if_le (tgt := 43) hx hb dK_isTooDear_38 (by decide) (fun c38 => ?_) (fun c38 => ?_)
        · have hle : C.2.2.2.1 i + C.2.2.1 (i * 8 + f) * p9 ≤ 40 := (pk_lLE (b := 40) (by omega) (by decide)).mp (show lN (C.2.2.2.1 i + C.2.2.1 (i * 8 + f) * p9) ≤ lN 40 from (gl_le (lN (C.2.2.2.1 i + C.2.2.1 (i * 8 + f) * p9)) 40).mp (by rw [← e37]; exact c38))
          refine lv_iinc (v := (nI (i + 1))) (lv' := [(4, .int (nI (i + 1))), (0, .ref o), (1, .int (nI f)), (2, .long (lN p9))]) hx hb dK_isTooDear_43 hl (k := 0) rfl (gx_inc (rfl : (nI i) = (nI i))) (by decide) rfl (fun ls hl => ?_)
          refine lv_goto (tgt := 3) hx hb dK_isTooDear_46 (by decide) ?_
          exact ih3 (i + 1) (by omega) (by omega) (lt_s hall hle) _ _ _ hP hD hS (lv_sub hl [0, 1, 2, 3] rfl)
        · have hgt : ¬ C.2.2.2.1 i + C.2.2.1 (i * 8 + f) * p9 ≤ 40 := fun z => c38 (by rw [e37]; exact (gl_le (lN (C.2.2.2.1 i + C.2.2.1 (i * 8 + f) * p9)) 40).mpr (show lN (C.2.2.2.1 i + C.2.2.1 (i * 8 + f) * p9) ≤ lN 40 from (pk_lLE (b := 40) (by omega) (by decide)).mpr z))
          refine lv_iconst (v := 1) hx hb dK_isTooDear_41 (by decide) ?_
          exact W.zret (v := 1) hx hb hr (by decide) (fun t9 ht9 hW => ⟨⟨1, _, rfl, ⟨gb_t (fun z => hgt (z i (by omega))), rfl⟩, by rw [ht9]; exact hP, hD⟩, hS.F ht9⟩) hS.2.2 dK_isTooDear_42
  exact lp3 (8 - (0) + 1) 0 (by omega) (by omega) (fun x z => absurd z (by omega)) _ _ _ hP hD hS (lv_sub hl [0, 1, 2, 3] rfl)

set_option maxHeartbeats 4000000 in
set_option maxRecDepth 100000 in
theorem c_K_doesCall (l : Launch) (D : va_G) (cI cJ cB cZ : ClassId) (o : Nat) (q : Nat → Nat) (C : Cs) (f g : Nat) (hf : f < 8) (hg : g < 8) (hbd : C.2.2.1 (f * 8 + g) < 2 ^ 31) : ct_I l y_K_doesCall w_K_doesCall ({ frames := 0, cells := 0, slots := 0, locals := 0 }) D (gk_T cI cJ cB cZ) [.ref o, .int (nI f), .int (nI g)] (wK cI o q C) (0) (0) (fun r w => r = gb (¬ f = g ∧ 0 < C.2.2.1 (f * 8 + g)) ∧ w = wK cI o q C) := by
  intro sz
  refine Met.ofW (cc := b_K_doesCall) (maxL := 3) (ret := (some .boolean)) (by decide) rfl ?_
  intro p ev9 s m args below meth c s₁ B9 hml hv
  obtain ⟨rfl, hsz, hP, hK, hN, hD0⟩ := hv
  have hx := B9.exec
  have hb := B9.bytes
  have hr := B9.returns
  have hts := atoms_spec (ws := w_K_doesCall) B9.pre
  have ht : ∀ w ∈ gk_big, w.before _ s = true := fun w h => hts w (List.mem_cons_of_mem _ h)
  have hown : s.vm.findClass R_K = some m.cls := findClass_of_methodNamed B9.named
  have hlocks := B9.notSynchronized
  subst hsz
  have hD := hD0.self (sz := s.heap.size)
  generalize hAe : va_A (wK cI o q C) s.heap.size = A at hD ⊢
  have hA : ∀ q : Nat, s.heap.size ≤ q → A q := fun q h => by rw [← hAe]; exact Or.inr h
  generalize hHe : s.heap = H at hP ⊢
  have hS : va_S A s.heap H [] := by rw [← hHe]; exact va_S.rf
  have hP : va_P D vwCl [(o, .inr (1, [.ref (q 0), .ref (q 1), .ref (q 2), .ref (q 3), .ref (q 4)])), ((q 0), .inl (cI, 80, .inl (fun z9 => nI (C.1 z9)))), ((q 1), .inl (cI, 640, .inl (fun z9 => nI (C.2.1 z9)))), ((q 2), .inl (cI, 64, .inl (fun z9 => nI (C.2.2.1 z9)))), ((q 3), .inl (cI, 8, .inl (fun z9 => nI (C.2.2.2.1 z9)))), ((q 4), .inl (cI, 8, .inl (fun z9 => nI (C.2.2.2.2 z9))))] H := hP
  have hD : va_D A [(o, .inr (1, [.ref (q 0), .ref (q 1), .ref (q 2), .ref (q 3), .ref (q 4)])), ((q 0), .inl (cI, 80, .inl (fun z9 => nI (C.1 z9)))), ((q 1), .inl (cI, 640, .inl (fun z9 => nI (C.2.1 z9)))), ((q 2), .inl (cI, 64, .inl (fun z9 => nI (C.2.2.1 z9)))), ((q 3), .inl (cI, 8, .inl (fun z9 => nI (C.2.2.2.1 z9)))), ((q 4), .inl (cI, 8, .inl (fun z9 => nI (C.2.2.2.2 z9))))] := hD
  have hl := lv_entry ([.ref o, .int (nI f), .int (nI g)]) (n := 3) (Nat.le_of_ble_eq_true rfl)
  rw [lg_entry_eq]
  generalize (lg_sl ([.ref o, .int (nI f), .int (nI g)]) ++ List.replicate (3 - (lg_sl ([.ref o, .int (nI f), .int (nI g)])).length) Slot.unset).toArray = ls at hl ⊢
  have hl : lv_has ls 3 [(0, .ref o), (1, .int (nI f)), (2, .int (nI g))] := hl
  refine lv_iload_n hx hb dK_doesCall_0 rfl (lv_at hl 1 rfl) ?_
  refine lv_iload_n hx hb dK_doesCall_1 rfl (lv_at hl 2 rfl) ?_
  refine lv_icmp_eq (tgt := 23) hx hb dK_doesCall_2 (by decide) (fun c2 => ?_) (fun c2 => ?_)
  · have g2 : f = g := (gx_eq (rfl : (nI f) = (nI f)) (rfl : (nI g) = (nI g)) (by omega) (by omega)).mp c2
    refine lv_iconst (v := 0) hx hb dK_doesCall_23 (by decide) ?_
    exact W.zret (v := 0) hx hb hr (by decide) (fun t9 ht9 hW => ⟨⟨0, _, rfl, ⟨gb_f (fun z => z.1 g2), rfl⟩, by rw [ht9]; exact hP, hD⟩, hS.F ht9⟩) hS.2.2 dK_doesCall_24
  · have g2 : ¬ (f = g) := fun z => c2 ((gx_eq (rfl : (nI f) = (nI f)) (rfl : (nI g) = (nI g)) (by omega) (by omega)).mpr z)
    refine lv_aload_n hx hb dK_doesCall_5 rfl (lv_at hl 0 rfl) ?_
    refine va_get (D := D) (ci := 1) (v := .ref (q 2)) (C := R_K) (T := F_K) (N := 5) hx hb ht i_K hown hK hP 0 rfl rfl 2 (by decide) (ht _ m_115) (fun _ h9 => h9) rfl dK_doesCall_6 ?_
    refine lv_iload_n hx hb dK_doesCall_9 rfl (lv_at hl 1 rfl) ?_
    refine lv_bipush (v := 8) hx hb dK_doesCall_10 (by decide) ?_
    refine lv_imul hx hb dK_doesCall_12 ?_
    refine lv_topi (fun v12 e12 => ?_)
    have n12 : v12 = nI (f * 8) := by rw [e12]; exact gx_mul (rfl : (nI f) = (nI f)) (rfl : (8 : Int32) = nI 8)
    subst n12
    refine lv_iload_n hx hb dK_doesCall_13 rfl (lv_at hl 2 rfl) ?_
    refine lv_iadd hx hb dK_doesCall_14 ?_
    refine lv_topi (fun v14 e14 => ?_)
    have n14 : v14 = nI ((f * 8) + g) := by rw [e14]; exact gx_add (rfl : (nI (f * 8)) = (nI (f * 8))) (rfl : (nI g) = (nI g))
    subst n14
    have i15 : vp_in (nI ((f * 8) + g)) 64 := gx_in (rfl : (nI ((f * 8) + g)) = (nI ((f * 8) + g))) (by omega) (by decide)
    have k15 : ((nI ((f * 8) + g)) : Int32).toNatClampNeg = ((f * 8) + g) := gx_cl (rfl : (nI ((f * 8) + g)) = (nI ((f * 8) + g))) (by omega)
    refine va_iald hx hb hK hP 3 0 rfl rfl i15 dK_doesCall_15 ?_
    rw [k15]
    refine lv_topi (fun v15 e15 => ?_)
    have n15 : v15 = nI (C.2.2.1 ((f * 8) + g)) := e15
    subst n15
    refine lv_if_le (tgt := 23) hx hb dK_doesCall_16 (by decide) (fun c16 => ?_) (fun c16 => ?_)
    · have g16 : (C.2.2.1 ((f * 8) + g)) ≤ 0 := (gx_le (rfl : (nI (C.2.2.1 ((f * 8) + g))) = (nI (C.2.2.1 ((f * 8) + g)))) (rfl : (0 : Int32) = nI 0) (by omega) (by decide)).mp c16
      refine lv_iconst (v := 0) hx hb dK_doesCall_23 (by decide) ?_
      exact W.zret (v := 0) hx hb hr (by decide) (fun t9 ht9 hW => ⟨⟨0, _, rfl, ⟨gb_f (fun z => absurd z.2 (by omega)), rfl⟩, by rw [ht9]; exact hP, hD⟩, hS.F ht9⟩) hS.2.2 dK_doesCall_24
    · have g16 : ¬ ((C.2.2.1 ((f * 8) + g)) ≤ 0) := fun z => c16 ((gx_le (rfl : (nI (C.2.2.1 ((f * 8) + g))) = (nI (C.2.2.1 ((f * 8) + g)))) (rfl : (0 : Int32) = nI 0) (by omega) (by decide)).mpr z)
      refine lv_iconst (v := 1) hx hb dK_doesCall_19 (by decide) ?_
      refine lv_goto (tgt := 24) hx hb dK_doesCall_20 (by decide) ?_
      exact W.zret (v := 1) hx hb hr (by decide) (fun t9 ht9 hW => ⟨⟨1, _, rfl, ⟨gb_t ⟨g2, by omega⟩, rfl⟩, by rw [ht9]; exact hP, hD⟩, hS.F ht9⟩) hS.2.2 dK_doesCall_24

