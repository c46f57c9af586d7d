theorem gx_ne1 {a : Nat} (h : a < 2 ^ 31) : ¬ nI a = -1 := by
  intro z
  have h1 : (nI a).toInt = -1 := by rw [z]; decide
  rw [nI_toInt h] at h1
  omega
def cs_ok (C : Cs) (f p : Nat) (a : Nat → Nat) : Prop := a f = 0 ∧ ∀ x, x < 8 → C.2.2.2.1 x + C.2.2.1 (x * 8 + f) * p ≤ 40
def cs_ad (C : Cs) (a : Nat → Nat) : Cs := (C.1, C.2.1, C.2.2.1, C.2.2.2.1, a)
def cs_res (C : Cs) (f p : Nat) (a : Nat → Nat) (r : Int32) (C2 : Cs) : Prop := (cs_ok C f p a → r = 1 ∧ C2 = cs_put C f p a) ∧ (¬ cs_ok C f p a → r = 0 ∧ C2 = cs_ad C a)
set_option maxHeartbeats 4000000 in
set_option maxRecDepth 100000 in
theorem c_K_charge_R (l : Launch) (D : va_G) (cI cJ cB cZ : ClassId) (o : Nat) (q : Nat → Nat) (C : Cs) (f t : Nat) (hf : f < 8) (ht9 : t < 2 ^ 31) (had : (gf_N C.2.2.2.2 0 0 8) f < 2 ^ 31) (hbd : ∀ x, x < 8 → C.2.2.2.1 x < 2 ^ 31 ∧ C.2.2.1 (x * 8 + f) < 2 ^ 31 ∧ C.2.2.2.1 x + C.2.2.1 (x * 8 + f) * t < 2 ^ 62) : ct_I l y_K_charge w_K_charge ({ frames := 1, cells := 0, slots := 0, locals := 25 }) D (gk_T cI cJ cB cZ) [.ref o, .int (nI f), .int (-1), .int (nI t)] (wK cI o q C) (0) (0) (fun r w => ∃ C2, w = wK cI o q C2 ∧ cs_res C f t (gf_N C.2.2.2.2 0 0 8) r C2) := by
  intro sz
  refine Met.ofW (cc := b_K_charge) (maxL := 9) (ret := (some .boolean)) (by decide) rfl ?_
  intro p ev9 s m args below meth c s₁ B9 hml hv
  obtain ⟨rfl, hsz, hP, hK, hN, hD0⟩ := hv
  have hx := B9.exec
  have hb := B9.bytes
  have hr := B9.returns
  have hts := atoms_spec (ws := w_K_charge) B9.pre
  have ht : ∀ w ∈ gk_big, w.before _ s = true := fun w h => hts w (List.mem_cons_of_mem _ h)
  have hown : s.vm.findClass R_K = some m.cls := findClass_of_methodNamed B9.named
  have hlocks := B9.notSynchronized
  subst hsz
  have hD := hD0.self (sz := s.heap.size)
  generalize hAe : va_A (wK cI o q C) s.heap.size = A at hD ⊢
  have hA : ∀ q : Nat, s.heap.size ≤ q → A q := fun q h => by rw [← hAe]; exact Or.inr h
  generalize hHe : s.heap = H at hP ⊢
  have hS : va_S A s.heap H [] := by rw [← hHe]; exact va_S.rf
  have hP : va_P D vwCl [(o, .inr (1, [.ref (q 0), .ref (q 1), .ref (q 2), .ref (q 3), .ref (q 4)])), ((q 0), .inl (cI, 80, .inl (fun z9 => nI (C.1 z9)))), ((q 1), .inl (cI, 640, .inl (fun z9 => nI (C.2.1 z9)))), ((q 2), .inl (cI, 64, .inl (fun z9 => nI (C.2.2.1 z9)))), ((q 3), .inl (cI, 8, .inl (fun z9 => nI (C.2.2.2.1 z9)))), ((q 4), .inl (cI, 8, .inl (fun z9 => nI (C.2.2.2.2 z9))))] H := hP
  have hD : va_D A [(o, .inr (1, [.ref (q 0), .ref (q 1), .ref (q 2), .ref (q 3), .ref (q 4)])), ((q 0), .inl (cI, 80, .inl (fun z9 => nI (C.1 z9)))), ((q 1), .inl (cI, 640, .inl (fun z9 => nI (C.2.1 z9)))), ((q 2), .inl (cI, 64, .inl (fun z9 => nI (C.2.2.1 z9)))), ((q 3), .inl (cI, 8, .inl (fun z9 => nI (C.2.2.2.1 z9)))), ((q 4), .inl (cI, 8, .inl (fun z9 => nI (C.2.2.2.2 z9))))] := hD
  have hl := lv_entry ([.ref o, .int (nI f), .int (-1), .int (nI t)]) (n := 9) (Nat.le_of_ble_eq_true rfl)
  rw [lg_entry_eq]
  generalize (lg_sl ([.ref o, .int (nI f), .int (-1), .int (nI t)]) ++ List.replicate (9 - (lg_sl ([.ref o, .int (nI f), .int (-1), .int (nI t)])).length) Slot.unset).toArray = ls at hl ⊢
  have hl : lv_has ls 9 [(0, .ref o), (1, .int (nI f)), (2, .int (-1)), (3, .int (nI t))] := hl
  refine lv_iload_n hx hb dK_charge_0 rfl (lv_at hl 3 rfl) ?_
  refine lv_i2l (v := lN t) hx hb dK_charge_1 (nI_l (by omega)) ?_
  refine lv_lstore (lv' := [(4, .long (lN t)), (0, .ref o), (1, .int (nI f)), (2, .int (-1)), (3, .int (nI t))]) hx hb dK_charge_2 hl (by decide) rfl (fun ls hl => ?_)
  refine lv_aload_n hx hb dK_charge_4 rfl (lv_at hl 1 rfl) ?_
  refine va_get (D := D) (ci := 1) (v := .ref (q 4)) (C := R_K) (T := F_K) (N := 5) hx hb ht i_K hown hK hP 0 rfl rfl 4 (by decide) (ht _ m_118) (fun _ h9 => h9) rfl dK_charge_5 ?_
  refine lv_iconst (v := 0) hx hb dK_charge_8 (by decide) ?_
  refine gc_v (va_runS (As := [.ref (q 4), .int 0]) (rest := []) ⟨hx, hb, hml, hown, ht⟩ (c_A_fillI l D cI cJ cB cZ (q 4) 8 C.2.2.2.2 0 (by decide) H.size) (va_cwS 2 ht (gw_S m_278 m_279 m_9 m_280) rfl rfl rfl (by decide +kernel) ⟨Nat.le_of_ble_eq_true rfl, Nat.le_of_ble_eq_true rfl⟩) (gp_S hK hN (hP.sub (ws' := [((q 4), .inl (cI, 8, .inl (fun z9 => nI (C.2.2.2.2 z9))))]) [5] rfl) (hD.sub (ws' := [((q 4), .inl (cI, 8, .inl (fun z9 => nI (C.2.2.2.2 z9))))]) [5] (by decide) rfl)) rfl rfl hl.1 rfl (lv_room (Nat.le_of_ble_eq_true rfl)) dK_charge_9 ⟨Nat.le_of_ble_eq_true rfl, Nat.le_of_ble_eq_true rfl⟩) hP hD hS hA [5] rfl (by decide) (fun w h => by subst h; rfl) (fun w9 H locs p9 hP hD hS => ?_)
  subst p9
  have hP : va_P D vwCl [(o, .inr (1, [.ref (q 0), .ref (q 1), .ref (q 2), .ref (q 3), .ref (q 4)])), ((q 0), .inl (cI, 80, .inl (fun z9 => nI (C.1 z9)))), ((q 1), .inl (cI, 640, .inl (fun z9 => nI (C.2.1 z9)))), ((q 2), .inl (cI, 64, .inl (fun z9 => nI (C.2.2.1 z9)))), ((q 3), .inl (cI, 8, .inl (fun z9 => nI (C.2.2.2.1 z9)))), ((q 4), .inl (cI, 8, .inl (fun z9 => nI ((gf_N C.2.2.2.2 0 0 8) z9))))] H := hP
  have hD : va_D A [(o, .inr (1, [.ref (q 0), .ref (q 1), .ref (q 2), .ref (q 3), .ref (q 4)])), ((q 0), .inl (cI, 80, .inl (fun z9 => nI (C.1 z9)))), ((q 1), .inl (cI, 640, .inl (fun z9 => nI (C.2.1 z9)))), ((q 2), .inl (cI, 64, .inl (fun z9 => nI (C.2.2.1 z9)))), ((q 3), .inl (cI, 8, .inl (fun z9 => nI (C.2.2.2.1 z9)))), ((q 4), .inl (cI, 8, .inl (fun z9 => nI ((gf_N C.2.2.2.2 0 0 8) z9))))] := hD
  refine lv_iload_n hx hb dK_charge_12 rfl (lv_at hl 3 rfl) ?_
  refine lv_iconst (v := (-1)) hx hb dK_charge_13 (by decide) ?_
  refine lv_icmp_eq (tgt := 37) hx hb dK_charge_14 (by decide) (fun c14 => ?_) (fun c14 => ?_)
  · refine lv_aload_n hx hb dK_charge_37 rfl (lv_at hl 1 rfl) ?_
    refine va_get (D := D) (ci := 1) (v := .ref (q 4)) (C := R_K) (T := F_K) (N := 5) hx hb ht i_K hown hK hP 0 rfl rfl 4 (by decide) (ht _ m_118) (fun _ h9 => h9) rfl dK_charge_38 ?_
    refine lv_iload_n hx hb dK_charge_41 rfl (lv_at hl 2 rfl) ?_
    have i42 : vp_in (nI f) 8 := gx_in (rfl : (nI f) = (nI f)) (by omega) (by decide)
    have k42 : ((nI f) : Int32).toNatClampNeg = f := gx_cl (rfl : (nI f) = (nI f)) (by omega)
    refine va_iald hx hb hK hP 5 0 rfl rfl i42 dK_charge_42 ?_
    rw [k42]
    refine lv_topi (fun v42 e42 => ?_)
    have n42 : v42 = nI ((gf_N C.2.2.2.2 0 0 8) f) := e42
    subst n42
    refine lv_if_gt (tgt := 56) hx hb dK_charge_43 (by decide) (fun c43 => ?_) (fun c43 => ?_)
    · have g43 : 0 < ((gf_N C.2.2.2.2 0 0 8) f) := (gx_lt (rfl : (0 : Int32) = nI 0) (rfl : (nI ((gf_N C.2.2.2.2 0 0 8) f)) = (nI ((gf_N C.2.2.2.2 0 0 8) f))) (by decide) (by omega)).mp c43
      have hno : ¬ cs_ok C f t (gf_N C.2.2.2.2 0 0 8) := fun z => absurd z.1 (by omega)
      refine lv_iconst (v := 0) hx hb dK_charge_56 (by decide) ?_
      have hP : va_P D vwCl (wK cI o q (cs_ad C (gf_N C.2.2.2.2 0 0 8))) _ := hP
      have hD : va_D A (wK cI o q (cs_ad C (gf_N C.2.2.2.2 0 0 8))) := hD
      exact W.zret (v := 0) hx hb hr (by decide) (fun t9 ht9 hW => ⟨⟨0, _, rfl, ⟨cs_ad C (gf_N C.2.2.2.2 0 0 8), rfl, fun z => absurd z hno, fun _ => ⟨rfl, rfl⟩⟩, by rw [ht9]; exact hP, hD⟩, hS.F ht9⟩) hS.2.2 dK_charge_57
    · have g43 : ¬ (0 < ((gf_N C.2.2.2.2 0 0 8) f)) := fun z => c43 ((gx_lt (rfl : (0 : Int32) = nI 0) (rfl : (nI ((gf_N C.2.2.2.2 0 0 8) f)) = (nI ((gf_N C.2.2.2.2 0 0 8) f))) (by decide) (by omega)).mpr z)
      refine lv_aload_n hx hb dK_charge_46 rfl (lv_at hl 1 rfl) ?_
      refine lv_iload_n hx hb dK_charge_47 rfl (lv_at hl 2 rfl) ?_
      refine lv_lload hx hb dK_charge_48 (lv_at hl 0 rfl) ?_
      refine gc_i (va_runV (As := [.int (nI f), .long (lN t)]) (rest := []) ⟨hx, hb, hml, hown, ht⟩ (c_K_isTooDear l D cI cJ cB cZ o q (C.1, C.2.1, C.2.2.1, C.2.2.2.1, (gf_N C.2.2.2.2 0 0 8)) f t (by omega) hbd H.size) (cwV 2 ht (gw_V m_289 m_291 ms_7 m_5 m_292) rfl rfl rfl (by decide +kernel) ⟨Nat.le_of_ble_eq_true rfl, Nat.le_of_ble_eq_true rfl⟩) (gp_V (ci := 1) (q0 := 0) hK hN (hP.sub (ws' := (wK cI o q (C.1, C.2.1, C.2.2.1, C.2.2.2.1, (gf_N C.2.2.2.2 0 0 8)))) [0, 1, 2, 3, 4, 5] rfl) (hD.sub (ws' := (wK cI o q (C.1, C.2.1, C.2.2.1, C.2.2.2.1, (gf_N C.2.2.2.2 0 0 8)))) [0, 1, 2, 3, 4, 5] (by decide) rfl) rfl rfl) rfl rfl hl.1 rfl (lv_room (Nat.le_of_ble_eq_true rfl)) dK_charge_50 ⟨Nat.le_of_ble_eq_true rfl, Nat.le_of_ble_eq_true rfl⟩) hP hD hS hA [0, 1, 2, 3, 4, 5] rfl (by decide) (fun r w h => by obtain ⟨_, rfl⟩ := h; rfl) (fun r50 w50 H locs p50 hP hD hS => ?_)
      obtain ⟨rfl, rfl⟩ := p50
      have hP : va_P D vwCl [(o, .inr (1, [.ref (q 0), .ref (q 1), .ref (q 2), .ref (q 3), .ref (q 4)])), ((q 0), .inl (cI, 80, .inl (fun z9 => nI (C.1 z9)))), ((q 1), .inl (cI, 640, .inl (fun z9 => nI (C.2.1 z9)))), ((q 2), .inl (cI, 64, .inl (fun z9 => nI (C.2.2.1 z9)))), ((q 3), .inl (cI, 8, .inl (fun z9 => nI (C.2.2.2.1 z9)))), ((q 4), .inl (cI, 8, .inl (fun z9 => nI ((gf_N C.2.2.2.2 0 0 8) z9))))] H := hP
      have hD : va_D A [(o, .inr (1, [.ref (q 0), .ref (q 1), .ref (q 2), .ref (q 3), .ref (q 4)])), ((q 0), .inl (cI, 80, .inl (fun z9 => nI (C.1 z9)))), ((q 1), .inl (cI, 640, .inl (fun z9 => nI (C.2.1 z9)))), ((q 2), .inl (cI, 64, .inl (fun z9 => nI (C.2.2.1 z9)))), ((q 3), .inl (cI, 8, .inl (fun z9 => nI (C.2.2.2.1 z9)))), ((q 4), .inl (cI, 8, .inl (fun z9 => nI ((gf_N C.2.2.2.2 0 0 8) z9))))] := hD
      refine lv_if_eq (tgt := 58) hx hb dK_charge_53 (by decide) (fun c53 => ?_) (fun c53 => ?_)
      · have hok : cs_ok C f t (gf_N C.2.2.2.2 0 0 8) := ⟨by omega, Classical.not_not.mp (gb_1.mp c53)⟩
        refine lv_iconst (v := 0) hx hb dK_charge_58 (by decide) ?_
        refine lv_istore (lv' := [(6, .int 0), (4, .long (lN t)), (0, .ref o), (1, .int (nI f)), (2, .int (-1)), (3, .int (nI t))]) hx hb dK_charge_59 hl (by decide) rfl (fun ls hl => ?_)
        have hP : va_P D vwCl [(o, .inr (1, [.ref (q 0), .ref (q 1), .ref (q 2), .ref (q 3), .ref (q 4)])), ((q 0), .inl (cI, 80, .inl (fun z9 => nI (C.1 z9)))), ((q 1), .inl (cI, 640, .inl (fun z9 => nI (C.2.1 z9)))), ((q 2), .inl (cI, 64, .inl (fun z9 => nI ((kn_up C f (gf_N C.2.2.2.2 0 0 8) 0) z9)))), ((q 3), .inl (cI, 8, .inl (fun z9 => nI ((kt_up C f t 0) z9)))), ((q 4), .inl (cI, 8, .inl (fun z9 => nI ((gf_N C.2.2.2.2 0 0 8) z9))))] H := by
          rw [kn_up_0, kt_up_0]; exact hP
        have hD : va_D A [(o, .inr (1, [.ref (q 0), .ref (q 1), .ref (q 2), .ref (q 3), .ref (q 4)])), ((q 0), .inl (cI, 80, .inl (fun z9 => nI (C.1 z9)))), ((q 1), .inl (cI, 640, .inl (fun z9 => nI (C.2.1 z9)))), ((q 2), .inl (cI, 64, .inl (fun z9 => nI ((kn_up C f (gf_N C.2.2.2.2 0 0 8) 0) z9)))), ((q 3), .inl (cI, 8, .inl (fun z9 => nI ((kt_up C f t 0) z9)))), ((q 4), .inl (cI, 8, .inl (fun z9 => nI ((gf_N C.2.2.2.2 0 0 8) z9))))] := by
          rw [kn_up_0, kt_up_0]; exact hD
        have hP : va_P D vwCl [(o, .inr (1, [.ref (q 0), .ref (q 1), .ref (q 2), .ref (q 3), .ref (q 4)])), ((q 0), .inl (cI, 80, .inl (fun z9 => nI (C.1 z9)))), ((q 1), .inl (cI, 640, .inl (fun z9 => nI (C.2.1 z9)))), ((q 2), .inl (cI, 64, .inl (fun z9 => nI ((kn_up C f (gf_N C.2.2.2.2 0 0 8) (0 * 8)) z9)))), ((q 3), .inl (cI, 8, .inl (fun z9 => nI ((kt_up C f t 0) z9)))), ((q 4), .inl (cI, 8, .inl (fun z9 => nI ((gf_N C.2.2.2.2 0 0 8) z9))))] H := hP
        have hD : va_D A [(o, .inr (1, [.ref (q 0), .ref (q 1), .ref (q 2), .ref (q 3), .ref (q 4)])), ((q 0), .inl (cI, 80, .inl (fun z9 => nI (C.1 z9)))), ((q 1), .inl (cI, 640, .inl (fun z9 => nI (C.2.1 z9)))), ((q 2), .inl (cI, 64, .inl (fun z9 => nI ((kn_up C f (gf_N C.2.2.2.2 0 0 8) (0 * 8)) z9)))), ((q 3), .inl (cI, 8, .inl (fun z9 => nI ((kt_up C f t 0) z9)))), ((q 4), .inl (cI, 8, .inl (fun z9 => nI ((gf_N C.2.2.2.2 0 0 8) z9))))] := hD
        have lp61 : ∀ (n61 : Nat) (i : Nat), 8 - i + 1 ≤ n61 → (i ≤ 8) → ∀ (H : Heap) (locs : List Loc) (ls : Array Slot), va_P D vwCl [(o, .inr (1, [.ref (q 0), .ref (q 1), .ref (q 2), .ref (q 3), .ref (q 4)])), ((q 0), .inl (cI, 80, .inl (fun z9 => nI (C.1 z9)))), ((q 1), .inl (cI, 640, .inl (fun z9 => nI (C.2.1 z9)))), ((q 2), .inl (cI, 64, .inl (fun z9 => nI ((kn_up C f (gf_N C.2.2.2.2 0 0 8) (i * 8)) z9)))), ((q 3), .inl (cI, 8, .inl (fun z9 => nI ((kt_up C f t i) z9)))), ((q 4), .inl (cI, 8, .inl (fun z9 => nI ((gf_N C.2.2.2.2 0 0 8) z9))))] H → va_D A [(o, .inr (1, [.ref (q 0), .ref (q 1), .ref (q 2), .ref (q 3), .ref (q 4)])), ((q 0), .inl (cI, 80, .inl (fun z9 => nI (C.1 z9)))), ((q 1), .inl (cI, 640, .inl (fun z9 => nI (C.2.1 z9)))), ((q 2), .inl (cI, 64, .inl (fun z9 => nI ((kn_up C f (gf_N C.2.2.2.2 0 0 8) (i * 8)) z9)))), ((q 3), .inl (cI, 8, .inl (fun z9 => nI ((kt_up C f t i) z9)))), ((q 4), .inl (cI, 8, .inl (fun z9 => nI ((gf_N C.2.2.2.2 0 0 8) z9))))] → va_S A s.heap H locs → lv_has ls 9 [(6, .int (nI i)), (4, .long (lN t)), (0, .ref o), (1, .int (nI f)), (2, .int (-1)), (3, .int (nI t))] → W p l ev9 (headSpec w_K_charge ({ frames := 1, cells := 0, slots := 0, locals := 25 })).room s m ([.ref o, .int (nI f), .int (-1), .int (nI t)] : List Value).toArray below meth c H locs 0 0 (MQ below (gq_I D A (fun r w => ∃ C2, w = wK cI o q C2 ∧ cs_res C f t (gf_N C.2.2.2.2 0 0 8) r C2)) ([.ref o, .int (nI f), .int (-1), .int (nI t)] : List Value).toArray s (0) (0) A) (F0 m 61 ls []) := by
          intro n61
          induction n61 with
          | zero =>
            intro i hm61
            exact absurd hm61 (by omega)
          | succ n61 ih61 =>
            intro i hm61 hi H locs ls hP hD hS hl
            refine lv_iload hx hb dK_charge_61 (lv_at hl 0 rfl) ?_
            refine lv_bipush (v := 8) hx hb dK_charge_63 (by decide) ?_
            refine lv_icmp_ge (tgt := 147) hx hb dK_charge_65 (by decide) (fun c65 => ?_) (fun c65 => ?_)
            · have g65 : 8 ≤ i := (gx_le (rfl : (8 : Int32) = nI 8) (rfl : (nI i) = (nI i)) (by decide) (by omega)).mp c65
              refine lv_iconst (v := 1) hx hb dK_charge_147 (by decide) ?_
              have zi : i = 8 := by omega
              subst zi
              have hP : va_P D vwCl (wK cI o q (cs_put C f t (gf_N C.2.2.2.2 0 0 8))) _ := hP
              have hD : va_D A (wK cI o q (cs_put C f t (gf_N C.2.2.2.2 0 0 8))) := hD
              exact W.zret (v := 1) hx hb hr (by decide) (fun t9 ht9 hW => ⟨⟨1, _, rfl, ⟨cs_put C f t (gf_N C.2.2.2.2 0 0 8), rfl, fun _ => ⟨rfl, rfl⟩, fun z => absurd hok z⟩, by rw [ht9]; exact hP, hD⟩, hS.F ht9⟩) hS.2.2 dK_charge_148
            · have g65 : ¬ (8 ≤ i) := fun z => c65 ((gx_le (rfl : (8 : Int32) = nI 8) (rfl : (nI i) = (nI i)) (by decide) (by omega)).mpr z)
              obtain ⟨hb1, hb2, hb3⟩ := hbd i (by omega)
              refine lv_aload_n hx hb dK_charge_68 rfl (lv_at hl 2 rfl) ?_
              refine va_get (D := D) (ci := 1) (v := .ref (q 2)) (C := R_K) (T := F_K) (N := 5) hx hb ht i_K hown hK hP 0 rfl rfl 2 (by decide) (ht _ m_115) (fun _ h9 => h9) rfl dK_charge_69 ?_
              refine lv_iload hx hb dK_charge_72 (lv_at hl 0 rfl) ?_
              refine lv_bipush (v := 8) hx hb dK_charge_74 (by decide) ?_
              refine lv_imul hx hb dK_charge_76 ?_
              refine lv_topi (fun v76 e76 => ?_)
              have n76 : v76 = nI (i * 8) := by rw [e76]; exact gx_mul (rfl : (nI i) = (nI i)) (rfl : (8 : Int32) = nI 8)
              subst n76
              refine lv_iload_n hx hb dK_charge_77 rfl (lv_at hl 3 rfl) ?_
              refine lv_iadd hx hb dK_charge_78 ?_
              refine lv_topi (fun v78 e78 => ?_)
              have n78 : v78 = nI ((i * 8) + f) := by rw [e78]; exact gx_add (rfl : (nI (i * 8)) = (nI (i * 8))) (rfl : (nI f) = (nI f))
              subst n78
              have i79 : vp_in (nI ((i * 8) + f)) 64 := gx_in (rfl : (nI ((i * 8) + f)) = (nI ((i * 8) + f))) (by omega) (by decide)
              have k79 : ((nI ((i * 8) + f)) : Int32).toNatClampNeg = ((i * 8) + f) := gx_cl (rfl : (nI ((i * 8) + f)) = (nI ((i * 8) + f))) (by omega)
              refine va_iald hx hb hK hP 3 0 rfl rfl i79 dK_charge_79 ?_
              rw [k79]
              refine lv_topi (fun v79 e79 => ?_)
              have n79 : v79 = nI ((kn_up C f (gf_N C.2.2.2.2 0 0 8) (i * 8)) ((i * 8) + f)) := e79
              subst n79
              rw [kn_up_r]
              refine lv_istore (lv' := [(7, .int (nI (C.2.2.1 (i * 8 + f)))), (6, .int (nI i)), (4, .long (lN t)), (0, .ref o), (1, .int (nI f)), (2, .int (-1)), (3, .int (nI t))]) hx hb dK_charge_80 hl (by decide) rfl (fun ls hl => ?_)
              refine lv_aload_n hx hb dK_charge_82 rfl (lv_at hl 3 rfl) ?_
              refine va_get (D := D) (ci := 1) (v := .ref (q 3)) (C := R_K) (T := F_K) (N := 5) hx hb ht i_K hown hK hP 0 rfl rfl 3 (by decide) (ht _ m_116) (fun _ h9 => h9) rfl dK_charge_83 ?_
              refine lv_iload hx hb dK_charge_86 (lv_at hl 1 rfl) ?_
              refine lv_dup2_11 hx hb dK_charge_88 rfl rfl ?_
              have i89 : vp_in (nI i) 8 := gx_in (rfl : (nI i) = (nI i)) (by omega) (by decide)
              have k89 : ((nI i) : Int32).toNatClampNeg = i := gx_cl (rfl : (nI i) = (nI i)) (by omega)
              refine va_iald hx hb hK hP 4 0 rfl rfl i89 dK_charge_89 ?_
              rw [k89]
              refine lv_topi (fun v89 e89 => ?_)
              have n89 : v89 = nI ((kt_up C f t i) i) := e89
              subst n89
              refine lv_iload hx hb dK_charge_90 (lv_at hl 0 rfl) ?_
              refine lv_i2l (v := lN (C.2.2.1 (i * 8 + f))) hx hb dK_charge_92 (nI_l (by omega)) ?_
              refine lv_lload hx hb dK_charge_93 (lv_at hl 2 rfl) ?_
              refine lv_lmul hx hb dK_charge_95 ?_
              refine lv_topl (fun v95 e95 => ?_)
              have n95 : v95 = lN ((C.2.2.1 (i * 8 + f)) * t) := by rw [e95]; exact lN_mul _ _
              subst n95
              refine lv_l2i (v := nI ((C.2.2.1 (i * 8 + f)) * t)) hx hb dK_charge_96 (lN_i _) ?_
              refine lv_iadd hx hb dK_charge_97 ?_
              refine lv_topi (fun v97 e97 => ?_)
              have n97 : v97 = nI (((kt_up C f t i) i) + ((C.2.2.1 (i * 8 + f)) * t)) := by rw [e97]; exact gx_add (rfl : (nI ((kt_up C f t i) i)) = (nI ((kt_up C f t i) i))) (rfl : (nI ((C.2.2.1 (i * 8 + f)) * t)) = (nI ((C.2.2.1 (i * 8 + f)) * t)))
              subst n97
              have i98 : vp_in (nI i) 8 := gx_in (rfl : (nI i) = (nI i)) (by omega) (by decide)
              have k98 : ((nI i) : Int32).toNatClampNeg = i := gx_cl (rfl : (nI i) = (nI i)) (by omega)
              refine va_iast hx hb hK hP hD hS 4 0 rfl rfl i98 dK_charge_98 (fun H locs hP hD hS => ?_)
              rw [k98] at hP hD
              have hP : va_P D vwCl [(o, .inr (1, [.ref (q 0), .ref (q 1), .ref (q 2), .ref (q 3), .ref (q 4)])), ((q 0), .inl (cI, 80, .inl (fun z9 => nI (C.1 z9)))), ((q 1), .inl (cI, 640, .inl (fun z9 => nI (C.2.1 z9)))), ((q 2), .inl (cI, 64, .inl (fun z9 => nI ((kn_up C f (gf_N C.2.2.2.2 0 0 8) (i * 8)) z9)))), ((q 3), .inl (cI, 8, .inl (upd (fun z9 => nI ((kt_up C f t i) z9)) i (nI (((kt_up C f t i) i) + ((C.2.2.1 (i * 8 + f)) * t)))))), ((q 4), .inl (cI, 8, .inl (fun z9 => nI ((gf_N C.2.2.2.2 0 0 8) z9))))] H := hP
              have hD : va_D A [(o, .inr (1, [.ref (q 0), .ref (q 1), .ref (q 2), .ref (q 3), .ref (q 4)])), ((q 0), .inl (cI, 80, .inl (fun z9 => nI (C.1 z9)))), ((q 1), .inl (cI, 640, .inl (fun z9 => nI (C.2.1 z9)))), ((q 2), .inl (cI, 64, .inl (fun z9 => nI ((kn_up C f (gf_N C.2.2.2.2 0 0 8) (i * 8)) z9)))), ((q 3), .inl (cI, 8, .inl (upd (fun z9 => nI ((kt_up C f t i) z9)) i (nI (((kt_up C f t i) i) + ((C.2.2.1 (i * 8 + f)) * t)))))), ((q 4), .inl (cI, 8, .inl (fun z9 => nI ((gf_N C.2.2.2.2 0 0 8) z9))))] := hD
              rw [gx_upd] at hP hD
              rw [kt_up_s] at hP hD
              have hP : va_P D vwCl [(o, .inr (1, [.ref (q 0), .ref (q 1), .ref (q 2), .ref (q 3), .ref (q 4)])), ((q 0), .inl (cI, 80, .inl (fun z9 => nI (C.1 z9)))), ((q 1), .inl (cI, 640, .inl (fun z9 => nI (C.2.1 z9)))), ((q 2), .inl (cI, 64, .inl (fun z9 => nI ((kn_up C f (gf_N C.2.2.2.2 0 0 8) (i * 8)) z9)))), ((q 3), .inl (cI, 8, .inl (fun z9 => nI ((kt_up C f t (i + 1)) z9)))), ((q 4), .inl (cI, 8, .inl (fun z9 => nI ((gf_N C.2.2.2.2 0 0 8) z9))))] H := hP
              have hD : va_D A [(o, .inr (1, [.ref (q 0), .ref (q 1), .ref (q 2), .ref (q 3), .ref (q 4)])), ((q 0), .inl (cI, 80, .inl (fun z9 => nI (C.1 z9)))), ((q 1), .inl (cI, 640, .inl (fun z9 => nI (C.2.1 z9)))), ((q 2), .inl (cI, 64, .inl (fun z9 => nI ((kn_up C f (gf_N C.2.2.2.2 0 0 8) (i * 8)) z9)))), ((q 3), .inl (cI, 8, .inl (fun z9 => nI ((kt_up C f t (i + 1)) z9)))), ((q 4), .inl (cI, 8, .inl (fun z9 => nI ((gf_N C.2.2.2.2 0 0 8) z9))))] := hD
              refine lv_iconst (v := 0) hx hb dK_charge_99 (by decide) ?_
              refine lv_istore (lv' := [(8, .int 0), (7, .int (nI (C.2.2.1 (i * 8 + f)))), (6, .int (nI i)), (4, .long (lN t)), (0, .ref o), (1, .int (nI f)), (2, .int (-1)), (3, .int (nI t))]) hx hb dK_charge_100 hl (by decide) rfl (fun ls hl => ?_)
              have lp102 : ∀ (n102 : Nat) (j : Nat), 8 - j + 1 ≤ n102 → (j ≤ 8) → ∀ (H : Heap) (locs : List Loc) (ls : Array Slot), va_P D vwCl [(o, .inr (1, [.ref (q 0), .ref (q 1), .ref (q 2), .ref (q 3), .ref (q 4)])), ((q 0), .inl (cI, 80, .inl (fun z9 => nI (C.1 z9)))), ((q 1), .inl (cI, 640, .inl (fun z9 => nI (C.2.1 z9)))), ((q 2), .inl (cI, 64, .inl (fun z9 => nI ((kn_up C f (gf_N C.2.2.2.2 0 0 8) (i * 8 + j)) z9)))), ((q 3), .inl (cI, 8, .inl (fun z9 => nI ((kt_up C f t (i + 1)) z9)))), ((q 4), .inl (cI, 8, .inl (fun z9 => nI ((gf_N C.2.2.2.2 0 0 8) z9))))] H → va_D A [(o, .inr (1, [.ref (q 0), .ref (q 1), .ref (q 2), .ref (q 3), .ref (q 4)])), ((q 0), .inl (cI, 80, .inl (fun z9 => nI (C.1 z9)))), ((q 1), .inl (cI, 640, .inl (fun z9 => nI (C.2.1 z9)))), ((q 2), .inl (cI, 64, .inl (fun z9 => nI ((kn_up C f (gf_N C.2.2.2.2 0 0 8) (i * 8 + j)) z9)))), ((q 3), .inl (cI, 8, .inl (fun z9 => nI ((kt_up C f t (i + 1)) z9)))), ((q 4), .inl (cI, 8, .inl (fun z9 => nI ((gf_N C.2.2.2.2 0 0 8) z9))))] → va_S A s.heap H locs → lv_has ls 9 [(8, .int (nI j)), (7, .int (nI (C.2.2.1 (i * 8 + f)))), (6, .int (nI i)), (4, .long (lN t)), (0, .ref o), (1, .int (nI f)), (2, .int (-1)), (3, .int (nI t))] → W p l ev9 (headSpec w_K_charge ({ frames := 1, cells := 0, slots := 0, locals := 25 })).room s m ([.ref o, .int (nI f), .int (-1), .int (nI t)] : List Value).toArray below meth c H locs 0 0 (MQ below (gq_I D A (fun r w => ∃ C2, w = wK cI o q C2 ∧ cs_res C f t (gf_N C.2.2.2.2 0 0 8) r C2)) ([.ref o, .int (nI f), .int (-1), .int (nI t)] : List Value).toArray s (0) (0) A) (F0 m 102 ls []) := by
                intro n102
                induction n102 with
                | zero =>
                  intro j hm102
                  exact absurd hm102 (by omega)
                | succ n102 ih102 =>
                  intro j hm102 hj H locs ls hP hD hS hl
                  refine lv_iload hx hb dK_charge_102 (lv_at hl 0 rfl) ?_
                  refine lv_bipush (v := 8) hx hb dK_charge_104 (by decide) ?_
                  refine lv_icmp_ge (tgt := 141) hx hb dK_charge_106 (by decide) (fun c106 => ?_) (fun c106 => ?_)
                  · have g106 : 8 ≤ j := (gx_le (rfl : (8 : Int32) = nI 8) (rfl : (nI j) = (nI j)) (by decide) (by omega)).mp c106
                    have zj : j = 8 := by omega
                    subst zj
                    rw [show i * 8 + 8 = (i + 1) * 8 by omega] at hP hD
                    have hP : va_P D vwCl [(o, .inr (1, [.ref (q 0), .ref (q 1), .ref (q 2), .ref (q 3), .ref (q 4)])), ((q 0), .inl (cI, 80, .inl (fun z9 => nI (C.1 z9)))), ((q 1), .inl (cI, 640, .inl (fun z9 => nI (C.2.1 z9)))), ((q 2), .inl (cI, 64, .inl (fun z9 => nI ((kn_up C f (gf_N C.2.2.2.2 0 0 8) ((i + 1) * 8)) z9)))), ((q 3), .inl (cI, 8, .inl (fun z9 => nI ((kt_up C f t (i + 1)) z9)))), ((q 4), .inl (cI, 8, .inl (fun z9 => nI ((gf_N C.2.2.2.2 0 0 8) z9))))] H := hP
                    have hD : va_D A [(o, .inr (1, [.ref (q 0), .ref (q 1), .ref (q 2), .ref (q 3), .ref (q 4)])), ((q 0), .inl (cI, 80, .inl (fun z9 => nI (C.1 z9)))), ((q 1), .inl (cI, 640, .inl (fun z9 => nI (C.2.1 z9)))), ((q 2), .inl (cI, 64, .inl (fun z9 => nI ((kn_up C f (gf_N C.2.2.2.2 0 0 8) ((i + 1) * 8)) z9)))), ((q 3), .inl (cI, 8, .inl (fun z9 => nI ((kt_up C f t (i + 1)) z9)))), ((q 4), .inl (cI, 8, .inl (fun z9 => nI ((gf_N C.2.2.2.2 0 0 8) z9))))] := hD
                    refine lv_iinc (v := (nI (i + 1))) (lv' := [(6, .int (nI (i + 1))), (8, .int (nI 8)), (7, .int (nI (C.2.2.1 (i * 8 + f)))), (4, .long (lN t)), (0, .ref o), (1, .int (nI f)), (2, .int (-1)), (3, .int (nI t))]) hx hb dK_charge_141 hl (k := 2) rfl (gx_inc (rfl : (nI i) = (nI i))) (by decide) rfl (fun ls hl => ?_)
                    refine lv_goto (tgt := 61) hx hb dK_charge_144 (by decide) ?_
                    exact ih61 (i + 1) (by omega) (by omega) _ _ _ hP hD hS (lv_sub hl [0, 3, 4, 5, 6, 7] rfl)
                  · have g106 : ¬ (8 ≤ j) := fun z => c106 ((gx_le (rfl : (8 : Int32) = nI 8) (rfl : (nI j) = (nI j)) (by decide) (by omega)).mpr z)
                    refine lv_aload_n hx hb dK_charge_109 rfl (lv_at hl 4 rfl) ?_
                    refine va_get (D := D) (ci := 1) (v := .ref (q 2)) (C := R_K) (T := F_K) (N := 5) hx hb ht i_K hown hK hP 0 rfl rfl 2 (by decide) (ht _ m_115) (fun _ h9 => h9) rfl dK_charge_110 ?_
                    refine lv_iload hx hb dK_charge_113 (lv_at hl 2 rfl) ?_
                    refine lv_bipush (v := 8) hx hb dK_charge_115 (by decide) ?_
                    refine lv_imul hx hb dK_charge_117 ?_
                    refine lv_topi (fun v117 e117 => ?_)
                    have n117 : v117 = nI (i * 8) := by rw [e117]; exact gx_mul (rfl : (nI i) = (nI i)) (rfl : (8 : Int32) = nI 8)
                    subst n117
                    refine lv_iload hx hb dK_charge_118 (lv_at hl 0 rfl) ?_
                    refine lv_iadd hx hb dK_charge_120 ?_
                    refine lv_topi (fun v120 e120 => ?_)
                    have n120 : v120 = nI ((i * 8) + j) := by rw [e120]; exact gx_add (rfl : (nI (i * 8)) = (nI (i * 8))) (rfl : (nI j) = (nI j))
                    subst n120
                    refine lv_dup2_11 hx hb dK_charge_121 rfl rfl ?_
                    have i122 : vp_in (nI ((i * 8) + j)) 64 := gx_in (rfl : (nI ((i * 8) + j)) = (nI ((i * 8) + j))) (by omega) (by decide)
                    have k122 : ((nI ((i * 8) + j)) : Int32).toNatClampNeg = ((i * 8) + j) := gx_cl (rfl : (nI ((i * 8) + j)) = (nI ((i * 8) + j))) (by omega)
                    refine va_iald hx hb hK hP 3 0 rfl rfl i122 dK_charge_122 ?_
                    rw [k122]
                    refine lv_topi (fun v122 e122 => ?_)
                    have n122 : v122 = nI ((kn_up C f (gf_N C.2.2.2.2 0 0 8) (i * 8 + j)) ((i * 8) + j)) := e122
                    subst n122
                    refine lv_iload hx hb dK_charge_123 (lv_at hl 1 rfl) ?_
                    refine lv_aload_n hx hb dK_charge_125 rfl (lv_at hl 4 rfl) ?_
                    refine va_get (D := D) (ci := 1) (v := .ref (q 4)) (C := R_K) (T := F_K) (N := 5) hx hb ht i_K hown hK hP 0 rfl rfl 4 (by decide) (ht _ m_118) (fun _ h9 => h9) rfl dK_charge_126 ?_
                    refine lv_iload hx hb dK_charge_129 (lv_at hl 0 rfl) ?_
                    have i131 : vp_in (nI j) 8 := gx_in (rfl : (nI j) = (nI j)) (by omega) (by decide)
                    have k131 : ((nI j) : Int32).toNatClampNeg = j := gx_cl (rfl : (nI j) = (nI j)) (by omega)
                    refine va_iald hx hb hK hP 5 0 rfl rfl i131 dK_charge_131 ?_
                    rw [k131]
                    refine lv_topi (fun v131 e131 => ?_)
                    have n131 : v131 = nI ((gf_N C.2.2.2.2 0 0 8) j) := e131
                    subst n131
                    refine lv_imul hx hb dK_charge_132 ?_
                    refine lv_topi (fun v132 e132 => ?_)
                    have n132 : v132 = nI ((C.2.2.1 (i * 8 + f)) * ((gf_N C.2.2.2.2 0 0 8) j)) := by rw [e132]; exact gx_mul (rfl : (nI (C.2.2.1 (i * 8 + f))) = (nI (C.2.2.1 (i * 8 + f)))) (rfl : (nI ((gf_N C.2.2.2.2 0 0 8) j)) = (nI ((gf_N C.2.2.2.2 0 0 8) j)))
                    subst n132
                    refine lv_iadd hx hb dK_charge_133 ?_
                    refine lv_topi (fun v133 e133 => ?_)
                    have n133 : v133 = nI (((kn_up C f (gf_N C.2.2.2.2 0 0 8) (i * 8 + j)) ((i * 8) + j)) + ((C.2.2.1 (i * 8 + f)) * ((gf_N C.2.2.2.2 0 0 8) j))) := by rw [e133]; exact gx_add (rfl : (nI ((kn_up C f (gf_N C.2.2.2.2 0 0 8) (i * 8 + j)) ((i * 8) + j))) = (nI ((kn_up C f (gf_N C.2.2.2.2 0 0 8) (i * 8 + j)) ((i * 8) + j)))) (rfl : (nI ((C.2.2.1 (i * 8 + f)) * ((gf_N C.2.2.2.2 0 0 8) j))) = (nI ((C.2.2.1 (i * 8 + f)) * ((gf_N C.2.2.2.2 0 0 8) j))))
                    subst n133
                    have i134 : vp_in (nI ((i * 8) + j)) 64 := gx_in (rfl : (nI ((i * 8) + j)) = (nI ((i * 8) + j))) (by omega) (by decide)
                    have k134 : ((nI ((i * 8) + j)) : Int32).toNatClampNeg = ((i * 8) + j) := gx_cl (rfl : (nI ((i * 8) + j)) = (nI ((i * 8) + j))) (by omega)
                    refine va_iast hx hb hK hP hD hS 3 0 rfl rfl i134 dK_charge_134 (fun H locs hP hD hS => ?_)
                    rw [k134] at hP hD
                    have hP : va_P D vwCl [(o, .inr (1, [.ref (q 0), .ref (q 1), .ref (q 2), .ref (q 3), .ref (q 4)])), ((q 0), .inl (cI, 80, .inl (fun z9 => nI (C.1 z9)))), ((q 1), .inl (cI, 640, .inl (fun z9 => nI (C.2.1 z9)))), ((q 2), .inl (cI, 64, .inl (upd (fun z9 => nI ((kn_up C f (gf_N C.2.2.2.2 0 0 8) (i * 8 + j)) z9)) ((i * 8) + j) (nI (((kn_up C f (gf_N C.2.2.2.2 0 0 8) (i * 8 + j)) ((i * 8) + j)) + ((C.2.2.1 (i * 8 + f)) * ((gf_N C.2.2.2.2 0 0 8) j))))))), ((q 3), .inl (cI, 8, .inl (fun z9 => nI ((kt_up C f t (i + 1)) z9)))), ((q 4), .inl (cI, 8, .inl (fun z9 => nI ((gf_N C.2.2.2.2 0 0 8) z9))))] H := hP
                    have hD : va_D A [(o, .inr (1, [.ref (q 0), .ref (q 1), .ref (q 2), .ref (q 3), .ref (q 4)])), ((q 0), .inl (cI, 80, .inl (fun z9 => nI (C.1 z9)))), ((q 1), .inl (cI, 640, .inl (fun z9 => nI (C.2.1 z9)))), ((q 2), .inl (cI, 64, .inl (upd (fun z9 => nI ((kn_up C f (gf_N C.2.2.2.2 0 0 8) (i * 8 + j)) z9)) ((i * 8) + j) (nI (((kn_up C f (gf_N C.2.2.2.2 0 0 8) (i * 8 + j)) ((i * 8) + j)) + ((C.2.2.1 (i * 8 + f)) * ((gf_N C.2.2.2.2 0 0 8) j))))))), ((q 3), .inl (cI, 8, .inl (fun z9 => nI ((kt_up C f t (i + 1)) z9)))), ((q 4), .inl (cI, 8, .inl (fun z9 => nI ((gf_N C.2.2.2.2 0 0 8) z9))))] := hD
                    rw [gx_upd] at hP hD
                    rw [kn_up_s C f (gf_N C.2.2.2.2 0 0 8) i j (by omega)] at hP hD
                    have hP : va_P D vwCl [(o, .inr (1, [.ref (q 0), .ref (q 1), .ref (q 2), .ref (q 3), .ref (q 4)])), ((q 0), .inl (cI, 80, .inl (fun z9 => nI (C.1 z9)))), ((q 1), .inl (cI, 640, .inl (fun z9 => nI (C.2.1 z9)))), ((q 2), .inl (cI, 64, .inl (fun z9 => nI ((kn_up C f (gf_N C.2.2.2.2 0 0 8) (i * 8 + (j + 1))) z9)))), ((q 3), .inl (cI, 8, .inl (fun z9 => nI ((kt_up C f t (i + 1)) z9)))), ((q 4), .inl (cI, 8, .inl (fun z9 => nI ((gf_N C.2.2.2.2 0 0 8) z9))))] H := hP
                    have hD : va_D A [(o, .inr (1, [.ref (q 0), .ref (q 1), .ref (q 2), .ref (q 3), .ref (q 4)])), ((q 0), .inl (cI, 80, .inl (fun z9 => nI (C.1 z9)))), ((q 1), .inl (cI, 640, .inl (fun z9 => nI (C.2.1 z9)))), ((q 2), .inl (cI, 64, .inl (fun z9 => nI ((kn_up C f (gf_N C.2.2.2.2 0 0 8) (i * 8 + (j + 1))) z9)))), ((q 3), .inl (cI, 8, .inl (fun z9 => nI ((kt_up C f t (i + 1)) z9)))), ((q 4), .inl (cI, 8, .inl (fun z9 => nI ((gf_N C.2.2.2.2 0 0 8) z9))))] := hD
                    refine lv_iinc (v := (nI (j + 1))) (lv' := [(8, .int (nI (j + 1))), (7, .int (nI (C.2.2.1 (i * 8 + f)))), (6, .int (nI i)), (4, .long (lN t)), (0, .ref o), (1, .int (nI f)), (2, .int (-1)), (3, .int (nI t))]) hx hb dK_charge_135 hl (k := 0) rfl (gx_inc (rfl : (nI j) = (nI j))) (by decide) rfl (fun ls hl => ?_)
                    refine lv_goto (tgt := 102) hx hb dK_charge_138 (by decide) ?_
                    exact ih102 (j + 1) (by omega) (by omega) _ _ _ hP hD hS (lv_sub hl [0, 1, 2, 3, 4, 5, 6, 7] rfl)
              exact lp102 (8 - (0) + 1) 0 (by omega) (by omega) _ _ _ hP hD hS (lv_sub hl [0, 1, 2, 3, 4, 5, 6, 7] rfl)
        exact lp61 (8 - (0) + 1) 0 (by omega) (by omega) _ _ _ hP hD hS (lv_sub hl [0, 1, 2, 3, 4, 5] rfl)
      · have hno : ¬ cs_ok C f t (gf_N C.2.2.2.2 0 0 8) := fun z => c53 (gb_1.mpr (fun y => y z.2))
        refine lv_iconst (v := 0) hx hb dK_charge_56 (by decide) ?_
        have hP : va_P D vwCl (wK cI o q (cs_ad C (gf_N C.2.2.2.2 0 0 8))) _ := hP
        have hD : va_D A (wK cI o q (cs_ad C (gf_N C.2.2.2.2 0 0 8))) := hD
        exact W.zret (v := 0) hx hb hr (by decide) (fun t9 ht9 hW => ⟨⟨0, _, rfl, ⟨cs_ad C (gf_N C.2.2.2.2 0 0 8), rfl, fun z => absurd z hno, fun _ => ⟨rfl, rfl⟩⟩, by rw [ht9]; exact hP, hD⟩, hS.F ht9⟩) hS.2.2 dK_charge_57
  · exact absurd rfl c14

set_option maxHeartbeats 4000000 in
set_option maxRecDepth 100000 in
theorem c_K_charge_E (l : Launch) (D : va_G) (cI cJ cB cZ : ClassId) (o : Nat) (q : Nat → Nat) (C : Cs) (f t e : Nat) (hf : f < 8) (ht9 : t < 2 ^ 31) (had : (ka_out C e t (gf_N C.2.2.2.2 0 0 8) 8) f < 2 ^ 31) (he : e < 80) (hco : kc_cost C e 8 < 2 ^ 31) (hbd : ∀ x, x < 8 → C.2.2.2.1 x < 2 ^ 31 ∧ C.2.2.1 (x * 8 + f) < 2 ^ 31 ∧ C.2.2.2.1 x + C.2.2.1 (x * 8 + f) * (t + t * kc_cost C e 8) < 2 ^ 62) : ct_I l y_K_charge w_K_charge ({ frames := 1, cells := 0, slots := 0, locals := 25 }) D (gk_T cI cJ cB cZ) [.ref o, .int (nI f), .int (nI e), .int (nI t)] (wK cI o q C) (0) (0) (fun r w => ∃ C2, w = wK cI o q C2 ∧ cs_res C f (t + t * kc_cost C e 8) (ka_out C e t (gf_N C.2.2.2.2 0 0 8) 8) r C2) := by
  intro sz
  refine Met.ofW (cc := b_K_charge) (maxL := 9) (ret := (some .boolean)) (by decide) rfl ?_
  intro p ev9 s m args below meth c s₁ B9 hml hv
  obtain ⟨rfl, hsz, hP, hK, hN, hD0⟩ := hv
  have hx := B9.exec
  have hb := B9.bytes
  have hr := B9.returns
  have hts := atoms_spec (ws := w_K_charge) B9.pre
  have ht : ∀ w ∈ gk_big, w.before _ s = true := fun w h => hts w (List.mem_cons_of_mem _ h)
  have hown : s.vm.findClass R_K = some m.cls := findClass_of_methodNamed B9.named
  have hlocks := B9.notSynchronized
  subst hsz
  have hD := hD0.self (sz := s.heap.size)
  generalize hAe : va_A (wK cI o q C) s.heap.size = A at hD ⊢
  have hA : ∀ q : Nat, s.heap.size ≤ q → A q := fun q h => by rw [← hAe]; exact Or.inr h
  generalize hHe : s.heap = H at hP ⊢
  have hS : va_S A s.heap H [] := by rw [← hHe]; exact va_S.rf
  have hP : va_P D vwCl [(o, .inr (1, [.ref (q 0), .ref (q 1), .ref (q 2), .ref (q 3), .ref (q 4)])), ((q 0), .inl (cI, 80, .inl (fun z9 => nI (C.1 z9)))), ((q 1), .inl (cI, 640, .inl (fun z9 => nI (C.2.1 z9)))), ((q 2), .inl (cI, 64, .inl (fun z9 => nI (C.2.2.1 z9)))), ((q 3), .inl (cI, 8, .inl (fun z9 => nI (C.2.2.2.1 z9)))), ((q 4), .inl (cI, 8, .inl (fun z9 => nI (C.2.2.2.2 z9))))] H := hP
  have hD : va_D A [(o, .inr (1, [.ref (q 0), .ref (q 1), .ref (q 2), .ref (q 3), .ref (q 4)])), ((q 0), .inl (cI, 80, .inl (fun z9 => nI (C.1 z9)))), ((q 1), .inl (cI, 640, .inl (fun z9 => nI (C.2.1 z9)))), ((q 2), .inl (cI, 64, .inl (fun z9 => nI (C.2.2.1 z9)))), ((q 3), .inl (cI, 8, .inl (fun z9 => nI (C.2.2.2.1 z9)))), ((q 4), .inl (cI, 8, .inl (fun z9 => nI (C.2.2.2.2 z9))))] := hD
  have hl := lv_entry ([.ref o, .int (nI f), .int (nI e), .int (nI t)]) (n := 9) (Nat.le_of_ble_eq_true rfl)
  rw [lg_entry_eq]
  generalize (lg_sl ([.ref o, .int (nI f), .int (nI e), .int (nI t)]) ++ List.replicate (9 - (lg_sl ([.ref o, .int (nI f), .int (nI e), .int (nI t)])).length) Slot.unset).toArray = ls at hl ⊢
  have hl : lv_has ls 9 [(0, .ref o), (1, .int (nI f)), (2, .int (nI e)), (3, .int (nI t))] := hl
  refine lv_iload_n hx hb dK_charge_0 rfl (lv_at hl 3 rfl) ?_
  refine lv_i2l (v := lN t) hx hb dK_charge_1 (nI_l (by omega)) ?_
  refine lv_lstore (lv' := [(4, .long (lN t)), (0, .ref o), (1, .int (nI f)), (2, .int (nI e)), (3, .int (nI t))]) hx hb dK_charge_2 hl (by decide) rfl (fun ls hl => ?_)
  refine lv_aload_n hx hb dK_charge_4 rfl (lv_at hl 1 rfl) ?_
  refine va_get (D := D) (ci := 1) (v := .ref (q 4)) (C := R_K) (T := F_K) (N := 5) hx hb ht i_K hown hK hP 0 rfl rfl 4 (by decide) (ht _ m_118) (fun _ h9 => h9) rfl dK_charge_5 ?_
  refine lv_iconst (v := 0) hx hb dK_charge_8 (by decide) ?_
  refine gc_v (va_runS (As := [.ref (q 4), .int 0]) (rest := []) ⟨hx, hb, hml, hown, ht⟩ (c_A_fillI l D cI cJ cB cZ (q 4) 8 C.2.2.2.2 0 (by decide) H.size) (va_cwS 2 ht (gw_S m_278 m_279 m_9 m_280) rfl rfl rfl (by decide +kernel) ⟨Nat.le_of_ble_eq_true rfl, Nat.le_of_ble_eq_true rfl⟩) (gp_S hK hN (hP.sub (ws' := [((q 4), .inl (cI, 8, .inl (fun z9 => nI (C.2.2.2.2 z9))))]) [5] rfl) (hD.sub (ws' := [((q 4), .inl (cI, 8, .inl (fun z9 => nI (C.2.2.2.2 z9))))]) [5] (by decide) rfl)) rfl rfl hl.1 rfl (lv_room (Nat.le_of_ble_eq_true rfl)) dK_charge_9 ⟨Nat.le_of_ble_eq_true rfl, Nat.le_of_ble_eq_true rfl⟩) hP hD hS hA [5] rfl (by decide) (fun w h => by subst h; rfl) (fun w9 H locs p9 hP hD hS => ?_)
  subst p9
  have hP : va_P D vwCl [(o, .inr (1, [.ref (q 0), .ref (q 1), .ref (q 2), .ref (q 3), .ref (q 4)])), ((q 0), .inl (cI, 80, .inl (fun z9 => nI (C.1 z9)))), ((q 1), .inl (cI, 640, .inl (fun z9 => nI (C.2.1 z9)))), ((q 2), .inl (cI, 64, .inl (fun z9 => nI (C.2.2.1 z9)))), ((q 3), .inl (cI, 8, .inl (fun z9 => nI (C.2.2.2.1 z9)))), ((q 4), .inl (cI, 8, .inl (fun z9 => nI ((gf_N C.2.2.2.2 0 0 8) z9))))] H := hP
  have hD : va_D A [(o, .inr (1, [.ref (q 0), .ref (q 1), .ref (q 2), .ref (q 3), .ref (q 4)])), ((q 0), .inl (cI, 80, .inl (fun z9 => nI (C.1 z9)))), ((q 1), .inl (cI, 640, .inl (fun z9 => nI (C.2.1 z9)))), ((q 2), .inl (cI, 64, .inl (fun z9 => nI (C.2.2.1 z9)))), ((q 3), .inl (cI, 8, .inl (fun z9 => nI (C.2.2.2.1 z9)))), ((q 4), .inl (cI, 8, .inl (fun z9 => nI ((gf_N C.2.2.2.2 0 0 8) z9))))] := hD
  refine lv_iload_n hx hb dK_charge_12 rfl (lv_at hl 3 rfl) ?_
  refine lv_iconst (v := (-1)) hx hb dK_charge_13 (by decide) ?_
  refine lv_icmp_eq (tgt := 37) hx hb dK_charge_14 (by decide) (fun c14 => ?_) (fun c14 => ?_)
  · exact absurd c14 (gx_ne1 (by omega))
  · refine lv_lload hx hb dK_charge_17 (lv_at hl 0 rfl) ?_
    refine lv_iload_n hx hb dK_charge_19 rfl (lv_at hl 4 rfl) ?_
    refine lv_i2l (v := lN t) hx hb dK_charge_20 (nI_l (by omega)) ?_
    refine lv_aload_n hx hb dK_charge_21 rfl (lv_at hl 1 rfl) ?_
    refine lv_iload_n hx hb dK_charge_22 rfl (lv_at hl 3 rfl) ?_
    refine gc_i (va_runV (As := [.int (nI e)]) (rest := [.long (lN t), .long (lN t)]) ⟨hx, hb, hml, hown, ht⟩ (c_K_costOf l D cI cJ cB cZ o q (C.1, C.2.1, C.2.2.1, C.2.2.2.1, (gf_N C.2.2.2.2 0 0 8)) e (by omega) H.size) (cwV 1 ht (gw_V m_281 m_283 ms_5 m_5 m_284) rfl rfl rfl (by decide +kernel) ⟨Nat.le_of_ble_eq_true rfl, Nat.le_of_ble_eq_true rfl⟩) (gp_V (ci := 1) (q0 := 0) hK hN (hP.sub (ws' := (wK cI o q (C.1, C.2.1, C.2.2.1, C.2.2.2.1, (gf_N C.2.2.2.2 0 0 8)))) [0, 1, 2, 3, 4, 5] rfl) (hD.sub (ws' := (wK cI o q (C.1, C.2.1, C.2.2.1, C.2.2.2.1, (gf_N C.2.2.2.2 0 0 8)))) [0, 1, 2, 3, 4, 5] (by decide) rfl) rfl rfl) rfl rfl hl.1 rfl (lv_room (Nat.le_of_ble_eq_true rfl)) dK_charge_23 ⟨Nat.le_of_ble_eq_true rfl, Nat.le_of_ble_eq_true rfl⟩) hP hD hS hA [0, 1, 2, 3, 4, 5] rfl (by decide) (fun r w h => by obtain ⟨_, rfl⟩ := h; rfl) (fun r23 w23 H locs p23 hP hD hS => ?_)
    obtain ⟨rfl, rfl⟩ := p23
    have hP : va_P D vwCl [(o, .inr (1, [.ref (q 0), .ref (q 1), .ref (q 2), .ref (q 3), .ref (q 4)])), ((q 0), .inl (cI, 80, .inl (fun z9 => nI (C.1 z9)))), ((q 1), .inl (cI, 640, .inl (fun z9 => nI (C.2.1 z9)))), ((q 2), .inl (cI, 64, .inl (fun z9 => nI (C.2.2.1 z9)))), ((q 3), .inl (cI, 8, .inl (fun z9 => nI (C.2.2.2.1 z9)))), ((q 4), .inl (cI, 8, .inl (fun z9 => nI ((gf_N C.2.2.2.2 0 0 8) z9))))] H := hP
    have hD : va_D A [(o, .inr (1, [.ref (q 0), .ref (q 1), .ref (q 2), .ref (q 3), .ref (q 4)])), ((q 0), .inl (cI, 80, .inl (fun z9 => nI (C.1 z9)))), ((q 1), .inl (cI, 640, .inl (fun z9 => nI (C.2.1 z9)))), ((q 2), .inl (cI, 64, .inl (fun z9 => nI (C.2.2.1 z9)))), ((q 3), .inl (cI, 8, .inl (fun z9 => nI (C.2.2.2.1 z9)))), ((q 4), .inl (cI, 8, .inl (fun z9 => nI ((gf_N C.2.2.2.2 0 0 8) z9))))] := hD
    rw [show kc_cost (C.1, C.2.1, C.2.2.1, C.2.2.2.1, (gf_N C.2.2.2.2 0 0 8)) e 8 = kc_cost C e 8 from rfl]
    refine lv_i2l (v := lN (kc_cost C e 8)) hx hb dK_charge_26 (nI_l (by omega)) ?_
    refine lv_lmul hx hb dK_charge_27 ?_
    refine lv_topl (fun v27 e27 => ?_)
    have n27 : v27 = lN (t * (kc_cost C e 8)) := by rw [e27]; exact lN_mul _ _
    subst n27
    refine lv_ladd hx hb dK_charge_28 ?_
    refine lv_topl (fun v28 e28 => ?_)
    have n28 : v28 = lN (t + (t * (kc_cost C e 8))) := by rw [e28]; exact lN_add _ _
    subst n28
    refine lv_lstore (lv' := [(4, .long (lN (t + (t * (kc_cost C e 8))))), (0, .ref o), (1, .int (nI f)), (2, .int (nI e)), (3, .int (nI t))]) hx hb dK_charge_29 hl (by decide) rfl (fun ls hl => ?_)
    refine lv_aload_n hx hb dK_charge_31 rfl (lv_at hl 1 rfl) ?_
    refine lv_iload_n hx hb dK_charge_32 rfl (lv_at hl 3 rfl) ?_
    refine lv_iload_n hx hb dK_charge_33 rfl (lv_at hl 4 rfl) ?_
    refine gc_v (va_runV (As := [.int (nI e), .int (nI t)]) (rest := []) ⟨hx, hb, hml, hown, ht⟩ (c_K_workOutAdded l D cI cJ cB cZ o q C (gf_N C.2.2.2.2 0 0 8) e t (by omega) H.size) (cwV 2 ht (gw_V m_285 m_287 ms_6 m_5 m_288) rfl rfl rfl (by decide +kernel) ⟨Nat.le_of_ble_eq_true rfl, Nat.le_of_ble_eq_true rfl⟩) (gp_V (ci := 1) (q0 := 0) hK hN (hP.sub (ws' := (wK cI o q (C.1, C.2.1, C.2.2.1, C.2.2.2.1, (gf_N C.2.2.2.2 0 0 8)))) [0, 1, 2, 3, 4, 5] rfl) (hD.sub (ws' := (wK cI o q (C.1, C.2.1, C.2.2.1, C.2.2.2.1, (gf_N C.2.2.2.2 0 0 8)))) [0, 1, 2, 3, 4, 5] (by decide) rfl) rfl rfl) rfl rfl hl.1 rfl (lv_room (Nat.le_of_ble_eq_true rfl)) dK_charge_34 ⟨Nat.le_of_ble_eq_true rfl, Nat.le_of_ble_eq_true rfl⟩) hP hD hS hA [0, 1, 2, 3, 4, 5] rfl (by decide) (fun w h => by subst h; rfl) (fun w34 H locs p34 hP hD hS => ?_)
    subst p34
    have hP : va_P D vwCl [(o, .inr (1, [.ref (q 0), .ref (q 1), .ref (q 2), .ref (q 3), .ref (q 4)])), ((q 0), .inl (cI, 80, .inl (fun z9 => nI (C.1 z9)))), ((q 1), .inl (cI, 640, .inl (fun z9 => nI (C.2.1 z9)))), ((q 2), .inl (cI, 64, .inl (fun z9 => nI (C.2.2.1 z9)))), ((q 3), .inl (cI, 8, .inl (fun z9 => nI (C.2.2.2.1 z9)))), ((q 4), .inl (cI, 8, .inl (fun z9 => nI ((ka_out C e t (gf_N C.2.2.2.2 0 0 8) 8) z9))))] H := hP
    have hD : va_D A [(o, .inr (1, [.ref (q 0), .ref (q 1), .ref (q 2), .ref (q 3), .ref (q 4)])), ((q 0), .inl (cI, 80, .inl (fun z9 => nI (C.1 z9)))), ((q 1), .inl (cI, 640, .inl (fun z9 => nI (C.2.1 z9)))), ((q 2), .inl (cI, 64, .inl (fun z9 => nI (C.2.2.1 z9)))), ((q 3), .inl (cI, 8, .inl (fun z9 => nI (C.2.2.2.1 z9)))), ((q 4), .inl (cI, 8, .inl (fun z9 => nI ((ka_out C e t (gf_N C.2.2.2.2 0 0 8) 8) z9))))] := hD
    refine lv_aload_n hx hb dK_charge_37 rfl (lv_at hl 1 rfl) ?_
    refine va_get (D := D) (ci := 1) (v := .ref (q 4)) (C := R_K) (T := F_K) (N := 5) hx hb ht i_K hown hK hP 0 rfl rfl 4 (by decide) (ht _ m_118) (fun _ h9 => h9) rfl dK_charge_38 ?_
    refine lv_iload_n hx hb dK_charge_41 rfl (lv_at hl 2 rfl) ?_
    have i42 : vp_in (nI f) 8 := gx_in (rfl : (nI f) = (nI f)) (by omega) (by decide)
    have k42 : ((nI f) : Int32).toNatClampNeg = f := gx_cl (rfl : (nI f) = (nI f)) (by omega)
    refine va_iald hx hb hK hP 5 0 rfl rfl i42 dK_charge_42 ?_
    rw [k42]
    refine lv_topi (fun v42 e42 => ?_)
    have n42 : v42 = nI ((ka_out C e t (gf_N C.2.2.2.2 0 0 8) 8) f) := e42
    subst n42
    refine lv_if_gt (tgt := 56) hx hb dK_charge_43 (by decide) (fun c43 => ?_) (fun c43 => ?_)
    · have g43 : 0 < ((ka_out C e t (gf_N C.2.2.2.2 0 0 8) 8) f) := (gx_lt (rfl : (0 : Int32) = nI 0) (rfl : (nI ((ka_out C e t (gf_N C.2.2.2.2 0 0 8) 8) f)) = (nI ((ka_out C e t (gf_N C.2.2.2.2 0 0 8) 8) f))) (by decide) (by omega)).mp c43
      have hno : ¬ cs_ok C f (t + t * kc_cost C e 8) (ka_out C e t (gf_N C.2.2.2.2 0 0 8) 8) := fun z => absurd z.1 (by omega)
      refine lv_iconst (v := 0) hx hb dK_charge_56 (by decide) ?_
      have hP : va_P D vwCl (wK cI o q (cs_ad C (ka_out C e t (gf_N C.2.2.2.2 0 0 8) 8))) _ := hP
      have hD : va_D A (wK cI o q (cs_ad C (ka_out C e t (gf_N C.2.2.2.2 0 0 8) 8))) := hD
      exact W.zret (v := 0) hx hb hr (by decide) (fun t9 ht9 hW => ⟨⟨0, _, rfl, ⟨cs_ad C (ka_out C e t (gf_N C.2.2.2.2 0 0 8) 8), rfl, fun z => absurd z hno, fun _ => ⟨rfl, rfl⟩⟩, by rw [ht9]; exact hP, hD⟩, hS.F ht9⟩) hS.2.2 dK_charge_57
    · have g43 : ¬ (0 < ((ka_out C e t (gf_N C.2.2.2.2 0 0 8) 8) f)) := fun z => c43 ((gx_lt (rfl : (0 : Int32) = nI 0) (rfl : (nI ((ka_out C e t (gf_N C.2.2.2.2 0 0 8) 8) f)) = (nI ((ka_out C e t (gf_N C.2.2.2.2 0 0 8) 8) f))) (by decide) (by omega)).mpr z)
      refine lv_aload_n hx hb dK_charge_46 rfl (lv_at hl 1 rfl) ?_
      refine lv_iload_n hx hb dK_charge_47 rfl (lv_at hl 2 rfl) ?_
      refine lv_lload hx hb dK_charge_48 (lv_at hl 0 rfl) ?_
      refine gc_i (va_runV (As := [.int (nI f), .long (lN (t + (t * (kc_cost C e 8))))]) (rest := []) ⟨hx, hb, hml, hown, ht⟩ (c_K_isTooDear l D cI cJ cB cZ o q (C.1, C.2.1, C.2.2.1, C.2.2.2.1, (ka_out C e t (gf_N C.2.2.2.2 0 0 8) 8)) f (t + (t * (kc_cost C e 8))) (by omega) hbd H.size) (cwV 2 ht (gw_V m_289 m_291 ms_7 m_5 m_292) rfl rfl rfl (by decide +kernel) ⟨Nat.le_of_ble_eq_true rfl, Nat.le_of_ble_eq_true rfl⟩) (gp_V (ci := 1) (q0 := 0) hK hN (hP.sub (ws' := (wK cI o q (C.1, C.2.1, C.2.2.1, C.2.2.2.1, (ka_out C e t (gf_N C.2.2.2.2 0 0 8) 8)))) [0, 1, 2, 3, 4, 5] rfl) (hD.sub (ws' := (wK cI o q (C.1, C.2.1, C.2.2.1, C.2.2.2.1, (ka_out C e t (gf_N C.2.2.2.2 0 0 8) 8)))) [0, 1, 2, 3, 4, 5] (by decide) rfl) rfl rfl) rfl rfl hl.1 rfl (lv_room (Nat.le_of_ble_eq_true rfl)) dK_charge_50 ⟨Nat.le_of_ble_eq_true rfl, Nat.le_of_ble_eq_true rfl⟩) hP hD hS hA [0, 1, 2, 3, 4, 5] rfl (by decide) (fun r w h => by obtain ⟨_, rfl⟩ := h; rfl) (fun r50 w50 H locs p50 hP hD hS => ?_)
      obtain ⟨rfl, rfl⟩ := p50
      have hP : va_P D vwCl [(o, .inr (1, [.ref (q 0), .ref (q 1), .ref (q 2), .ref (q 3), .ref (q 4)])), ((q 0), .inl (cI, 80, .inl (fun z9 => nI (C.1 z9)))), ((q 1), .inl (cI, 640, .inl (fun z9 => nI (C.2.1 z9)))), ((q 2), .inl (cI, 64, .inl (fun z9 => nI (C.2.2.1 z9)))), ((q 3), .inl (cI, 8, .inl (fun z9 => nI (C.2.2.2.1 z9)))), ((q 4), .inl (cI, 8, .inl (fun z9 => nI ((ka_out C e t (gf_N C.2.2.2.2 0 0 8) 8) z9))))] H := hP
      have hD : va_D A [(o, .inr (1, [.ref (q 0), .ref (q 1), .ref (q 2), .ref (q 3), .ref (q 4)])), ((q 0), .inl (cI, 80, .inl (fun z9 => nI (C.1 z9)))), ((q 1), .inl (cI, 640, .inl (fun z9 => nI (C.2.1 z9)))), ((q 2), .inl (cI, 64, .inl (fun z9 => nI (C.2.2.1 z9)))), ((q 3), .inl (cI, 8, .inl (fun z9 => nI (C.2.2.2.1 z9)))), ((q 4), .inl (cI, 8, .inl (fun z9 => nI ((ka_out C e t (gf_N C.2.2.2.2 0 0 8) 8) z9))))] := hD
      refine lv_if_eq (tgt := 58) hx hb dK_charge_53 (by decide) (fun c53 => ?_) (fun c53 => ?_)
      · have hok : cs_ok C f (t + t * kc_cost C e 8) (ka_out C e t (gf_N C.2.2.2.2 0 0 8) 8) := ⟨by omega, Classical.not_not.mp (gb_1.mp c53)⟩
        refine lv_iconst (v := 0) hx hb dK_charge_58 (by decide) ?_
        refine lv_istore (lv' := [(6, .int 0), (4, .long (lN (t + (t * (kc_cost C e 8))))), (0, .ref o), (1, .int (nI f)), (2, .int (nI e)), (3, .int (nI t))]) hx hb dK_charge_59 hl (by decide) rfl (fun ls hl => ?_)
        have hP : va_P D vwCl [(o, .inr (1, [.ref (q 0), .ref (q 1), .ref (q 2), .ref (q 3), .ref (q 4)])), ((q 0), .inl (cI, 80, .inl (fun z9 => nI (C.1 z9)))), ((q 1), .inl (cI, 640, .inl (fun z9 => nI (C.2.1 z9)))), ((q 2), .inl (cI, 64, .inl (fun z9 => nI ((kn_up C f (ka_out C e t (gf_N C.2.2.2.2 0 0 8) 8) 0) z9)))), ((q 3), .inl (cI, 8, .inl (fun z9 => nI ((kt_up C f (t + t * kc_cost C e 8) 0) z9)))), ((q 4), .inl (cI, 8, .inl (fun z9 => nI ((ka_out C e t (gf_N C.2.2.2.2 0 0 8) 8) z9))))] H := by
          rw [kn_up_0, kt_up_0]; exact hP
        have hD : va_D A [(o, .inr (1, [.ref (q 0), .ref (q 1), .ref (q 2), .ref (q 3), .ref (q 4)])), ((q 0), .inl (cI, 80, .inl (fun z9 => nI (C.1 z9)))), ((q 1), .inl (cI, 640, .inl (fun z9 => nI (C.2.1 z9)))), ((q 2), .inl (cI, 64, .inl (fun z9 => nI ((kn_up C f (ka_out C e t (gf_N C.2.2.2.2 0 0 8) 8) 0) z9)))), ((q 3), .inl (cI, 8, .inl (fun z9 => nI ((kt_up C f (t + t * kc_cost C e 8) 0) z9)))), ((q 4), .inl (cI, 8, .inl (fun z9 => nI ((ka_out C e t (gf_N C.2.2.2.2 0 0 8) 8) z9))))] := by
          rw [kn_up_0, kt_up_0]; exact hD
        have hP : va_P D vwCl [(o, .inr (1, [.ref (q 0), .ref (q 1), .ref (q 2), .ref (q 3), .ref (q 4)])), ((q 0), .inl (cI, 80, .inl (fun z9 => nI (C.1 z9)))), ((q 1), .inl (cI, 640, .inl (fun z9 => nI (C.2.1 z9)))), ((q 2), .inl (cI, 64, .inl (fun z9 => nI ((kn_up C f (ka_out C e t (gf_N C.2.2.2.2 0 0 8) 8) (0 * 8)) z9)))), ((q 3), .inl (cI, 8, .inl (fun z9 => nI ((kt_up C f (t + t * kc_cost C e 8) 0) z9)))), ((q 4), .inl (cI, 8, .inl (fun z9 => nI ((ka_out C e t (gf_N C.2.2.2.2 0 0 8) 8) z9))))] H := hP
        have hD : va_D A [(o, .inr (1, [.ref (q 0), .ref (q 1), .ref (q 2), .ref (q 3), .ref (q 4)])), ((q 0), .inl (cI, 80, .inl (fun z9 => nI (C.1 z9)))), ((q 1), .inl (cI, 640, .inl (fun z9 => nI (C.2.1 z9)))), ((q 2), .inl (cI, 64, .inl (fun z9 => nI ((kn_up C f (ka_out C e t (gf_N C.2.2.2.2 0 0 8) 8) (0 * 8)) z9)))), ((q 3), .inl (cI, 8, .inl (fun z9 => nI ((kt_up C f (t + t * kc_cost C e 8) 0) z9)))), ((q 4), .inl (cI, 8, .inl (fun z9 => nI ((ka_out C e t (gf_N C.2.2.2.2 0 0 8) 8) z9))))] := hD
        have lp61 : ∀ (n61 : Nat) (i : Nat), 8 - i + 1 ≤ n61 → (i ≤ 8) → ∀ (H : Heap) (locs : List Loc) (ls : Array Slot), va_P D vwCl [(o, .inr (1, [.ref (q 0), .ref (q 1), .ref (q 2), .ref (q 3), .ref (q 4)])), ((q 0), .inl (cI, 80, .inl (fun z9 => nI (C.1 z9)))), ((q 1), .inl (cI, 640, .inl (fun z9 => nI (C.2.1 z9)))), ((q 2), .inl (cI, 64, .inl (fun z9 => nI ((kn_up C f (ka_out C e t (gf_N C.2.2.2.2 0 0 8) 8) (i * 8)) z9)))), ((q 3), .inl (cI, 8, .inl (fun z9 => nI ((kt_up C f (t + t * kc_cost C e 8) i) z9)))), ((q 4), .inl (cI, 8, .inl (fun z9 => nI ((ka_out C e t (gf_N C.2.2.2.2 0 0 8) 8) z9))))] H → va_D A [(o, .inr (1, [.ref (q 0), .ref (q 1), .ref (q 2), .ref (q 3), .ref (q 4)])), ((q 0), .inl (cI, 80, .inl (fun z9 => nI (C.1 z9)))), ((q 1), .inl (cI, 640, .inl (fun z9 => nI (C.2.1 z9)))), ((q 2), .inl (cI, 64, .inl (fun z9 => nI ((kn_up C f (ka_out C e t (gf_N C.2.2.2.2 0 0 8) 8) (i * 8)) z9)))), ((q 3), .inl (cI, 8, .inl (fun z9 => nI ((kt_up C f (t + t * kc_cost C e 8) i) z9)))), ((q 4), .inl (cI, 8, .inl (fun z9 => nI ((ka_out C e t (gf_N C.2.2.2.2 0 0 8) 8) z9))))] → va_S A s.heap H locs → lv_has ls 9 [(6, .int (nI i)), (4, .long (lN (t + (t * (kc_cost C e 8))))), (0, .ref o), (1, .int (nI f)), (2, .int (nI e)), (3, .int (nI t))] → W p l ev9 (headSpec w_K_charge ({ frames := 1, cells := 0, slots := 0, locals := 25 })).room s m ([.ref o, .int (nI f), .int (nI e), .int (nI t)] : List Value).toArray below meth c H locs 0 0 (MQ below (gq_I D A (fun r w => ∃ C2, w = wK cI o q C2 ∧ cs_res C f (t + t * kc_cost C e 8) (ka_out C e t (gf_N C.2.2.2.2 0 0 8) 8) r C2)) ([.ref o, .int (nI f), .int (nI e), .int (nI t)] : List Value).toArray s (0) (0) A) (F0 m 61 ls []) := by
          intro n61
          induction n61 with
          | zero =>
            intro i hm61
            exact absurd hm61 (by omega)
          | succ n61 ih61 =>
            intro i hm61 hi H locs ls hP hD hS hl
            refine lv_iload hx hb dK_charge_61 (lv_at hl 0 rfl) ?_
            refine lv_bipush (v := 8) hx hb dK_charge_63 (by decide) ?_
            refine lv_icmp_ge (tgt := 147) hx hb dK_charge_65 (by decide) (fun c65 => ?_) (fun c65 => ?_)
            · have g65 : 8 ≤ i := (gx_le (rfl : (8 : Int32) = nI 8) (rfl : (nI i) = (nI i)) (by decide) (by omega)).mp c65
              refine lv_iconst (v := 1) hx hb dK_charge_147 (by decide) ?_
              have zi : i = 8 := by omega
              subst zi
              have hP : va_P D vwCl (wK cI o q (cs_put C f (t + t * kc_cost C e 8) (ka_out C e t (gf_N C.2.2.2.2 0 0 8) 8))) _ := hP
              have hD : va_D A (wK cI o q (cs_put C f (t + t * kc_cost C e 8) (ka_out C e t (gf_N C.2.2.2.2 0 0 8) 8))) := hD
              exact W.zret (v := 1) hx hb hr (by decide) (fun t9 ht9 hW => ⟨⟨1, _, rfl, ⟨cs_put C f (t + t * kc_cost C e 8) (ka_out C e t (gf_N C.2.2.2.2 0 0 8) 8), rfl, fun _ => ⟨rfl, rfl⟩, fun z => absurd hok z⟩, by rw [ht9]; exact hP, hD⟩, hS.F ht9⟩) hS.2.2 dK_charge_148
            · have g65 : ¬ (8 ≤ i) := fun z => c65 ((gx_le (rfl : (8 : Int32) = nI 8) (rfl : (nI i) = (nI i)) (by decide) (by omega)).mpr z)
              obtain ⟨hb1, hb2, hb3⟩ := hbd i (by omega)
              refine lv_aload_n hx hb dK_charge_68 rfl (lv_at hl 2 rfl) ?_
              refine va_get (D := D) (ci := 1) (v := .ref (q 2)) (C := R_K) (T := F_K) (N := 5) hx hb ht i_K hown hK hP 0 rfl rfl 2 (by decide) (ht _ m_115) (fun _ h9 => h9) rfl dK_charge_69 ?_
              refine lv_iload hx hb dK_charge_72 (lv_at hl 0 rfl) ?_
              refine lv_bipush (v := 8) hx hb dK_charge_74 (by decide) ?_
              refine lv_imul hx hb dK_charge_76 ?_
              refine lv_topi (fun v76 e76 => ?_)
              have n76 : v76 = nI (i * 8) := by rw [e76]; exact gx_mul (rfl : (nI i) = (nI i)) (rfl : (8 : Int32) = nI 8)
              subst n76
              refine lv_iload_n hx hb dK_charge_77 rfl (lv_at hl 3 rfl) ?_
              refine lv_iadd hx hb dK_charge_78 ?_
              refine lv_topi (fun v78 e78 => ?_)
              have n78 : v78 = nI ((i * 8) + f) := by rw [e78]; exact gx_add (rfl : (nI (i * 8)) = (nI (i * 8))) (rfl : (nI f) = (nI f))
              subst n78
              have i79 : vp_in (nI ((i * 8) + f)) 64 := gx_in (rfl : (nI ((i * 8) + f)) = (nI ((i * 8) + f))) (by omega) (by decide)
              have k79 : ((nI ((i * 8) + f)) : Int32).toNatClampNeg = ((i * 8) + f) := gx_cl (rfl : (nI ((i * 8) + f)) = (nI ((i * 8) + f))) (by omega)
              refine va_iald hx hb hK hP 3 0 rfl rfl i79 dK_charge_79 ?_
              rw [k79]
              refine lv_topi (fun v79 e79 => ?_)
              have n79 : v79 = nI ((kn_up C f (ka_out C e t (gf_N C.2.2.2.2 0 0 8) 8) (i * 8)) ((i * 8) + f)) := e79
              subst n79
              rw [kn_up_r]
              refine lv_istore (lv' := [(7, .int (nI (C.2.2.1 (i * 8 + f)))), (6, .int (nI i)), (4, .long (lN (t + (t * (kc_cost C e 8))))), (0, .ref o), (1, .int (nI f)), (2, .int (nI e)), (3, .int (nI t))]) hx hb dK_charge_80 hl (by decide) rfl (fun ls hl => ?_)
              refine lv_aload_n hx hb dK_charge_82 rfl (lv_at hl 3 rfl) ?_
              refine va_get (D := D) (ci := 1) (v := .ref (q 3)) (C := R_K) (T := F_K) (N := 5) hx hb ht i_K hown hK hP 0 rfl rfl 3 (by decide) (ht _ m_116) (fun _ h9 => h9) rfl dK_charge_83 ?_
              refine lv_iload hx hb dK_charge_86 (lv_at hl 1 rfl) ?_
              refine lv_dup2_11 hx hb dK_charge_88 rfl rfl ?_
              have i89 : vp_in (nI i) 8 := gx_in (rfl : (nI i) = (nI i)) (by omega) (by decide)
              have k89 : ((nI i) : Int32).toNatClampNeg = i := gx_cl (rfl : (nI i) = (nI i)) (by omega)
              refine va_iald hx hb hK hP 4 0 rfl rfl i89 dK_charge_89 ?_
              rw [k89]
              refine lv_topi (fun v89 e89 => ?_)
              have n89 : v89 = nI ((kt_up C f (t + t * kc_cost C e 8) i) i) := e89
              subst n89
              refine lv_iload hx hb dK_charge_90 (lv_at hl 0 rfl) ?_
              refine lv_i2l (v := lN (C.2.2.1 (i * 8 + f))) hx hb dK_charge_92 (nI_l (by omega)) ?_
              refine lv_lload hx hb dK_charge_93 (lv_at hl 2 rfl) ?_
              refine lv_lmul hx hb dK_charge_95 ?_
              refine lv_topl (fun v95 e95 => ?_)
              have n95 : v95 = lN ((C.2.2.1 (i * 8 + f)) * (t + (t * (kc_cost C e 8)))) := by rw [e95]; exact lN_mul _ _
              subst n95
              refine lv_l2i (v := nI ((C.2.2.1 (i * 8 + f)) * (t + (t * (kc_cost C e 8))))) hx hb dK_charge_96 (lN_i _) ?_
              refine lv_iadd hx hb dK_charge_97 ?_
              refine lv_topi (fun v97 e97 => ?_)
              have n97 : v97 = nI (((kt_up C f (t + t * kc_cost C e 8) i) i) + ((C.2.2.1 (i * 8 + f)) * (t + (t * (kc_cost C e 8))))) := by rw [e97]; exact gx_add (rfl : (nI ((kt_up C f (t + t * kc_cost C e 8) i) i)) = (nI ((kt_up C f (t + t * kc_cost C e 8) i) i))) (rfl : (nI ((C.2.2.1 (i * 8 + f)) * (t + (t * (kc_cost C e 8))))) = (nI ((C.2.2.1 (i * 8 + f)) * (t + (t * (kc_cost C e 8))))))
              subst n97
              have i98 : vp_in (nI i) 8 := gx_in (rfl : (nI i) = (nI i)) (by omega) (by decide)
              have k98 : ((nI i) : Int32).toNatClampNeg = i := gx_cl (rfl : (nI i) = (nI i)) (by omega)
              refine va_iast hx hb hK hP hD hS 4 0 rfl rfl i98 dK_charge_98 (fun H locs hP hD hS => ?_)
              rw [k98] at hP hD
              have hP : va_P D vwCl [(o, .inr (1, [.ref (q 0), .ref (q 1), .ref (q 2), .ref (q 3), .ref (q 4)])), ((q 0), .inl (cI, 80, .inl (fun z9 => nI (C.1 z9)))), ((q 1), .inl (cI, 640, .inl (fun z9 => nI (C.2.1 z9)))), ((q 2), .inl (cI, 64, .inl (fun z9 => nI ((kn_up C f (ka_out C e t (gf_N C.2.2.2.2 0 0 8) 8) (i * 8)) z9)))), ((q 3), .inl (cI, 8, .inl (upd (fun z9 => nI ((kt_up C f (t + t * kc_cost C e 8) i) z9)) i (nI (((kt_up C f (t + t * kc_cost C e 8) i) i) + ((C.2.2.1 (i * 8 + f)) * (t + (t * (kc_cost C e 8))))))))), ((q 4), .inl (cI, 8, .inl (fun z9 => nI ((ka_out C e t (gf_N C.2.2.2.2 0 0 8) 8) z9))))] H := hP
              have hD : va_D A [(o, .inr (1, [.ref (q 0), .ref (q 1), .ref (q 2), .ref (q 3), .ref (q 4)])), ((q 0), .inl (cI, 80, .inl (fun z9 => nI (C.1 z9)))), ((q 1), .inl (cI, 640, .inl (fun z9 => nI (C.2.1 z9)))), ((q 2), .inl (cI, 64, .inl (fun z9 => nI ((kn_up C f (ka_out C e t (gf_N C.2.2.2.2 0 0 8) 8) (i * 8)) z9)))), ((q 3), .inl (cI, 8, .inl (upd (fun z9 => nI ((kt_up C f (t + t * kc_cost C e 8) i) z9)) i (nI (((kt_up C f (t + t * kc_cost C e 8) i) i) + ((C.2.2.1 (i * 8 + f)) * (t + (t * (kc_cost C e 8))))))))), ((q 4), .inl (cI, 8, .inl (fun z9 => nI ((ka_out C e t (gf_N C.2.2.2.2 0 0 8) 8) z9))))] := hD
              rw [gx_upd] at hP hD
              rw [kt_up_s] at hP hD
              have hP : va_P D vwCl [(o, .inr (1, [.ref (q 0), .ref (q 1), .ref (q 2), .ref (q 3), .ref (q 4)])), ((q 0), .inl (cI, 80, .inl (fun z9 => nI (C.1 z9)))), ((q 1), .inl (cI, 640, .inl (fun z9 => nI (C.2.1 z9)))), ((q 2), .inl (cI, 64, .inl (fun z9 => nI ((kn_up C f (ka_out C e t (gf_N C.2.2.2.2 0 0 8) 8) (i * 8)) z9)))), ((q 3), .inl (cI, 8, .inl (fun z9 => nI ((kt_up C f (t + t * kc_cost C e 8) (i + 1)) z9)))), ((q 4), .inl (cI, 8, .inl (fun z9 => nI ((ka_out C e t (gf_N C.2.2.2.2 0 0 8) 8) z9))))] H := hP
              have hD : va_D A [(o, .inr (1, [.ref (q 0), .ref (q 1), .ref (q 2), .ref (q 3), .ref (q 4)])), ((q 0), .inl (cI, 80, .inl (fun z9 => nI (C.1 z9)))), ((q 1), .inl (cI, 640, .inl (fun z9 => nI (C.2.1 z9)))), ((q 2), .inl (cI, 64, .inl (fun z9 => nI ((kn_up C f (ka_out C e t (gf_N C.2.2.2.2 0 0 8) 8) (i * 8)) z9)))), ((q 3), .inl (cI, 8, .inl (fun z9 => nI ((kt_up C f (t + t * kc_cost C e 8) (i + 1)) z9)))), ((q 4), .inl (cI, 8, .inl (fun z9 => nI ((ka_out C e t (gf_N C.2.2.2.2 0 0 8) 8) z9))))] := hD
              refine lv_iconst (v := 0) hx hb dK_charge_99 (by decide) ?_
              refine lv_istore (lv' := [(8, .int 0), (7, .int (nI (C.2.2.1 (i * 8 + f)))), (6, .int (nI i)), (4, .long (lN (t + (t * (kc_cost C e 8))))), (0, .ref o), (1, .int (nI f)), (2, .int (nI e)), (3, .int (nI t))]) hx hb dK_charge_100 hl (by decide) rfl (fun ls hl => ?_)
              have lp102 : ∀ (n102 : Nat) (j : Nat), 8 - j + 1 ≤ n102 → (j ≤ 8) → ∀ (H : Heap) (locs : List Loc) (ls : Array Slot), va_P D vwCl [(o, .inr (1, [.ref (q 0), .ref (q 1), .ref (q 2), .ref (q 3), .ref (q 4)])), ((q 0), .inl (cI, 80, .inl (fun z9 => nI (C.1 z9)))), ((q 1), .inl (cI, 640, .inl (fun z9 => nI (C.2.1 z9)))), ((q 2), .inl (cI, 64, .inl (fun z9 => nI ((kn_up C f (ka_out C e t (gf_N C.2.2.2.2 0 0 8) 8) (i * 8 + j)) z9)))), ((q 3), .inl (cI, 8, .inl (fun z9 => nI ((kt_up C f (t + t * kc_cost C e 8) (i + 1)) z9)))), ((q 4), .inl (cI, 8, .inl (fun z9 => nI ((ka_out C e t (gf_N C.2.2.2.2 0 0 8) 8) z9))))] H → va_D A [(o, .inr (1, [.ref (q 0), .ref (q 1), .ref (q 2), .ref (q 3), .ref (q 4)])), ((q 0), .inl (cI, 80, .inl (fun z9 => nI (C.1 z9)))), ((q 1), .inl (cI, 640, .inl (fun z9 => nI (C.2.1 z9)))), ((q 2), .inl (cI, 64, .inl (fun z9 => nI ((kn_up C f (ka_out C e t (gf_N C.2.2.2.2 0 0 8) 8) (i * 8 + j)) z9)))), ((q 3), .inl (cI, 8, .inl (fun z9 => nI ((kt_up C f (t + t * kc_cost C e 8) (i + 1)) z9)))), ((q 4), .inl (cI, 8, .inl (fun z9 => nI ((ka_out C e t (gf_N C.2.2.2.2 0 0 8) 8) z9))))] → va_S A s.heap H locs → lv_has ls 9 [(8, .int (nI j)), (7, .int (nI (C.2.2.1 (i * 8 + f)))), (6, .int (nI i)), (4, .long (lN (t + (t * (kc_cost C e 8))))), (0, .ref o), (1, .int (nI f)), (2, .int (nI e)), (3, .int (nI t))] → W p l ev9 (headSpec w_K_charge ({ frames := 1, cells := 0, slots := 0, locals := 25 })).room s m ([.ref o, .int (nI f), .int (nI e), .int (nI t)] : List Value).toArray below meth c H locs 0 0 (MQ below (gq_I D A (fun r w => ∃ C2, w = wK cI o q C2 ∧ cs_res C f (t + t * kc_cost C e 8) (ka_out C e t (gf_N C.2.2.2.2 0 0 8) 8) r C2)) ([.ref o, .int (nI f), .int (nI e), .int (nI t)] : List Value).toArray s (0) (0) A) (F0 m 102 ls []) := by
                intro n102
                induction n102 with
                | zero =>
                  intro j hm102
                  exact absurd hm102 (by omega)
                | succ n102 ih102 =>
                  intro j hm102 hj H locs ls hP hD hS hl
                  refine lv_iload hx hb dK_charge_102 (lv_at hl 0 rfl) ?_
                  refine lv_bipush (v := 8) hx hb dK_charge_104 (by decide) ?_
                  refine lv_icmp_ge (tgt := 141) hx hb dK_charge_106 (by decide) (fun c106 => ?_) (fun c106 => ?_)
                  · have g106 : 8 ≤ j := (gx_le (rfl : (8 : Int32) = nI 8) (rfl : (nI j) = (nI j)) (by decide) (by omega)).mp c106
                    have zj : j = 8 := by omega
                    subst zj
                    rw [show i * 8 + 8 = (i + 1) * 8 by omega] at hP hD
                    have hP : va_P D vwCl [(o, .inr (1, [.ref (q 0), .ref (q 1), .ref (q 2), .ref (q 3), .ref (q 4)])), ((q 0), .inl (cI, 80, .inl (fun z9 => nI (C.1 z9)))), ((q 1), .inl (cI, 640, .inl (fun z9 => nI (C.2.1 z9)))), ((q 2), .inl (cI, 64, .inl (fun z9 => nI ((kn_up C f (ka_out C e t (gf_N C.2.2.2.2 0 0 8) 8) ((i + 1) * 8)) z9)))), ((q 3), .inl (cI, 8, .inl (fun z9 => nI ((kt_up C f (t + t * kc_cost C e 8) (i + 1)) z9)))), ((q 4), .inl (cI, 8, .inl (fun z9 => nI ((ka_out C e t (gf_N C.2.2.2.2 0 0 8) 8) z9))))] H := hP
                    have hD : va_D A [(o, .inr (1, [.ref (q 0), .ref (q 1), .ref (q 2), .ref (q 3), .ref (q 4)])), ((q 0), .inl (cI, 80, .inl (fun z9 => nI (C.1 z9)))), ((q 1), .inl (cI, 640, .inl (fun z9 => nI (C.2.1 z9)))), ((q 2), .inl (cI, 64, .inl (fun z9 => nI ((kn_up C f (ka_out C e t (gf_N C.2.2.2.2 0 0 8) 8) ((i + 1) * 8)) z9)))), ((q 3), .inl (cI, 8, .inl (fun z9 => nI ((kt_up C f (t + t * kc_cost C e 8) (i + 1)) z9)))), ((q 4), .inl (cI, 8, .inl (fun z9 => nI ((ka_out C e t (gf_N C.2.2.2.2 0 0 8) 8) z9))))] := hD
                    refine lv_iinc (v := (nI (i + 1))) (lv' := [(6, .int (nI (i + 1))), (8, .int (nI 8)), (7, .int (nI (C.2.2.1 (i * 8 + f)))), (4, .long (lN (t + (t * (kc_cost C e 8))))), (0, .ref o), (1, .int (nI f)), (2, .int (nI e)), (3, .int (nI t))]) hx hb dK_charge_141 hl (k := 2) rfl (gx_inc (rfl : (nI i) = (nI i))) (by decide) rfl (fun ls hl => ?_)
                    refine lv_goto (tgt := 61) hx hb dK_charge_144 (by decide) ?_
                    exact ih61 (i + 1) (by omega) (by omega) _ _ _ hP hD hS (lv_sub hl [0, 3, 4, 5, 6, 7] rfl)
                  · have g106 : ¬ (8 ≤ j) := fun z => c106 ((gx_le (rfl : (8 : Int32) = nI 8) (rfl : (nI j) = (nI j)) (by decide) (by omega)).mpr z)
                    refine lv_aload_n hx hb dK_charge_109 rfl (lv_at hl 4 rfl) ?_
                    refine va_get (D := D) (ci := 1) (v := .ref (q 2)) (C := R_K) (T := F_K) (N := 5) hx hb ht i_K hown hK hP 0 rfl rfl 2 (by decide) (ht _ m_115) (fun _ h9 => h9) rfl dK_charge_110 ?_
                    refine lv_iload hx hb dK_charge_113 (lv_at hl 2 rfl) ?_
                    refine lv_bipush (v := 8) hx hb dK_charge_115 (by decide) ?_
                    refine lv_imul hx hb dK_charge_117 ?_
                    refine lv_topi (fun v117 e117 => ?_)
                    have n117 : v117 = nI (i * 8) := by rw [e117]; exact gx_mul (rfl : (nI i) = (nI i)) (rfl : (8 : Int32) = nI 8)
                    subst n117
                    refine lv_iload hx hb dK_charge_118 (lv_at hl 0 rfl) ?_
                    refine lv_iadd hx hb dK_charge_120 ?_
                    refine lv_topi (fun v120 e120 => ?_)
                    have n120 : v120 = nI ((i * 8) + j) := by rw [e120]; exact gx_add (rfl : (nI (i * 8)) = (nI (i * 8))) (rfl : (nI j) = (nI j))
                    subst n120
                    refine lv_dup2_11 hx hb dK_charge_121 rfl rfl ?_
                    have i122 : vp_in (nI ((i * 8) + j)) 64 := gx_in (rfl : (nI ((i * 8) + j)) = (nI ((i * 8) + j))) (by omega) (by decide)
                    have k122 : ((nI ((i * 8) + j)) : Int32).toNatClampNeg = ((i * 8) + j) := gx_cl (rfl : (nI ((i * 8) + j)) = (nI ((i * 8) + j))) (by omega)
                    refine va_iald hx hb hK hP 3 0 rfl rfl i122 dK_charge_122 ?_
                    rw [k122]
                    refine lv_topi (fun v122 e122 => ?_)
                    have n122 : v122 = nI ((kn_up C f (ka_out C e t (gf_N C.2.2.2.2 0 0 8) 8) (i * 8 + j)) ((i * 8) + j)) := e122
                    subst n122
                    refine lv_iload hx hb dK_charge_123 (lv_at hl 1 rfl) ?_
                    refine lv_aload_n hx hb dK_charge_125 rfl (lv_at hl 4 rfl) ?_
                    refine va_get (D := D) (ci := 1) (v := .ref (q 4)) (C := R_K) (T := F_K) (N := 5) hx hb ht i_K hown hK hP 0 rfl rfl 4 (by decide) (ht _ m_118) (fun _ h9 => h9) rfl dK_charge_126 ?_
                    refine lv_iload hx hb dK_charge_129 (lv_at hl 0 rfl) ?_
                    have i131 : vp_in (nI j) 8 := gx_in (rfl : (nI j) = (nI j)) (by omega) (by decide)
                    have k131 : ((nI j) : Int32).toNatClampNeg = j := gx_cl (rfl : (nI j) = (nI j)) (by omega)
                    refine va_iald hx hb hK hP 5 0 rfl rfl i131 dK_charge_131 ?_
                    rw [k131]
                    refine lv_topi (fun v131 e131 => ?_)
                    have n131 : v131 = nI ((ka_out C e t (gf_N C.2.2.2.2 0 0 8) 8) j) := e131
                    subst n131
                    refine lv_imul hx hb dK_charge_132 ?_
                    refine lv_topi (fun v132 e132 => ?_)
                    have n132 : v132 = nI ((C.2.2.1 (i * 8 + f)) * ((ka_out C e t (gf_N C.2.2.2.2 0 0 8) 8) j)) := by rw [e132]; exact gx_mul (rfl : (nI (C.2.2.1 (i * 8 + f))) = (nI (C.2.2.1 (i * 8 + f)))) (rfl : (nI ((ka_out C e t (gf_N C.2.2.2.2 0 0 8) 8) j)) = (nI ((ka_out C e t (gf_N C.2.2.2.2 0 0 8) 8) j)))
                    subst n132
                    refine lv_iadd hx hb dK_charge_133 ?_
                    refine lv_topi (fun v133 e133 => ?_)
                    have n133 : v133 = nI (((kn_up C f (ka_out C e t (gf_N C.2.2.2.2 0 0 8) 8) (i * 8 + j)) ((i * 8) + j)) + ((C.2.2.1 (i * 8 + f)) * ((ka_out C e t (gf_N C.2.2.2.2 0 0 8) 8) j))) := by rw [e133]; exact gx_add (rfl : (nI ((kn_up C f (ka_out C e t (gf_N C.2.2.2.2 0 0 8) 8) (i * 8 + j)) ((i * 8) + j))) = (nI ((kn_up C f (ka_out C e t (gf_N C.2.2.2.2 0 0 8) 8) (i * 8 + j)) ((i * 8) + j)))) (rfl : (nI ((C.2.2.1 (i * 8 + f)) * ((ka_out C e t (gf_N C.2.2.2.2 0 0 8) 8) j))) = (nI ((C.2.2.1 (i * 8 + f)) * ((ka_out C e t (gf_N C.2.2.2.2 0 0 8) 8) j))))
                    subst n133
                    have i134 : vp_in (nI ((i * 8) + j)) 64 := gx_in (rfl : (nI ((i * 8) + j)) = (nI ((i * 8) + j))) (by omega) (by decide)
                    have k134 : ((nI ((i * 8) + j)) : Int32).toNatClampNeg = ((i * 8) + j) := gx_cl (rfl : (nI ((i * 8) + j)) = (nI ((i * 8) + j))) (by omega)
                    refine va_iast hx hb hK hP hD hS 3 0 rfl rfl i134 dK_charge_134 (fun H locs hP hD hS => ?_)
                    rw [k134] at hP hD
                    have hP : va_P D vwCl [(o, .inr (1, [.ref (q 0), .ref (q 1), .ref (q 2), .ref (q 3), .ref (q 4)])), ((q 0), .inl (cI, 80, .inl (fun z9 => nI (C.1 z9)))), ((q 1), .inl (cI, 640, .inl (fun z9 => nI (C.2.1 z9)))), ((q 2), .inl (cI, 64, .inl (upd (fun z9 => nI ((kn_up C f (ka_out C e t (gf_N C.2.2.2.2 0 0 8) 8) (i * 8 + j)) z9)) ((i * 8) + j) (nI (((kn_up C f (ka_out C e t (gf_N C.2.2.2.2 0 0 8) 8) (i * 8 + j)) ((i * 8) + j)) + ((C.2.2.1 (i * 8 + f)) * ((ka_out C e t (gf_N C.2.2.2.2 0 0 8) 8) j))))))), ((q 3), .inl (cI, 8, .inl (fun z9 => nI ((kt_up C f (t + t * kc_cost C e 8) (i + 1)) z9)))), ((q 4), .inl (cI, 8, .inl (fun z9 => nI ((ka_out C e t (gf_N C.2.2.2.2 0 0 8) 8) z9))))] H := hP
                    have hD : va_D A [(o, .inr (1, [.ref (q 0), .ref (q 1), .ref (q 2), .ref (q 3), .ref (q 4)])), ((q 0), .inl (cI, 80, .inl (fun z9 => nI (C.1 z9)))), ((q 1), .inl (cI, 640, .inl (fun z9 => nI (C.2.1 z9)))), ((q 2), .inl (cI, 64, .inl (upd (fun z9 => nI ((kn_up C f (ka_out C e t (gf_N C.2.2.2.2 0 0 8) 8) (i * 8 + j)) z9)) ((i * 8) + j) (nI (((kn_up C f (ka_out C e t (gf_N C.2.2.2.2 0 0 8) 8) (i * 8 + j)) ((i * 8) + j)) + ((C.2.2.1 (i * 8 + f)) * ((ka_out C e t (gf_N C.2.2.2.2 0 0 8) 8) j))))))), ((q 3), .inl (cI, 8, .inl (fun z9 => nI ((kt_up C f (t + t * kc_cost C e 8) (i + 1)) z9)))), ((q 4), .inl (cI, 8, .inl (fun z9 => nI ((ka_out C e t (gf_N C.2.2.2.2 0 0 8) 8) z9))))] := hD
                    rw [gx_upd] at hP hD
                    rw [kn_up_s C f (ka_out C e t (gf_N C.2.2.2.2 0 0 8) 8) i j (by omega)] at hP hD
                    have hP : va_P D vwCl [(o, .inr (1, [.ref (q 0), .ref (q 1), .ref (q 2), .ref (q 3), .ref (q 4)])), ((q 0), .inl (cI, 80, .inl (fun z9 => nI (C.1 z9)))), ((q 1), .inl (cI, 640, .inl (fun z9 => nI (C.2.1 z9)))), ((q 2), .inl (cI, 64, .inl (fun z9 => nI ((kn_up C f (ka_out C e t (gf_N C.2.2.2.2 0 0 8) 8) (i * 8 + (j + 1))) z9)))), ((q 3), .inl (cI, 8, .inl (fun z9 => nI ((kt_up C f (t + t * kc_cost C e 8) (i + 1)) z9)))), ((q 4), .inl (cI, 8, .inl (fun z9 => nI ((ka_out C e t (gf_N C.2.2.2.2 0 0 8) 8) z9))))] H := hP
                    have hD : va_D A [(o, .inr (1, [.ref (q 0), .ref (q 1), .ref (q 2), .ref (q 3), .ref (q 4)])), ((q 0), .inl (cI, 80, .inl (fun z9 => nI (C.1 z9)))), ((q 1), .inl (cI, 640, .inl (fun z9 => nI (C.2.1 z9)))), ((q 2), .inl (cI, 64, .inl (fun z9 => nI ((kn_up C f (ka_out C e t (gf_N C.2.2.2.2 0 0 8) 8) (i * 8 + (j + 1))) z9)))), ((q 3), .inl (cI, 8, .inl (fun z9 => nI ((kt_up C f (t + t * kc_cost C e 8) (i + 1)) z9)))), ((q 4), .inl (cI, 8, .inl (fun z9 => nI ((ka_out C e t (gf_N C.2.2.2.2 0 0 8) 8) z9))))] := hD
                    refine lv_iinc (v := (nI (j + 1))) (lv' := [(8, .int (nI (j + 1))), (7, .int (nI (C.2.2.1 (i * 8 + f)))), (6, .int (nI i)), (4, .long (lN (t + (t * (kc_cost C e 8))))), (0, .ref o), (1, .int (nI f)), (2, .int (nI e)), (3, .int (nI t))]) hx hb dK_charge_135 hl (k := 0) rfl (gx_inc (rfl : (nI j) = (nI j))) (by decide) rfl (fun ls hl => ?_)
                    refine lv_goto (tgt := 102) hx hb dK_charge_138 (by decide) ?_
                    exact ih102 (j + 1) (by omega) (by omega) _ _ _ hP hD hS (lv_sub hl [0, 1, 2, 3, 4, 5, 6, 7] rfl)
              exact lp102 (8 - (0) + 1) 0 (by omega) (by omega) _ _ _ hP hD hS (lv_sub hl [0, 1, 2, 3, 4, 5, 6, 7] rfl)
        exact lp61 (8 - (0) + 1) 0 (by omega) (by omega) _ _ _ hP hD hS (lv_sub hl [0, 1, 2, 3, 4, 5] rfl)
      · have hno : ¬ cs_ok C f (t + t * kc_cost C e 8) (ka_out C e t (gf_N C.2.2.2.2 0 0 8) 8) := fun z => c53 (gb_1.mpr (fun y => y z.2))
        refine lv_iconst (v := 0) hx hb dK_charge_56 (by decide) ?_
        have hP : va_P D vwCl (wK cI o q (cs_ad C (ka_out C e t (gf_N C.2.2.2.2 0 0 8) 8))) _ := hP
        have hD : va_D A (wK cI o q (cs_ad C (ka_out C e t (gf_N C.2.2.2.2 0 0 8) 8))) := hD
        exact W.zret (v := 0) hx hb hr (by decide) (fun t9 ht9 hW => ⟨⟨0, _, rfl, ⟨cs_ad C (ka_out C e t (gf_N C.2.2.2.2 0 0 8) 8), rfl, fun z => absurd z hno, fun _ => ⟨rfl, rfl⟩⟩, by rw [ht9]; exact hP, hD⟩, hS.F ht9⟩) hS.2.2 dK_charge_57

