theorem kat_le {sk sz : Nat → Nat} (h : ∀ i, sk i ≤ 5) (f k : Nat) : kat sk sz f k ≤ 5 := by
  unfold kat; split
  · exact h _
  · exact Nat.le_refl _
theorem wi_op {K : Nat → Nat} {j d : Nat} (h : opn (K j)) : wi K (j + 1) d = if d = 0 then some j else wi K j (d - 1) := by
  rw [wi]; exact if_pos h
theorem wi_no {K : Nat → Nat} {j d : Nat} (h : ¬ opn (K j)) : wi K (j + 1) d = wi K j (if K j = 5 then d + 1 else d) := by
  rw [wi]; exact if_neg h
theorem wi_lt {K : Nat → Nat} : ∀ (k d j : Nat), wi K k d = some j → j < k ∧ opn (K j) := by
  intro k
  induction k with
  | zero => intro d j h; cases h
  | succ k ih =>
    intro d j h
    by_cases ho : opn (K k)
    · rw [wi_op ho] at h
      split at h
      · cases h; exact ⟨Nat.lt_succ_self _, ho⟩
      · have := ih _ _ h; exact ⟨by omega, this.2⟩
    · rw [wi_no ho] at h
      have := ih _ _ h; exact ⟨by omega, this.2⟩
theorem cls_step {K : Nat → Nat} {oe : Prop} {N j d : Nat} (h : j < N) : cls K oe (N - j) j d = @ite _ (d = 0 ∧ (K j = 5 ∨ (K j = 3 ∧ oe))) (Classical.propDecidable _) j (cls K oe (N - (j + 1)) (j + 1) (@ite _ (opn (K j)) (Classical.propDecidable _) (d + 1) (if K j = 5 then d - 1 else d))) := by
  obtain ⟨m, hm⟩ : ∃ m, N - j = m + 1 := ⟨N - j - 1, by omega⟩
  rw [hm, show N - (j + 1) = m by omega]
  rfl
theorem cls_le {K : Nat → Nat} {oe : Prop} : ∀ (n j d : Nat), j ≤ cls K oe n j d ∧ cls K oe n j d ≤ j + n := by
  intro n
  induction n with
  | zero => intro j d; exact ⟨Nat.le_refl _, Nat.le_refl _⟩
  | succ n ih =>
    intro j d
    rw [cls]
    split
    · exact ⟨Nat.le_refl _, by omega⟩
    · have := ih (j + 1) (@ite _ (opn (K j)) (Classical.propDecidable _) (d + 1) (if K j = 5 then d - 1 else d)); omega
def msp (K : Nat → Nat) (s kind : Nat) : Prop := (kind = 3 ∨ kind = 5) ∧ ∀ j, wi K s 0 = some j → kind = 3 ∧ (¬ K j = 2 ∨ cls K True (s + 12 - (j + 1)) (j + 1) 0 < s)
theorem gm_m1 (x : Int32) : x + Int32.ofInt (-1) = x - 1 := by rw [Int32.sub_eq_add_neg]; rfl
theorem gm_down {v : Int32} {i : Nat} (hv : v = nI i - 1) (hi : i < 2 ^ 30) (h : ¬ v < 0) : ∃ j, i = j + 1 ∧ v = nI j := by
  cases i with
  | zero => subst hv; exact absurd (by decide : nI 0 - 1 < 0) h
  | succ j => exact ⟨j, rfl, hv.trans (nI_pred j)⟩
theorem gm_down0 {v : Int32} {i : Nat} (hv : v = nI i - 1) (hi : i < 2 ^ 30) (h : v < 0) : i = 0 := by
  cases i with
  | zero => rfl
  | succ j => rw [hv, nI_pred] at h; exact absurd h (nI_pos (by omega))
set_option maxHeartbeats 4000000 in
set_option maxRecDepth 100000 in
theorem c_M_within (l : Launch) (D : va_G) (cI cJ cB cZ : ClassId) (mo : Nat) (mq : Nat → Nat) (n F dp : Nat) (sk sz : Nat → Nat) (f k : Nat) (hf : f < 8) (hk : k < 2 ^ 29) (hsz : ∀ i, sz i ≤ 12) (hsk : ∀ i, sk i ≤ 5) : ct_I l y_M_within w_M_within ({ frames := 1, cells := 0, slots := 0, locals := 22 }) D (gk_T cI cJ cB cZ) [.ref mo, .int (nI f), .int (nI k)] [(mo, .inr (6, [.ref (mq 0), .ref (mq 1), .ref (mq 2), .ref (mq 3), .int (nI n), .ref (mq 5), .ref (mq 6), .int (nI F), .ref (mq 8), .ref (mq 9), .ref (mq 10), .ref (mq 11), .ref (mq 12), .ref (mq 13), .ref (mq 14), .ref (mq 15), .ref (mq 16), .ref (mq 17), .ref (mq 18), .ref (mq 19), .ref (mq 20), .ref (mq 21), .ref (mq 22), .int (nI dp)])), ((mq 8), .inl (cI, 96, .inl (fun z9 => nI (sk z9)))), ((mq 11), .inl (cI, 8, .inl (fun z9 => nI (sz z9))))] (0) (0) (fun r w => r = oN (wi (kat sk sz f) k 0) ∧ w = [(mo, .inr (6, [.ref (mq 0), .ref (mq 1), .ref (mq 2), .ref (mq 3), .int (nI n), .ref (mq 5), .ref (mq 6), .int (nI F), .ref (mq 8), .ref (mq 9), .ref (mq 10), .ref (mq 11), .ref (mq 12), .ref (mq 13), .ref (mq 14), .ref (mq 15), .ref (mq 16), .ref (mq 17), .ref (mq 18), .ref (mq 19), .ref (mq 20), .ref (mq 21), .ref (mq 22), .int (nI dp)])), ((mq 8), .inl (cI, 96, .inl (fun z9 => nI (sk z9)))), ((mq 11), .inl (cI, 8, .inl (fun z9 => nI (sz z9))))]) := by
  intro sz
  refine Met.ofW (cc := b_M_within) (maxL := 5) (ret := (some .int)) (by decide) rfl ?_
  intro p ev9 s m args below meth c s₁ B9 hml hv
  obtain ⟨rfl, hsz, hP, hK, hN, hD0⟩ := hv
  have hx := B9.exec
  have hb := B9.bytes
  have hr := B9.returns
  have hts := atoms_spec (ws := w_M_within) B9.pre
  have ht : ∀ w ∈ gk_big, w.before _ s = true := fun w h => hts w (List.mem_cons_of_mem _ h)
  have hown : s.vm.findClass R_M = some m.cls := findClass_of_methodNamed B9.named
  have hlocks := B9.notSynchronized
  subst hsz
  have hD := hD0.self (sz := s.heap.size)
  generalize hAe : va_A [(mo, .inr (6, [.ref (mq 0), .ref (mq 1), .ref (mq 2), .ref (mq 3), .int (nI n), .ref (mq 5), .ref (mq 6), .int (nI F), .ref (mq 8), .ref (mq 9), .ref (mq 10), .ref (mq 11), .ref (mq 12), .ref (mq 13), .ref (mq 14), .ref (mq 15), .ref (mq 16), .ref (mq 17), .ref (mq 18), .ref (mq 19), .ref (mq 20), .ref (mq 21), .ref (mq 22), .int (nI dp)])), ((mq 8), .inl (cI, 96, .inl (fun z9 => nI (sk z9)))), ((mq 11), .inl (cI, 8, .inl (fun z9 => nI (sz z9))))] s.heap.size = A at hD ⊢
  have hA : ∀ q : Nat, s.heap.size ≤ q → A q := fun q h => by rw [← hAe]; exact Or.inr h
  generalize hHe : s.heap = H at hP ⊢
  have hS : va_S A s.heap H [] := by rw [← hHe]; exact va_S.rf
  have hP : va_P D vwCl [(mo, .inr (6, [.ref (mq 0), .ref (mq 1), .ref (mq 2), .ref (mq 3), .int (nI n), .ref (mq 5), .ref (mq 6), .int (nI F), .ref (mq 8), .ref (mq 9), .ref (mq 10), .ref (mq 11), .ref (mq 12), .ref (mq 13), .ref (mq 14), .ref (mq 15), .ref (mq 16), .ref (mq 17), .ref (mq 18), .ref (mq 19), .ref (mq 20), .ref (mq 21), .ref (mq 22), .int (nI dp)])), ((mq 8), .inl (cI, 96, .inl (fun z9 => nI (sk z9)))), ((mq 11), .inl (cI, 8, .inl (fun z9 => nI (sz z9))))] H := hP
  have hD : va_D A [(mo, .inr (6, [.ref (mq 0), .ref (mq 1), .ref (mq 2), .ref (mq 3), .int (nI n), .ref (mq 5), .ref (mq 6), .int (nI F), .ref (mq 8), .ref (mq 9), .ref (mq 10), .ref (mq 11), .ref (mq 12), .ref (mq 13), .ref (mq 14), .ref (mq 15), .ref (mq 16), .ref (mq 17), .ref (mq 18), .ref (mq 19), .ref (mq 20), .ref (mq 21), .ref (mq 22), .int (nI dp)])), ((mq 8), .inl (cI, 96, .inl (fun z9 => nI (sk z9)))), ((mq 11), .inl (cI, 8, .inl (fun z9 => nI (sz z9))))] := hD
  have hl := lv_entry ([.ref mo, .int (nI f), .int (nI k)]) (n := 5) (Nat.le_of_ble_eq_true rfl)
  rw [lg_entry_eq]
  generalize (lg_sl ([.ref mo, .int (nI f), .int (nI k)]) ++ List.replicate (5 - (lg_sl ([.ref mo, .int (nI f), .int (nI k)])).length) Slot.unset).toArray = ls at hl ⊢
  have hl : lv_has ls 5 [(0, .ref mo), (1, .int (nI f)), (2, .int (nI k))] := hl
  have hkl := fun j => kat_le (sz := sz) hsk f j
  refine lv_iconst (v := 0) hx hb dM_within_0 (by decide) ?_
  refine lv_istore_n (lv' := [(3, .int 0), (0, .ref mo), (1, .int (nI f)), (2, .int (nI k))]) hx hb dM_within_1 rfl hl (by decide) rfl (fun ls hl => ?_)
  refine lv_iload_n hx hb dM_within_2 rfl (lv_at hl 3 rfl) ?_
  refine lv_iconst (v := 1) hx hb dM_within_3 (by decide) ?_
  refine lv_isub hx hb dM_within_4 ?_
  refine lv_topi (fun v4 e4 => ?_)
  refine lv_istore (lv' := [(4, .int v4), (3, .int 0), (0, .ref mo), (1, .int (nI f)), (2, .int (nI k))]) hx hb dM_within_5 hl (by decide) rfl (fun ls hl => ?_)
  have lp7 : ∀ (n7 : Nat) (i : Nat) (d : Nat) (v : Int32), i + 1 ≤ n7 → (i ≤ k) → (d + i ≤ k) → (wi (kat sk sz f) i d = wi (kat sk sz f) k 0) → (v = nI i - 1) → ∀ (H : Heap) (locs : List Loc) (ls : Array Slot), va_P D vwCl [(mo, .inr (6, [.ref (mq 0), .ref (mq 1), .ref (mq 2), .ref (mq 3), .int (nI n), .ref (mq 5), .ref (mq 6), .int (nI F), .ref (mq 8), .ref (mq 9), .ref (mq 10), .ref (mq 11), .ref (mq 12), .ref (mq 13), .ref (mq 14), .ref (mq 15), .ref (mq 16), .ref (mq 17), .ref (mq 18), .ref (mq 19), .ref (mq 20), .ref (mq 21), .ref (mq 22), .int (nI dp)])), ((mq 8), .inl (cI, 96, .inl (fun z9 => nI (sk z9)))), ((mq 11), .inl (cI, 8, .inl (fun z9 => nI (sz z9))))] H → va_D A [(mo, .inr (6, [.ref (mq 0), .ref (mq 1), .ref (mq 2), .ref (mq 3), .int (nI n), .ref (mq 5), .ref (mq 6), .int (nI F), .ref (mq 8), .ref (mq 9), .ref (mq 10), .ref (mq 11), .ref (mq 12), .ref (mq 13), .ref (mq 14), .ref (mq 15), .ref (mq 16), .ref (mq 17), .ref (mq 18), .ref (mq 19), .ref (mq 20), .ref (mq 21), .ref (mq 22), .int (nI dp)])), ((mq 8), .inl (cI, 96, .inl (fun z9 => nI (sk z9)))), ((mq 11), .inl (cI, 8, .inl (fun z9 => nI (sz z9))))] → va_S A s.heap H locs → lv_has ls 5 [(3, .int (nI d)), (4, .int v), (0, .ref mo), (1, .int (nI f)), (2, .int (nI k))] → W p l ev9 (headSpec w_M_within ({ frames := 1, cells := 0, slots := 0, locals := 22 })).room s m ([.ref mo, .int (nI f), .int (nI k)] : List Value).toArray below meth c H locs 0 0 (MQ below (gq_I D A (fun r w => r = oN (wi (kat sk sz f) k 0) ∧ w = [(mo, .inr (6, [.ref (mq 0), .ref (mq 1), .ref (mq 2), .ref (mq 3), .int (nI n), .ref (mq 5), .ref (mq 6), .int (nI F), .ref (mq 8), .ref (mq 9), .ref (mq 10), .ref (mq 11), .ref (mq 12), .ref (mq 13), .ref (mq 14), .ref (mq 15), .ref (mq 16), .ref (mq 17), .ref (mq 18), .ref (mq 19), .ref (mq 20), .ref (mq 21), .ref (mq 22), .int (nI dp)])), ((mq 8), .inl (cI, 96, .inl (fun z9 => nI (sk z9)))), ((mq 11), .inl (cI, 8, .inl (fun z9 => nI (sz z9))))])) ([.ref mo, .int (nI f), .int (nI k)] : List Value).toArray s (0) (0) A) (F0 m 7 ls []) := by
    intro n7
    induction n7 with
    | zero =>
      intro i d v hm7
      exact absurd hm7 (by omega)
    | succ n7 ih7 =>
      intro i d v hm7 hi hd hwi hv H locs ls hP hD hS hl
      refine lv_iload hx hb dM_within_7 (lv_at hl 1 rfl) ?_
      refine lv_if_lt (tgt := 55) hx hb dM_within_9 (by decide) (fun c9 => ?_) (fun c9 => ?_)
      · refine lv_iconst (v := (-1)) hx hb dM_within_55 (by decide) ?_
        exact W.iret (v := (-1)) hx hb hr (fun t9 ht9 hW => ⟨⟨(-1), _, rfl, ⟨by rw [← hwi, gm_down0 hv (by omega) c9]; rfl, rfl⟩, by rw [ht9]; exact hP, hD⟩, hS.F ht9⟩) hS.2.2 dM_within_56
      · obtain ⟨j, rfl, rfl⟩ := gm_down hv (by omega) c9
        refine lv_aload_n hx hb dM_within_12 rfl (lv_at hl 2 rfl) ?_
        refine lv_iload_n hx hb dM_within_13 rfl (lv_at hl 3 rfl) ?_
        refine lv_iload hx hb dM_within_14 (lv_at hl 1 rfl) ?_
        refine gc_i (va_runV (As := [.int (nI f), .int (nI j)]) (rest := []) ⟨hx, hb, hml, hown, ht⟩ (c_M_kindAt l D cI cJ cB cZ mo mq n F dp sk sz f j (by omega) (by omega) hsz H.size) (cwV 2 ht (gw_V m_574 m_576 ms_22 m_6 m_577) rfl rfl rfl (by decide +kernel) ⟨Nat.le_of_ble_eq_true rfl, Nat.le_of_ble_eq_true rfl⟩) (gp_V (ci := 6) (q0 := 0) hK hN (hP.sub (ws' := [(mo, .inr (6, [.ref (mq 0), .ref (mq 1), .ref (mq 2), .ref (mq 3), .int (nI n), .ref (mq 5), .ref (mq 6), .int (nI F), .ref (mq 8), .ref (mq 9), .ref (mq 10), .ref (mq 11), .ref (mq 12), .ref (mq 13), .ref (mq 14), .ref (mq 15), .ref (mq 16), .ref (mq 17), .ref (mq 18), .ref (mq 19), .ref (mq 20), .ref (mq 21), .ref (mq 22), .int (nI dp)])), ((mq 8), .inl (cI, 96, .inl (fun z9 => nI (sk z9)))), ((mq 11), .inl (cI, 8, .inl (fun z9 => nI (sz z9))))]) [0, 1, 2] rfl) (hD.sub (ws' := [(mo, .inr (6, [.ref (mq 0), .ref (mq 1), .ref (mq 2), .ref (mq 3), .int (nI n), .ref (mq 5), .ref (mq 6), .int (nI F), .ref (mq 8), .ref (mq 9), .ref (mq 10), .ref (mq 11), .ref (mq 12), .ref (mq 13), .ref (mq 14), .ref (mq 15), .ref (mq 16), .ref (mq 17), .ref (mq 18), .ref (mq 19), .ref (mq 20), .ref (mq 21), .ref (mq 22), .int (nI dp)])), ((mq 8), .inl (cI, 96, .inl (fun z9 => nI (sk z9)))), ((mq 11), .inl (cI, 8, .inl (fun z9 => nI (sz z9))))]) [0, 1, 2] (by decide) rfl) rfl rfl) rfl rfl hl.1 rfl (lv_room (Nat.le_of_ble_eq_true rfl)) dM_within_16 ⟨Nat.le_of_ble_eq_true rfl, Nat.le_of_ble_eq_true rfl⟩) hP hD hS hA [0, 1, 2] rfl (by decide) (fun r w h => by obtain ⟨_, rfl⟩ := h; rfl) (fun r16 w16 H locs p16 hP hD hS => ?_)
        obtain ⟨rfl, rfl⟩ := p16
        have hkl16 := kat_le (sz := sz) hsk f j
        have hP : va_P D vwCl [(mo, .inr (6, [.ref (mq 0), .ref (mq 1), .ref (mq 2), .ref (mq 3), .int (nI n), .ref (mq 5), .ref (mq 6), .int (nI F), .ref (mq 8), .ref (mq 9), .ref (mq 10), .ref (mq 11), .ref (mq 12), .ref (mq 13), .ref (mq 14), .ref (mq 15), .ref (mq 16), .ref (mq 17), .ref (mq 18), .ref (mq 19), .ref (mq 20), .ref (mq 21), .ref (mq 22), .int (nI dp)])), ((mq 8), .inl (cI, 96, .inl (fun z9 => nI (sk z9)))), ((mq 11), .inl (cI, 8, .inl (fun z9 => nI (sz z9))))] H := hP
        have hD : va_D A [(mo, .inr (6, [.ref (mq 0), .ref (mq 1), .ref (mq 2), .ref (mq 3), .int (nI n), .ref (mq 5), .ref (mq 6), .int (nI F), .ref (mq 8), .ref (mq 9), .ref (mq 10), .ref (mq 11), .ref (mq 12), .ref (mq 13), .ref (mq 14), .ref (mq 15), .ref (mq 16), .ref (mq 17), .ref (mq 18), .ref (mq 19), .ref (mq 20), .ref (mq 21), .ref (mq 22), .int (nI dp)])), ((mq 8), .inl (cI, 96, .inl (fun z9 => nI (sk z9)))), ((mq 11), .inl (cI, 8, .inl (fun z9 => nI (sz z9))))] := hD
        refine lv_iconst (v := 5) hx hb dM_within_19 (by decide) ?_
        refine lv_icmp_ne (tgt := 26) hx hb dM_within_20 (by decide) (fun c20 => ?_) (fun c20 => ?_)
        · have g20 : ¬ ((kat sk sz f j) = 5) := fun z => c20 ((gx_eq (rfl : (nI (kat sk sz f j)) = (nI (kat sk sz f j))) (rfl : (5 : Int32) = nI 5) (by omega) (by decide)).mpr z)
          refine lv_aload_n hx hb dM_within_26 rfl (lv_at hl 2 rfl) ?_
          refine lv_iload_n hx hb dM_within_27 rfl (lv_at hl 3 rfl) ?_
          refine lv_iload hx hb dM_within_28 (lv_at hl 1 rfl) ?_
          refine gc_i (va_runV (As := [.int (nI f), .int (nI j)]) (rest := []) ⟨hx, hb, hml, hown, ht⟩ (c_M_kindAt l D cI cJ cB cZ mo mq n F dp sk sz f j (by omega) (by omega) hsz H.size) (cwV 2 ht (gw_V m_574 m_576 ms_22 m_6 m_577) rfl rfl rfl (by decide +kernel) ⟨Nat.le_of_ble_eq_true rfl, Nat.le_of_ble_eq_true rfl⟩) (gp_V (ci := 6) (q0 := 0) hK hN (hP.sub (ws' := [(mo, .inr (6, [.ref (mq 0), .ref (mq 1), .ref (mq 2), .ref (mq 3), .int (nI n), .ref (mq 5), .ref (mq 6), .int (nI F), .ref (mq 8), .ref (mq 9), .ref (mq 10), .ref (mq 11), .ref (mq 12), .ref (mq 13), .ref (mq 14), .ref (mq 15), .ref (mq 16), .ref (mq 17), .ref (mq 18), .ref (mq 19), .ref (mq 20), .ref (mq 21), .ref (mq 22), .int (nI dp)])), ((mq 8), .inl (cI, 96, .inl (fun z9 => nI (sk z9)))), ((mq 11), .inl (cI, 8, .inl (fun z9 => nI (sz z9))))]) [0, 1, 2] rfl) (hD.sub (ws' := [(mo, .inr (6, [.ref (mq 0), .ref (mq 1), .ref (mq 2), .ref (mq 3), .int (nI n), .ref (mq 5), .ref (mq 6), .int (nI F), .ref (mq 8), .ref (mq 9), .ref (mq 10), .ref (mq 11), .ref (mq 12), .ref (mq 13), .ref (mq 14), .ref (mq 15), .ref (mq 16), .ref (mq 17), .ref (mq 18), .ref (mq 19), .ref (mq 20), .ref (mq 21), .ref (mq 22), .int (nI dp)])), ((mq 8), .inl (cI, 96, .inl (fun z9 => nI (sk z9)))), ((mq 11), .inl (cI, 8, .inl (fun z9 => nI (sz z9))))]) [0, 1, 2] (by decide) rfl) rfl rfl) rfl rfl hl.1 rfl (lv_room (Nat.le_of_ble_eq_true rfl)) dM_within_30 ⟨Nat.le_of_ble_eq_true rfl, Nat.le_of_ble_eq_true rfl⟩) hP hD hS hA [0, 1, 2] rfl (by decide) (fun r w h => by obtain ⟨_, rfl⟩ := h; rfl) (fun r30 w30 H locs p30 hP hD hS => ?_)
          obtain ⟨rfl, rfl⟩ := p30
          have hkl30 := kat_le (sz := sz) hsk f j
          have hP : va_P D vwCl [(mo, .inr (6, [.ref (mq 0), .ref (mq 1), .ref (mq 2), .ref (mq 3), .int (nI n), .ref (mq 5), .ref (mq 6), .int (nI F), .ref (mq 8), .ref (mq 9), .ref (mq 10), .ref (mq 11), .ref (mq 12), .ref (mq 13), .ref (mq 14), .ref (mq 15), .ref (mq 16), .ref (mq 17), .ref (mq 18), .ref (mq 19), .ref (mq 20), .ref (mq 21), .ref (mq 22), .int (nI dp)])), ((mq 8), .inl (cI, 96, .inl (fun z9 => nI (sk z9)))), ((mq 11), .inl (cI, 8, .inl (fun z9 => nI (sz z9))))] H := hP
          have hD : va_D A [(mo, .inr (6, [.ref (mq 0), .ref (mq 1), .ref (mq 2), .ref (mq 3), .int (nI n), .ref (mq 5), .ref (mq 6), .int (nI F), .ref (mq 8), .ref (mq 9), .ref (mq 10), .ref (mq 11), .ref (mq 12), .ref (mq 13), .ref (mq 14), .ref (mq 15), .ref (mq 16), .ref (mq 17), .ref (mq 18), .ref (mq 19), .ref (mq 20), .ref (mq 21), .ref (mq 22), .int (nI dp)])), ((mq 8), .inl (cI, 96, .inl (fun z9 => nI (sk z9)))), ((mq 11), .inl (cI, 8, .inl (fun z9 => nI (sz z9))))] := hD
          refine gc_i (va_runS (As := [.int (nI (kat sk sz f j))]) (rest := []) ⟨hx, hb, hml, hown, ht⟩ (c_M_opens l D cI cJ cB cZ (kat sk sz f j) (by omega) H.size) (va_cwS 1 ht (gw_S m_578 m_579 m_6 m_580) rfl rfl rfl (by decide +kernel) ⟨Nat.le_of_ble_eq_true rfl, Nat.le_of_ble_eq_true rfl⟩) (gp_S hK hN (hP.sub (ws' := ([] : va_W)) [] rfl) (hD.sub (ws' := ([] : va_W)) [] (by decide) rfl)) rfl rfl hl.1 rfl (lv_room (Nat.le_of_ble_eq_true rfl)) dM_within_33 ⟨Nat.le_of_ble_eq_true rfl, Nat.le_of_ble_eq_true rfl⟩) hP hD hS hA [] rfl (by decide) (fun r w h => by obtain ⟨_, rfl⟩ := h; rfl) (fun r33 w33 H locs p33 hP hD hS => ?_)
          obtain ⟨rfl, rfl⟩ := p33
          have hP : va_P D vwCl [(mo, .inr (6, [.ref (mq 0), .ref (mq 1), .ref (mq 2), .ref (mq 3), .int (nI n), .ref (mq 5), .ref (mq 6), .int (nI F), .ref (mq 8), .ref (mq 9), .ref (mq 10), .ref (mq 11), .ref (mq 12), .ref (mq 13), .ref (mq 14), .ref (mq 15), .ref (mq 16), .ref (mq 17), .ref (mq 18), .ref (mq 19), .ref (mq 20), .ref (mq 21), .ref (mq 22), .int (nI dp)])), ((mq 8), .inl (cI, 96, .inl (fun z9 => nI (sk z9)))), ((mq 11), .inl (cI, 8, .inl (fun z9 => nI (sz z9))))] H := hP
          have hD : va_D A [(mo, .inr (6, [.ref (mq 0), .ref (mq 1), .ref (mq 2), .ref (mq 3), .int (nI n), .ref (mq 5), .ref (mq 6), .int (nI F), .ref (mq 8), .ref (mq 9), .ref (mq 10), .ref (mq 11), .ref (mq 12), .ref (mq 13), .ref (mq 14), .ref (mq 15), .ref (mq 16), .ref (mq 17), .ref (mq 18), .ref (mq 19), .ref (mq 20), .ref (mq 21), .ref (mq 22), .int (nI dp)])), ((mq 8), .inl (cI, 96, .inl (fun z9 => nI (sk z9)))), ((mq 11), .inl (cI, 8, .inl (fun z9 => nI (sz z9))))] := hD
          refine lv_if_eq (tgt := 49) hx hb dM_within_36 (by decide) (fun c36 => ?_) (fun c36 => ?_)
          · obtain ⟨v49, e49⟩ : ∃ y : Int32, y = (nI j) + Int32.ofInt (-1) := ⟨_, rfl⟩
            refine lv_iinc (v := v49) (lv' := [(4, .int v49), (3, .int (nI d)), (0, .ref mo), (1, .int (nI f)), (2, .int (nI k))]) hx hb dM_within_49 hl (k := 1) rfl (e49.symm) (by decide) rfl (fun ls hl => ?_)
            refine lv_goto (tgt := 7) hx hb dM_within_52 (by decide) ?_
            exact ih7 j d v49 (by omega) (by omega) (by omega) (by rw [← hwi, wi_no (by exact gb_1.mp c36)]; rw [if_neg g20]) (by rw [e49]; exact gm_m1 _) _ _ _ hP hD hS (lv_sub hl [1, 0, 2, 3, 4] rfl)
          · refine lv_iload_n hx hb dM_within_39 rfl (lv_at hl 0 rfl) ?_
            refine lv_if_ne (tgt := 46) hx hb dM_within_40 (by decide) (fun c40 => ?_) (fun c40 => ?_)
            · have g40 : ¬ (d = 0) := fun z => c40 ((gx_eq (rfl : (nI d) = (nI d)) (rfl : (0 : Int32) = nI 0) (by omega) (by decide)).mpr z)
              refine lv_iinc (v := (nI (d - 1))) (lv' := [(3, .int (nI (d - 1))), (4, .int (nI j)), (0, .ref mo), (1, .int (nI f)), (2, .int (nI k))]) hx hb dM_within_46 hl (k := 0) rfl (gx_dec1 (rfl : (nI d) = (nI d)) (by omega)) (by decide) rfl (fun ls hl => ?_)
              obtain ⟨v49, e49⟩ : ∃ y : Int32, y = (nI j) + Int32.ofInt (-1) := ⟨_, rfl⟩
              refine lv_iinc (v := v49) (lv' := [(4, .int v49), (3, .int (nI (d - 1))), (0, .ref mo), (1, .int (nI f)), (2, .int (nI k))]) hx hb dM_within_49 hl (k := 1) rfl (e49.symm) (by decide) rfl (fun ls hl => ?_)
              refine lv_goto (tgt := 7) hx hb dM_within_52 (by decide) ?_
              exact ih7 j (d - 1) v49 (by omega) (by omega) (by omega) (by rw [← hwi, wi_op (by exact gb_0 c36)]; rw [if_neg g40]) (by rw [e49]; exact gm_m1 _) _ _ _ hP hD hS (lv_sub hl [1, 0, 2, 3, 4] rfl)
            · have g40 : d = 0 := (gx_eq (rfl : (nI d) = (nI d)) (rfl : (0 : Int32) = nI 0) (by omega) (by decide)).mp c40
              refine lv_iload hx hb dM_within_43 (lv_at hl 1 rfl) ?_
              exact W.iret (v := (nI j)) hx hb hr (fun t9 ht9 hW => ⟨⟨(nI j), _, rfl, ⟨by rw [← hwi, wi_op (gb_0 c36), if_pos g40]; rfl, rfl⟩, by rw [ht9]; exact hP, hD⟩, hS.F ht9⟩) hS.2.2 dM_within_45
        · have g20 : (kat sk sz f j) = 5 := (gx_eq (rfl : (nI (kat sk sz f j)) = (nI (kat sk sz f j))) (rfl : (5 : Int32) = nI 5) (by omega) (by decide)).mp c20
          refine lv_iinc (v := (nI (d + 1))) (lv' := [(3, .int (nI (d + 1))), (4, .int (nI j)), (0, .ref mo), (1, .int (nI f)), (2, .int (nI k))]) hx hb dM_within_23 hl (k := 0) rfl (gx_inc (rfl : (nI d) = (nI d))) (by decide) rfl (fun ls hl => ?_)
          refine lv_aload_n hx hb dM_within_26 rfl (lv_at hl 2 rfl) ?_
          refine lv_iload_n hx hb dM_within_27 rfl (lv_at hl 3 rfl) ?_
          refine lv_iload hx hb dM_within_28 (lv_at hl 1 rfl) ?_
          refine gc_i (va_runV (As := [.int (nI f), .int (nI j)]) (rest := []) ⟨hx, hb, hml, hown, ht⟩ (c_M_kindAt l D cI cJ cB cZ mo mq n F dp sk sz f j (by omega) (by omega) hsz H.size) (cwV 2 ht (gw_V m_574 m_576 ms_22 m_6 m_577) rfl rfl rfl (by decide +kernel) ⟨Nat.le_of_ble_eq_true rfl, Nat.le_of_ble_eq_true rfl⟩) (gp_V (ci := 6) (q0 := 0) hK hN (hP.sub (ws' := [(mo, .inr (6, [.ref (mq 0), .ref (mq 1), .ref (mq 2), .ref (mq 3), .int (nI n), .ref (mq 5), .ref (mq 6), .int (nI F), .ref (mq 8), .ref (mq 9), .ref (mq 10), .ref (mq 11), .ref (mq 12), .ref (mq 13), .ref (mq 14), .ref (mq 15), .ref (mq 16), .ref (mq 17), .ref (mq 18), .ref (mq 19), .ref (mq 20), .ref (mq 21), .ref (mq 22), .int (nI dp)])), ((mq 8), .inl (cI, 96, .inl (fun z9 => nI (sk z9)))), ((mq 11), .inl (cI, 8, .inl (fun z9 => nI (sz z9))))]) [0, 1, 2] rfl) (hD.sub (ws' := [(mo, .inr (6, [.ref (mq 0), .ref (mq 1), .ref (mq 2), .ref (mq 3), .int (nI n), .ref (mq 5), .ref (mq 6), .int (nI F), .ref (mq 8), .ref (mq 9), .ref (mq 10), .ref (mq 11), .ref (mq 12), .ref (mq 13), .ref (mq 14), .ref (mq 15), .ref (mq 16), .ref (mq 17), .ref (mq 18), .ref (mq 19), .ref (mq 20), .ref (mq 21), .ref (mq 22), .int (nI dp)])), ((mq 8), .inl (cI, 96, .inl (fun z9 => nI (sk z9)))), ((mq 11), .inl (cI, 8, .inl (fun z9 => nI (sz z9))))]) [0, 1, 2] (by decide) rfl) rfl rfl) rfl rfl hl.1 rfl (lv_room (Nat.le_of_ble_eq_true rfl)) dM_within_30 ⟨Nat.le_of_ble_eq_true rfl, Nat.le_of_ble_eq_true rfl⟩) hP hD hS hA [0, 1, 2] rfl (by decide) (fun r w h => by obtain ⟨_, rfl⟩ := h; rfl) (fun r30 w30 H locs p30 hP hD hS => ?_)
          obtain ⟨rfl, rfl⟩ := p30
          have hkl30 := kat_le (sz := sz) hsk f j
          have hP : va_P D vwCl [(mo, .inr (6, [.ref (mq 0), .ref (mq 1), .ref (mq 2), .ref (mq 3), .int (nI n), .ref (mq 5), .ref (mq 6), .int (nI F), .ref (mq 8), .ref (mq 9), .ref (mq 10), .ref (mq 11), .ref (mq 12), .ref (mq 13), .ref (mq 14), .ref (mq 15), .ref (mq 16), .ref (mq 17), .ref (mq 18), .ref (mq 19), .ref (mq 20), .ref (mq 21), .ref (mq 22), .int (nI dp)])), ((mq 8), .inl (cI, 96, .inl (fun z9 => nI (sk z9)))), ((mq 11), .inl (cI, 8, .inl (fun z9 => nI (sz z9))))] H := hP
          have hD : va_D A [(mo, .inr (6, [.ref (mq 0), .ref (mq 1), .ref (mq 2), .ref (mq 3), .int (nI n), .ref (mq 5), .ref (mq 6), .int (nI F), .ref (mq 8), .ref (mq 9), .ref (mq 10), .ref (mq 11), .ref (mq 12), .ref (mq 13), .ref (mq 14), .ref (mq 15), .ref (mq 16), .ref (mq 17), .ref (mq 18), .ref (mq 19), .ref (mq 20), .ref (mq 21), .ref (mq 22), .int (nI dp)])), ((mq 8), .inl (cI, 96, .inl (fun z9 => nI (sk z9)))), ((mq 11), .inl (cI, 8, .inl (fun z9 => nI (sz z9))))] := hD
          refine gc_i (va_runS (As := [.int (nI (kat sk sz f j))]) (rest := []) ⟨hx, hb, hml, hown, ht⟩ (c_M_opens l D cI cJ cB cZ (kat sk sz f j) (by omega) H.size) (va_cwS 1 ht (gw_S m_578 m_579 m_6 m_580) rfl rfl rfl (by decide +kernel) ⟨Nat.le_of_ble_eq_true rfl, Nat.le_of_ble_eq_true rfl⟩) (gp_S hK hN (hP.sub (ws' := ([] : va_W)) [] rfl) (hD.sub (ws' := ([] : va_W)) [] (by decide) rfl)) rfl rfl hl.1 rfl (lv_room (Nat.le_of_ble_eq_true rfl)) dM_within_33 ⟨Nat.le_of_ble_eq_true rfl, Nat.le_of_ble_eq_true rfl⟩) hP hD hS hA [] rfl (by decide) (fun r w h => by obtain ⟨_, rfl⟩ := h; rfl) (fun r33 w33 H locs p33 hP hD hS => ?_)
          obtain ⟨rfl, rfl⟩ := p33
          have hP : va_P D vwCl [(mo, .inr (6, [.ref (mq 0), .ref (mq 1), .ref (mq 2), .ref (mq 3), .int (nI n), .ref (mq 5), .ref (mq 6), .int (nI F), .ref (mq 8), .ref (mq 9), .ref (mq 10), .ref (mq 11), .ref (mq 12), .ref (mq 13), .ref (mq 14), .ref (mq 15), .ref (mq 16), .ref (mq 17), .ref (mq 18), .ref (mq 19), .ref (mq 20), .ref (mq 21), .ref (mq 22), .int (nI dp)])), ((mq 8), .inl (cI, 96, .inl (fun z9 => nI (sk z9)))), ((mq 11), .inl (cI, 8, .inl (fun z9 => nI (sz z9))))] H := hP
          have hD : va_D A [(mo, .inr (6, [.ref (mq 0), .ref (mq 1), .ref (mq 2), .ref (mq 3), .int (nI n), .ref (mq 5), .ref (mq 6), .int (nI F), .ref (mq 8), .ref (mq 9), .ref (mq 10), .ref (mq 11), .ref (mq 12), .ref (mq 13), .ref (mq 14), .ref (mq 15), .ref (mq 16), .ref (mq 17), .ref (mq 18), .ref (mq 19), .ref (mq 20), .ref (mq 21), .ref (mq 22), .int (nI dp)])), ((mq 8), .inl (cI, 96, .inl (fun z9 => nI (sk z9)))), ((mq 11), .inl (cI, 8, .inl (fun z9 => nI (sz z9))))] := hD
          refine lv_if_eq (tgt := 49) hx hb dM_within_36 (by decide) (fun c36 => ?_) (fun c36 => ?_)
          · obtain ⟨v49, e49⟩ : ∃ y : Int32, y = (nI j) + Int32.ofInt (-1) := ⟨_, rfl⟩
            refine lv_iinc (v := v49) (lv' := [(4, .int v49), (3, .int (nI (d + 1))), (0, .ref mo), (1, .int (nI f)), (2, .int (nI k))]) hx hb dM_within_49 hl (k := 1) rfl (e49.symm) (by decide) rfl (fun ls hl => ?_)
            refine lv_goto (tgt := 7) hx hb dM_within_52 (by decide) ?_
            exact ih7 j (d + 1) v49 (by omega) (by omega) (by omega) (by rw [← hwi, wi_no (by exact gb_1.mp c36)]; rw [if_pos g20]) (by rw [e49]; exact gm_m1 _) _ _ _ hP hD hS (lv_sub hl [1, 0, 2, 3, 4] rfl)
          · exact absurd (gb_0 c36) (by rw [g20]; unfold opn; omega)
  exact lp7 ((k) + 1) k 0 v4 (by omega) (Nat.le_refl _) (by omega) rfl e4 _ _ _ hP hD hS (lv_sub hl [1, 0, 2, 3, 4] rfl)

set_option maxHeartbeats 4000000 in
set_option maxRecDepth 100000 in
theorem c_M_close (l : Launch) (D : va_G) (cI cJ cB cZ : ClassId) (mo : Nat) (mq : Nat → Nat) (n F dp : Nat) (sk sz : Nat → Nat) (f k b : Nat) (hf : f < 8) (hk : k < sz f + 12) (hb1 : b ≤ 1) (hsz : ∀ i, sz i ≤ 12) (hsk : ∀ i, sk i ≤ 5) : ct_I l y_M_close w_M_close ({ frames := 1, cells := 0, slots := 0, locals := 22 }) D (gk_T cI cJ cB cZ) [.ref mo, .int (nI f), .int (nI k), .int (nI b)] [(mo, .inr (6, [.ref (mq 0), .ref (mq 1), .ref (mq 2), .ref (mq 3), .int (nI n), .ref (mq 5), .ref (mq 6), .int (nI F), .ref (mq 8), .ref (mq 9), .ref (mq 10), .ref (mq 11), .ref (mq 12), .ref (mq 13), .ref (mq 14), .ref (mq 15), .ref (mq 16), .ref (mq 17), .ref (mq 18), .ref (mq 19), .ref (mq 20), .ref (mq 21), .ref (mq 22), .int (nI dp)])), ((mq 8), .inl (cI, 96, .inl (fun z9 => nI (sk z9)))), ((mq 11), .inl (cI, 8, .inl (fun z9 => nI (sz z9))))] (0) (0) (fun r w => r = nI (cls (kat sk sz f) (b = 1) (sz f + 12 - (k + 1)) (k + 1) 0) ∧ w = [(mo, .inr (6, [.ref (mq 0), .ref (mq 1), .ref (mq 2), .ref (mq 3), .int (nI n), .ref (mq 5), .ref (mq 6), .int (nI F), .ref (mq 8), .ref (mq 9), .ref (mq 10), .ref (mq 11), .ref (mq 12), .ref (mq 13), .ref (mq 14), .ref (mq 15), .ref (mq 16), .ref (mq 17), .ref (mq 18), .ref (mq 19), .ref (mq 20), .ref (mq 21), .ref (mq 22), .int (nI dp)])), ((mq 8), .inl (cI, 96, .inl (fun z9 => nI (sk z9)))), ((mq 11), .inl (cI, 8, .inl (fun z9 => nI (sz z9))))]) := by
  intro sz
  refine Met.ofW (cc := b_M_close) (maxL := 7) (ret := (some .int)) (by decide) rfl ?_
  intro p ev9 s m args below meth c s₁ B9 hml hv
  obtain ⟨rfl, hsz, hP, hK, hN, hD0⟩ := hv
  have hx := B9.exec
  have hb := B9.bytes
  have hr := B9.returns
  have hts := atoms_spec (ws := w_M_close) B9.pre
  have ht : ∀ w ∈ gk_big, w.before _ s = true := fun w h => hts w (List.mem_cons_of_mem _ h)
  have hown : s.vm.findClass R_M = some m.cls := findClass_of_methodNamed B9.named
  have hlocks := B9.notSynchronized
  subst hsz
  have hD := hD0.self (sz := s.heap.size)
  generalize hAe : va_A [(mo, .inr (6, [.ref (mq 0), .ref (mq 1), .ref (mq 2), .ref (mq 3), .int (nI n), .ref (mq 5), .ref (mq 6), .int (nI F), .ref (mq 8), .ref (mq 9), .ref (mq 10), .ref (mq 11), .ref (mq 12), .ref (mq 13), .ref (mq 14), .ref (mq 15), .ref (mq 16), .ref (mq 17), .ref (mq 18), .ref (mq 19), .ref (mq 20), .ref (mq 21), .ref (mq 22), .int (nI dp)])), ((mq 8), .inl (cI, 96, .inl (fun z9 => nI (sk z9)))), ((mq 11), .inl (cI, 8, .inl (fun z9 => nI (sz z9))))] s.heap.size = A at hD ⊢
  have hA : ∀ q : Nat, s.heap.size ≤ q → A q := fun q h => by rw [← hAe]; exact Or.inr h
  generalize hHe : s.heap = H at hP ⊢
  have hS : va_S A s.heap H [] := by rw [← hHe]; exact va_S.rf
  have hP : va_P D vwCl [(mo, .inr (6, [.ref (mq 0), .ref (mq 1), .ref (mq 2), .ref (mq 3), .int (nI n), .ref (mq 5), .ref (mq 6), .int (nI F), .ref (mq 8), .ref (mq 9), .ref (mq 10), .ref (mq 11), .ref (mq 12), .ref (mq 13), .ref (mq 14), .ref (mq 15), .ref (mq 16), .ref (mq 17), .ref (mq 18), .ref (mq 19), .ref (mq 20), .ref (mq 21), .ref (mq 22), .int (nI dp)])), ((mq 8), .inl (cI, 96, .inl (fun z9 => nI (sk z9)))), ((mq 11), .inl (cI, 8, .inl (fun z9 => nI (sz z9))))] H := hP
  have hD : va_D A [(mo, .inr (6, [.ref (mq 0), .ref (mq 1), .ref (mq 2), .ref (mq 3), .int (nI n), .ref (mq 5), .ref (mq 6), .int (nI F), .ref (mq 8), .ref (mq 9), .ref (mq 10), .ref (mq 11), .ref (mq 12), .ref (mq 13), .ref (mq 14), .ref (mq 15), .ref (mq 16), .ref (mq 17), .ref (mq 18), .ref (mq 19), .ref (mq 20), .ref (mq 21), .ref (mq 22), .int (nI dp)])), ((mq 8), .inl (cI, 96, .inl (fun z9 => nI (sk z9)))), ((mq 11), .inl (cI, 8, .inl (fun z9 => nI (sz z9))))] := hD
  have hl := lv_entry ([.ref mo, .int (nI f), .int (nI k), .int (nI b)]) (n := 7) (Nat.le_of_ble_eq_true rfl)
  rw [lg_entry_eq]
  generalize (lg_sl ([.ref mo, .int (nI f), .int (nI k), .int (nI b)]) ++ List.replicate (7 - (lg_sl ([.ref mo, .int (nI f), .int (nI k), .int (nI b)])).length) Slot.unset).toArray = ls at hl ⊢
  have hl : lv_has ls 7 [(0, .ref mo), (1, .int (nI f)), (2, .int (nI k)), (3, .int (nI b))] := hl
  have hkl := fun j => kat_le (sz := sz) hsk f j
  have hszf := hsz f
  refine lv_iconst (v := 0) hx hb dM_close_0 (by decide) ?_
  refine lv_istore (lv' := [(4, .int 0), (0, .ref mo), (1, .int (nI f)), (2, .int (nI k)), (3, .int (nI b))]) hx hb dM_close_1 hl (by decide) rfl (fun ls hl => ?_)
  refine lv_iload_n hx hb dM_close_3 rfl (lv_at hl 3 rfl) ?_
  refine lv_iconst (v := 1) hx hb dM_close_4 (by decide) ?_
  refine lv_iadd hx hb dM_close_5 ?_
  refine lv_topi (fun v5 e5 => ?_)
  have n5 : v5 = nI (k + 1) := by rw [e5]; exact gx_add (rfl : (nI k) = (nI k)) (rfl : (1 : Int32) = nI 1)
  subst n5
  refine lv_istore (lv' := [(5, .int (nI (k + 1))), (4, .int 0), (0, .ref mo), (1, .int (nI f)), (2, .int (nI k)), (3, .int (nI b))]) hx hb dM_close_6 hl (by decide) rfl (fun ls hl => ?_)
  have lp8 : ∀ (n8 : Nat) (j : Nat) (d : Nat), sz f + 12 - j + 1 ≤ n8 → (j ≤ sz f + 12) → (d ≤ j) → (cls (kat sk sz f) (b = 1) (sz f + 12 - j) j d = cls (kat sk sz f) (b = 1) (sz f + 12 - (k + 1)) (k + 1) 0) → ∀ (H : Heap) (locs : List Loc) (ls : Array Slot), va_P D vwCl [(mo, .inr (6, [.ref (mq 0), .ref (mq 1), .ref (mq 2), .ref (mq 3), .int (nI n), .ref (mq 5), .ref (mq 6), .int (nI F), .ref (mq 8), .ref (mq 9), .ref (mq 10), .ref (mq 11), .ref (mq 12), .ref (mq 13), .ref (mq 14), .ref (mq 15), .ref (mq 16), .ref (mq 17), .ref (mq 18), .ref (mq 19), .ref (mq 20), .ref (mq 21), .ref (mq 22), .int (nI dp)])), ((mq 8), .inl (cI, 96, .inl (fun z9 => nI (sk z9)))), ((mq 11), .inl (cI, 8, .inl (fun z9 => nI (sz z9))))] H → va_D A [(mo, .inr (6, [.ref (mq 0), .ref (mq 1), .ref (mq 2), .ref (mq 3), .int (nI n), .ref (mq 5), .ref (mq 6), .int (nI F), .ref (mq 8), .ref (mq 9), .ref (mq 10), .ref (mq 11), .ref (mq 12), .ref (mq 13), .ref (mq 14), .ref (mq 15), .ref (mq 16), .ref (mq 17), .ref (mq 18), .ref (mq 19), .ref (mq 20), .ref (mq 21), .ref (mq 22), .int (nI dp)])), ((mq 8), .inl (cI, 96, .inl (fun z9 => nI (sk z9)))), ((mq 11), .inl (cI, 8, .inl (fun z9 => nI (sz z9))))] → va_S A s.heap H locs → lv_has ls 7 [(5, .int (nI j)), (4, .int (nI d)), (0, .ref mo), (1, .int (nI f)), (2, .int (nI k)), (3, .int (nI b))] → W p l ev9 (headSpec w_M_close ({ frames := 1, cells := 0, slots := 0, locals := 22 })).room s m ([.ref mo, .int (nI f), .int (nI k), .int (nI b)] : List Value).toArray below meth c H locs 0 0 (MQ below (gq_I D A (fun r w => r = nI (cls (kat sk sz f) (b = 1) (sz f + 12 - (k + 1)) (k + 1) 0) ∧ w = [(mo, .inr (6, [.ref (mq 0), .ref (mq 1), .ref (mq 2), .ref (mq 3), .int (nI n), .ref (mq 5), .ref (mq 6), .int (nI F), .ref (mq 8), .ref (mq 9), .ref (mq 10), .ref (mq 11), .ref (mq 12), .ref (mq 13), .ref (mq 14), .ref (mq 15), .ref (mq 16), .ref (mq 17), .ref (mq 18), .ref (mq 19), .ref (mq 20), .ref (mq 21), .ref (mq 22), .int (nI dp)])), ((mq 8), .inl (cI, 96, .inl (fun z9 => nI (sk z9)))), ((mq 11), .inl (cI, 8, .inl (fun z9 => nI (sz z9))))])) ([.ref mo, .int (nI f), .int (nI k), .int (nI b)] : List Value).toArray s (0) (0) A) (F0 m 8 ls []) := by
    intro n8
    induction n8 with
    | zero =>
      intro j d hm8
      exact absurd hm8 (by omega)
    | succ n8 ih8 =>
      intro j d hm8 hj hd hcl H locs ls hP hD hS hl
      refine lv_iload hx hb dM_close_8 (lv_at hl 0 rfl) ?_
      refine lv_aload_n hx hb dM_close_10 rfl (lv_at hl 2 rfl) ?_
      refine va_get (D := D) (ci := 6) (v := .ref (mq 11)) (C := R_M) (T := F_M) (N := 24) hx hb ht i_M hown hK hP 0 rfl rfl 11 (by decide) (ht _ m_465) (fun _ h9 => h9) rfl dM_close_11 ?_
      refine lv_iload_n hx hb dM_close_14 rfl (lv_at hl 3 rfl) ?_
      have i15 : vp_in (nI f) 8 := gx_in (rfl : (nI f) = (nI f)) (by omega) (by decide)
      have k15 : ((nI f) : Int32).toNatClampNeg = f := gx_cl (rfl : (nI f) = (nI f)) (by omega)
      refine va_iald hx hb hK hP 2 0 rfl rfl i15 dM_close_15 ?_
      rw [k15]
      refine lv_topi (fun v15 e15 => ?_)
      have n15 : v15 = nI (sz f) := e15
      subst n15
      refine lv_bipush (v := 12) hx hb dM_close_16 (by decide) ?_
      refine lv_iadd hx hb dM_close_18 ?_
      refine lv_topi (fun v18 e18 => ?_)
      have n18 : v18 = nI ((sz f) + 12) := by rw [e18]; exact gx_add (rfl : (nI (sz f)) = (nI (sz f))) (rfl : (12 : Int32) = nI 12)
      subst n18
      refine lv_icmp_ge (tgt := 81) hx hb dM_close_19 (by decide) (fun c19 => ?_) (fun c19 => ?_)
      · have g19 : ((sz f) + 12) ≤ j := (gx_le (rfl : (nI ((sz f) + 12)) = (nI ((sz f) + 12))) (rfl : (nI j) = (nI j)) (by omega) (by omega)).mp c19
        refine lv_aload_n hx hb dM_close_81 rfl (lv_at hl 2 rfl) ?_
        refine va_get (D := D) (ci := 6) (v := .ref (mq 11)) (C := R_M) (T := F_M) (N := 24) hx hb ht i_M hown hK hP 0 rfl rfl 11 (by decide) (ht _ m_465) (fun _ h9 => h9) rfl dM_close_82 ?_
        refine lv_iload_n hx hb dM_close_85 rfl (lv_at hl 3 rfl) ?_
        have i86 : vp_in (nI f) 8 := gx_in (rfl : (nI f) = (nI f)) (by omega) (by decide)
        have k86 : ((nI f) : Int32).toNatClampNeg = f := gx_cl (rfl : (nI f) = (nI f)) (by omega)
        refine va_iald hx hb hK hP 2 0 rfl rfl i86 dM_close_86 ?_
        rw [k86]
        refine lv_topi (fun v86 e86 => ?_)
        have n86 : v86 = nI (sz f) := e86
        subst n86
        refine lv_bipush (v := 12) hx hb dM_close_87 (by decide) ?_
        refine lv_iadd hx hb dM_close_89 ?_
        refine lv_topi (fun v89 e89 => ?_)
        have n89 : v89 = nI ((sz f) + 12) := by rw [e89]; exact gx_add (rfl : (nI (sz f)) = (nI (sz f))) (rfl : (12 : Int32) = nI 12)
        subst n89
        exact W.iret (v := (nI ((sz f) + 12))) hx hb hr (fun t9 ht9 hW => ⟨⟨(nI ((sz f) + 12)), _, rfl, ⟨by rw [← hcl, show sz f + 12 - j = 0 by omega, show cls (kat sk sz f) (b = 1) 0 j d = j from rfl, show j = sz f + 12 by omega], rfl⟩, by rw [ht9]; exact hP, hD⟩, hS.F ht9⟩) hS.2.2 dM_close_90
      · have g19 : ¬ (((sz f) + 12) ≤ j) := fun z => c19 ((gx_le (rfl : (nI ((sz f) + 12)) = (nI ((sz f) + 12))) (rfl : (nI j) = (nI j)) (by omega) (by omega)).mpr z)
        refine lv_aload_n hx hb dM_close_22 rfl (lv_at hl 2 rfl) ?_
        refine lv_iload_n hx hb dM_close_23 rfl (lv_at hl 3 rfl) ?_
        refine lv_iload hx hb dM_close_24 (lv_at hl 0 rfl) ?_
        refine gc_i (va_runV (As := [.int (nI f), .int (nI j)]) (rest := []) ⟨hx, hb, hml, hown, ht⟩ (c_M_kindAt l D cI cJ cB cZ mo mq n F dp sk sz f j (by omega) (by omega) hsz H.size) (cwV 2 ht (gw_V m_574 m_576 ms_22 m_6 m_577) rfl rfl rfl (by decide +kernel) ⟨Nat.le_of_ble_eq_true rfl, Nat.le_of_ble_eq_true rfl⟩) (gp_V (ci := 6) (q0 := 0) hK hN (hP.sub (ws' := [(mo, .inr (6, [.ref (mq 0), .ref (mq 1), .ref (mq 2), .ref (mq 3), .int (nI n), .ref (mq 5), .ref (mq 6), .int (nI F), .ref (mq 8), .ref (mq 9), .ref (mq 10), .ref (mq 11), .ref (mq 12), .ref (mq 13), .ref (mq 14), .ref (mq 15), .ref (mq 16), .ref (mq 17), .ref (mq 18), .ref (mq 19), .ref (mq 20), .ref (mq 21), .ref (mq 22), .int (nI dp)])), ((mq 8), .inl (cI, 96, .inl (fun z9 => nI (sk z9)))), ((mq 11), .inl (cI, 8, .inl (fun z9 => nI (sz z9))))]) [0, 1, 2] rfl) (hD.sub (ws' := [(mo, .inr (6, [.ref (mq 0), .ref (mq 1), .ref (mq 2), .ref (mq 3), .int (nI n), .ref (mq 5), .ref (mq 6), .int (nI F), .ref (mq 8), .ref (mq 9), .ref (mq 10), .ref (mq 11), .ref (mq 12), .ref (mq 13), .ref (mq 14), .ref (mq 15), .ref (mq 16), .ref (mq 17), .ref (mq 18), .ref (mq 19), .ref (mq 20), .ref (mq 21), .ref (mq 22), .int (nI dp)])), ((mq 8), .inl (cI, 96, .inl (fun z9 => nI (sk z9)))), ((mq 11), .inl (cI, 8, .inl (fun z9 => nI (sz z9))))]) [0, 1, 2] (by decide) rfl) rfl rfl) rfl rfl hl.1 rfl (lv_room (Nat.le_of_ble_eq_true rfl)) dM_close_26 ⟨Nat.le_of_ble_eq_true rfl, Nat.le_of_ble_eq_true rfl⟩) hP hD hS hA [0, 1, 2] rfl (by decide) (fun r w h => by obtain ⟨_, rfl⟩ := h; rfl) (fun r26 w26 H locs p26 hP hD hS => ?_)
        obtain ⟨rfl, rfl⟩ := p26
        have hkl26 := kat_le (sz := sz) hsk f j
        have hP : va_P D vwCl [(mo, .inr (6, [.ref (mq 0), .ref (mq 1), .ref (mq 2), .ref (mq 3), .int (nI n), .ref (mq 5), .ref (mq 6), .int (nI F), .ref (mq 8), .ref (mq 9), .ref (mq 10), .ref (mq 11), .ref (mq 12), .ref (mq 13), .ref (mq 14), .ref (mq 15), .ref (mq 16), .ref (mq 17), .ref (mq 18), .ref (mq 19), .ref (mq 20), .ref (mq 21), .ref (mq 22), .int (nI dp)])), ((mq 8), .inl (cI, 96, .inl (fun z9 => nI (sk z9)))), ((mq 11), .inl (cI, 8, .inl (fun z9 => nI (sz z9))))] H := hP
        have hD : va_D A [(mo, .inr (6, [.ref (mq 0), .ref (mq 1), .ref (mq 2), .ref (mq 3), .int (nI n), .ref (mq 5), .ref (mq 6), .int (nI F), .ref (mq 8), .ref (mq 9), .ref (mq 10), .ref (mq 11), .ref (mq 12), .ref (mq 13), .ref (mq 14), .ref (mq 15), .ref (mq 16), .ref (mq 17), .ref (mq 18), .ref (mq 19), .ref (mq 20), .ref (mq 21), .ref (mq 22), .int (nI dp)])), ((mq 8), .inl (cI, 96, .inl (fun z9 => nI (sk z9)))), ((mq 11), .inl (cI, 8, .inl (fun z9 => nI (sz z9))))] := hD
        refine lv_istore (lv' := [(6, .int (nI (kat sk sz f j))), (5, .int (nI j)), (4, .int (nI d)), (0, .ref mo), (1, .int (nI f)), (2, .int (nI k)), (3, .int (nI b))]) hx hb dM_close_29 hl (by decide) rfl (fun ls hl => ?_)
        refine lv_iload hx hb dM_close_31 (lv_at hl 2 rfl) ?_
        refine lv_if_ne (tgt := 55) hx hb dM_close_33 (by decide) (fun c33 => ?_) (fun c33 => ?_)
        · have g33 : ¬ (d = 0) := fun z => c33 ((gx_eq (rfl : (nI d) = (nI d)) (rfl : (0 : Int32) = nI 0) (by omega) (by decide)).mpr z)
          refine lv_iload hx hb dM_close_55 (lv_at hl 0 rfl) ?_
          refine lv_iconst (v := 5) hx hb dM_close_57 (by decide) ?_
          refine lv_icmp_ne (tgt := 64) hx hb dM_close_58 (by decide) (fun c58 => ?_) (fun c58 => ?_)
          · have g58 : ¬ ((kat sk sz f j) = 5) := fun z => c58 ((gx_eq (rfl : (nI (kat sk sz f j)) = (nI (kat sk sz f j))) (rfl : (5 : Int32) = nI 5) (by omega) (by decide)).mpr z)
            refine lv_iload hx hb dM_close_64 (lv_at hl 0 rfl) ?_
            refine gc_i (va_runS (As := [.int (nI (kat sk sz f j))]) (rest := []) ⟨hx, hb, hml, hown, ht⟩ (c_M_opens l D cI cJ cB cZ (kat sk sz f j) (by omega) H.size) (va_cwS 1 ht (gw_S m_578 m_579 m_6 m_580) rfl rfl rfl (by decide +kernel) ⟨Nat.le_of_ble_eq_true rfl, Nat.le_of_ble_eq_true rfl⟩) (gp_S hK hN (hP.sub (ws' := ([] : va_W)) [] rfl) (hD.sub (ws' := ([] : va_W)) [] (by decide) rfl)) rfl rfl hl.1 rfl (lv_room (Nat.le_of_ble_eq_true rfl)) dM_close_66 ⟨Nat.le_of_ble_eq_true rfl, Nat.le_of_ble_eq_true rfl⟩) hP hD hS hA [] rfl (by decide) (fun r w h => by obtain ⟨_, rfl⟩ := h; rfl) (fun r66 w66 H locs p66 hP hD hS => ?_)
            obtain ⟨rfl, rfl⟩ := p66
            have hP : va_P D vwCl [(mo, .inr (6, [.ref (mq 0), .ref (mq 1), .ref (mq 2), .ref (mq 3), .int (nI n), .ref (mq 5), .ref (mq 6), .int (nI F), .ref (mq 8), .ref (mq 9), .ref (mq 10), .ref (mq 11), .ref (mq 12), .ref (mq 13), .ref (mq 14), .ref (mq 15), .ref (mq 16), .ref (mq 17), .ref (mq 18), .ref (mq 19), .ref (mq 20), .ref (mq 21), .ref (mq 22), .int (nI dp)])), ((mq 8), .inl (cI, 96, .inl (fun z9 => nI (sk z9)))), ((mq 11), .inl (cI, 8, .inl (fun z9 => nI (sz z9))))] H := hP
            have hD : va_D A [(mo, .inr (6, [.ref (mq 0), .ref (mq 1), .ref (mq 2), .ref (mq 3), .int (nI n), .ref (mq 5), .ref (mq 6), .int (nI F), .ref (mq 8), .ref (mq 9), .ref (mq 10), .ref (mq 11), .ref (mq 12), .ref (mq 13), .ref (mq 14), .ref (mq 15), .ref (mq 16), .ref (mq 17), .ref (mq 18), .ref (mq 19), .ref (mq 20), .ref (mq 21), .ref (mq 22), .int (nI dp)])), ((mq 8), .inl (cI, 96, .inl (fun z9 => nI (sk z9)))), ((mq 11), .inl (cI, 8, .inl (fun z9 => nI (sz z9))))] := hD
            refine lv_if_eq (tgt := 75) hx hb dM_close_69 (by decide) (fun c69 => ?_) (fun c69 => ?_)
            · refine lv_iinc (v := (nI (j + 1))) (lv' := [(5, .int (nI (j + 1))), (6, .int (nI (kat sk sz f j))), (4, .int (nI d)), (0, .ref mo), (1, .int (nI f)), (2, .int (nI k)), (3, .int (nI b))]) hx hb dM_close_75 hl (k := 1) rfl (gx_inc (rfl : (nI j) = (nI j))) (by decide) rfl (fun ls hl => ?_)
              refine lv_goto (tgt := 8) hx hb dM_close_78 (by decide) ?_
              exact ih8 (j + 1) d (by omega) (by omega) (by omega) (by rw [← hcl, cls_step (N := sz f + 12) (j := j) (d := d) (by omega), if_neg (fun z => g33 z.1)]; rw [if_neg (gb_1.mp c69)]; rw [if_neg g58]) _ _ _ hP hD hS (lv_sub hl [0, 2, 3, 4, 5, 6] rfl)
            · refine lv_iinc (v := (nI (d + 1))) (lv' := [(4, .int (nI (d + 1))), (6, .int (nI (kat sk sz f j))), (5, .int (nI j)), (0, .ref mo), (1, .int (nI f)), (2, .int (nI k)), (3, .int (nI b))]) hx hb dM_close_72 hl (k := 2) rfl (gx_inc (rfl : (nI d) = (nI d))) (by decide) rfl (fun ls hl => ?_)
              refine lv_iinc (v := (nI (j + 1))) (lv' := [(5, .int (nI (j + 1))), (4, .int (nI (d + 1))), (6, .int (nI (kat sk sz f j))), (0, .ref mo), (1, .int (nI f)), (2, .int (nI k)), (3, .int (nI b))]) hx hb dM_close_75 hl (k := 2) rfl (gx_inc (rfl : (nI j) = (nI j))) (by decide) rfl (fun ls hl => ?_)
              refine lv_goto (tgt := 8) hx hb dM_close_78 (by decide) ?_
              exact ih8 (j + 1) (d + 1) (by omega) (by omega) (by omega) (by rw [← hcl, cls_step (N := sz f + 12) (j := j) (d := d) (by omega), if_neg (fun z => g33 z.1)]; rw [if_pos (gb_0 c69)]) _ _ _ hP hD hS (lv_sub hl [0, 1, 3, 4, 5, 6] rfl)
          · have g58 : (kat sk sz f j) = 5 := (gx_eq (rfl : (nI (kat sk sz f j)) = (nI (kat sk sz f j))) (rfl : (5 : Int32) = nI 5) (by omega) (by decide)).mp c58
            refine lv_iinc (v := (nI (d - 1))) (lv' := [(4, .int (nI (d - 1))), (6, .int (nI (kat sk sz f j))), (5, .int (nI j)), (0, .ref mo), (1, .int (nI f)), (2, .int (nI k)), (3, .int (nI b))]) hx hb dM_close_61 hl (k := 2) rfl (gx_dec1 (rfl : (nI d) = (nI d)) (by omega)) (by decide) rfl (fun ls hl => ?_)
            refine lv_iload hx hb dM_close_64 (lv_at hl 1 rfl) ?_
            refine gc_i (va_runS (As := [.int (nI (kat sk sz f j))]) (rest := []) ⟨hx, hb, hml, hown, ht⟩ (c_M_opens l D cI cJ cB cZ (kat sk sz f j) (by omega) H.size) (va_cwS 1 ht (gw_S m_578 m_579 m_6 m_580) rfl rfl rfl (by decide +kernel) ⟨Nat.le_of_ble_eq_true rfl, Nat.le_of_ble_eq_true rfl⟩) (gp_S hK hN (hP.sub (ws' := ([] : va_W)) [] rfl) (hD.sub (ws' := ([] : va_W)) [] (by decide) rfl)) rfl rfl hl.1 rfl (lv_room (Nat.le_of_ble_eq_true rfl)) dM_close_66 ⟨Nat.le_of_ble_eq_true rfl, Nat.le_of_ble_eq_true rfl⟩) hP hD hS hA [] rfl (by decide) (fun r w h => by obtain ⟨_, rfl⟩ := h; rfl) (fun r66 w66 H locs p66 hP hD hS => ?_)
            obtain ⟨rfl, rfl⟩ := p66
            have hP : va_P D vwCl [(mo, .inr (6, [.ref (mq 0), .ref (mq 1), .ref (mq 2), .ref (mq 3), .int (nI n), .ref (mq 5), .ref (mq 6), .int (nI F), .ref (mq 8), .ref (mq 9), .ref (mq 10), .ref (mq 11), .ref (mq 12), .ref (mq 13), .ref (mq 14), .ref (mq 15), .ref (mq 16), .ref (mq 17), .ref (mq 18), .ref (mq 19), .ref (mq 20), .ref (mq 21), .ref (mq 22), .int (nI dp)])), ((mq 8), .inl (cI, 96, .inl (fun z9 => nI (sk z9)))), ((mq 11), .inl (cI, 8, .inl (fun z9 => nI (sz z9))))] H := hP
            have hD : va_D A [(mo, .inr (6, [.ref (mq 0), .ref (mq 1), .ref (mq 2), .ref (mq 3), .int (nI n), .ref (mq 5), .ref (mq 6), .int (nI F), .ref (mq 8), .ref (mq 9), .ref (mq 10), .ref (mq 11), .ref (mq 12), .ref (mq 13), .ref (mq 14), .ref (mq 15), .ref (mq 16), .ref (mq 17), .ref (mq 18), .ref (mq 19), .ref (mq 20), .ref (mq 21), .ref (mq 22), .int (nI dp)])), ((mq 8), .inl (cI, 96, .inl (fun z9 => nI (sk z9)))), ((mq 11), .inl (cI, 8, .inl (fun z9 => nI (sz z9))))] := hD
            refine lv_if_eq (tgt := 75) hx hb dM_close_69 (by decide) (fun c69 => ?_) (fun c69 => ?_)
            · refine lv_iinc (v := (nI (j + 1))) (lv' := [(5, .int (nI (j + 1))), (4, .int (nI (d - 1))), (6, .int (nI (kat sk sz f j))), (0, .ref mo), (1, .int (nI f)), (2, .int (nI k)), (3, .int (nI b))]) hx hb dM_close_75 hl (k := 2) rfl (gx_inc (rfl : (nI j) = (nI j))) (by decide) rfl (fun ls hl => ?_)
              refine lv_goto (tgt := 8) hx hb dM_close_78 (by decide) ?_
              exact ih8 (j + 1) (d - 1) (by omega) (by omega) (by omega) (by rw [← hcl, cls_step (N := sz f + 12) (j := j) (d := d) (by omega), if_neg (fun z => g33 z.1)]; rw [if_neg (gb_1.mp c69)]; rw [if_pos g58]) _ _ _ hP hD hS (lv_sub hl [0, 1, 3, 4, 5, 6] rfl)
            · exact absurd (gb_0 c69) (by rw [g58]; unfold opn; omega)
        · have g33 : d = 0 := (gx_eq (rfl : (nI d) = (nI d)) (rfl : (0 : Int32) = nI 0) (by omega) (by decide)).mp c33
          refine lv_iload hx hb dM_close_36 (lv_at hl 0 rfl) ?_
          refine lv_iconst (v := 5) hx hb dM_close_38 (by decide) ?_
          refine lv_icmp_eq (tgt := 52) hx hb dM_close_39 (by decide) (fun c39 => ?_) (fun c39 => ?_)
          · have g39 : (kat sk sz f j) = 5 := (gx_eq (rfl : (nI (kat sk sz f j)) = (nI (kat sk sz f j))) (rfl : (5 : Int32) = nI 5) (by omega) (by decide)).mp c39
            refine lv_iload hx hb dM_close_52 (lv_at hl 1 rfl) ?_
            exact W.iret (v := (nI j)) hx hb hr (fun t9 ht9 hW => ⟨⟨(nI j), _, rfl, ⟨by rw [← hcl, cls_step (N := sz f + 12) (j := j) (d := d) (by omega), if_pos ⟨by omega, Or.inl g39⟩], rfl⟩, by rw [ht9]; exact hP, hD⟩, hS.F ht9⟩) hS.2.2 dM_close_54
          · have g39 : ¬ ((kat sk sz f j) = 5) := fun z => c39 ((gx_eq (rfl : (nI (kat sk sz f j)) = (nI (kat sk sz f j))) (rfl : (5 : Int32) = nI 5) (by omega) (by decide)).mpr z)
            refine lv_iload hx hb dM_close_42 (lv_at hl 0 rfl) ?_
            refine lv_iconst (v := 3) hx hb dM_close_44 (by decide) ?_
            refine lv_icmp_ne (tgt := 55) hx hb dM_close_45 (by decide) (fun c45 => ?_) (fun c45 => ?_)
            · have g45 : ¬ ((kat sk sz f j) = 3) := fun z => c45 ((gx_eq (rfl : (nI (kat sk sz f j)) = (nI (kat sk sz f j))) (rfl : (3 : Int32) = nI 3) (by omega) (by decide)).mpr z)
              refine lv_iload hx hb dM_close_55 (lv_at hl 0 rfl) ?_
              refine lv_iconst (v := 5) hx hb dM_close_57 (by decide) ?_
              refine lv_icmp_ne (tgt := 64) hx hb dM_close_58 (by decide) (fun c58 => ?_) (fun c58 => ?_)
              · have g58 : ¬ ((kat sk sz f j) = 5) := fun z => c58 ((gx_eq (rfl : (nI (kat sk sz f j)) = (nI (kat sk sz f j))) (rfl : (5 : Int32) = nI 5) (by omega) (by decide)).mpr z)
                refine lv_iload hx hb dM_close_64 (lv_at hl 0 rfl) ?_
                refine gc_i (va_runS (As := [.int (nI (kat sk sz f j))]) (rest := []) ⟨hx, hb, hml, hown, ht⟩ (c_M_opens l D cI cJ cB cZ (kat sk sz f j) (by omega) H.size) (va_cwS 1 ht (gw_S m_578 m_579 m_6 m_580) rfl rfl rfl (by decide +kernel) ⟨Nat.le_of_ble_eq_true rfl, Nat.le_of_ble_eq_true rfl⟩) (gp_S hK hN (hP.sub (ws' := ([] : va_W)) [] rfl) (hD.sub (ws' := ([] : va_W)) [] (by decide) rfl)) rfl rfl hl.1 rfl (lv_room (Nat.le_of_ble_eq_true rfl)) dM_close_66 ⟨Nat.le_of_ble_eq_true rfl, Nat.le_of_ble_eq_true rfl⟩) hP hD hS hA [] rfl (by decide) (fun r w h => by obtain ⟨_, rfl⟩ := h; rfl) (fun r66 w66 H locs p66 hP hD hS => ?_)
                obtain ⟨rfl, rfl⟩ := p66
                have hP : va_P D vwCl [(mo, .inr (6, [.ref (mq 0), .ref (mq 1), .ref (mq 2), .ref (mq 3), .int (nI n), .ref (mq 5), .ref (mq 6), .int (nI F), .ref (mq 8), .ref (mq 9), .ref (mq 10), .ref (mq 11), .ref (mq 12), .ref (mq 13), .ref (mq 14), .ref (mq 15), .ref (mq 16), .ref (mq 17), .ref (mq 18), .ref (mq 19), .ref (mq 20), .ref (mq 21), .ref (mq 22), .int (nI dp)])), ((mq 8), .inl (cI, 96, .inl (fun z9 => nI (sk z9)))), ((mq 11), .inl (cI, 8, .inl (fun z9 => nI (sz z9))))] H := hP
                have hD : va_D A [(mo, .inr (6, [.ref (mq 0), .ref (mq 1), .ref (mq 2), .ref (mq 3), .int (nI n), .ref (mq 5), .ref (mq 6), .int (nI F), .ref (mq 8), .ref (mq 9), .ref (mq 10), .ref (mq 11), .ref (mq 12), .ref (mq 13), .ref (mq 14), .ref (mq 15), .ref (mq 16), .ref (mq 17), .ref (mq 18), .ref (mq 19), .ref (mq 20), .ref (mq 21), .ref (mq 22), .int (nI dp)])), ((mq 8), .inl (cI, 96, .inl (fun z9 => nI (sk z9)))), ((mq 11), .inl (cI, 8, .inl (fun z9 => nI (sz z9))))] := hD
                refine lv_if_eq (tgt := 75) hx hb dM_close_69 (by decide) (fun c69 => ?_) (fun c69 => ?_)
                · refine lv_iinc (v := (nI (j + 1))) (lv' := [(5, .int (nI (j + 1))), (6, .int (nI (kat sk sz f j))), (4, .int (nI d)), (0, .ref mo), (1, .int (nI f)), (2, .int (nI k)), (3, .int (nI b))]) hx hb dM_close_75 hl (k := 1) rfl (gx_inc (rfl : (nI j) = (nI j))) (by decide) rfl (fun ls hl => ?_)
                  refine lv_goto (tgt := 8) hx hb dM_close_78 (by decide) ?_
                  exact ih8 (j + 1) d (by omega) (by omega) (by omega) (by rw [← hcl, cls_step (N := sz f + 12) (j := j) (d := d) (by omega), if_neg (fun z => by rcases z.2 with y | y; exact g39 y; exact g45 y.1)]; rw [if_neg (gb_1.mp c69)]; rw [if_neg g58]) _ _ _ hP hD hS (lv_sub hl [0, 2, 3, 4, 5, 6] rfl)
                · refine lv_iinc (v := (nI (d + 1))) (lv' := [(4, .int (nI (d + 1))), (6, .int (nI (kat sk sz f j))), (5, .int (nI j)), (0, .ref mo), (1, .int (nI f)), (2, .int (nI k)), (3, .int (nI b))]) hx hb dM_close_72 hl (k := 2) rfl (gx_inc (rfl : (nI d) = (nI d))) (by decide) rfl (fun ls hl => ?_)
                  refine lv_iinc (v := (nI (j + 1))) (lv' := [(5, .int (nI (j + 1))), (4, .int (nI (d + 1))), (6, .int (nI (kat sk sz f j))), (0, .ref mo), (1, .int (nI f)), (2, .int (nI k)), (3, .int (nI b))]) hx hb dM_close_75 hl (k := 2) rfl (gx_inc (rfl : (nI j) = (nI j))) (by decide) rfl (fun ls hl => ?_)
                  refine lv_goto (tgt := 8) hx hb dM_close_78 (by decide) ?_
                  exact ih8 (j + 1) (d + 1) (by omega) (by omega) (by omega) (by rw [← hcl, cls_step (N := sz f + 12) (j := j) (d := d) (by omega), if_neg (fun z => by rcases z.2 with y | y; exact g39 y; exact g45 y.1)]; rw [if_pos (gb_0 c69)]) _ _ _ hP hD hS (lv_sub hl [0, 1, 3, 4, 5, 6] rfl)
              · have g58 : (kat sk sz f j) = 5 := (gx_eq (rfl : (nI (kat sk sz f j)) = (nI (kat sk sz f j))) (rfl : (5 : Int32) = nI 5) (by omega) (by decide)).mp c58
                exact absurd g58 g39
            · have g45 : (kat sk sz f j) = 3 := (gx_eq (rfl : (nI (kat sk sz f j)) = (nI (kat sk sz f j))) (rfl : (3 : Int32) = nI 3) (by omega) (by decide)).mp c45
              refine lv_iload_n hx hb dM_close_48 rfl (lv_at hl 6 rfl) ?_
              refine lv_if_eq (tgt := 55) hx hb dM_close_49 (by decide) (fun c49 => ?_) (fun c49 => ?_)
              · have g49 : b = 0 := (gx_eq (rfl : (nI b) = (nI b)) (rfl : (0 : Int32) = nI 0) (by omega) (by decide)).mp c49
                have g49b : ¬ b = 1 := by omega
                refine lv_iload hx hb dM_close_55 (lv_at hl 0 rfl) ?_
                refine lv_iconst (v := 5) hx hb dM_close_57 (by decide) ?_
                refine lv_icmp_ne (tgt := 64) hx hb dM_close_58 (by decide) (fun c58 => ?_) (fun c58 => ?_)
                · have g58 : ¬ ((kat sk sz f j) = 5) := fun z => c58 ((gx_eq (rfl : (nI (kat sk sz f j)) = (nI (kat sk sz f j))) (rfl : (5 : Int32) = nI 5) (by omega) (by decide)).mpr z)
                  refine lv_iload hx hb dM_close_64 (lv_at hl 0 rfl) ?_
                  refine gc_i (va_runS (As := [.int (nI (kat sk sz f j))]) (rest := []) ⟨hx, hb, hml, hown, ht⟩ (c_M_opens l D cI cJ cB cZ (kat sk sz f j) (by omega) H.size) (va_cwS 1 ht (gw_S m_578 m_579 m_6 m_580) rfl rfl rfl (by decide +kernel) ⟨Nat.le_of_ble_eq_true rfl, Nat.le_of_ble_eq_true rfl⟩) (gp_S hK hN (hP.sub (ws' := ([] : va_W)) [] rfl) (hD.sub (ws' := ([] : va_W)) [] (by decide) rfl)) rfl rfl hl.1 rfl (lv_room (Nat.le_of_ble_eq_true rfl)) dM_close_66 ⟨Nat.le_of_ble_eq_true rfl, Nat.le_of_ble_eq_true rfl⟩) hP hD hS hA [] rfl (by decide) (fun r w h => by obtain ⟨_, rfl⟩ := h; rfl) (fun r66 w66 H locs p66 hP hD hS => ?_)
                  obtain ⟨rfl, rfl⟩ := p66
                  have hP : va_P D vwCl [(mo, .inr (6, [.ref (mq 0), .ref (mq 1), .ref (mq 2), .ref (mq 3), .int (nI n), .ref (mq 5), .ref (mq 6), .int (nI F), .ref (mq 8), .ref (mq 9), .ref (mq 10), .ref (mq 11), .ref (mq 12), .ref (mq 13), .ref (mq 14), .ref (mq 15), .ref (mq 16), .ref (mq 17), .ref (mq 18), .ref (mq 19), .ref (mq 20), .ref (mq 21), .ref (mq 22), .int (nI dp)])), ((mq 8), .inl (cI, 96, .inl (fun z9 => nI (sk z9)))), ((mq 11), .inl (cI, 8, .inl (fun z9 => nI (sz z9))))] H := hP
                  have hD : va_D A [(mo, .inr (6, [.ref (mq 0), .ref (mq 1), .ref (mq 2), .ref (mq 3), .int (nI n), .ref (mq 5), .ref (mq 6), .int (nI F), .ref (mq 8), .ref (mq 9), .ref (mq 10), .ref (mq 11), .ref (mq 12), .ref (mq 13), .ref (mq 14), .ref (mq 15), .ref (mq 16), .ref (mq 17), .ref (mq 18), .ref (mq 19), .ref (mq 20), .ref (mq 21), .ref (mq 22), .int (nI dp)])), ((mq 8), .inl (cI, 96, .inl (fun z9 => nI (sk z9)))), ((mq 11), .inl (cI, 8, .inl (fun z9 => nI (sz z9))))] := hD
                  refine lv_if_eq (tgt := 75) hx hb dM_close_69 (by decide) (fun c69 => ?_) (fun c69 => ?_)
                  · refine lv_iinc (v := (nI (j + 1))) (lv' := [(5, .int (nI (j + 1))), (6, .int (nI (kat sk sz f j))), (4, .int (nI d)), (0, .ref mo), (1, .int (nI f)), (2, .int (nI k)), (3, .int (nI b))]) hx hb dM_close_75 hl (k := 1) rfl (gx_inc (rfl : (nI j) = (nI j))) (by decide) rfl (fun ls hl => ?_)
                    refine lv_goto (tgt := 8) hx hb dM_close_78 (by decide) ?_
                    exact ih8 (j + 1) d (by omega) (by omega) (by omega) (by rw [← hcl, cls_step (N := sz f + 12) (j := j) (d := d) (by omega), if_neg (fun z => by rcases z.2 with y | y; exact g39 y; exact g49b y.2)]; rw [if_neg (gb_1.mp c69)]; rw [if_neg g58]) _ _ _ hP hD hS (lv_sub hl [0, 2, 3, 4, 5, 6] rfl)
                  · refine lv_iinc (v := (nI (d + 1))) (lv' := [(4, .int (nI (d + 1))), (6, .int (nI (kat sk sz f j))), (5, .int (nI j)), (0, .ref mo), (1, .int (nI f)), (2, .int (nI k)), (3, .int (nI b))]) hx hb dM_close_72 hl (k := 2) rfl (gx_inc (rfl : (nI d) = (nI d))) (by decide) rfl (fun ls hl => ?_)
                    refine lv_iinc (v := (nI (j + 1))) (lv' := [(5, .int (nI (j + 1))), (4, .int (nI (d + 1))), (6, .int (nI (kat sk sz f j))), (0, .ref mo), (1, .int (nI f)), (2, .int (nI k)), (3, .int (nI b))]) hx hb dM_close_75 hl (k := 2) rfl (gx_inc (rfl : (nI j) = (nI j))) (by decide) rfl (fun ls hl => ?_)
                    refine lv_goto (tgt := 8) hx hb dM_close_78 (by decide) ?_
                    exact ih8 (j + 1) (d + 1) (by omega) (by omega) (by omega) (by rw [← hcl, cls_step (N := sz f + 12) (j := j) (d := d) (by omega), if_neg (fun z => by rcases z.2 with y | y; exact g39 y; exact g49b y.2)]; rw [if_pos (gb_0 c69)]) _ _ _ hP hD hS (lv_sub hl [0, 1, 3, 4, 5, 6] rfl)
                · have g58 : (kat sk sz f j) = 5 := (gx_eq (rfl : (nI (kat sk sz f j)) = (nI (kat sk sz f j))) (rfl : (5 : Int32) = nI 5) (by omega) (by decide)).mp c58
                  exact absurd g58 g39
              · have g49 : ¬ (b = 0) := fun z => c49 ((gx_eq (rfl : (nI b) = (nI b)) (rfl : (0 : Int32) = nI 0) (by omega) (by decide)).mpr z)
                have g49b : b = 1 := by omega
                refine lv_iload hx hb dM_close_52 (lv_at hl 1 rfl) ?_
                exact W.iret (v := (nI j)) hx hb hr (fun t9 ht9 hW => ⟨⟨(nI j), _, rfl, ⟨by rw [← hcl, cls_step (N := sz f + 12) (j := j) (d := d) (by omega), if_pos ⟨by omega, Or.inr ⟨g45, g49b⟩⟩], rfl⟩, by rw [ht9]; exact hP, hD⟩, hS.F ht9⟩) hS.2.2 dM_close_54
  exact lp8 (sz f + 12 - (k + 1) + 1) (k + 1) 0 (by omega) (by omega) (by omega) rfl _ _ _ hP hD hS (lv_sub hl [0, 1, 2, 3, 4, 5] rfl)

set_option maxHeartbeats 4000000 in
set_option maxRecDepth 100000 in
theorem c_M_lacking (l : Launch) (D : va_G) (cI cJ cB cZ : ClassId) (mo : Nat) (mq : Nat → Nat) (n F dp : Nat) (sk sz : Nat → Nat) (f : Nat) (hf : f < 8) (hsz : ∀ i, sz i ≤ 12) (hsk : ∀ i, sk i ≤ 5) : ct_I l y_M_lacking w_M_lacking ({ frames := 1, cells := 0, slots := 0, locals := 20 }) D (gk_T cI cJ cB cZ) [.ref mo, .int (nI f)] [(mo, .inr (6, [.ref (mq 0), .ref (mq 1), .ref (mq 2), .ref (mq 3), .int (nI n), .ref (mq 5), .ref (mq 6), .int (nI F), .ref (mq 8), .ref (mq 9), .ref (mq 10), .ref (mq 11), .ref (mq 12), .ref (mq 13), .ref (mq 14), .ref (mq 15), .ref (mq 16), .ref (mq 17), .ref (mq 18), .ref (mq 19), .ref (mq 20), .ref (mq 21), .ref (mq 22), .int (nI dp)])), ((mq 8), .inl (cI, 96, .inl (fun z9 => nI (sk z9)))), ((mq 11), .inl (cI, 8, .inl (fun z9 => nI (sz z9))))] (0) (0) (fun r w => r = lk (fun k => sk (12 * f + k)) (sz f) ∧ w = [(mo, .inr (6, [.ref (mq 0), .ref (mq 1), .ref (mq 2), .ref (mq 3), .int (nI n), .ref (mq 5), .ref (mq 6), .int (nI F), .ref (mq 8), .ref (mq 9), .ref (mq 10), .ref (mq 11), .ref (mq 12), .ref (mq 13), .ref (mq 14), .ref (mq 15), .ref (mq 16), .ref (mq 17), .ref (mq 18), .ref (mq 19), .ref (mq 20), .ref (mq 21), .ref (mq 22), .int (nI dp)])), ((mq 8), .inl (cI, 96, .inl (fun z9 => nI (sk z9)))), ((mq 11), .inl (cI, 8, .inl (fun z9 => nI (sz z9))))]) := by
  intro sz
  refine Met.ofW (cc := b_M_lacking) (maxL := 4) (ret := (some .int)) (by decide) rfl ?_
  intro p ev9 s m args below meth c s₁ B9 hml hv
  obtain ⟨rfl, hsz, hP, hK, hN, hD0⟩ := hv
  have hx := B9.exec
  have hb := B9.bytes
  have hr := B9.returns
  have hts := atoms_spec (ws := w_M_lacking) B9.pre
  have ht : ∀ w ∈ gk_big, w.before _ s = true := fun w h => hts w (List.mem_cons_of_mem _ h)
  have hown : s.vm.findClass R_M = some m.cls := findClass_of_methodNamed B9.named
  have hlocks := B9.notSynchronized
  subst hsz
  have hD := hD0.self (sz := s.heap.size)
  generalize hAe : va_A [(mo, .inr (6, [.ref (mq 0), .ref (mq 1), .ref (mq 2), .ref (mq 3), .int (nI n), .ref (mq 5), .ref (mq 6), .int (nI F), .ref (mq 8), .ref (mq 9), .ref (mq 10), .ref (mq 11), .ref (mq 12), .ref (mq 13), .ref (mq 14), .ref (mq 15), .ref (mq 16), .ref (mq 17), .ref (mq 18), .ref (mq 19), .ref (mq 20), .ref (mq 21), .ref (mq 22), .int (nI dp)])), ((mq 8), .inl (cI, 96, .inl (fun z9 => nI (sk z9)))), ((mq 11), .inl (cI, 8, .inl (fun z9 => nI (sz z9))))] s.heap.size = A at hD ⊢
  have hA : ∀ q : Nat, s.heap.size ≤ q → A q := fun q h => by rw [← hAe]; exact Or.inr h
  generalize hHe : s.heap = H at hP ⊢
  have hS : va_S A s.heap H [] := by rw [← hHe]; exact va_S.rf
  have hP : va_P D vwCl [(mo, .inr (6, [.ref (mq 0), .ref (mq 1), .ref (mq 2), .ref (mq 3), .int (nI n), .ref (mq 5), .ref (mq 6), .int (nI F), .ref (mq 8), .ref (mq 9), .ref (mq 10), .ref (mq 11), .ref (mq 12), .ref (mq 13), .ref (mq 14), .ref (mq 15), .ref (mq 16), .ref (mq 17), .ref (mq 18), .ref (mq 19), .ref (mq 20), .ref (mq 21), .ref (mq 22), .int (nI dp)])), ((mq 8), .inl (cI, 96, .inl (fun z9 => nI (sk z9)))), ((mq 11), .inl (cI, 8, .inl (fun z9 => nI (sz z9))))] H := hP
  have hD : va_D A [(mo, .inr (6, [.ref (mq 0), .ref (mq 1), .ref (mq 2), .ref (mq 3), .int (nI n), .ref (mq 5), .ref (mq 6), .int (nI F), .ref (mq 8), .ref (mq 9), .ref (mq 10), .ref (mq 11), .ref (mq 12), .ref (mq 13), .ref (mq 14), .ref (mq 15), .ref (mq 16), .ref (mq 17), .ref (mq 18), .ref (mq 19), .ref (mq 20), .ref (mq 21), .ref (mq 22), .int (nI dp)])), ((mq 8), .inl (cI, 96, .inl (fun z9 => nI (sk z9)))), ((mq 11), .inl (cI, 8, .inl (fun z9 => nI (sz z9))))] := hD
  have hl := lv_entry ([.ref mo, .int (nI f)]) (n := 4) (Nat.le_of_ble_eq_true rfl)
  rw [lg_entry_eq]
  generalize (lg_sl ([.ref mo, .int (nI f)]) ++ List.replicate (4 - (lg_sl ([.ref mo, .int (nI f)])).length) Slot.unset).toArray = ls at hl ⊢
  have hl : lv_has ls 4 [(0, .ref mo), (1, .int (nI f))] := hl
  have hszf := hsz f
  refine lv_iconst (v := 0) hx hb dM_lacking_0 (by decide) ?_
  refine lv_istore_n (lv' := [(2, .int 0), (0, .ref mo), (1, .int (nI f))]) hx hb dM_lacking_1 rfl hl (by decide) rfl (fun ls hl => ?_)
  refine lv_iconst (v := 0) hx hb dM_lacking_2 (by decide) ?_
  refine lv_istore_n (lv' := [(3, .int 0), (2, .int 0), (0, .ref mo), (1, .int (nI f))]) hx hb dM_lacking_3 rfl hl (by decide) rfl (fun ls hl => ?_)
  have lp4 : ∀ (n4 : Nat) (k : Nat) (v : Int32), sz f - k + 1 ≤ n4 → (k ≤ sz f) → (v = lk (fun k => sk (12 * f + k)) k) → ∀ (H : Heap) (locs : List Loc) (ls : Array Slot), va_P D vwCl [(mo, .inr (6, [.ref (mq 0), .ref (mq 1), .ref (mq 2), .ref (mq 3), .int (nI n), .ref (mq 5), .ref (mq 6), .int (nI F), .ref (mq 8), .ref (mq 9), .ref (mq 10), .ref (mq 11), .ref (mq 12), .ref (mq 13), .ref (mq 14), .ref (mq 15), .ref (mq 16), .ref (mq 17), .ref (mq 18), .ref (mq 19), .ref (mq 20), .ref (mq 21), .ref (mq 22), .int (nI dp)])), ((mq 8), .inl (cI, 96, .inl (fun z9 => nI (sk z9)))), ((mq 11), .inl (cI, 8, .inl (fun z9 => nI (sz z9))))] H → va_D A [(mo, .inr (6, [.ref (mq 0), .ref (mq 1), .ref (mq 2), .ref (mq 3), .int (nI n), .ref (mq 5), .ref (mq 6), .int (nI F), .ref (mq 8), .ref (mq 9), .ref (mq 10), .ref (mq 11), .ref (mq 12), .ref (mq 13), .ref (mq 14), .ref (mq 15), .ref (mq 16), .ref (mq 17), .ref (mq 18), .ref (mq 19), .ref (mq 20), .ref (mq 21), .ref (mq 22), .int (nI dp)])), ((mq 8), .inl (cI, 96, .inl (fun z9 => nI (sk z9)))), ((mq 11), .inl (cI, 8, .inl (fun z9 => nI (sz z9))))] → va_S A s.heap H locs → lv_has ls 4 [(3, .int (nI k)), (2, .int v), (0, .ref mo), (1, .int (nI f))] → W p l ev9 (headSpec w_M_lacking ({ frames := 1, cells := 0, slots := 0, locals := 20 })).room s m ([.ref mo, .int (nI f)] : List Value).toArray below meth c H locs 0 0 (MQ below (gq_I D A (fun r w => r = lk (fun k => sk (12 * f + k)) (sz f) ∧ w = [(mo, .inr (6, [.ref (mq 0), .ref (mq 1), .ref (mq 2), .ref (mq 3), .int (nI n), .ref (mq 5), .ref (mq 6), .int (nI F), .ref (mq 8), .ref (mq 9), .ref (mq 10), .ref (mq 11), .ref (mq 12), .ref (mq 13), .ref (mq 14), .ref (mq 15), .ref (mq 16), .ref (mq 17), .ref (mq 18), .ref (mq 19), .ref (mq 20), .ref (mq 21), .ref (mq 22), .int (nI dp)])), ((mq 8), .inl (cI, 96, .inl (fun z9 => nI (sk z9)))), ((mq 11), .inl (cI, 8, .inl (fun z9 => nI (sz z9))))])) ([.ref mo, .int (nI f)] : List Value).toArray s (0) (0) A) (F0 m 4 ls []) := by
    intro n4
    induction n4 with
    | zero =>
      intro k v hm4
      exact absurd hm4 (by omega)
    | succ n4 ih4 =>
      intro k v hm4 hk hv H locs ls hP hD hS hl
      have hskk := hsk (12 * f + k)
      refine lv_iload_n hx hb dM_lacking_4 rfl (lv_at hl 0 rfl) ?_
      refine lv_aload_n hx hb dM_lacking_5 rfl (lv_at hl 2 rfl) ?_
      refine va_get (D := D) (ci := 6) (v := .ref (mq 11)) (C := R_M) (T := F_M) (N := 24) hx hb ht i_M hown hK hP 0 rfl rfl 11 (by decide) (ht _ m_465) (fun _ h9 => h9) rfl dM_lacking_6 ?_
      refine lv_iload_n hx hb dM_lacking_9 rfl (lv_at hl 3 rfl) ?_
      have i10 : vp_in (nI f) 8 := gx_in (rfl : (nI f) = (nI f)) (by omega) (by decide)
      have k10 : ((nI f) : Int32).toNatClampNeg = f := gx_cl (rfl : (nI f) = (nI f)) (by omega)
      refine va_iald hx hb hK hP 2 0 rfl rfl i10 dM_lacking_10 ?_
      rw [k10]
      refine lv_topi (fun v10 e10 => ?_)
      have n10 : v10 = nI (sz f) := e10
      subst n10
      refine lv_icmp_ge (tgt := 64) hx hb dM_lacking_11 (by decide) (fun c11 => ?_) (fun c11 => ?_)
      · have g11 : (sz f) ≤ k := (gx_le (rfl : (nI (sz f)) = (nI (sz f))) (rfl : (nI k) = (nI k)) (by omega) (by omega)).mp c11
        refine lv_iload_n hx hb dM_lacking_64 rfl (lv_at hl 1 rfl) ?_
        exact W.iret (v := v) hx hb hr (fun t9 ht9 hW => ⟨⟨v, _, rfl, ⟨by rw [hv, show k = sz f by omega], rfl⟩, by rw [ht9]; exact hP, hD⟩, hS.F ht9⟩) hS.2.2 dM_lacking_65
      · have g11 : ¬ ((sz f) ≤ k) := fun z => c11 ((gx_le (rfl : (nI (sz f)) = (nI (sz f))) (rfl : (nI k) = (nI k)) (by omega) (by omega)).mpr z)
        refine lv_iload_n hx hb dM_lacking_14 rfl (lv_at hl 1 rfl) ?_
        refine lv_aload_n hx hb dM_lacking_15 rfl (lv_at hl 2 rfl) ?_
        refine va_get (D := D) (ci := 6) (v := .ref (mq 8)) (C := R_M) (T := F_M) (N := 24) hx hb ht i_M hown hK hP 0 rfl rfl 8 (by decide) (ht _ m_462) (fun _ h9 => h9) rfl dM_lacking_16 ?_
        refine lv_bipush (v := 12) hx hb dM_lacking_19 (by decide) ?_
        refine lv_iload_n hx hb dM_lacking_21 rfl (lv_at hl 3 rfl) ?_
        refine lv_imul hx hb dM_lacking_22 ?_
        refine lv_topi (fun v22 e22 => ?_)
        have n22 : v22 = nI (12 * f) := by rw [e22]; exact gx_mul (rfl : (12 : Int32) = nI 12) (rfl : (nI f) = (nI f))
        subst n22
        refine lv_iload_n hx hb dM_lacking_23 rfl (lv_at hl 0 rfl) ?_
        refine lv_iadd hx hb dM_lacking_24 ?_
        refine lv_topi (fun v24 e24 => ?_)
        have n24 : v24 = nI ((12 * f) + k) := by rw [e24]; exact gx_add (rfl : (nI (12 * f)) = (nI (12 * f))) (rfl : (nI k) = (nI k))
        subst n24
        have i25 : vp_in (nI ((12 * f) + k)) 96 := gx_in (rfl : (nI ((12 * f) + k)) = (nI ((12 * f) + k))) (by omega) (by decide)
        have k25 : ((nI ((12 * f) + k)) : Int32).toNatClampNeg = ((12 * f) + k) := gx_cl (rfl : (nI ((12 * f) + k)) = (nI ((12 * f) + k))) (by omega)
        refine va_iald hx hb hK hP 1 0 rfl rfl i25 dM_lacking_25 ?_
        rw [k25]
        refine lv_topi (fun v25 e25 => ?_)
        have n25 : v25 = nI (sk ((12 * f) + k)) := e25
        subst n25
        refine gc_i (va_runS (As := [.int (nI (sk ((12 * f) + k)))]) (rest := [.int v]) ⟨hx, hb, hml, hown, ht⟩ (c_M_opens l D cI cJ cB cZ (sk ((12 * f) + k)) (by omega) H.size) (va_cwS 1 ht (gw_S m_578 m_579 m_6 m_580) rfl rfl rfl (by decide +kernel) ⟨Nat.le_of_ble_eq_true rfl, Nat.le_of_ble_eq_true rfl⟩) (gp_S hK hN (hP.sub (ws' := ([] : va_W)) [] rfl) (hD.sub (ws' := ([] : va_W)) [] (by decide) rfl)) rfl rfl hl.1 rfl (lv_room (Nat.le_of_ble_eq_true rfl)) dM_lacking_26 ⟨Nat.le_of_ble_eq_true rfl, Nat.le_of_ble_eq_true rfl⟩) hP hD hS hA [] rfl (by decide) (fun r w h => by obtain ⟨_, rfl⟩ := h; rfl) (fun r26 w26 H locs p26 hP hD hS => ?_)
        obtain ⟨rfl, rfl⟩ := p26
        have hP : va_P D vwCl [(mo, .inr (6, [.ref (mq 0), .ref (mq 1), .ref (mq 2), .ref (mq 3), .int (nI n), .ref (mq 5), .ref (mq 6), .int (nI F), .ref (mq 8), .ref (mq 9), .ref (mq 10), .ref (mq 11), .ref (mq 12), .ref (mq 13), .ref (mq 14), .ref (mq 15), .ref (mq 16), .ref (mq 17), .ref (mq 18), .ref (mq 19), .ref (mq 20), .ref (mq 21), .ref (mq 22), .int (nI dp)])), ((mq 8), .inl (cI, 96, .inl (fun z9 => nI (sk z9)))), ((mq 11), .inl (cI, 8, .inl (fun z9 => nI (sz z9))))] H := hP
        have hD : va_D A [(mo, .inr (6, [.ref (mq 0), .ref (mq 1), .ref (mq 2), .ref (mq 3), .int (nI n), .ref (mq 5), .ref (mq 6), .int (nI F), .ref (mq 8), .ref (mq 9), .ref (mq 10), .ref (mq 11), .ref (mq 12), .ref (mq 13), .ref (mq 14), .ref (mq 15), .ref (mq 16), .ref (mq 17), .ref (mq 18), .ref (mq 19), .ref (mq 20), .ref (mq 21), .ref (mq 22), .int (nI dp)])), ((mq 8), .inl (cI, 96, .inl (fun z9 => nI (sk z9)))), ((mq 11), .inl (cI, 8, .inl (fun z9 => nI (sz z9))))] := hD
        refine lv_if_eq (tgt := 36) hx hb dM_lacking_29 (by decide) (fun c29 => ?_) (fun c29 => ?_)
        · refine lv_aload_n hx hb dM_lacking_36 rfl (lv_at hl 2 rfl) ?_
          refine va_get (D := D) (ci := 6) (v := .ref (mq 8)) (C := R_M) (T := F_M) (N := 24) hx hb ht i_M hown hK hP 0 rfl rfl 8 (by decide) (ht _ m_462) (fun _ h9 => h9) rfl dM_lacking_37 ?_
          refine lv_bipush (v := 12) hx hb dM_lacking_40 (by decide) ?_
          refine lv_iload_n hx hb dM_lacking_42 rfl (lv_at hl 3 rfl) ?_
          refine lv_imul hx hb dM_lacking_43 ?_
          refine lv_topi (fun v43 e43 => ?_)
          have n43 : v43 = nI (12 * f) := by rw [e43]; exact gx_mul (rfl : (12 : Int32) = nI 12) (rfl : (nI f) = (nI f))
          subst n43
          refine lv_iload_n hx hb dM_lacking_44 rfl (lv_at hl 0 rfl) ?_
          refine lv_iadd hx hb dM_lacking_45 ?_
          refine lv_topi (fun v45 e45 => ?_)
          have n45 : v45 = nI ((12 * f) + k) := by rw [e45]; exact gx_add (rfl : (nI (12 * f)) = (nI (12 * f))) (rfl : (nI k) = (nI k))
          subst n45
          have i46 : vp_in (nI ((12 * f) + k)) 96 := gx_in (rfl : (nI ((12 * f) + k)) = (nI ((12 * f) + k))) (by omega) (by decide)
          have k46 : ((nI ((12 * f) + k)) : Int32).toNatClampNeg = ((12 * f) + k) := gx_cl (rfl : (nI ((12 * f) + k)) = (nI ((12 * f) + k))) (by omega)
          refine va_iald hx hb hK hP 1 0 rfl rfl i46 dM_lacking_46 ?_
          rw [k46]
          refine lv_topi (fun v46 e46 => ?_)
          have n46 : v46 = nI (sk ((12 * f) + k)) := e46
          subst n46
          refine lv_iconst (v := 5) hx hb dM_lacking_47 (by decide) ?_
          refine lv_icmp_ne (tgt := 55) hx hb dM_lacking_48 (by decide) (fun c48 => ?_) (fun c48 => ?_)
          · have g48 : ¬ ((sk ((12 * f) + k)) = 5) := fun z => c48 ((gx_eq (rfl : (nI (sk ((12 * f) + k))) = (nI (sk ((12 * f) + k)))) (rfl : (5 : Int32) = nI 5) (by omega) (by decide)).mpr z)
            refine lv_iconst (v := 0) hx hb dM_lacking_55 (by decide) ?_
            refine lv_iadd hx hb dM_lacking_56 ?_
            refine lv_topi (fun v56 e56 => ?_)
            refine lv_istore_n (lv' := [(2, .int v56), (3, .int (nI k)), (0, .ref mo), (1, .int (nI f))]) hx hb dM_lacking_57 rfl hl (by decide) rfl (fun ls hl => ?_)
            refine lv_iinc (v := (nI (k + 1))) (lv' := [(3, .int (nI (k + 1))), (2, .int v56), (0, .ref mo), (1, .int (nI f))]) hx hb dM_lacking_58 hl (k := 1) rfl (gx_inc (rfl : (nI k) = (nI k))) (by decide) rfl (fun ls hl => ?_)
            refine lv_goto (tgt := 4) hx hb dM_lacking_61 (by decide) ?_
            exact ih4 (k + 1) v56 (by omega) (by omega) (by rw [e56, hv]; show _ = lk (fun k => sk (12 * f + k)) k + _; rw [if_neg (gb_1.mp c29), if_neg g48]) _ _ _ hP hD hS (lv_sub hl [0, 1, 2, 3] rfl)
          · have g48 : (sk ((12 * f) + k)) = 5 := (gx_eq (rfl : (nI (sk ((12 * f) + k))) = (nI (sk ((12 * f) + k)))) (rfl : (5 : Int32) = nI 5) (by omega) (by decide)).mp c48
            refine lv_iconst (v := (-1)) hx hb dM_lacking_51 (by decide) ?_
            refine lv_goto (tgt := 56) hx hb dM_lacking_52 (by decide) ?_
            refine lv_iadd hx hb dM_lacking_56 ?_
            refine lv_topi (fun v56 e56 => ?_)
            refine lv_istore_n (lv' := [(2, .int v56), (3, .int (nI k)), (0, .ref mo), (1, .int (nI f))]) hx hb dM_lacking_57 rfl hl (by decide) rfl (fun ls hl => ?_)
            refine lv_iinc (v := (nI (k + 1))) (lv' := [(3, .int (nI (k + 1))), (2, .int v56), (0, .ref mo), (1, .int (nI f))]) hx hb dM_lacking_58 hl (k := 1) rfl (gx_inc (rfl : (nI k) = (nI k))) (by decide) rfl (fun ls hl => ?_)
            refine lv_goto (tgt := 4) hx hb dM_lacking_61 (by decide) ?_
            exact ih4 (k + 1) v56 (by omega) (by omega) (by rw [e56, hv]; show _ = lk (fun k => sk (12 * f + k)) k + _; rw [if_neg (gb_1.mp c29), if_pos g48]) _ _ _ hP hD hS (lv_sub hl [0, 1, 2, 3] rfl)
        · refine lv_iconst (v := 1) hx hb dM_lacking_32 (by decide) ?_
          refine lv_goto (tgt := 56) hx hb dM_lacking_33 (by decide) ?_
          refine lv_iadd hx hb dM_lacking_56 ?_
          refine lv_topi (fun v56 e56 => ?_)
          refine lv_istore_n (lv' := [(2, .int v56), (3, .int (nI k)), (0, .ref mo), (1, .int (nI f))]) hx hb dM_lacking_57 rfl hl (by decide) rfl (fun ls hl => ?_)
          refine lv_iinc (v := (nI (k + 1))) (lv' := [(3, .int (nI (k + 1))), (2, .int v56), (0, .ref mo), (1, .int (nI f))]) hx hb dM_lacking_58 hl (k := 1) rfl (gx_inc (rfl : (nI k) = (nI k))) (by decide) rfl (fun ls hl => ?_)
          refine lv_goto (tgt := 4) hx hb dM_lacking_61 (by decide) ?_
          exact ih4 (k + 1) v56 (by omega) (by omega) (by rw [e56, hv]; show _ = lk (fun k => sk (12 * f + k)) k + _; rw [if_pos (gb_0 c29)]) _ _ _ hP hD hS (lv_sub hl [0, 1, 2, 3] rfl)
  exact lp4 (sz f - (0) + 1) 0 0 (by omega) (by omega) rfl _ _ _ hP hD hS (lv_sub hl [0, 1, 2, 3] rfl)

theorem ms_cl {K : Nat → Nat} {n j d : Nat} : cls K (1 = 1) n j d = cls K True n j d := by rw [show ((1 : Nat) = 1) = True from propext ⟨fun _ => trivial, fun _ => rfl⟩]
set_option maxHeartbeats 4000000 in
set_option maxRecDepth 100000 in
theorem c_M_misplaced (l : Launch) (D : va_G) (cI cJ cB cZ : ClassId) (mo : Nat) (mq : Nat → Nat) (n F dp : Nat) (sk sz : Nat → Nat) (f k : Nat) (hf : f < 8) (hk : k ≤ 5) (hsz : ∀ i, sz i ≤ 12) (hsk : ∀ i, sk i ≤ 5) : ct_I l y_M_misplaced w_M_misplaced ({ frames := 2, cells := 0, slots := 0, locals := 48 }) D (gk_T cI cJ cB cZ) [.ref mo, .int (nI f), .int (nI k)] [(mo, .inr (6, [.ref (mq 0), .ref (mq 1), .ref (mq 2), .ref (mq 3), .int (nI n), .ref (mq 5), .ref (mq 6), .int (nI F), .ref (mq 8), .ref (mq 9), .ref (mq 10), .ref (mq 11), .ref (mq 12), .ref (mq 13), .ref (mq 14), .ref (mq 15), .ref (mq 16), .ref (mq 17), .ref (mq 18), .ref (mq 19), .ref (mq 20), .ref (mq 21), .ref (mq 22), .int (nI dp)])), ((mq 8), .inl (cI, 96, .inl (fun z9 => nI (sk z9)))), ((mq 11), .inl (cI, 8, .inl (fun z9 => nI (sz z9))))] (0) (0) (fun r w => r = gb (msp (kat sk sz f) (sz f) k) ∧ w = [(mo, .inr (6, [.ref (mq 0), .ref (mq 1), .ref (mq 2), .ref (mq 3), .int (nI n), .ref (mq 5), .ref (mq 6), .int (nI F), .ref (mq 8), .ref (mq 9), .ref (mq 10), .ref (mq 11), .ref (mq 12), .ref (mq 13), .ref (mq 14), .ref (mq 15), .ref (mq 16), .ref (mq 17), .ref (mq 18), .ref (mq 19), .ref (mq 20), .ref (mq 21), .ref (mq 22), .int (nI dp)])), ((mq 8), .inl (cI, 96, .inl (fun z9 => nI (sk z9)))), ((mq 11), .inl (cI, 8, .inl (fun z9 => nI (sz z9))))]) := by
  intro sz
  refine Met.ofW (cc := b_M_misplaced) (maxL := 4) (ret := (some .boolean)) (by decide) rfl ?_
  intro p ev9 s m args below meth c s₁ B9 hml hv
  obtain ⟨rfl, hsz, hP, hK, hN, hD0⟩ := hv
  have hx := B9.exec
  have hb := B9.bytes
  have hr := B9.returns
  have hts := atoms_spec (ws := w_M_misplaced) B9.pre
  have ht : ∀ w ∈ gk_big, w.before _ s = true := fun w h => hts w (List.mem_cons_of_mem _ h)
  have hown : s.vm.findClass R_M = some m.cls := findClass_of_methodNamed B9.named
  have hlocks := B9.notSynchronized
  subst hsz
  have hD := hD0.self (sz := s.heap.size)
  generalize hAe : va_A [(mo, .inr (6, [.ref (mq 0), .ref (mq 1), .ref (mq 2), .ref (mq 3), .int (nI n), .ref (mq 5), .ref (mq 6), .int (nI F), .ref (mq 8), .ref (mq 9), .ref (mq 10), .ref (mq 11), .ref (mq 12), .ref (mq 13), .ref (mq 14), .ref (mq 15), .ref (mq 16), .ref (mq 17), .ref (mq 18), .ref (mq 19), .ref (mq 20), .ref (mq 21), .ref (mq 22), .int (nI dp)])), ((mq 8), .inl (cI, 96, .inl (fun z9 => nI (sk z9)))), ((mq 11), .inl (cI, 8, .inl (fun z9 => nI (sz z9))))] s.heap.size = A at hD ⊢
  have hA : ∀ q : Nat, s.heap.size ≤ q → A q := fun q h => by rw [← hAe]; exact Or.inr h
  generalize hHe : s.heap = H at hP ⊢
  have hS : va_S A s.heap H [] := by rw [← hHe]; exact va_S.rf
  have hP : va_P D vwCl [(mo, .inr (6, [.ref (mq 0), .ref (mq 1), .ref (mq 2), .ref (mq 3), .int (nI n), .ref (mq 5), .ref (mq 6), .int (nI F), .ref (mq 8), .ref (mq 9), .ref (mq 10), .ref (mq 11), .ref (mq 12), .ref (mq 13), .ref (mq 14), .ref (mq 15), .ref (mq 16), .ref (mq 17), .ref (mq 18), .ref (mq 19), .ref (mq 20), .ref (mq 21), .ref (mq 22), .int (nI dp)])), ((mq 8), .inl (cI, 96, .inl (fun z9 => nI (sk z9)))), ((mq 11), .inl (cI, 8, .inl (fun z9 => nI (sz z9))))] H := hP
  have hD : va_D A [(mo, .inr (6, [.ref (mq 0), .ref (mq 1), .ref (mq 2), .ref (mq 3), .int (nI n), .ref (mq 5), .ref (mq 6), .int (nI F), .ref (mq 8), .ref (mq 9), .ref (mq 10), .ref (mq 11), .ref (mq 12), .ref (mq 13), .ref (mq 14), .ref (mq 15), .ref (mq 16), .ref (mq 17), .ref (mq 18), .ref (mq 19), .ref (mq 20), .ref (mq 21), .ref (mq 22), .int (nI dp)])), ((mq 8), .inl (cI, 96, .inl (fun z9 => nI (sk z9)))), ((mq 11), .inl (cI, 8, .inl (fun z9 => nI (sz z9))))] := hD
  have hl := lv_entry ([.ref mo, .int (nI f), .int (nI k)]) (n := 4) (Nat.le_of_ble_eq_true rfl)
  rw [lg_entry_eq]
  generalize (lg_sl ([.ref mo, .int (nI f), .int (nI k)]) ++ List.replicate (4 - (lg_sl ([.ref mo, .int (nI f), .int (nI k)])).length) Slot.unset).toArray = ls at hl ⊢
  have hl : lv_has ls 4 [(0, .ref mo), (1, .int (nI f)), (2, .int (nI k))] := hl
  have hkl := fun j => kat_le (sz := sz) hsk f j
  have hszf := hsz f
  refine lv_iload_n hx hb dM_misplaced_0 rfl (lv_at hl 2 rfl) ?_
  refine lv_iconst (v := 3) hx hb dM_misplaced_1 (by decide) ?_
  refine lv_icmp_eq (tgt := 12) hx hb dM_misplaced_2 (by decide) (fun c2 => ?_) (fun c2 => ?_)
  · have g2 : k = 3 := (gx_eq (rfl : (nI k) = (nI k)) (rfl : (3 : Int32) = nI 3) (by omega) (by decide)).mp c2
    refine lv_aload_n hx hb dM_misplaced_12 rfl (lv_at hl 0 rfl) ?_
    refine lv_iload_n hx hb dM_misplaced_13 rfl (lv_at hl 1 rfl) ?_
    refine lv_aload_n hx hb dM_misplaced_14 rfl (lv_at hl 0 rfl) ?_
    refine va_get (D := D) (ci := 6) (v := .ref (mq 11)) (C := R_M) (T := F_M) (N := 24) hx hb ht i_M hown hK hP 0 rfl rfl 11 (by decide) (ht _ m_465) (fun _ h9 => h9) rfl dM_misplaced_15 ?_
    refine lv_iload_n hx hb dM_misplaced_18 rfl (lv_at hl 1 rfl) ?_
    have i19 : vp_in (nI f) 8 := gx_in (rfl : (nI f) = (nI f)) (by omega) (by decide)
    have k19 : ((nI f) : Int32).toNatClampNeg = f := gx_cl (rfl : (nI f) = (nI f)) (by omega)
    refine va_iald hx hb hK hP 2 0 rfl rfl i19 dM_misplaced_19 ?_
    rw [k19]
    refine lv_topi (fun v19 e19 => ?_)
    have n19 : v19 = nI (sz f) := e19
    subst n19
    refine gc_i (va_runV (As := [.int (nI f), .int (nI (sz f))]) (rest := []) ⟨hx, hb, hml, hown, ht⟩ (c_M_within l D cI cJ cB cZ mo mq n F dp sk sz f (sz f) (by omega) (by omega) hsz hsk H.size) (cwV 2 ht (gw_V m_570 m_572 ms_21 m_6 m_573) rfl rfl rfl (by decide +kernel) ⟨Nat.le_of_ble_eq_true rfl, Nat.le_of_ble_eq_true rfl⟩) (gp_V (ci := 6) (q0 := 0) hK hN (hP.sub (ws' := [(mo, .inr (6, [.ref (mq 0), .ref (mq 1), .ref (mq 2), .ref (mq 3), .int (nI n), .ref (mq 5), .ref (mq 6), .int (nI F), .ref (mq 8), .ref (mq 9), .ref (mq 10), .ref (mq 11), .ref (mq 12), .ref (mq 13), .ref (mq 14), .ref (mq 15), .ref (mq 16), .ref (mq 17), .ref (mq 18), .ref (mq 19), .ref (mq 20), .ref (mq 21), .ref (mq 22), .int (nI dp)])), ((mq 8), .inl (cI, 96, .inl (fun z9 => nI (sk z9)))), ((mq 11), .inl (cI, 8, .inl (fun z9 => nI (sz z9))))]) [0, 1, 2] rfl) (hD.sub (ws' := [(mo, .inr (6, [.ref (mq 0), .ref (mq 1), .ref (mq 2), .ref (mq 3), .int (nI n), .ref (mq 5), .ref (mq 6), .int (nI F), .ref (mq 8), .ref (mq 9), .ref (mq 10), .ref (mq 11), .ref (mq 12), .ref (mq 13), .ref (mq 14), .ref (mq 15), .ref (mq 16), .ref (mq 17), .ref (mq 18), .ref (mq 19), .ref (mq 20), .ref (mq 21), .ref (mq 22), .int (nI dp)])), ((mq 8), .inl (cI, 96, .inl (fun z9 => nI (sk z9)))), ((mq 11), .inl (cI, 8, .inl (fun z9 => nI (sz z9))))]) [0, 1, 2] (by decide) rfl) rfl rfl) rfl rfl hl.1 rfl (lv_room (Nat.le_of_ble_eq_true rfl)) dM_misplaced_20 ⟨Nat.le_of_ble_eq_true rfl, Nat.le_of_ble_eq_true rfl⟩) hP hD hS hA [0, 1, 2] rfl (by decide) (fun r w h => by obtain ⟨_, rfl⟩ := h; rfl) (fun r20 w20 H locs p20 hP hD hS => ?_)
    obtain ⟨rfl, rfl⟩ := p20
    have hP : va_P D vwCl [(mo, .inr (6, [.ref (mq 0), .ref (mq 1), .ref (mq 2), .ref (mq 3), .int (nI n), .ref (mq 5), .ref (mq 6), .int (nI F), .ref (mq 8), .ref (mq 9), .ref (mq 10), .ref (mq 11), .ref (mq 12), .ref (mq 13), .ref (mq 14), .ref (mq 15), .ref (mq 16), .ref (mq 17), .ref (mq 18), .ref (mq 19), .ref (mq 20), .ref (mq 21), .ref (mq 22), .int (nI dp)])), ((mq 8), .inl (cI, 96, .inl (fun z9 => nI (sk z9)))), ((mq 11), .inl (cI, 8, .inl (fun z9 => nI (sz z9))))] H := hP
    have hD : va_D A [(mo, .inr (6, [.ref (mq 0), .ref (mq 1), .ref (mq 2), .ref (mq 3), .int (nI n), .ref (mq 5), .ref (mq 6), .int (nI F), .ref (mq 8), .ref (mq 9), .ref (mq 10), .ref (mq 11), .ref (mq 12), .ref (mq 13), .ref (mq 14), .ref (mq 15), .ref (mq 16), .ref (mq 17), .ref (mq 18), .ref (mq 19), .ref (mq 20), .ref (mq 21), .ref (mq 22), .int (nI dp)])), ((mq 8), .inl (cI, 96, .inl (fun z9 => nI (sk z9)))), ((mq 11), .inl (cI, 8, .inl (fun z9 => nI (sz z9))))] := hD
    refine lv_istore_n (lv' := [(3, .int (oN (wi (kat sk sz f) (sz f) 0))), (0, .ref mo), (1, .int (nI f)), (2, .int (nI k))]) hx hb dM_misplaced_23 rfl hl (by decide) rfl (fun ls hl => ?_)
    rcases hoq : wi (kat sk sz f) (sz f) 0 with _ | j
    · rw [hoq] at hl
      have hl : lv_has ls 4 [(3, .int (-1)), (0, .ref mo), (1, .int (nI f)), (2, .int (nI k))] := hl
      refine lv_iload_n hx hb dM_misplaced_24 rfl (lv_at hl 0 rfl) ?_
      refine lv_if_lt (tgt := 33) hx hb dM_misplaced_25 (by decide) (fun c25 => ?_) (fun c25 => ?_)
      · refine lv_iload_n hx hb dM_misplaced_33 rfl (lv_at hl 0 rfl) ?_
        refine lv_if_ge (tgt := 41) hx hb dM_misplaced_34 (by decide) (fun c34 => ?_) (fun c34 => ?_)
        · refine lv_iconst (v := 0) hx hb dM_misplaced_41 (by decide) ?_
          exact absurd (by decide : (-1 : Int32) < 0) (Int32.not_lt.mpr c34)
        · refine lv_iconst (v := 1) hx hb dM_misplaced_37 (by decide) ?_
          refine lv_goto (tgt := 42) hx hb dM_misplaced_38 (by decide) ?_
          exact W.zret (v := 1) hx hb hr (by decide) (fun t9 ht9 hW => ⟨⟨1, _, rfl, ⟨gb_t ⟨Or.inl g2, fun j hj => by rw [hoq] at hj; cases hj⟩, rfl⟩, by rw [ht9]; exact hP, hD⟩, hS.F ht9⟩) hS.2.2 dM_misplaced_42
      · exact absurd (by decide : (-1 : Int32) < 0) c25
    · rw [hoq] at hl
      have hl : lv_has ls 4 [(3, .int (nI j)), (0, .ref mo), (1, .int (nI f)), (2, .int (nI k))] := hl
      have hj := wi_lt _ _ _ hoq
      refine lv_iload_n hx hb dM_misplaced_24 rfl (lv_at hl 0 rfl) ?_
      refine lv_if_lt (tgt := 33) hx hb dM_misplaced_25 (by decide) (fun c25 => ?_) (fun c25 => ?_)
      · have g25 : j < 0 := (gx_lt (rfl : (nI j) = (nI j)) (rfl : (0 : Int32) = nI 0) (by omega) (by decide)).mp c25
        exfalso; omega
      · have g25 : ¬ (j < 0) := fun z => c25 ((gx_lt (rfl : (nI j) = (nI j)) (rfl : (0 : Int32) = nI 0) (by omega) (by decide)).mpr z)
        refine lv_iload_n hx hb dM_misplaced_28 rfl (lv_at hl 3 rfl) ?_
        refine lv_iconst (v := 5) hx hb dM_misplaced_29 (by decide) ?_
        refine lv_icmp_ne (tgt := 43) hx hb dM_misplaced_30 (by decide) (fun c30 => ?_) (fun c30 => ?_)
        · have g30 : ¬ (k = 5) := fun z => c30 ((gx_eq (rfl : (nI k) = (nI k)) (rfl : (5 : Int32) = nI 5) (by omega) (by decide)).mpr z)
          refine lv_aload_n hx hb dM_misplaced_43 rfl (lv_at hl 1 rfl) ?_
          refine lv_iload_n hx hb dM_misplaced_44 rfl (lv_at hl 2 rfl) ?_
          refine lv_iload_n hx hb dM_misplaced_45 rfl (lv_at hl 0 rfl) ?_
          refine gc_i (va_runV (As := [.int (nI f), .int (nI j)]) (rest := []) ⟨hx, hb, hml, hown, ht⟩ (c_M_kindAt l D cI cJ cB cZ mo mq n F dp sk sz f j (by omega) (by omega) hsz H.size) (cwV 2 ht (gw_V m_574 m_576 ms_22 m_6 m_577) rfl rfl rfl (by decide +kernel) ⟨Nat.le_of_ble_eq_true rfl, Nat.le_of_ble_eq_true rfl⟩) (gp_V (ci := 6) (q0 := 0) hK hN (hP.sub (ws' := [(mo, .inr (6, [.ref (mq 0), .ref (mq 1), .ref (mq 2), .ref (mq 3), .int (nI n), .ref (mq 5), .ref (mq 6), .int (nI F), .ref (mq 8), .ref (mq 9), .ref (mq 10), .ref (mq 11), .ref (mq 12), .ref (mq 13), .ref (mq 14), .ref (mq 15), .ref (mq 16), .ref (mq 17), .ref (mq 18), .ref (mq 19), .ref (mq 20), .ref (mq 21), .ref (mq 22), .int (nI dp)])), ((mq 8), .inl (cI, 96, .inl (fun z9 => nI (sk z9)))), ((mq 11), .inl (cI, 8, .inl (fun z9 => nI (sz z9))))]) [0, 1, 2] rfl) (hD.sub (ws' := [(mo, .inr (6, [.ref (mq 0), .ref (mq 1), .ref (mq 2), .ref (mq 3), .int (nI n), .ref (mq 5), .ref (mq 6), .int (nI F), .ref (mq 8), .ref (mq 9), .ref (mq 10), .ref (mq 11), .ref (mq 12), .ref (mq 13), .ref (mq 14), .ref (mq 15), .ref (mq 16), .ref (mq 17), .ref (mq 18), .ref (mq 19), .ref (mq 20), .ref (mq 21), .ref (mq 22), .int (nI dp)])), ((mq 8), .inl (cI, 96, .inl (fun z9 => nI (sk z9)))), ((mq 11), .inl (cI, 8, .inl (fun z9 => nI (sz z9))))]) [0, 1, 2] (by decide) rfl) rfl rfl) rfl rfl hl.1 rfl (lv_room (Nat.le_of_ble_eq_true rfl)) dM_misplaced_46 ⟨Nat.le_of_ble_eq_true rfl, Nat.le_of_ble_eq_true rfl⟩) hP hD hS hA [0, 1, 2] rfl (by decide) (fun r w h => by obtain ⟨_, rfl⟩ := h; rfl) (fun r46 w46 H locs p46 hP hD hS => ?_)
          obtain ⟨rfl, rfl⟩ := p46
          have hkl46 := kat_le (sz := sz) hsk f j
          have hP : va_P D vwCl [(mo, .inr (6, [.ref (mq 0), .ref (mq 1), .ref (mq 2), .ref (mq 3), .int (nI n), .ref (mq 5), .ref (mq 6), .int (nI F), .ref (mq 8), .ref (mq 9), .ref (mq 10), .ref (mq 11), .ref (mq 12), .ref (mq 13), .ref (mq 14), .ref (mq 15), .ref (mq 16), .ref (mq 17), .ref (mq 18), .ref (mq 19), .ref (mq 20), .ref (mq 21), .ref (mq 22), .int (nI dp)])), ((mq 8), .inl (cI, 96, .inl (fun z9 => nI (sk z9)))), ((mq 11), .inl (cI, 8, .inl (fun z9 => nI (sz z9))))] H := hP
          have hD : va_D A [(mo, .inr (6, [.ref (mq 0), .ref (mq 1), .ref (mq 2), .ref (mq 3), .int (nI n), .ref (mq 5), .ref (mq 6), .int (nI F), .ref (mq 8), .ref (mq 9), .ref (mq 10), .ref (mq 11), .ref (mq 12), .ref (mq 13), .ref (mq 14), .ref (mq 15), .ref (mq 16), .ref (mq 17), .ref (mq 18), .ref (mq 19), .ref (mq 20), .ref (mq 21), .ref (mq 22), .int (nI dp)])), ((mq 8), .inl (cI, 96, .inl (fun z9 => nI (sk z9)))), ((mq 11), .inl (cI, 8, .inl (fun z9 => nI (sz z9))))] := hD
          refine lv_iconst (v := 2) hx hb dM_misplaced_49 (by decide) ?_
          refine lv_icmp_ne (tgt := 69) hx hb dM_misplaced_50 (by decide) (fun c50 => ?_) (fun c50 => ?_)
          · have g50 : ¬ ((kat sk sz f j) = 2) := fun z => c50 ((gx_eq (rfl : (nI (kat sk sz f j)) = (nI (kat sk sz f j))) (rfl : (2 : Int32) = nI 2) (by omega) (by decide)).mpr z)
            refine lv_iconst (v := 1) hx hb dM_misplaced_69 (by decide) ?_
            refine lv_goto (tgt := 74) hx hb dM_misplaced_70 (by decide) ?_
            exact W.zret (v := 1) hx hb hr (by decide) (fun t9 ht9 hW => ⟨⟨1, _, rfl, ⟨gb_t ⟨Or.inl g2, fun j2 hj2 => by rw [hoq] at hj2; cases hj2; exact ⟨by omega, Or.inl g50⟩⟩, rfl⟩, by rw [ht9]; exact hP, hD⟩, hS.F ht9⟩) hS.2.2 dM_misplaced_74
          · have g50 : (kat sk sz f j) = 2 := (gx_eq (rfl : (nI (kat sk sz f j)) = (nI (kat sk sz f j))) (rfl : (2 : Int32) = nI 2) (by omega) (by decide)).mp c50
            refine lv_aload_n hx hb dM_misplaced_53 rfl (lv_at hl 1 rfl) ?_
            refine lv_iload_n hx hb dM_misplaced_54 rfl (lv_at hl 2 rfl) ?_
            refine lv_iload_n hx hb dM_misplaced_55 rfl (lv_at hl 0 rfl) ?_
            refine lv_iconst (v := 1) hx hb dM_misplaced_56 (by decide) ?_
            refine gc_i (va_runV (As := [.int (nI f), .int (nI j), .int 1]) (rest := []) ⟨hx, hb, hml, hown, ht⟩ (c_M_close l D cI cJ cB cZ mo mq n F dp sk sz f j 1 (by omega) (by omega) (by omega) hsz hsk H.size) (cwV 3 ht (gw_V m_581 m_583 ms_23 m_6 m_584) rfl rfl rfl (by decide +kernel) ⟨Nat.le_of_ble_eq_true rfl, Nat.le_of_ble_eq_true rfl⟩) (gp_V (ci := 6) (q0 := 0) hK hN (hP.sub (ws' := [(mo, .inr (6, [.ref (mq 0), .ref (mq 1), .ref (mq 2), .ref (mq 3), .int (nI n), .ref (mq 5), .ref (mq 6), .int (nI F), .ref (mq 8), .ref (mq 9), .ref (mq 10), .ref (mq 11), .ref (mq 12), .ref (mq 13), .ref (mq 14), .ref (mq 15), .ref (mq 16), .ref (mq 17), .ref (mq 18), .ref (mq 19), .ref (mq 20), .ref (mq 21), .ref (mq 22), .int (nI dp)])), ((mq 8), .inl (cI, 96, .inl (fun z9 => nI (sk z9)))), ((mq 11), .inl (cI, 8, .inl (fun z9 => nI (sz z9))))]) [0, 1, 2] rfl) (hD.sub (ws' := [(mo, .inr (6, [.ref (mq 0), .ref (mq 1), .ref (mq 2), .ref (mq 3), .int (nI n), .ref (mq 5), .ref (mq 6), .int (nI F), .ref (mq 8), .ref (mq 9), .ref (mq 10), .ref (mq 11), .ref (mq 12), .ref (mq 13), .ref (mq 14), .ref (mq 15), .ref (mq 16), .ref (mq 17), .ref (mq 18), .ref (mq 19), .ref (mq 20), .ref (mq 21), .ref (mq 22), .int (nI dp)])), ((mq 8), .inl (cI, 96, .inl (fun z9 => nI (sk z9)))), ((mq 11), .inl (cI, 8, .inl (fun z9 => nI (sz z9))))]) [0, 1, 2] (by decide) rfl) rfl rfl) rfl rfl hl.1 rfl (lv_room (Nat.le_of_ble_eq_true rfl)) dM_misplaced_57 ⟨Nat.le_of_ble_eq_true rfl, Nat.le_of_ble_eq_true rfl⟩) hP hD hS hA [0, 1, 2] rfl (by decide) (fun r w h => by obtain ⟨_, rfl⟩ := h; rfl) (fun r57 w57 H locs p57 hP hD hS => ?_)
            obtain ⟨rfl, rfl⟩ := p57
            have hcl57 := cls_le (K := kat sk sz f) (oe := 1 = 1) (sz f + 12 - (j + 1)) (j + 1) 0
            have hP : va_P D vwCl [(mo, .inr (6, [.ref (mq 0), .ref (mq 1), .ref (mq 2), .ref (mq 3), .int (nI n), .ref (mq 5), .ref (mq 6), .int (nI F), .ref (mq 8), .ref (mq 9), .ref (mq 10), .ref (mq 11), .ref (mq 12), .ref (mq 13), .ref (mq 14), .ref (mq 15), .ref (mq 16), .ref (mq 17), .ref (mq 18), .ref (mq 19), .ref (mq 20), .ref (mq 21), .ref (mq 22), .int (nI dp)])), ((mq 8), .inl (cI, 96, .inl (fun z9 => nI (sk z9)))), ((mq 11), .inl (cI, 8, .inl (fun z9 => nI (sz z9))))] H := hP
            have hD : va_D A [(mo, .inr (6, [.ref (mq 0), .ref (mq 1), .ref (mq 2), .ref (mq 3), .int (nI n), .ref (mq 5), .ref (mq 6), .int (nI F), .ref (mq 8), .ref (mq 9), .ref (mq 10), .ref (mq 11), .ref (mq 12), .ref (mq 13), .ref (mq 14), .ref (mq 15), .ref (mq 16), .ref (mq 17), .ref (mq 18), .ref (mq 19), .ref (mq 20), .ref (mq 21), .ref (mq 22), .int (nI dp)])), ((mq 8), .inl (cI, 96, .inl (fun z9 => nI (sk z9)))), ((mq 11), .inl (cI, 8, .inl (fun z9 => nI (sz z9))))] := hD
            refine lv_aload_n hx hb dM_misplaced_60 rfl (lv_at hl 1 rfl) ?_
            refine va_get (D := D) (ci := 6) (v := .ref (mq 11)) (C := R_M) (T := F_M) (N := 24) hx hb ht i_M hown hK hP 0 rfl rfl 11 (by decide) (ht _ m_465) (fun _ h9 => h9) rfl dM_misplaced_61 ?_
            refine lv_iload_n hx hb dM_misplaced_64 rfl (lv_at hl 2 rfl) ?_
            have i65 : vp_in (nI f) 8 := gx_in (rfl : (nI f) = (nI f)) (by omega) (by decide)
            have k65 : ((nI f) : Int32).toNatClampNeg = f := gx_cl (rfl : (nI f) = (nI f)) (by omega)
            refine va_iald hx hb hK hP 2 0 rfl rfl i65 dM_misplaced_65 ?_
            rw [k65]
            refine lv_topi (fun v65 e65 => ?_)
            have n65 : v65 = nI (sz f) := e65
            subst n65
            refine lv_icmp_ge (tgt := 73) hx hb dM_misplaced_66 (by decide) (fun c66 => ?_) (fun c66 => ?_)
            · have g66 : (sz f) ≤ (cls (kat sk sz f) (1 = 1) (sz f + 12 - (j + 1)) (j + 1) 0) := (gx_le (rfl : (nI (sz f)) = (nI (sz f))) (rfl : (nI (cls (kat sk sz f) (1 = 1) (sz f + 12 - (j + 1)) (j + 1) 0)) = (nI (cls (kat sk sz f) (1 = 1) (sz f + 12 - (j + 1)) (j + 1) 0))) (by omega) (by omega)).mp c66
              refine lv_iconst (v := 0) hx hb dM_misplaced_73 (by decide) ?_
              exact W.zret (v := 0) hx hb hr (by decide) (fun t9 ht9 hW => ⟨⟨0, _, rfl, ⟨gb_f (fun z => by rcases (z.2 j hoq).2 with y | y; exact y g50; (rw [← ms_cl] at y; omega)), rfl⟩, by rw [ht9]; exact hP, hD⟩, hS.F ht9⟩) hS.2.2 dM_misplaced_74
            · have g66 : ¬ ((sz f) ≤ (cls (kat sk sz f) (1 = 1) (sz f + 12 - (j + 1)) (j + 1) 0)) := fun z => c66 ((gx_le (rfl : (nI (sz f)) = (nI (sz f))) (rfl : (nI (cls (kat sk sz f) (1 = 1) (sz f + 12 - (j + 1)) (j + 1) 0)) = (nI (cls (kat sk sz f) (1 = 1) (sz f + 12 - (j + 1)) (j + 1) 0))) (by omega) (by omega)).mpr z)
              refine lv_iconst (v := 1) hx hb dM_misplaced_69 (by decide) ?_
              refine lv_goto (tgt := 74) hx hb dM_misplaced_70 (by decide) ?_
              exact W.zret (v := 1) hx hb hr (by decide) (fun t9 ht9 hW => ⟨⟨1, _, rfl, ⟨gb_t ⟨Or.inl g2, fun j2 hj2 => by rw [hoq] at hj2; cases hj2; exact ⟨by omega, Or.inr (by rw [← ms_cl]; omega)⟩⟩, rfl⟩, by rw [ht9]; exact hP, hD⟩, hS.F ht9⟩) hS.2.2 dM_misplaced_74
        · have g30 : k = 5 := (gx_eq (rfl : (nI k) = (nI k)) (rfl : (5 : Int32) = nI 5) (by omega) (by decide)).mp c30
          refine lv_iload_n hx hb dM_misplaced_33 rfl (lv_at hl 0 rfl) ?_
          refine lv_if_ge (tgt := 41) hx hb dM_misplaced_34 (by decide) (fun c34 => ?_) (fun c34 => ?_)
          · have g34 : 0 ≤ j := (gx_le (rfl : (0 : Int32) = nI 0) (rfl : (nI j) = (nI j)) (by decide) (by omega)).mp c34
            refine lv_iconst (v := 0) hx hb dM_misplaced_41 (by decide) ?_
            exact W.zret (v := 0) hx hb hr (by decide) (fun t9 ht9 hW => ⟨⟨0, _, rfl, ⟨gb_f (fun z => by have := (z.2 j hoq).1; omega), rfl⟩, by rw [ht9]; exact hP, hD⟩, hS.F ht9⟩) hS.2.2 dM_misplaced_42
          · have g34 : ¬ (0 ≤ j) := fun z => c34 ((gx_le (rfl : (0 : Int32) = nI 0) (rfl : (nI j) = (nI j)) (by decide) (by omega)).mpr z)
            refine lv_iconst (v := 1) hx hb dM_misplaced_37 (by decide) ?_
            refine lv_goto (tgt := 42) hx hb dM_misplaced_38 (by decide) ?_
            exact absurd (Int32.not_le.mp c34) (nI_pos (by omega))
  · have g2 : ¬ (k = 3) := fun z => c2 ((gx_eq (rfl : (nI k) = (nI k)) (rfl : (3 : Int32) = nI 3) (by omega) (by decide)).mpr z)
    refine lv_iload_n hx hb dM_misplaced_5 rfl (lv_at hl 2 rfl) ?_
    refine lv_iconst (v := 5) hx hb dM_misplaced_6 (by decide) ?_
    refine lv_icmp_eq (tgt := 12) hx hb dM_misplaced_7 (by decide) (fun c7 => ?_) (fun c7 => ?_)
    · have g7 : k = 5 := (gx_eq (rfl : (nI k) = (nI k)) (rfl : (5 : Int32) = nI 5) (by omega) (by decide)).mp c7
      refine lv_aload_n hx hb dM_misplaced_12 rfl (lv_at hl 0 rfl) ?_
      refine lv_iload_n hx hb dM_misplaced_13 rfl (lv_at hl 1 rfl) ?_
      refine lv_aload_n hx hb dM_misplaced_14 rfl (lv_at hl 0 rfl) ?_
      refine va_get (D := D) (ci := 6) (v := .ref (mq 11)) (C := R_M) (T := F_M) (N := 24) hx hb ht i_M hown hK hP 0 rfl rfl 11 (by decide) (ht _ m_465) (fun _ h9 => h9) rfl dM_misplaced_15 ?_
      refine lv_iload_n hx hb dM_misplaced_18 rfl (lv_at hl 1 rfl) ?_
      have i19 : vp_in (nI f) 8 := gx_in (rfl : (nI f) = (nI f)) (by omega) (by decide)
      have k19 : ((nI f) : Int32).toNatClampNeg = f := gx_cl (rfl : (nI f) = (nI f)) (by omega)
      refine va_iald hx hb hK hP 2 0 rfl rfl i19 dM_misplaced_19 ?_
      rw [k19]
      refine lv_topi (fun v19 e19 => ?_)
      have n19 : v19 = nI (sz f) := e19
      subst n19
      refine gc_i (va_runV (As := [.int (nI f), .int (nI (sz f))]) (rest := []) ⟨hx, hb, hml, hown, ht⟩ (c_M_within l D cI cJ cB cZ mo mq n F dp sk sz f (sz f) (by omega) (by omega) hsz hsk H.size) (cwV 2 ht (gw_V m_570 m_572 ms_21 m_6 m_573) rfl rfl rfl (by decide +kernel) ⟨Nat.le_of_ble_eq_true rfl, Nat.le_of_ble_eq_true rfl⟩) (gp_V (ci := 6) (q0 := 0) hK hN (hP.sub (ws' := [(mo, .inr (6, [.ref (mq 0), .ref (mq 1), .ref (mq 2), .ref (mq 3), .int (nI n), .ref (mq 5), .ref (mq 6), .int (nI F), .ref (mq 8), .ref (mq 9), .ref (mq 10), .ref (mq 11), .ref (mq 12), .ref (mq 13), .ref (mq 14), .ref (mq 15), .ref (mq 16), .ref (mq 17), .ref (mq 18), .ref (mq 19), .ref (mq 20), .ref (mq 21), .ref (mq 22), .int (nI dp)])), ((mq 8), .inl (cI, 96, .inl (fun z9 => nI (sk z9)))), ((mq 11), .inl (cI, 8, .inl (fun z9 => nI (sz z9))))]) [0, 1, 2] rfl) (hD.sub (ws' := [(mo, .inr (6, [.ref (mq 0), .ref (mq 1), .ref (mq 2), .ref (mq 3), .int (nI n), .ref (mq 5), .ref (mq 6), .int (nI F), .ref (mq 8), .ref (mq 9), .ref (mq 10), .ref (mq 11), .ref (mq 12), .ref (mq 13), .ref (mq 14), .ref (mq 15), .ref (mq 16), .ref (mq 17), .ref (mq 18), .ref (mq 19), .ref (mq 20), .ref (mq 21), .ref (mq 22), .int (nI dp)])), ((mq 8), .inl (cI, 96, .inl (fun z9 => nI (sk z9)))), ((mq 11), .inl (cI, 8, .inl (fun z9 => nI (sz z9))))]) [0, 1, 2] (by decide) rfl) rfl rfl) rfl rfl hl.1 rfl (lv_room (Nat.le_of_ble_eq_true rfl)) dM_misplaced_20 ⟨Nat.le_of_ble_eq_true rfl, Nat.le_of_ble_eq_true rfl⟩) hP hD hS hA [0, 1, 2] rfl (by decide) (fun r w h => by obtain ⟨_, rfl⟩ := h; rfl) (fun r20 w20 H locs p20 hP hD hS => ?_)
      obtain ⟨rfl, rfl⟩ := p20
      have hP : va_P D vwCl [(mo, .inr (6, [.ref (mq 0), .ref (mq 1), .ref (mq 2), .ref (mq 3), .int (nI n), .ref (mq 5), .ref (mq 6), .int (nI F), .ref (mq 8), .ref (mq 9), .ref (mq 10), .ref (mq 11), .ref (mq 12), .ref (mq 13), .ref (mq 14), .ref (mq 15), .ref (mq 16), .ref (mq 17), .ref (mq 18), .ref (mq 19), .ref (mq 20), .ref (mq 21), .ref (mq 22), .int (nI dp)])), ((mq 8), .inl (cI, 96, .inl (fun z9 => nI (sk z9)))), ((mq 11), .inl (cI, 8, .inl (fun z9 => nI (sz z9))))] H := hP
      have hD : va_D A [(mo, .inr (6, [.ref (mq 0), .ref (mq 1), .ref (mq 2), .ref (mq 3), .int (nI n), .ref (mq 5), .ref (mq 6), .int (nI F), .ref (mq 8), .ref (mq 9), .ref (mq 10), .ref (mq 11), .ref (mq 12), .ref (mq 13), .ref (mq 14), .ref (mq 15), .ref (mq 16), .ref (mq 17), .ref (mq 18), .ref (mq 19), .ref (mq 20), .ref (mq 21), .ref (mq 22), .int (nI dp)])), ((mq 8), .inl (cI, 96, .inl (fun z9 => nI (sk z9)))), ((mq 11), .inl (cI, 8, .inl (fun z9 => nI (sz z9))))] := hD
      refine lv_istore_n (lv' := [(3, .int (oN (wi (kat sk sz f) (sz f) 0))), (0, .ref mo), (1, .int (nI f)), (2, .int (nI k))]) hx hb dM_misplaced_23 rfl hl (by decide) rfl (fun ls hl => ?_)
      rcases hoq : wi (kat sk sz f) (sz f) 0 with _ | j
      · rw [hoq] at hl
        have hl : lv_has ls 4 [(3, .int (-1)), (0, .ref mo), (1, .int (nI f)), (2, .int (nI k))] := hl
        refine lv_iload_n hx hb dM_misplaced_24 rfl (lv_at hl 0 rfl) ?_
        refine lv_if_lt (tgt := 33) hx hb dM_misplaced_25 (by decide) (fun c25 => ?_) (fun c25 => ?_)
        · refine lv_iload_n hx hb dM_misplaced_33 rfl (lv_at hl 0 rfl) ?_
          refine lv_if_ge (tgt := 41) hx hb dM_misplaced_34 (by decide) (fun c34 => ?_) (fun c34 => ?_)
          · refine lv_iconst (v := 0) hx hb dM_misplaced_41 (by decide) ?_
            exact absurd (by decide : (-1 : Int32) < 0) (Int32.not_lt.mpr c34)
          · refine lv_iconst (v := 1) hx hb dM_misplaced_37 (by decide) ?_
            refine lv_goto (tgt := 42) hx hb dM_misplaced_38 (by decide) ?_
            exact W.zret (v := 1) hx hb hr (by decide) (fun t9 ht9 hW => ⟨⟨1, _, rfl, ⟨gb_t ⟨Or.inr g7, fun j hj => by rw [hoq] at hj; cases hj⟩, rfl⟩, by rw [ht9]; exact hP, hD⟩, hS.F ht9⟩) hS.2.2 dM_misplaced_42
        · exact absurd (by decide : (-1 : Int32) < 0) c25
      · rw [hoq] at hl
        have hl : lv_has ls 4 [(3, .int (nI j)), (0, .ref mo), (1, .int (nI f)), (2, .int (nI k))] := hl
        have hj := wi_lt _ _ _ hoq
        refine lv_iload_n hx hb dM_misplaced_24 rfl (lv_at hl 0 rfl) ?_
        refine lv_if_lt (tgt := 33) hx hb dM_misplaced_25 (by decide) (fun c25 => ?_) (fun c25 => ?_)
        · have g25 : j < 0 := (gx_lt (rfl : (nI j) = (nI j)) (rfl : (0 : Int32) = nI 0) (by omega) (by decide)).mp c25
          exfalso; omega
        · have g25 : ¬ (j < 0) := fun z => c25 ((gx_lt (rfl : (nI j) = (nI j)) (rfl : (0 : Int32) = nI 0) (by omega) (by decide)).mpr z)
          refine lv_iload_n hx hb dM_misplaced_28 rfl (lv_at hl 3 rfl) ?_
          refine lv_iconst (v := 5) hx hb dM_misplaced_29 (by decide) ?_
          refine lv_icmp_ne (tgt := 43) hx hb dM_misplaced_30 (by decide) (fun c30 => ?_) (fun c30 => ?_)
          · have g30 : ¬ (k = 5) := fun z => c30 ((gx_eq (rfl : (nI k) = (nI k)) (rfl : (5 : Int32) = nI 5) (by omega) (by decide)).mpr z)
            refine lv_aload_n hx hb dM_misplaced_43 rfl (lv_at hl 1 rfl) ?_
            refine lv_iload_n hx hb dM_misplaced_44 rfl (lv_at hl 2 rfl) ?_
            refine lv_iload_n hx hb dM_misplaced_45 rfl (lv_at hl 0 rfl) ?_
            refine gc_i (va_runV (As := [.int (nI f), .int (nI j)]) (rest := []) ⟨hx, hb, hml, hown, ht⟩ (c_M_kindAt l D cI cJ cB cZ mo mq n F dp sk sz f j (by omega) (by omega) hsz H.size) (cwV 2 ht (gw_V m_574 m_576 ms_22 m_6 m_577) rfl rfl rfl (by decide +kernel) ⟨Nat.le_of_ble_eq_true rfl, Nat.le_of_ble_eq_true rfl⟩) (gp_V (ci := 6) (q0 := 0) hK hN (hP.sub (ws' := [(mo, .inr (6, [.ref (mq 0), .ref (mq 1), .ref (mq 2), .ref (mq 3), .int (nI n), .ref (mq 5), .ref (mq 6), .int (nI F), .ref (mq 8), .ref (mq 9), .ref (mq 10), .ref (mq 11), .ref (mq 12), .ref (mq 13), .ref (mq 14), .ref (mq 15), .ref (mq 16), .ref (mq 17), .ref (mq 18), .ref (mq 19), .ref (mq 20), .ref (mq 21), .ref (mq 22), .int (nI dp)])), ((mq 8), .inl (cI, 96, .inl (fun z9 => nI (sk z9)))), ((mq 11), .inl (cI, 8, .inl (fun z9 => nI (sz z9))))]) [0, 1, 2] rfl) (hD.sub (ws' := [(mo, .inr (6, [.ref (mq 0), .ref (mq 1), .ref (mq 2), .ref (mq 3), .int (nI n), .ref (mq 5), .ref (mq 6), .int (nI F), .ref (mq 8), .ref (mq 9), .ref (mq 10), .ref (mq 11), .ref (mq 12), .ref (mq 13), .ref (mq 14), .ref (mq 15), .ref (mq 16), .ref (mq 17), .ref (mq 18), .ref (mq 19), .ref (mq 20), .ref (mq 21), .ref (mq 22), .int (nI dp)])), ((mq 8), .inl (cI, 96, .inl (fun z9 => nI (sk z9)))), ((mq 11), .inl (cI, 8, .inl (fun z9 => nI (sz z9))))]) [0, 1, 2] (by decide) rfl) rfl rfl) rfl rfl hl.1 rfl (lv_room (Nat.le_of_ble_eq_true rfl)) dM_misplaced_46 ⟨Nat.le_of_ble_eq_true rfl, Nat.le_of_ble_eq_true rfl⟩) hP hD hS hA [0, 1, 2] rfl (by decide) (fun r w h => by obtain ⟨_, rfl⟩ := h; rfl) (fun r46 w46 H locs p46 hP hD hS => ?_)
            obtain ⟨rfl, rfl⟩ := p46
            have hkl46 := kat_le (sz := sz) hsk f j
            have hP : va_P D vwCl [(mo, .inr (6, [.ref (mq 0), .ref (mq 1), .ref (mq 2), .ref (mq 3), .int (nI n), .ref (mq 5), .ref (mq 6), .int (nI F), .ref (mq 8), .ref (mq 9), .ref (mq 10), .ref (mq 11), .ref (mq 12), .ref (mq 13), .ref (mq 14), .ref (mq 15), .ref (mq 16), .ref (mq 17), .ref (mq 18), .ref (mq 19), .ref (mq 20), .ref (mq 21), .ref (mq 22), .int (nI dp)])), ((mq 8), .inl (cI, 96, .inl (fun z9 => nI (sk z9)))), ((mq 11), .inl (cI, 8, .inl (fun z9 => nI (sz z9))))] H := hP
            have hD : va_D A [(mo, .inr (6, [.ref (mq 0), .ref (mq 1), .ref (mq 2), .ref (mq 3), .int (nI n), .ref (mq 5), .ref (mq 6), .int (nI F), .ref (mq 8), .ref (mq 9), .ref (mq 10), .ref (mq 11), .ref (mq 12), .ref (mq 13), .ref (mq 14), .ref (mq 15), .ref (mq 16), .ref (mq 17), .ref (mq 18), .ref (mq 19), .ref (mq 20), .ref (mq 21), .ref (mq 22), .int (nI dp)])), ((mq 8), .inl (cI, 96, .inl (fun z9 => nI (sk z9)))), ((mq 11), .inl (cI, 8, .inl (fun z9 => nI (sz z9))))] := hD
            refine lv_iconst (v := 2) hx hb dM_misplaced_49 (by decide) ?_
            refine lv_icmp_ne (tgt := 69) hx hb dM_misplaced_50 (by decide) (fun c50 => ?_) (fun c50 => ?_)
            · have g50 : ¬ ((kat sk sz f j) = 2) := fun z => c50 ((gx_eq (rfl : (nI (kat sk sz f j)) = (nI (kat sk sz f j))) (rfl : (2 : Int32) = nI 2) (by omega) (by decide)).mpr z)
              refine lv_iconst (v := 1) hx hb dM_misplaced_69 (by decide) ?_
              refine lv_goto (tgt := 74) hx hb dM_misplaced_70 (by decide) ?_
              exact W.zret (v := 1) hx hb hr (by decide) (fun t9 ht9 hW => ⟨⟨1, _, rfl, ⟨gb_t ⟨Or.inr g7, fun j2 hj2 => by rw [hoq] at hj2; cases hj2; exact ⟨by omega, Or.inl g50⟩⟩, rfl⟩, by rw [ht9]; exact hP, hD⟩, hS.F ht9⟩) hS.2.2 dM_misplaced_74
            · have g50 : (kat sk sz f j) = 2 := (gx_eq (rfl : (nI (kat sk sz f j)) = (nI (kat sk sz f j))) (rfl : (2 : Int32) = nI 2) (by omega) (by decide)).mp c50
              refine lv_aload_n hx hb dM_misplaced_53 rfl (lv_at hl 1 rfl) ?_
              refine lv_iload_n hx hb dM_misplaced_54 rfl (lv_at hl 2 rfl) ?_
              refine lv_iload_n hx hb dM_misplaced_55 rfl (lv_at hl 0 rfl) ?_
              refine lv_iconst (v := 1) hx hb dM_misplaced_56 (by decide) ?_
              refine gc_i (va_runV (As := [.int (nI f), .int (nI j), .int 1]) (rest := []) ⟨hx, hb, hml, hown, ht⟩ (c_M_close l D cI cJ cB cZ mo mq n F dp sk sz f j 1 (by omega) (by omega) (by omega) hsz hsk H.size) (cwV 3 ht (gw_V m_581 m_583 ms_23 m_6 m_584) rfl rfl rfl (by decide +kernel) ⟨Nat.le_of_ble_eq_true rfl, Nat.le_of_ble_eq_true rfl⟩) (gp_V (ci := 6) (q0 := 0) hK hN (hP.sub (ws' := [(mo, .inr (6, [.ref (mq 0), .ref (mq 1), .ref (mq 2), .ref (mq 3), .int (nI n), .ref (mq 5), .ref (mq 6), .int (nI F), .ref (mq 8), .ref (mq 9), .ref (mq 10), .ref (mq 11), .ref (mq 12), .ref (mq 13), .ref (mq 14), .ref (mq 15), .ref (mq 16), .ref (mq 17), .ref (mq 18), .ref (mq 19), .ref (mq 20), .ref (mq 21), .ref (mq 22), .int (nI dp)])), ((mq 8), .inl (cI, 96, .inl (fun z9 => nI (sk z9)))), ((mq 11), .inl (cI, 8, .inl (fun z9 => nI (sz z9))))]) [0, 1, 2] rfl) (hD.sub (ws' := [(mo, .inr (6, [.ref (mq 0), .ref (mq 1), .ref (mq 2), .ref (mq 3), .int (nI n), .ref (mq 5), .ref (mq 6), .int (nI F), .ref (mq 8), .ref (mq 9), .ref (mq 10), .ref (mq 11), .ref (mq 12), .ref (mq 13), .ref (mq 14), .ref (mq 15), .ref (mq 16), .ref (mq 17), .ref (mq 18), .ref (mq 19), .ref (mq 20), .ref (mq 21), .ref (mq 22), .int (nI dp)])), ((mq 8), .inl (cI, 96, .inl (fun z9 => nI (sk z9)))), ((mq 11), .inl (cI, 8, .inl (fun z9 => nI (sz z9))))]) [0, 1, 2] (by decide) rfl) rfl rfl) rfl rfl hl.1 rfl (lv_room (Nat.le_of_ble_eq_true rfl)) dM_misplaced_57 ⟨Nat.le_of_ble_eq_true rfl, Nat.le_of_ble_eq_true rfl⟩) hP hD hS hA [0, 1, 2] rfl (by decide) (fun r w h => by obtain ⟨_, rfl⟩ := h; rfl) (fun r57 w57 H locs p57 hP hD hS => ?_)
              obtain ⟨rfl, rfl⟩ := p57
              have hcl57 := cls_le (K := kat sk sz f) (oe := 1 = 1) (sz f + 12 - (j + 1)) (j + 1) 0
              have hP : va_P D vwCl [(mo, .inr (6, [.ref (mq 0), .ref (mq 1), .ref (mq 2), .ref (mq 3), .int (nI n), .ref (mq 5), .ref (mq 6), .int (nI F), .ref (mq 8), .ref (mq 9), .ref (mq 10), .ref (mq 11), .ref (mq 12), .ref (mq 13), .ref (mq 14), .ref (mq 15), .ref (mq 16), .ref (mq 17), .ref (mq 18), .ref (mq 19), .ref (mq 20), .ref (mq 21), .ref (mq 22), .int (nI dp)])), ((mq 8), .inl (cI, 96, .inl (fun z9 => nI (sk z9)))), ((mq 11), .inl (cI, 8, .inl (fun z9 => nI (sz z9))))] H := hP
              have hD : va_D A [(mo, .inr (6, [.ref (mq 0), .ref (mq 1), .ref (mq 2), .ref (mq 3), .int (nI n), .ref (mq 5), .ref (mq 6), .int (nI F), .ref (mq 8), .ref (mq 9), .ref (mq 10), .ref (mq 11), .ref (mq 12), .ref (mq 13), .ref (mq 14), .ref (mq 15), .ref (mq 16), .ref (mq 17), .ref (mq 18), .ref (mq 19), .ref (mq 20), .ref (mq 21), .ref (mq 22), .int (nI dp)])), ((mq 8), .inl (cI, 96, .inl (fun z9 => nI (sk z9)))), ((mq 11), .inl (cI, 8, .inl (fun z9 => nI (sz z9))))] := hD
              refine lv_aload_n hx hb dM_misplaced_60 rfl (lv_at hl 1 rfl) ?_
              refine va_get (D := D) (ci := 6) (v := .ref (mq 11)) (C := R_M) (T := F_M) (N := 24) hx hb ht i_M hown hK hP 0 rfl rfl 11 (by decide) (ht _ m_465) (fun _ h9 => h9) rfl dM_misplaced_61 ?_
              refine lv_iload_n hx hb dM_misplaced_64 rfl (lv_at hl 2 rfl) ?_
              have i65 : vp_in (nI f) 8 := gx_in (rfl : (nI f) = (nI f)) (by omega) (by decide)
              have k65 : ((nI f) : Int32).toNatClampNeg = f := gx_cl (rfl : (nI f) = (nI f)) (by omega)
              refine va_iald hx hb hK hP 2 0 rfl rfl i65 dM_misplaced_65 ?_
              rw [k65]
              refine lv_topi (fun v65 e65 => ?_)
              have n65 : v65 = nI (sz f) := e65
              subst n65
              refine lv_icmp_ge (tgt := 73) hx hb dM_misplaced_66 (by decide) (fun c66 => ?_) (fun c66 => ?_)
              · have g66 : (sz f) ≤ (cls (kat sk sz f) (1 = 1) (sz f + 12 - (j + 1)) (j + 1) 0) := (gx_le (rfl : (nI (sz f)) = (nI (sz f))) (rfl : (nI (cls (kat sk sz f) (1 = 1) (sz f + 12 - (j + 1)) (j + 1) 0)) = (nI (cls (kat sk sz f) (1 = 1) (sz f + 12 - (j + 1)) (j + 1) 0))) (by omega) (by omega)).mp c66
                refine lv_iconst (v := 0) hx hb dM_misplaced_73 (by decide) ?_
                exact W.zret (v := 0) hx hb hr (by decide) (fun t9 ht9 hW => ⟨⟨0, _, rfl, ⟨gb_f (fun z => by rcases (z.2 j hoq).2 with y | y; exact y g50; (rw [← ms_cl] at y; omega)), rfl⟩, by rw [ht9]; exact hP, hD⟩, hS.F ht9⟩) hS.2.2 dM_misplaced_74
              · have g66 : ¬ ((sz f) ≤ (cls (kat sk sz f) (1 = 1) (sz f + 12 - (j + 1)) (j + 1) 0)) := fun z => c66 ((gx_le (rfl : (nI (sz f)) = (nI (sz f))) (rfl : (nI (cls (kat sk sz f) (1 = 1) (sz f + 12 - (j + 1)) (j + 1) 0)) = (nI (cls (kat sk sz f) (1 = 1) (sz f + 12 - (j + 1)) (j + 1) 0))) (by omega) (by omega)).mpr z)
                refine lv_iconst (v := 1) hx hb dM_misplaced_69 (by decide) ?_
                refine lv_goto (tgt := 74) hx hb dM_misplaced_70 (by decide) ?_
                exact W.zret (v := 1) hx hb hr (by decide) (fun t9 ht9 hW => ⟨⟨1, _, rfl, ⟨gb_t ⟨Or.inr g7, fun j2 hj2 => by rw [hoq] at hj2; cases hj2; exact ⟨by omega, Or.inr (by rw [← ms_cl]; omega)⟩⟩, rfl⟩, by rw [ht9]; exact hP, hD⟩, hS.F ht9⟩) hS.2.2 dM_misplaced_74
          · have g30 : k = 5 := (gx_eq (rfl : (nI k) = (nI k)) (rfl : (5 : Int32) = nI 5) (by omega) (by decide)).mp c30
            refine lv_iload_n hx hb dM_misplaced_33 rfl (lv_at hl 0 rfl) ?_
            refine lv_if_ge (tgt := 41) hx hb dM_misplaced_34 (by decide) (fun c34 => ?_) (fun c34 => ?_)
            · have g34 : 0 ≤ j := (gx_le (rfl : (0 : Int32) = nI 0) (rfl : (nI j) = (nI j)) (by decide) (by omega)).mp c34
              refine lv_iconst (v := 0) hx hb dM_misplaced_41 (by decide) ?_
              exact W.zret (v := 0) hx hb hr (by decide) (fun t9 ht9 hW => ⟨⟨0, _, rfl, ⟨gb_f (fun z => by have := (z.2 j hoq).1; omega), rfl⟩, by rw [ht9]; exact hP, hD⟩, hS.F ht9⟩) hS.2.2 dM_misplaced_42
            · have g34 : ¬ (0 ≤ j) := fun z => c34 ((gx_le (rfl : (0 : Int32) = nI 0) (rfl : (nI j) = (nI j)) (by decide) (by omega)).mpr z)
              refine lv_iconst (v := 1) hx hb dM_misplaced_37 (by decide) ?_
              refine lv_goto (tgt := 42) hx hb dM_misplaced_38 (by decide) ?_
              exact absurd (Int32.not_le.mp c34) (nI_pos (by omega))
    · have g7 : ¬ (k = 5) := fun z => c7 ((gx_eq (rfl : (nI k) = (nI k)) (rfl : (5 : Int32) = nI 5) (by omega) (by decide)).mpr z)
      refine lv_iconst (v := 0) hx hb dM_misplaced_10 (by decide) ?_
      exact W.zret (v := 0) hx hb hr (by decide) (fun t9 ht9 hW => ⟨⟨0, _, rfl, ⟨gb_f (fun z => by rcases z.1 with y | y; exact g2 y; exact g7 y), rfl⟩, by rw [ht9]; exact hP, hD⟩, hS.F ht9⟩) hS.2.2 dM_misplaced_11

