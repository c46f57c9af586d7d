def pth (E : Nat → Nat → Prop) : Nat → Nat → Nat → Prop
  | 0, f, z => f = z
  | m + 1, f, z => ∃ y, pth E m f y ∧ E y z
theorem dr_lt {X : Ex} {sk : Nat → Nat} {sb : Nat → Int32} {sz : Nat → Nat} (hX : ex_ok X) {f z : Nat} (h : Dr X sk sb sz f z) : z < 8 := by
  obtain ⟨e, he, -, h1, h2⟩ := h
  obtain ⟨k, hk, hk1, -, -, -, -, -, hc⟩ := hX.2 e he
  rw [hk1, cn_nI (by omega)] at h1
  obtain ⟨c, hc1, hc2⟩ := hc h1
  rw [hc2, cn_nI (by omega)] at h2
  omega
/-- what reach finds -/
def RC (E : Nat → Nat → Prop) (f r : Nat) (Q : Nat → Prop) : Prop := (∀ z, Q z → ∃ m, pth E (m + 1) f z) ∧ ∀ m z, m ≤ r → pth E (m + 1) f z → Q z
theorem rc_beg {E : Nat → Nat → Prop} {f : Nat} {R : Nat → Prop} (h : ∀ z, R z ↔ E f z) : RC E f 0 R :=
  ⟨fun z hz => ⟨0, f, rfl, (h z).mp hz⟩, fun m z hm hp => by
    obtain rfl : m = 0 := by omega
    obtain ⟨y, rfl, h2⟩ := hp
    exact (h z).mpr h2⟩
theorem rc_step {E : Nat → Nat → Prop} {f r k : Nat} {Q : Nat → Prop} (h : RC E f r Q) (hk : Q k) : RC E f r (fun z => Q z ∨ E k z) :=
  ⟨fun z hz => hz.elim (h.1 z) (fun y => by obtain ⟨m, hm⟩ := h.1 k hk; exact ⟨m + 1, k, hm, y⟩), fun m z hm hp => Or.inl (h.2 m z hm hp)⟩
/-- only below 8 -/
def RD (E : Nat → Nat → Prop) (f r : Nat) (Q : Nat → Prop) : Prop := RC E f r (fun z => Q z ∧ z < 8)
theorem rd_step {E : Nat → Nat → Prop} {f r k : Nat} {Q : Nat → Prop} (hE : ∀ z, E k z → z < 8) (h : RD E f r Q) (hk : Q k) (hk8 : k < 8) : RD E f r (fun z => Q z ∨ E k z) := by
  have := rc_step h ⟨hk, hk8⟩
  refine ⟨fun z hz => this.1 z (hz.1.elim (fun y => Or.inl ⟨y, hz.2⟩) Or.inr), fun m z hm hp => ?_⟩
  rcases this.2 m z hm hp with y | y
  · exact ⟨Or.inl y.1, y.2⟩
  · exact ⟨Or.inr y, hE z y⟩
set_option maxHeartbeats 4000000 in
set_option maxRecDepth 100000 in
theorem c_M_reach (l : Launch) (D : va_G) (cI cJ cB cZ : ClassId) (mo : Nat) (mq : Nat → Nat) (F dp : Nat) (X : Ex) (sk : Nat → Nat) (sb9 : Nat → Int32) (sz : Nat → Nat) (R0 Q0 : Nat → Prop) (f : Nat) (hf : f < 8) (hX : ex_ok X) (hsz : ∀ i, sz i ≤ 12) (hsk : ∀ i, sk i ≤ 5) (hsb : ∀ f k, f < 8 → k < sz f → sk (12 * f + k) ≤ 2 → ∃ e, e < X.2.2.2.2 ∧ sb9 (12 * f + k) = nI e) : ct_V l y_M_reach w_M_reach ({ frames := 2, cells := 0, slots := 0, locals := 42 }) D (gk_T cI cJ cB cZ) [.ref mo, .int (nI f)] [(mo, .inr (6, [.ref (mq 0), .ref (mq 1), .ref (mq 2), .ref (mq 3), .int (nI X.2.2.2.2), .ref (mq 5), .ref (mq 6), .int (nI F), .ref (mq 8), .ref (mq 9), .ref (mq 10), .ref (mq 11), .ref (mq 12), .ref (mq 13), .ref (mq 14), .ref (mq 15), .ref (mq 16), .ref (mq 17), .ref (mq 18), .ref (mq 19), .ref (mq 20), .ref (mq 21), .ref (mq 22), .int (nI dp)])), ((mq 8), .inl (cI, 96, .inl (fun z9 => nI (sk z9)))), ((mq 10), .inl (cI, 96, .inl sb9)), ((mq 11), .inl (cI, 8, .inl (fun z9 => nI (sz z9)))), ((mq 0), .inl (cI, 80, .inl X.1)), ((mq 1), .inl (cI, 80, .inl X.2.1)), ((mq 2), .inl (cI, 80, .inl X.2.2.1)), ((mq 3), .inl (cI, 80, .inl X.2.2.2.1)), ((mq 14), .inl (cZ, 80, .inl (fun z9 => gb (R0 z9)))), ((mq 15), .inl (cZ, 8, .inl (fun z9 => gb (Q0 z9))))] (0) (0) (fun w => ∃ (R Q : Nat → Prop), RD (Dr X sk sb9 sz) f 8 Q ∧ w = [(mo, .inr (6, [.ref (mq 0), .ref (mq 1), .ref (mq 2), .ref (mq 3), .int (nI X.2.2.2.2), .ref (mq 5), .ref (mq 6), .int (nI F), .ref (mq 8), .ref (mq 9), .ref (mq 10), .ref (mq 11), .ref (mq 12), .ref (mq 13), .ref (mq 14), .ref (mq 15), .ref (mq 16), .ref (mq 17), .ref (mq 18), .ref (mq 19), .ref (mq 20), .ref (mq 21), .ref (mq 22), .int (nI dp)])), ((mq 8), .inl (cI, 96, .inl (fun z9 => nI (sk z9)))), ((mq 10), .inl (cI, 96, .inl sb9)), ((mq 11), .inl (cI, 8, .inl (fun z9 => nI (sz z9)))), ((mq 0), .inl (cI, 80, .inl X.1)), ((mq 1), .inl (cI, 80, .inl X.2.1)), ((mq 2), .inl (cI, 80, .inl X.2.2.1)), ((mq 3), .inl (cI, 80, .inl X.2.2.2.1)), ((mq 14), .inl (cZ, 80, .inl (fun z9 => gb (R z9)))), ((mq 15), .inl (cZ, 8, .inl (fun z9 => gb (Q z9))))]) := by
  intro sz
  refine Met.ofW (cc := b_M_reach) (maxL := 4) (ret := none) (by decide) rfl ?_
  intro p ev9 s m args below meth c s₁ B9 hml hv
  obtain ⟨rfl, hsz, hP, hK, hN, hD0⟩ := hv
  have hx := B9.exec
  have hb := B9.bytes
  have hr := B9.returns
  have hts := atoms_spec (ws := w_M_reach) B9.pre
  have ht : ∀ w ∈ gk_big, w.before _ s = true := fun w h => hts w (List.mem_cons_of_mem _ h)
  have hown : s.vm.findClass R_M = some m.cls := findClass_of_methodNamed B9.named
  have hlocks := B9.notSynchronized
  subst hsz
  have hD := hD0.self (sz := s.heap.size)
  generalize hAe : va_A [(mo, .inr (6, [.ref (mq 0), .ref (mq 1), .ref (mq 2), .ref (mq 3), .int (nI X.2.2.2.2), .ref (mq 5), .ref (mq 6), .int (nI F), .ref (mq 8), .ref (mq 9), .ref (mq 10), .ref (mq 11), .ref (mq 12), .ref (mq 13), .ref (mq 14), .ref (mq 15), .ref (mq 16), .ref (mq 17), .ref (mq 18), .ref (mq 19), .ref (mq 20), .ref (mq 21), .ref (mq 22), .int (nI dp)])), ((mq 8), .inl (cI, 96, .inl (fun z9 => nI (sk z9)))), ((mq 10), .inl (cI, 96, .inl sb9)), ((mq 11), .inl (cI, 8, .inl (fun z9 => nI (sz z9)))), ((mq 0), .inl (cI, 80, .inl X.1)), ((mq 1), .inl (cI, 80, .inl X.2.1)), ((mq 2), .inl (cI, 80, .inl X.2.2.1)), ((mq 3), .inl (cI, 80, .inl X.2.2.2.1)), ((mq 14), .inl (cZ, 80, .inl (fun z9 => gb (R0 z9)))), ((mq 15), .inl (cZ, 8, .inl (fun z9 => gb (Q0 z9))))] s.heap.size = A at hD ⊢
  have hA : ∀ q : Nat, s.heap.size ≤ q → A q := fun q h => by rw [← hAe]; exact Or.inr h
  generalize hHe : s.heap = H at hP ⊢
  have hS : va_S A s.heap H [] := by rw [← hHe]; exact va_S.rf
  have hP : va_P D vwCl [(mo, .inr (6, [.ref (mq 0), .ref (mq 1), .ref (mq 2), .ref (mq 3), .int (nI X.2.2.2.2), .ref (mq 5), .ref (mq 6), .int (nI F), .ref (mq 8), .ref (mq 9), .ref (mq 10), .ref (mq 11), .ref (mq 12), .ref (mq 13), .ref (mq 14), .ref (mq 15), .ref (mq 16), .ref (mq 17), .ref (mq 18), .ref (mq 19), .ref (mq 20), .ref (mq 21), .ref (mq 22), .int (nI dp)])), ((mq 8), .inl (cI, 96, .inl (fun z9 => nI (sk z9)))), ((mq 10), .inl (cI, 96, .inl sb9)), ((mq 11), .inl (cI, 8, .inl (fun z9 => nI (sz z9)))), ((mq 0), .inl (cI, 80, .inl X.1)), ((mq 1), .inl (cI, 80, .inl X.2.1)), ((mq 2), .inl (cI, 80, .inl X.2.2.1)), ((mq 3), .inl (cI, 80, .inl X.2.2.2.1)), ((mq 14), .inl (cZ, 80, .inl (fun z9 => gb (R0 z9)))), ((mq 15), .inl (cZ, 8, .inl (fun z9 => gb (Q0 z9))))] H := hP
  have hD : va_D A [(mo, .inr (6, [.ref (mq 0), .ref (mq 1), .ref (mq 2), .ref (mq 3), .int (nI X.2.2.2.2), .ref (mq 5), .ref (mq 6), .int (nI F), .ref (mq 8), .ref (mq 9), .ref (mq 10), .ref (mq 11), .ref (mq 12), .ref (mq 13), .ref (mq 14), .ref (mq 15), .ref (mq 16), .ref (mq 17), .ref (mq 18), .ref (mq 19), .ref (mq 20), .ref (mq 21), .ref (mq 22), .int (nI dp)])), ((mq 8), .inl (cI, 96, .inl (fun z9 => nI (sk z9)))), ((mq 10), .inl (cI, 96, .inl sb9)), ((mq 11), .inl (cI, 8, .inl (fun z9 => nI (sz z9)))), ((mq 0), .inl (cI, 80, .inl X.1)), ((mq 1), .inl (cI, 80, .inl X.2.1)), ((mq 2), .inl (cI, 80, .inl X.2.2.1)), ((mq 3), .inl (cI, 80, .inl X.2.2.2.1)), ((mq 14), .inl (cZ, 80, .inl (fun z9 => gb (R0 z9)))), ((mq 15), .inl (cZ, 8, .inl (fun z9 => gb (Q0 z9))))] := hD
  have hl := lv_entry ([.ref mo, .int (nI f)]) (n := 4) (Nat.le_of_ble_eq_true rfl)
  rw [lg_entry_eq]
  generalize (lg_sl ([.ref mo, .int (nI f)]) ++ List.replicate (4 - (lg_sl ([.ref mo, .int (nI f)])).length) Slot.unset).toArray = ls at hl ⊢
  have hl : lv_has ls 4 [(0, .ref mo), (1, .int (nI f))] := hl
  refine lv_iconst (v := 0) hx hb dM_reach_0 (by decide) ?_
  refine lv_istore_n (lv' := [(2, .int 0), (0, .ref mo), (1, .int (nI f))]) hx hb dM_reach_1 rfl hl (by decide) rfl (fun ls hl => ?_)
  have lp2 : ∀ (n2 : Nat) (i : Nat) (R : Nat → Prop), 8 - i + 1 ≤ n2 → (i ≤ 8) → (∀ z, z < i → ¬ R z) → ∀ (H : Heap) (locs : List Loc) (ls : Array Slot), va_P D vwCl [(mo, .inr (6, [.ref (mq 0), .ref (mq 1), .ref (mq 2), .ref (mq 3), .int (nI X.2.2.2.2), .ref (mq 5), .ref (mq 6), .int (nI F), .ref (mq 8), .ref (mq 9), .ref (mq 10), .ref (mq 11), .ref (mq 12), .ref (mq 13), .ref (mq 14), .ref (mq 15), .ref (mq 16), .ref (mq 17), .ref (mq 18), .ref (mq 19), .ref (mq 20), .ref (mq 21), .ref (mq 22), .int (nI dp)])), ((mq 8), .inl (cI, 96, .inl (fun z9 => nI (sk z9)))), ((mq 10), .inl (cI, 96, .inl sb9)), ((mq 11), .inl (cI, 8, .inl (fun z9 => nI (sz z9)))), ((mq 0), .inl (cI, 80, .inl X.1)), ((mq 1), .inl (cI, 80, .inl X.2.1)), ((mq 2), .inl (cI, 80, .inl X.2.2.1)), ((mq 3), .inl (cI, 80, .inl X.2.2.2.1)), ((mq 14), .inl (cZ, 80, .inl (fun z9 => gb (R0 z9)))), ((mq 15), .inl (cZ, 8, .inl (fun z9 => gb (R z9))))] H → va_D A [(mo, .inr (6, [.ref (mq 0), .ref (mq 1), .ref (mq 2), .ref (mq 3), .int (nI X.2.2.2.2), .ref (mq 5), .ref (mq 6), .int (nI F), .ref (mq 8), .ref (mq 9), .ref (mq 10), .ref (mq 11), .ref (mq 12), .ref (mq 13), .ref (mq 14), .ref (mq 15), .ref (mq 16), .ref (mq 17), .ref (mq 18), .ref (mq 19), .ref (mq 20), .ref (mq 21), .ref (mq 22), .int (nI dp)])), ((mq 8), .inl (cI, 96, .inl (fun z9 => nI (sk z9)))), ((mq 10), .inl (cI, 96, .inl sb9)), ((mq 11), .inl (cI, 8, .inl (fun z9 => nI (sz z9)))), ((mq 0), .inl (cI, 80, .inl X.1)), ((mq 1), .inl (cI, 80, .inl X.2.1)), ((mq 2), .inl (cI, 80, .inl X.2.2.1)), ((mq 3), .inl (cI, 80, .inl X.2.2.2.1)), ((mq 14), .inl (cZ, 80, .inl (fun z9 => gb (R0 z9)))), ((mq 15), .inl (cZ, 8, .inl (fun z9 => gb (R z9))))] → va_S A s.heap H locs → lv_has ls 4 [(2, .int (nI i)), (0, .ref mo), (1, .int (nI f))] → W p l ev9 (headSpec w_M_reach ({ frames := 2, cells := 0, slots := 0, locals := 42 })).room s m ([.ref mo, .int (nI f)] : List Value).toArray below meth c H locs 0 0 (MQ below (gq_V D A (fun w => ∃ (R Q : Nat → Prop), RD (Dr X sk sb9 sz) f 8 Q ∧ w = [(mo, .inr (6, [.ref (mq 0), .ref (mq 1), .ref (mq 2), .ref (mq 3), .int (nI X.2.2.2.2), .ref (mq 5), .ref (mq 6), .int (nI F), .ref (mq 8), .ref (mq 9), .ref (mq 10), .ref (mq 11), .ref (mq 12), .ref (mq 13), .ref (mq 14), .ref (mq 15), .ref (mq 16), .ref (mq 17), .ref (mq 18), .ref (mq 19), .ref (mq 20), .ref (mq 21), .ref (mq 22), .int (nI dp)])), ((mq 8), .inl (cI, 96, .inl (fun z9 => nI (sk z9)))), ((mq 10), .inl (cI, 96, .inl sb9)), ((mq 11), .inl (cI, 8, .inl (fun z9 => nI (sz z9)))), ((mq 0), .inl (cI, 80, .inl X.1)), ((mq 1), .inl (cI, 80, .inl X.2.1)), ((mq 2), .inl (cI, 80, .inl X.2.2.1)), ((mq 3), .inl (cI, 80, .inl X.2.2.2.1)), ((mq 14), .inl (cZ, 80, .inl (fun z9 => gb (R z9)))), ((mq 15), .inl (cZ, 8, .inl (fun z9 => gb (Q z9))))])) ([.ref mo, .int (nI f)] : List Value).toArray s (0) (0) A) (F0 m 2 ls []) := by
    intro n2
    induction n2 with
    | zero =>
      intro i R hm2
      exact absurd hm2 (by omega)
    | succ n2 ih2 =>
      intro i R hm2 hi hR H locs ls hP hD hS hl
      refine lv_iload_n hx hb dM_reach_2 rfl (lv_at hl 0 rfl) ?_
      refine lv_bipush (v := 8) hx hb dM_reach_3 (by decide) ?_
      refine lv_icmp_ge (tgt := 21) hx hb dM_reach_5 (by decide) (fun c5 => ?_) (fun c5 => ?_)
      · have g5 : 8 ≤ i := (gx_le (rfl : (8 : Int32) = nI 8) (rfl : (nI i) = (nI i)) (by decide) (by omega)).mp c5
        refine lv_aload_n hx hb dM_reach_21 rfl (lv_at hl 1 rfl) ?_
        refine lv_iload_n hx hb dM_reach_22 rfl (lv_at hl 2 rfl) ?_
        refine gc_v (va_runV (As := [.int (nI f)]) (rest := []) ⟨hx, hb, hml, hown, ht⟩ (c_M_direct l D cI cJ cB cZ mo mq F dp X sk sb9 sz R0 R f (by omega) hX hsz hsk hsb H.size) (cwV 1 ht (gw_V m_589 m_591 ms_25 m_6 m_592) rfl rfl rfl (by decide +kernel) ⟨Nat.le_of_ble_eq_true rfl, Nat.le_of_ble_eq_true rfl⟩) (gp_V (ci := 6) (q0 := 0) hK hN (hP.sub (ws' := [(mo, .inr (6, [.ref (mq 0), .ref (mq 1), .ref (mq 2), .ref (mq 3), .int (nI X.2.2.2.2), .ref (mq 5), .ref (mq 6), .int (nI F), .ref (mq 8), .ref (mq 9), .ref (mq 10), .ref (mq 11), .ref (mq 12), .ref (mq 13), .ref (mq 14), .ref (mq 15), .ref (mq 16), .ref (mq 17), .ref (mq 18), .ref (mq 19), .ref (mq 20), .ref (mq 21), .ref (mq 22), .int (nI dp)])), ((mq 8), .inl (cI, 96, .inl (fun z9 => nI (sk z9)))), ((mq 10), .inl (cI, 96, .inl sb9)), ((mq 11), .inl (cI, 8, .inl (fun z9 => nI (sz z9)))), ((mq 0), .inl (cI, 80, .inl X.1)), ((mq 1), .inl (cI, 80, .inl X.2.1)), ((mq 2), .inl (cI, 80, .inl X.2.2.1)), ((mq 3), .inl (cI, 80, .inl X.2.2.2.1)), ((mq 14), .inl (cZ, 80, .inl (fun z9 => gb (R0 z9)))), ((mq 15), .inl (cZ, 8, .inl (fun z9 => gb (R z9))))]) [0, 1, 2, 3, 4, 5, 6, 7, 8, 9] rfl) (hD.sub (ws' := [(mo, .inr (6, [.ref (mq 0), .ref (mq 1), .ref (mq 2), .ref (mq 3), .int (nI X.2.2.2.2), .ref (mq 5), .ref (mq 6), .int (nI F), .ref (mq 8), .ref (mq 9), .ref (mq 10), .ref (mq 11), .ref (mq 12), .ref (mq 13), .ref (mq 14), .ref (mq 15), .ref (mq 16), .ref (mq 17), .ref (mq 18), .ref (mq 19), .ref (mq 20), .ref (mq 21), .ref (mq 22), .int (nI dp)])), ((mq 8), .inl (cI, 96, .inl (fun z9 => nI (sk z9)))), ((mq 10), .inl (cI, 96, .inl sb9)), ((mq 11), .inl (cI, 8, .inl (fun z9 => nI (sz z9)))), ((mq 0), .inl (cI, 80, .inl X.1)), ((mq 1), .inl (cI, 80, .inl X.2.1)), ((mq 2), .inl (cI, 80, .inl X.2.2.1)), ((mq 3), .inl (cI, 80, .inl X.2.2.2.1)), ((mq 14), .inl (cZ, 80, .inl (fun z9 => gb (R0 z9)))), ((mq 15), .inl (cZ, 8, .inl (fun z9 => gb (R z9))))]) [0, 1, 2, 3, 4, 5, 6, 7, 8, 9] (by decide) rfl) rfl rfl) rfl rfl hl.1 rfl (lv_room (Nat.le_of_ble_eq_true rfl)) dM_reach_23 ⟨Nat.le_of_ble_eq_true rfl, Nat.le_of_ble_eq_true rfl⟩) hP hD hS hA [0, 1, 2, 3, 4, 5, 6, 7, 8, 9] rfl (by decide) (fun w h => by obtain ⟨_, rfl⟩ := h; rfl) (fun w23 H locs p23 hP hD hS => ?_)
        obtain ⟨R23, rfl⟩ := p23
        have hP : va_P D vwCl [(mo, .inr (6, [.ref (mq 0), .ref (mq 1), .ref (mq 2), .ref (mq 3), .int (nI X.2.2.2.2), .ref (mq 5), .ref (mq 6), .int (nI F), .ref (mq 8), .ref (mq 9), .ref (mq 10), .ref (mq 11), .ref (mq 12), .ref (mq 13), .ref (mq 14), .ref (mq 15), .ref (mq 16), .ref (mq 17), .ref (mq 18), .ref (mq 19), .ref (mq 20), .ref (mq 21), .ref (mq 22), .int (nI dp)])), ((mq 8), .inl (cI, 96, .inl (fun z9 => nI (sk z9)))), ((mq 10), .inl (cI, 96, .inl sb9)), ((mq 11), .inl (cI, 8, .inl (fun z9 => nI (sz z9)))), ((mq 0), .inl (cI, 80, .inl X.1)), ((mq 1), .inl (cI, 80, .inl X.2.1)), ((mq 2), .inl (cI, 80, .inl X.2.2.1)), ((mq 3), .inl (cI, 80, .inl X.2.2.2.1)), ((mq 14), .inl (cZ, 80, .inl (fun z9 => gb (R23 z9)))), ((mq 15), .inl (cZ, 8, .inl (fun z9 => gb ((fun z => R z ∨ Dr X sk sb9 sz f z) z9))))] H := hP
        have hD : va_D A [(mo, .inr (6, [.ref (mq 0), .ref (mq 1), .ref (mq 2), .ref (mq 3), .int (nI X.2.2.2.2), .ref (mq 5), .ref (mq 6), .int (nI F), .ref (mq 8), .ref (mq 9), .ref (mq 10), .ref (mq 11), .ref (mq 12), .ref (mq 13), .ref (mq 14), .ref (mq 15), .ref (mq 16), .ref (mq 17), .ref (mq 18), .ref (mq 19), .ref (mq 20), .ref (mq 21), .ref (mq 22), .int (nI dp)])), ((mq 8), .inl (cI, 96, .inl (fun z9 => nI (sk z9)))), ((mq 10), .inl (cI, 96, .inl sb9)), ((mq 11), .inl (cI, 8, .inl (fun z9 => nI (sz z9)))), ((mq 0), .inl (cI, 80, .inl X.1)), ((mq 1), .inl (cI, 80, .inl X.2.1)), ((mq 2), .inl (cI, 80, .inl X.2.2.1)), ((mq 3), .inl (cI, 80, .inl X.2.2.2.1)), ((mq 14), .inl (cZ, 80, .inl (fun z9 => gb (R23 z9)))), ((mq 15), .inl (cZ, 8, .inl (fun z9 => gb ((fun z => R z ∨ Dr X sk sb9 sz f z) z9))))] := hD
        refine lv_iconst (v := 0) hx hb dM_reach_26 (by decide) ?_
        refine lv_istore_n (lv' := [(2, .int 0), (0, .ref mo), (1, .int (nI f))]) hx hb dM_reach_27 rfl hl (by decide) rfl (fun ls hl => ?_)
        have lp28 : ∀ (n28 : Nat) (r : Nat) (R2 : Nat → Prop) (Q2 : Nat → Prop), 8 - r + 1 ≤ n28 → (r ≤ 8) → (RD (Dr X sk sb9 sz) f r Q2) → ∀ (H : Heap) (locs : List Loc) (ls : Array Slot), va_P D vwCl [(mo, .inr (6, [.ref (mq 0), .ref (mq 1), .ref (mq 2), .ref (mq 3), .int (nI X.2.2.2.2), .ref (mq 5), .ref (mq 6), .int (nI F), .ref (mq 8), .ref (mq 9), .ref (mq 10), .ref (mq 11), .ref (mq 12), .ref (mq 13), .ref (mq 14), .ref (mq 15), .ref (mq 16), .ref (mq 17), .ref (mq 18), .ref (mq 19), .ref (mq 20), .ref (mq 21), .ref (mq 22), .int (nI dp)])), ((mq 8), .inl (cI, 96, .inl (fun z9 => nI (sk z9)))), ((mq 10), .inl (cI, 96, .inl sb9)), ((mq 11), .inl (cI, 8, .inl (fun z9 => nI (sz z9)))), ((mq 0), .inl (cI, 80, .inl X.1)), ((mq 1), .inl (cI, 80, .inl X.2.1)), ((mq 2), .inl (cI, 80, .inl X.2.2.1)), ((mq 3), .inl (cI, 80, .inl X.2.2.2.1)), ((mq 14), .inl (cZ, 80, .inl (fun z9 => gb (R2 z9)))), ((mq 15), .inl (cZ, 8, .inl (fun z9 => gb (Q2 z9))))] H → va_D A [(mo, .inr (6, [.ref (mq 0), .ref (mq 1), .ref (mq 2), .ref (mq 3), .int (nI X.2.2.2.2), .ref (mq 5), .ref (mq 6), .int (nI F), .ref (mq 8), .ref (mq 9), .ref (mq 10), .ref (mq 11), .ref (mq 12), .ref (mq 13), .ref (mq 14), .ref (mq 15), .ref (mq 16), .ref (mq 17), .ref (mq 18), .ref (mq 19), .ref (mq 20), .ref (mq 21), .ref (mq 22), .int (nI dp)])), ((mq 8), .inl (cI, 96, .inl (fun z9 => nI (sk z9)))), ((mq 10), .inl (cI, 96, .inl sb9)), ((mq 11), .inl (cI, 8, .inl (fun z9 => nI (sz z9)))), ((mq 0), .inl (cI, 80, .inl X.1)), ((mq 1), .inl (cI, 80, .inl X.2.1)), ((mq 2), .inl (cI, 80, .inl X.2.2.1)), ((mq 3), .inl (cI, 80, .inl X.2.2.2.1)), ((mq 14), .inl (cZ, 80, .inl (fun z9 => gb (R2 z9)))), ((mq 15), .inl (cZ, 8, .inl (fun z9 => gb (Q2 z9))))] → va_S A s.heap H locs → lv_has ls 4 [(2, .int (nI r)), (0, .ref mo), (1, .int (nI f))] → W p l ev9 (headSpec w_M_reach ({ frames := 2, cells := 0, slots := 0, locals := 42 })).room s m ([.ref mo, .int (nI f)] : List Value).toArray below meth c H locs 0 0 (MQ below (gq_V D A (fun w => ∃ (R Q : Nat → Prop), RD (Dr X sk sb9 sz) f 8 Q ∧ w = [(mo, .inr (6, [.ref (mq 0), .ref (mq 1), .ref (mq 2), .ref (mq 3), .int (nI X.2.2.2.2), .ref (mq 5), .ref (mq 6), .int (nI F), .ref (mq 8), .ref (mq 9), .ref (mq 10), .ref (mq 11), .ref (mq 12), .ref (mq 13), .ref (mq 14), .ref (mq 15), .ref (mq 16), .ref (mq 17), .ref (mq 18), .ref (mq 19), .ref (mq 20), .ref (mq 21), .ref (mq 22), .int (nI dp)])), ((mq 8), .inl (cI, 96, .inl (fun z9 => nI (sk z9)))), ((mq 10), .inl (cI, 96, .inl sb9)), ((mq 11), .inl (cI, 8, .inl (fun z9 => nI (sz z9)))), ((mq 0), .inl (cI, 80, .inl X.1)), ((mq 1), .inl (cI, 80, .inl X.2.1)), ((mq 2), .inl (cI, 80, .inl X.2.2.1)), ((mq 3), .inl (cI, 80, .inl X.2.2.2.1)), ((mq 14), .inl (cZ, 80, .inl (fun z9 => gb (R z9)))), ((mq 15), .inl (cZ, 8, .inl (fun z9 => gb (Q z9))))])) ([.ref mo, .int (nI f)] : List Value).toArray s (0) (0) A) (F0 m 28 ls []) := by
          intro n28
          induction n28 with
          | zero =>
            intro r R2 Q2 hm28
            exact absurd hm28 (by omega)
          | succ n28 ih28 =>
            intro r R2 Q2 hm28 hr8 hrc H locs ls hP hD hS hl
            refine lv_iload_n hx hb dM_reach_28 rfl (lv_at hl 0 rfl) ?_
            refine lv_bipush (v := 8) hx hb dM_reach_29 (by decide) ?_
            refine lv_icmp_ge (tgt := 68) hx hb dM_reach_31 (by decide) (fun c31 => ?_) (fun c31 => ?_)
            · have g31 : 8 ≤ r := (gx_le (rfl : (8 : Int32) = nI 8) (rfl : (nI r) = (nI r)) (by decide) (by omega)).mp c31
              exact W.vret hx hb hr (fun t9 ht9 hW => ⟨⟨_, rfl, ⟨R2, Q2, by rw [show r = 8 by omega] at hrc; exact hrc, rfl⟩, by rw [ht9]; exact hP, hD⟩, hS.F ht9⟩) hS.2.2 dM_reach_68
            · have g31 : ¬ (8 ≤ r) := fun z => c31 ((gx_le (rfl : (8 : Int32) = nI 8) (rfl : (nI r) = (nI r)) (by decide) (by omega)).mpr z)
              refine lv_iconst (v := 0) hx hb dM_reach_34 (by decide) ?_
              refine lv_istore_n (lv' := [(3, .int 0), (2, .int (nI r)), (0, .ref mo), (1, .int (nI f))]) hx hb dM_reach_35 rfl hl (by decide) rfl (fun ls hl => ?_)
              have lp36 : ∀ (n36 : Nat) (k : Nat) (R3 : Nat → Prop) (Q3 : Nat → Prop), 8 - k + 1 ≤ n36 → (k ≤ 8) → (RD (Dr X sk sb9 sz) f r Q3) → (∀ y, y < k → ∀ m, m ≤ r → pth (Dr X sk sb9 sz) (m + 1) f y → ∀ z, (Dr X sk sb9 sz) y z → Q3 z) → ∀ (H : Heap) (locs : List Loc) (ls : Array Slot), va_P D vwCl [(mo, .inr (6, [.ref (mq 0), .ref (mq 1), .ref (mq 2), .ref (mq 3), .int (nI X.2.2.2.2), .ref (mq 5), .ref (mq 6), .int (nI F), .ref (mq 8), .ref (mq 9), .ref (mq 10), .ref (mq 11), .ref (mq 12), .ref (mq 13), .ref (mq 14), .ref (mq 15), .ref (mq 16), .ref (mq 17), .ref (mq 18), .ref (mq 19), .ref (mq 20), .ref (mq 21), .ref (mq 22), .int (nI dp)])), ((mq 8), .inl (cI, 96, .inl (fun z9 => nI (sk z9)))), ((mq 10), .inl (cI, 96, .inl sb9)), ((mq 11), .inl (cI, 8, .inl (fun z9 => nI (sz z9)))), ((mq 0), .inl (cI, 80, .inl X.1)), ((mq 1), .inl (cI, 80, .inl X.2.1)), ((mq 2), .inl (cI, 80, .inl X.2.2.1)), ((mq 3), .inl (cI, 80, .inl X.2.2.2.1)), ((mq 14), .inl (cZ, 80, .inl (fun z9 => gb (R3 z9)))), ((mq 15), .inl (cZ, 8, .inl (fun z9 => gb (Q3 z9))))] H → va_D A [(mo, .inr (6, [.ref (mq 0), .ref (mq 1), .ref (mq 2), .ref (mq 3), .int (nI X.2.2.2.2), .ref (mq 5), .ref (mq 6), .int (nI F), .ref (mq 8), .ref (mq 9), .ref (mq 10), .ref (mq 11), .ref (mq 12), .ref (mq 13), .ref (mq 14), .ref (mq 15), .ref (mq 16), .ref (mq 17), .ref (mq 18), .ref (mq 19), .ref (mq 20), .ref (mq 21), .ref (mq 22), .int (nI dp)])), ((mq 8), .inl (cI, 96, .inl (fun z9 => nI (sk z9)))), ((mq 10), .inl (cI, 96, .inl sb9)), ((mq 11), .inl (cI, 8, .inl (fun z9 => nI (sz z9)))), ((mq 0), .inl (cI, 80, .inl X.1)), ((mq 1), .inl (cI, 80, .inl X.2.1)), ((mq 2), .inl (cI, 80, .inl X.2.2.1)), ((mq 3), .inl (cI, 80, .inl X.2.2.2.1)), ((mq 14), .inl (cZ, 80, .inl (fun z9 => gb (R3 z9)))), ((mq 15), .inl (cZ, 8, .inl (fun z9 => gb (Q3 z9))))] → va_S A s.heap H locs → lv_has ls 4 [(3, .int (nI k)), (2, .int (nI r)), (0, .ref mo), (1, .int (nI f))] → W p l ev9 (headSpec w_M_reach ({ frames := 2, cells := 0, slots := 0, locals := 42 })).room s m ([.ref mo, .int (nI f)] : List Value).toArray below meth c H locs 0 0 (MQ below (gq_V D A (fun w => ∃ (R Q : Nat → Prop), RD (Dr X sk sb9 sz) f 8 Q ∧ w = [(mo, .inr (6, [.ref (mq 0), .ref (mq 1), .ref (mq 2), .ref (mq 3), .int (nI X.2.2.2.2), .ref (mq 5), .ref (mq 6), .int (nI F), .ref (mq 8), .ref (mq 9), .ref (mq 10), .ref (mq 11), .ref (mq 12), .ref (mq 13), .ref (mq 14), .ref (mq 15), .ref (mq 16), .ref (mq 17), .ref (mq 18), .ref (mq 19), .ref (mq 20), .ref (mq 21), .ref (mq 22), .int (nI dp)])), ((mq 8), .inl (cI, 96, .inl (fun z9 => nI (sk z9)))), ((mq 10), .inl (cI, 96, .inl sb9)), ((mq 11), .inl (cI, 8, .inl (fun z9 => nI (sz z9)))), ((mq 0), .inl (cI, 80, .inl X.1)), ((mq 1), .inl (cI, 80, .inl X.2.1)), ((mq 2), .inl (cI, 80, .inl X.2.2.1)), ((mq 3), .inl (cI, 80, .inl X.2.2.2.1)), ((mq 14), .inl (cZ, 80, .inl (fun z9 => gb (R z9)))), ((mq 15), .inl (cZ, 8, .inl (fun z9 => gb (Q z9))))])) ([.ref mo, .int (nI f)] : List Value).toArray s (0) (0) A) (F0 m 36 ls []) := by
                intro n36
                induction n36 with
                | zero =>
                  intro k R3 Q3 hm36
                  exact absurd hm36 (by omega)
                | succ n36 ih36 =>
                  intro k R3 Q3 hm36 hk8 hc hin H locs ls hP hD hS hl
                  refine lv_iload_n hx hb dM_reach_36 rfl (lv_at hl 0 rfl) ?_
                  refine lv_bipush (v := 8) hx hb dM_reach_37 (by decide) ?_
                  refine lv_icmp_ge (tgt := 62) hx hb dM_reach_39 (by decide) (fun c39 => ?_) (fun c39 => ?_)
                  · have g39 : 8 ≤ k := (gx_le (rfl : (8 : Int32) = nI 8) (rfl : (nI k) = (nI k)) (by decide) (by omega)).mp c39
                    refine lv_iinc (v := (nI (r + 1))) (lv' := [(2, .int (nI (r + 1))), (3, .int (nI k)), (0, .ref mo), (1, .int (nI f))]) hx hb dM_reach_62 hl (k := 1) rfl (gx_inc (rfl : (nI r) = (nI r))) (by decide) rfl (fun ls hl => ?_)
                    refine lv_goto (tgt := 28) hx hb dM_reach_65 (by decide) ?_
                    exact ih28 (r + 1) R3 Q3 (by omega) (by omega) (⟨hc.1, fun m z hm hp => by rcases Nat.eq_or_lt_of_le hm with rfl | hm2; (obtain ⟨y, y1, y2⟩ := hp; have := hin y (by have := hc.2 r y (Nat.le_refl _) y1; omega) r (Nat.le_refl _) y1 z y2; exact ⟨this, dr_lt hX y2⟩); exact hc.2 m z (by omega) hp⟩) _ _ _ hP hD hS (lv_sub hl [0, 2, 3] rfl)
                  · have g39 : ¬ (8 ≤ k) := fun z => c39 ((gx_le (rfl : (8 : Int32) = nI 8) (rfl : (nI k) = (nI k)) (by decide) (by omega)).mpr z)
                    refine lv_aload_n hx hb dM_reach_42 rfl (lv_at hl 2 rfl) ?_
                    refine va_get (D := D) (ci := 6) (v := .ref (mq 15)) (C := R_M) (T := F_M) (N := 24) hx hb ht i_M hown hK hP 0 rfl rfl 15 (by decide) (ht _ m_469) (fun _ h9 => h9) rfl dM_reach_43 ?_
                    refine lv_iload_n hx hb dM_reach_46 rfl (lv_at hl 0 rfl) ?_
                    have i47 : vp_in (nI k) 8 := gx_in (rfl : (nI k) = (nI k)) (by omega) (by decide)
                    have k47 : ((nI k) : Int32).toNatClampNeg = k := gx_cl (rfl : (nI k) = (nI k)) (by omega)
                    refine va_zald hx hb hK hP 9 3 rfl rfl i47 dM_reach_47 ?_
                    rw [k47]
                    refine lv_topi (fun v47 e47 => ?_)
                    have n47 : v47 = (gb (Q3 k)) := e47
                    subst n47
                    refine lv_if_eq (tgt := 56) hx hb dM_reach_48 (by decide) (fun c48 => ?_) (fun c48 => ?_)
                    · refine lv_iinc (v := (nI (k + 1))) (lv' := [(3, .int (nI (k + 1))), (2, .int (nI r)), (0, .ref mo), (1, .int (nI f))]) hx hb dM_reach_56 hl (k := 0) rfl (gx_inc (rfl : (nI k) = (nI k))) (by decide) rfl (fun ls hl => ?_)
                      refine lv_goto (tgt := 36) hx hb dM_reach_59 (by decide) ?_
                      exact ih36 (k + 1) R3 Q3 (by omega) (by omega) hc (fun y hy m hm hp z hz => by rcases Nat.eq_or_lt_of_le (Nat.le_of_lt_succ hy) with rfl | hy2; exact absurd (hc.2 m y hm hp).1 (gb_1.mp c48); exact hin y hy2 m hm hp z hz) _ _ _ hP hD hS (lv_sub hl [0, 1, 2, 3] rfl)
                    · refine lv_aload_n hx hb dM_reach_51 rfl (lv_at hl 2 rfl) ?_
                      refine lv_iload_n hx hb dM_reach_52 rfl (lv_at hl 0 rfl) ?_
                      refine gc_v (va_runV (As := [.int (nI k)]) (rest := []) ⟨hx, hb, hml, hown, ht⟩ (c_M_direct l D cI cJ cB cZ mo mq F dp X sk sb9 sz R3 Q3 k (by omega) hX hsz hsk hsb H.size) (cwV 1 ht (gw_V m_589 m_591 ms_25 m_6 m_592) rfl rfl rfl (by decide +kernel) ⟨Nat.le_of_ble_eq_true rfl, Nat.le_of_ble_eq_true rfl⟩) (gp_V (ci := 6) (q0 := 0) hK hN (hP.sub (ws' := [(mo, .inr (6, [.ref (mq 0), .ref (mq 1), .ref (mq 2), .ref (mq 3), .int (nI X.2.2.2.2), .ref (mq 5), .ref (mq 6), .int (nI F), .ref (mq 8), .ref (mq 9), .ref (mq 10), .ref (mq 11), .ref (mq 12), .ref (mq 13), .ref (mq 14), .ref (mq 15), .ref (mq 16), .ref (mq 17), .ref (mq 18), .ref (mq 19), .ref (mq 20), .ref (mq 21), .ref (mq 22), .int (nI dp)])), ((mq 8), .inl (cI, 96, .inl (fun z9 => nI (sk z9)))), ((mq 10), .inl (cI, 96, .inl sb9)), ((mq 11), .inl (cI, 8, .inl (fun z9 => nI (sz z9)))), ((mq 0), .inl (cI, 80, .inl X.1)), ((mq 1), .inl (cI, 80, .inl X.2.1)), ((mq 2), .inl (cI, 80, .inl X.2.2.1)), ((mq 3), .inl (cI, 80, .inl X.2.2.2.1)), ((mq 14), .inl (cZ, 80, .inl (fun z9 => gb (R3 z9)))), ((mq 15), .inl (cZ, 8, .inl (fun z9 => gb (Q3 z9))))]) [0, 1, 2, 3, 4, 5, 6, 7, 8, 9] rfl) (hD.sub (ws' := [(mo, .inr (6, [.ref (mq 0), .ref (mq 1), .ref (mq 2), .ref (mq 3), .int (nI X.2.2.2.2), .ref (mq 5), .ref (mq 6), .int (nI F), .ref (mq 8), .ref (mq 9), .ref (mq 10), .ref (mq 11), .ref (mq 12), .ref (mq 13), .ref (mq 14), .ref (mq 15), .ref (mq 16), .ref (mq 17), .ref (mq 18), .ref (mq 19), .ref (mq 20), .ref (mq 21), .ref (mq 22), .int (nI dp)])), ((mq 8), .inl (cI, 96, .inl (fun z9 => nI (sk z9)))), ((mq 10), .inl (cI, 96, .inl sb9)), ((mq 11), .inl (cI, 8, .inl (fun z9 => nI (sz z9)))), ((mq 0), .inl (cI, 80, .inl X.1)), ((mq 1), .inl (cI, 80, .inl X.2.1)), ((mq 2), .inl (cI, 80, .inl X.2.2.1)), ((mq 3), .inl (cI, 80, .inl X.2.2.2.1)), ((mq 14), .inl (cZ, 80, .inl (fun z9 => gb (R3 z9)))), ((mq 15), .inl (cZ, 8, .inl (fun z9 => gb (Q3 z9))))]) [0, 1, 2, 3, 4, 5, 6, 7, 8, 9] (by decide) rfl) rfl rfl) rfl rfl hl.1 rfl (lv_room (Nat.le_of_ble_eq_true rfl)) dM_reach_53 ⟨Nat.le_of_ble_eq_true rfl, Nat.le_of_ble_eq_true rfl⟩) hP hD hS hA [0, 1, 2, 3, 4, 5, 6, 7, 8, 9] rfl (by decide) (fun w h => by obtain ⟨_, rfl⟩ := h; rfl) (fun w53 H locs p53 hP hD hS => ?_)
                      obtain ⟨R53, rfl⟩ := p53
                      have hP : va_P D vwCl [(mo, .inr (6, [.ref (mq 0), .ref (mq 1), .ref (mq 2), .ref (mq 3), .int (nI X.2.2.2.2), .ref (mq 5), .ref (mq 6), .int (nI F), .ref (mq 8), .ref (mq 9), .ref (mq 10), .ref (mq 11), .ref (mq 12), .ref (mq 13), .ref (mq 14), .ref (mq 15), .ref (mq 16), .ref (mq 17), .ref (mq 18), .ref (mq 19), .ref (mq 20), .ref (mq 21), .ref (mq 22), .int (nI dp)])), ((mq 8), .inl (cI, 96, .inl (fun z9 => nI (sk z9)))), ((mq 10), .inl (cI, 96, .inl sb9)), ((mq 11), .inl (cI, 8, .inl (fun z9 => nI (sz z9)))), ((mq 0), .inl (cI, 80, .inl X.1)), ((mq 1), .inl (cI, 80, .inl X.2.1)), ((mq 2), .inl (cI, 80, .inl X.2.2.1)), ((mq 3), .inl (cI, 80, .inl X.2.2.2.1)), ((mq 14), .inl (cZ, 80, .inl (fun z9 => gb (R53 z9)))), ((mq 15), .inl (cZ, 8, .inl (fun z9 => gb ((fun z => Q3 z ∨ Dr X sk sb9 sz k z) z9))))] H := hP
                      have hD : va_D A [(mo, .inr (6, [.ref (mq 0), .ref (mq 1), .ref (mq 2), .ref (mq 3), .int (nI X.2.2.2.2), .ref (mq 5), .ref (mq 6), .int (nI F), .ref (mq 8), .ref (mq 9), .ref (mq 10), .ref (mq 11), .ref (mq 12), .ref (mq 13), .ref (mq 14), .ref (mq 15), .ref (mq 16), .ref (mq 17), .ref (mq 18), .ref (mq 19), .ref (mq 20), .ref (mq 21), .ref (mq 22), .int (nI dp)])), ((mq 8), .inl (cI, 96, .inl (fun z9 => nI (sk z9)))), ((mq 10), .inl (cI, 96, .inl sb9)), ((mq 11), .inl (cI, 8, .inl (fun z9 => nI (sz z9)))), ((mq 0), .inl (cI, 80, .inl X.1)), ((mq 1), .inl (cI, 80, .inl X.2.1)), ((mq 2), .inl (cI, 80, .inl X.2.2.1)), ((mq 3), .inl (cI, 80, .inl X.2.2.2.1)), ((mq 14), .inl (cZ, 80, .inl (fun z9 => gb (R53 z9)))), ((mq 15), .inl (cZ, 8, .inl (fun z9 => gb ((fun z => Q3 z ∨ Dr X sk sb9 sz k z) z9))))] := hD
                      refine lv_iinc (v := (nI (k + 1))) (lv' := [(3, .int (nI (k + 1))), (2, .int (nI r)), (0, .ref mo), (1, .int (nI f))]) hx hb dM_reach_56 hl (k := 0) rfl (gx_inc (rfl : (nI k) = (nI k))) (by decide) rfl (fun ls hl => ?_)
                      refine lv_goto (tgt := 36) hx hb dM_reach_59 (by decide) ?_
                      exact ih36 (k + 1) R53 (fun z => Q3 z ∨ (Dr X sk sb9 sz) k z) (by omega) (by omega) (rd_step (fun z y => dr_lt hX y) hc (gb_0 c48) (by omega)) (fun y hy m hm hp z hz => by rcases Nat.eq_or_lt_of_le (Nat.le_of_lt_succ hy) with rfl | hy2; exact Or.inr hz; exact Or.inl (hin y hy2 m hm hp z hz)) _ _ _ hP hD hS (lv_sub hl [0, 1, 2, 3] rfl)
              exact lp36 (8 - (0) + 1) 0 R2 Q2 (by omega) (by omega) hrc (fun y hy => absurd hy (by omega)) _ _ _ hP hD hS (lv_sub hl [0, 1, 2, 3] rfl)
        exact lp28 (8 - (0) + 1) 0 R23 (fun z => R z ∨ (Dr X sk sb9 sz) f z) (by omega) (by omega) (rc_beg (fun z => ⟨fun y => y.1.elim (fun q => absurd q (hR z (by omega))) id, fun y => ⟨Or.inr y, dr_lt hX y⟩⟩)) _ _ _ hP hD hS (lv_sub hl [0, 1, 2] rfl)
      · have g5 : ¬ (8 ≤ i) := fun z => c5 ((gx_le (rfl : (8 : Int32) = nI 8) (rfl : (nI i) = (nI i)) (by decide) (by omega)).mpr z)
        refine lv_aload_n hx hb dM_reach_8 rfl (lv_at hl 1 rfl) ?_
        refine va_get (D := D) (ci := 6) (v := .ref (mq 15)) (C := R_M) (T := F_M) (N := 24) hx hb ht i_M hown hK hP 0 rfl rfl 15 (by decide) (ht _ m_469) (fun _ h9 => h9) rfl dM_reach_9 ?_
        refine lv_iload_n hx hb dM_reach_12 rfl (lv_at hl 0 rfl) ?_
        refine lv_iconst (v := 0) hx hb dM_reach_13 (by decide) ?_
        have i14 : vp_in (nI i) 8 := gx_in (rfl : (nI i) = (nI i)) (by omega) (by decide)
        have k14 : ((nI i) : Int32).toNatClampNeg = i := gx_cl (rfl : (nI i) = (nI i)) (by omega)
        refine va_zast hx hb hK hP hD hS 9 3 rfl rfl i14 dM_reach_14 (fun H locs hP hD hS => ?_)
        rw [k14] at hP hD
        have hP : va_P D vwCl [(mo, .inr (6, [.ref (mq 0), .ref (mq 1), .ref (mq 2), .ref (mq 3), .int (nI X.2.2.2.2), .ref (mq 5), .ref (mq 6), .int (nI F), .ref (mq 8), .ref (mq 9), .ref (mq 10), .ref (mq 11), .ref (mq 12), .ref (mq 13), .ref (mq 14), .ref (mq 15), .ref (mq 16), .ref (mq 17), .ref (mq 18), .ref (mq 19), .ref (mq 20), .ref (mq 21), .ref (mq 22), .int (nI dp)])), ((mq 8), .inl (cI, 96, .inl (fun z9 => nI (sk z9)))), ((mq 10), .inl (cI, 96, .inl sb9)), ((mq 11), .inl (cI, 8, .inl (fun z9 => nI (sz z9)))), ((mq 0), .inl (cI, 80, .inl X.1)), ((mq 1), .inl (cI, 80, .inl X.2.1)), ((mq 2), .inl (cI, 80, .inl X.2.2.1)), ((mq 3), .inl (cI, 80, .inl X.2.2.2.1)), ((mq 14), .inl (cZ, 80, .inl (fun z9 => gb (R0 z9)))), ((mq 15), .inl (cZ, 8, .inl (upd (fun z9 => gb (R z9)) i (vp_nar .boolean 0))))] H := hP
        have hD : va_D A [(mo, .inr (6, [.ref (mq 0), .ref (mq 1), .ref (mq 2), .ref (mq 3), .int (nI X.2.2.2.2), .ref (mq 5), .ref (mq 6), .int (nI F), .ref (mq 8), .ref (mq 9), .ref (mq 10), .ref (mq 11), .ref (mq 12), .ref (mq 13), .ref (mq 14), .ref (mq 15), .ref (mq 16), .ref (mq 17), .ref (mq 18), .ref (mq 19), .ref (mq 20), .ref (mq 21), .ref (mq 22), .int (nI dp)])), ((mq 8), .inl (cI, 96, .inl (fun z9 => nI (sk z9)))), ((mq 10), .inl (cI, 96, .inl sb9)), ((mq 11), .inl (cI, 8, .inl (fun z9 => nI (sz z9)))), ((mq 0), .inl (cI, 80, .inl X.1)), ((mq 1), .inl (cI, 80, .inl X.2.1)), ((mq 2), .inl (cI, 80, .inl X.2.2.1)), ((mq 3), .inl (cI, 80, .inl X.2.2.2.1)), ((mq 14), .inl (cZ, 80, .inl (fun z9 => gb (R0 z9)))), ((mq 15), .inl (cZ, 8, .inl (upd (fun z9 => gb (R z9)) i (vp_nar .boolean 0))))] := hD
        rw [gm_bp0] at hP hD
        have hP : va_P D vwCl [(mo, .inr (6, [.ref (mq 0), .ref (mq 1), .ref (mq 2), .ref (mq 3), .int (nI X.2.2.2.2), .ref (mq 5), .ref (mq 6), .int (nI F), .ref (mq 8), .ref (mq 9), .ref (mq 10), .ref (mq 11), .ref (mq 12), .ref (mq 13), .ref (mq 14), .ref (mq 15), .ref (mq 16), .ref (mq 17), .ref (mq 18), .ref (mq 19), .ref (mq 20), .ref (mq 21), .ref (mq 22), .int (nI dp)])), ((mq 8), .inl (cI, 96, .inl (fun z9 => nI (sk z9)))), ((mq 10), .inl (cI, 96, .inl sb9)), ((mq 11), .inl (cI, 8, .inl (fun z9 => nI (sz z9)))), ((mq 0), .inl (cI, 80, .inl X.1)), ((mq 1), .inl (cI, 80, .inl X.2.1)), ((mq 2), .inl (cI, 80, .inl X.2.2.1)), ((mq 3), .inl (cI, 80, .inl X.2.2.2.1)), ((mq 14), .inl (cZ, 80, .inl (fun z9 => gb (R0 z9)))), ((mq 15), .inl (cZ, 8, .inl (fun z9 => gb ((bp R i False) z9))))] H := hP
        have hD : va_D A [(mo, .inr (6, [.ref (mq 0), .ref (mq 1), .ref (mq 2), .ref (mq 3), .int (nI X.2.2.2.2), .ref (mq 5), .ref (mq 6), .int (nI F), .ref (mq 8), .ref (mq 9), .ref (mq 10), .ref (mq 11), .ref (mq 12), .ref (mq 13), .ref (mq 14), .ref (mq 15), .ref (mq 16), .ref (mq 17), .ref (mq 18), .ref (mq 19), .ref (mq 20), .ref (mq 21), .ref (mq 22), .int (nI dp)])), ((mq 8), .inl (cI, 96, .inl (fun z9 => nI (sk z9)))), ((mq 10), .inl (cI, 96, .inl sb9)), ((mq 11), .inl (cI, 8, .inl (fun z9 => nI (sz z9)))), ((mq 0), .inl (cI, 80, .inl X.1)), ((mq 1), .inl (cI, 80, .inl X.2.1)), ((mq 2), .inl (cI, 80, .inl X.2.2.1)), ((mq 3), .inl (cI, 80, .inl X.2.2.2.1)), ((mq 14), .inl (cZ, 80, .inl (fun z9 => gb (R0 z9)))), ((mq 15), .inl (cZ, 8, .inl (fun z9 => gb ((bp R i False) z9))))] := hD
        refine lv_iinc (v := (nI (i + 1))) (lv' := [(2, .int (nI (i + 1))), (0, .ref mo), (1, .int (nI f))]) hx hb dM_reach_15 hl (k := 0) rfl (gx_inc (rfl : (nI i) = (nI i))) (by decide) rfl (fun ls hl => ?_)
        refine lv_goto (tgt := 2) hx hb dM_reach_18 (by decide) ?_
        exact ih2 (i + 1) (bp R i False) (by omega) (by omega) (fun z hz y => by have y := bp_f.mp y; exact hR z (by omega) y.1) _ _ _ hP hD hS (lv_sub hl [0, 1, 2] rfl)
  exact lp2 (8 - (0) + 1) 0 Q0 (by omega) (by omega) (fun z hz => absurd hz (by omega)) _ _ _ hP hD hS (lv_sub hl [0, 1, 2] rfl)

noncomputable def mcost (X : Ex) (eC fC : Nat → Nat) (e : Nat) : Nat :=
  if cn (X.1 e) < 2 then 1 else
  if cn (X.1 e) = 6 then min 1000 (1 + (if 1 < cn (X.2.2.1 e) then cn (X.2.2.1 e) * eC (cn (X.2.1 e)) else eC (cn (X.2.1 e)))) else
  if 7 ≤ cn (X.1 e) ∧ cn (X.1 e) ≤ 9 then min 1000 (1 + 2 * (eC (cn (X.2.1 e)) + @ite _ (px_R (cn (X.1 e))) (Classical.propDecidable _) (eC (cn (X.2.2.1 e))) 0)) else
  min 1000 (1 + eC (cn (X.2.1 e)) + @ite _ (px_R (cn (X.1 e))) (Classical.propDecidable _) (eC (cn (X.2.2.1 e))) 0 + if cn (X.1 e) = 11 then fC (cn (X.2.2.2.1 e)) else 0)
theorem mcost_le {X : Ex} {eC fC : Nat → Nat} {e : Nat} : mcost X eC fC e ≤ 1000 := by
  unfold mcost
  split
  · omega
  · split
    · exact Nat.min_le_left _ _
    · split
      · exact Nat.min_le_left _ _
      · exact Nat.min_le_left _ _
set_option maxHeartbeats 4000000 in
set_option maxRecDepth 100000 in
theorem c_M_costOf (l : Launch) (D : va_G) (cI cJ cB cZ : ClassId) (mo : Nat) (mq : Nat → Nat) (F dp : Nat) (X : Ex) (eC fC : Nat → Nat) (e : Nat) (he : e < X.2.2.2.2) (hX : ex_ok X) (heC : ∀ i, eC i ≤ 1000) (hfC : ∀ i, fC i ≤ 1000) : ct_I l y_M_costOf w_M_costOf ({ frames := 1, cells := 0, slots := 0, locals := 20 }) D (gk_T cI cJ cB cZ) [.ref mo, .int (nI e)] [(mo, .inr (6, [.ref (mq 0), .ref (mq 1), .ref (mq 2), .ref (mq 3), .int (nI X.2.2.2.2), .ref (mq 5), .ref (mq 6), .int (nI F), .ref (mq 8), .ref (mq 9), .ref (mq 10), .ref (mq 11), .ref (mq 12), .ref (mq 13), .ref (mq 14), .ref (mq 15), .ref (mq 16), .ref (mq 17), .ref (mq 18), .ref (mq 19), .ref (mq 20), .ref (mq 21), .ref (mq 22), .int (nI dp)])), ((mq 0), .inl (cI, 80, .inl X.1)), ((mq 1), .inl (cI, 80, .inl X.2.1)), ((mq 2), .inl (cI, 80, .inl X.2.2.1)), ((mq 3), .inl (cI, 80, .inl X.2.2.2.1)), ((mq 12), .inl (cI, 80, .inl (fun z9 => nI (eC z9)))), ((mq 13), .inl (cI, 8, .inl (fun z9 => nI (fC z9))))] (0) (0) (fun r w => r = nI (mcost X eC fC e) ∧ w = [(mo, .inr (6, [.ref (mq 0), .ref (mq 1), .ref (mq 2), .ref (mq 3), .int (nI X.2.2.2.2), .ref (mq 5), .ref (mq 6), .int (nI F), .ref (mq 8), .ref (mq 9), .ref (mq 10), .ref (mq 11), .ref (mq 12), .ref (mq 13), .ref (mq 14), .ref (mq 15), .ref (mq 16), .ref (mq 17), .ref (mq 18), .ref (mq 19), .ref (mq 20), .ref (mq 21), .ref (mq 22), .int (nI dp)])), ((mq 0), .inl (cI, 80, .inl X.1)), ((mq 1), .inl (cI, 80, .inl X.2.1)), ((mq 2), .inl (cI, 80, .inl X.2.2.1)), ((mq 3), .inl (cI, 80, .inl X.2.2.2.1)), ((mq 12), .inl (cI, 80, .inl (fun z9 => nI (eC z9)))), ((mq 13), .inl (cI, 8, .inl (fun z9 => nI (fC z9))))]) := by
  intro sz
  refine Met.ofW (cc := b_M_costOf) (maxL := 5) (ret := (some .int)) (by decide) rfl ?_
  intro p ev9 s m args below meth c s₁ B9 hml hv
  obtain ⟨rfl, hsz, hP, hK, hN, hD0⟩ := hv
  have hx := B9.exec
  have hb := B9.bytes
  have hr := B9.returns
  have hts := atoms_spec (ws := w_M_costOf) B9.pre
  have ht : ∀ w ∈ gk_big, w.before _ s = true := fun w h => hts w (List.mem_cons_of_mem _ h)
  have hown : s.vm.findClass R_M = some m.cls := findClass_of_methodNamed B9.named
  have hlocks := B9.notSynchronized
  subst hsz
  have hD := hD0.self (sz := s.heap.size)
  generalize hAe : va_A [(mo, .inr (6, [.ref (mq 0), .ref (mq 1), .ref (mq 2), .ref (mq 3), .int (nI X.2.2.2.2), .ref (mq 5), .ref (mq 6), .int (nI F), .ref (mq 8), .ref (mq 9), .ref (mq 10), .ref (mq 11), .ref (mq 12), .ref (mq 13), .ref (mq 14), .ref (mq 15), .ref (mq 16), .ref (mq 17), .ref (mq 18), .ref (mq 19), .ref (mq 20), .ref (mq 21), .ref (mq 22), .int (nI dp)])), ((mq 0), .inl (cI, 80, .inl X.1)), ((mq 1), .inl (cI, 80, .inl X.2.1)), ((mq 2), .inl (cI, 80, .inl X.2.2.1)), ((mq 3), .inl (cI, 80, .inl X.2.2.2.1)), ((mq 12), .inl (cI, 80, .inl (fun z9 => nI (eC z9)))), ((mq 13), .inl (cI, 8, .inl (fun z9 => nI (fC z9))))] s.heap.size = A at hD ⊢
  have hA : ∀ q : Nat, s.heap.size ≤ q → A q := fun q h => by rw [← hAe]; exact Or.inr h
  generalize hHe : s.heap = H at hP ⊢
  have hS : va_S A s.heap H [] := by rw [← hHe]; exact va_S.rf
  have hP : va_P D vwCl [(mo, .inr (6, [.ref (mq 0), .ref (mq 1), .ref (mq 2), .ref (mq 3), .int (nI X.2.2.2.2), .ref (mq 5), .ref (mq 6), .int (nI F), .ref (mq 8), .ref (mq 9), .ref (mq 10), .ref (mq 11), .ref (mq 12), .ref (mq 13), .ref (mq 14), .ref (mq 15), .ref (mq 16), .ref (mq 17), .ref (mq 18), .ref (mq 19), .ref (mq 20), .ref (mq 21), .ref (mq 22), .int (nI dp)])), ((mq 0), .inl (cI, 80, .inl X.1)), ((mq 1), .inl (cI, 80, .inl X.2.1)), ((mq 2), .inl (cI, 80, .inl X.2.2.1)), ((mq 3), .inl (cI, 80, .inl X.2.2.2.1)), ((mq 12), .inl (cI, 80, .inl (fun z9 => nI (eC z9)))), ((mq 13), .inl (cI, 8, .inl (fun z9 => nI (fC z9))))] H := hP
  have hD : va_D A [(mo, .inr (6, [.ref (mq 0), .ref (mq 1), .ref (mq 2), .ref (mq 3), .int (nI X.2.2.2.2), .ref (mq 5), .ref (mq 6), .int (nI F), .ref (mq 8), .ref (mq 9), .ref (mq 10), .ref (mq 11), .ref (mq 12), .ref (mq 13), .ref (mq 14), .ref (mq 15), .ref (mq 16), .ref (mq 17), .ref (mq 18), .ref (mq 19), .ref (mq 20), .ref (mq 21), .ref (mq 22), .int (nI dp)])), ((mq 0), .inl (cI, 80, .inl X.1)), ((mq 1), .inl (cI, 80, .inl X.2.1)), ((mq 2), .inl (cI, 80, .inl X.2.2.1)), ((mq 3), .inl (cI, 80, .inl X.2.2.2.1)), ((mq 12), .inl (cI, 80, .inl (fun z9 => nI (eC z9)))), ((mq 13), .inl (cI, 8, .inl (fun z9 => nI (fC z9))))] := hD
  have hl := lv_entry ([.ref mo, .int (nI e)]) (n := 5) (Nat.le_of_ble_eq_true rfl)
  rw [lg_entry_eq]
  generalize (lg_sl ([.ref mo, .int (nI e)]) ++ List.replicate (5 - (lg_sl ([.ref mo, .int (nI e)])).length) Slot.unset).toArray = ls at hl ⊢
  have hl : lv_has ls 5 [(0, .ref mo), (1, .int (nI e))] := hl
  have hn80 := hX.1
  obtain ⟨kd, hkd, hk1, hka, hkb, -, hk6, -, hkc⟩ := hX.2 e he
  refine lv_aload_n hx hb dM_costOf_0 rfl (lv_at hl 0 rfl) ?_
  refine va_get (D := D) (ci := 6) (v := .ref (mq 0)) (C := R_M) (T := F_M) (N := 24) hx hb ht i_M hown hK hP 0 rfl rfl 0 (by decide) (ht _ m_454) (fun _ h9 => h9) rfl dM_costOf_1 ?_
  refine lv_iload_n hx hb dM_costOf_4 rfl (lv_at hl 1 rfl) ?_
  have i5 : vp_in (nI e) 80 := gx_in (rfl : (nI e) = (nI e)) (by omega) (by decide)
  have k5 : ((nI e) : Int32).toNatClampNeg = e := gx_cl (rfl : (nI e) = (nI e)) (by omega)
  refine va_iald hx hb hK hP 1 0 rfl rfl i5 dM_costOf_5 ?_
  rw [k5]
  refine lv_topi (fun v5 e5 => ?_)
  rw [hk1] at e5
  subst e5
  refine lv_istore_n (lv' := [(2, .int (nI kd)), (0, .ref mo), (1, .int (nI e))]) hx hb dM_costOf_6 rfl hl (by decide) rfl (fun ls hl => ?_)
  refine lv_iload_n hx hb dM_costOf_7 rfl (lv_at hl 0 rfl) ?_
  refine lv_iconst (v := 2) hx hb dM_costOf_8 (by decide) ?_
  refine lv_icmp_ge (tgt := 14) hx hb dM_costOf_9 (by decide) (fun c9 => ?_) (fun c9 => ?_)
  · have g9 : 2 ≤ kd := (gx_le (rfl : (2 : Int32) = nI 2) (rfl : (nI kd) = (nI kd)) (by decide) (by omega)).mp c9
    obtain ⟨a0, hal, hae⟩ := hka (by omega)
    have heC1 := heC a0
    refine lv_aload_n hx hb dM_costOf_14 rfl (lv_at hl 1 rfl) ?_
    refine va_get (D := D) (ci := 6) (v := .ref (mq 12)) (C := R_M) (T := F_M) (N := 24) hx hb ht i_M hown hK hP 0 rfl rfl 12 (by decide) (ht _ m_466) (fun _ h9 => h9) rfl dM_costOf_15 ?_
    refine lv_aload_n hx hb dM_costOf_18 rfl (lv_at hl 1 rfl) ?_
    refine va_get (D := D) (ci := 6) (v := .ref (mq 1)) (C := R_M) (T := F_M) (N := 24) hx hb ht i_M hown hK hP 0 rfl rfl 1 (by decide) (ht _ m_455) (fun _ h9 => h9) rfl dM_costOf_19 ?_
    refine lv_iload_n hx hb dM_costOf_22 rfl (lv_at hl 2 rfl) ?_
    have i23 : vp_in (nI e) 80 := gx_in (rfl : (nI e) = (nI e)) (by omega) (by decide)
    have k23 : ((nI e) : Int32).toNatClampNeg = e := gx_cl (rfl : (nI e) = (nI e)) (by omega)
    refine va_iald hx hb hK hP 2 0 rfl rfl i23 dM_costOf_23 ?_
    rw [k23]
    refine lv_topi (fun v23 e23 => ?_)
    rw [hae] at e23
    subst e23
    have i24 : vp_in (nI a0) 80 := gx_in (rfl : (nI a0) = (nI a0)) (by omega) (by decide)
    have k24 : ((nI a0) : Int32).toNatClampNeg = a0 := gx_cl (rfl : (nI a0) = (nI a0)) (by omega)
    refine va_iald hx hb hK hP 5 0 rfl rfl i24 dM_costOf_24 ?_
    rw [k24]
    refine lv_topi (fun v24 e24 => ?_)
    have n24 : v24 = nI (eC a0) := e24
    subst n24
    refine lv_istore_n (lv' := [(3, .int (nI (eC a0))), (2, .int (nI kd)), (0, .ref mo), (1, .int (nI e))]) hx hb dM_costOf_25 rfl hl (by decide) rfl (fun ls hl => ?_)
    refine lv_iload_n hx hb dM_costOf_26 rfl (lv_at hl 1 rfl) ?_
    refine gc_i (va_runS (As := [.int (nI kd)]) (rest := []) ⟨hx, hb, hml, hown, ht⟩ (c_M_hasSecond l D cI cJ cB cZ (nI kd) H.size) (va_cwS 1 ht (gw_S m_539 m_540 m_6 m_541) rfl rfl rfl (by decide +kernel) ⟨Nat.le_of_ble_eq_true rfl, Nat.le_of_ble_eq_true rfl⟩) (gp_S hK hN (hP.sub (ws' := ([] : va_W)) [] rfl) (hD.sub (ws' := ([] : va_W)) [] (by decide) rfl)) rfl rfl hl.1 rfl (lv_room (Nat.le_of_ble_eq_true rfl)) dM_costOf_27 ⟨Nat.le_of_ble_eq_true rfl, Nat.le_of_ble_eq_true rfl⟩) hP hD hS hA [] rfl (by decide) (fun r w h => by obtain ⟨_, rfl⟩ := h; rfl) (fun r27 w27 H locs p27 hP hD hS => ?_)
    obtain ⟨rfl, rfl⟩ := p27
    have hP : va_P D vwCl [(mo, .inr (6, [.ref (mq 0), .ref (mq 1), .ref (mq 2), .ref (mq 3), .int (nI X.2.2.2.2), .ref (mq 5), .ref (mq 6), .int (nI F), .ref (mq 8), .ref (mq 9), .ref (mq 10), .ref (mq 11), .ref (mq 12), .ref (mq 13), .ref (mq 14), .ref (mq 15), .ref (mq 16), .ref (mq 17), .ref (mq 18), .ref (mq 19), .ref (mq 20), .ref (mq 21), .ref (mq 22), .int (nI dp)])), ((mq 0), .inl (cI, 80, .inl X.1)), ((mq 1), .inl (cI, 80, .inl X.2.1)), ((mq 2), .inl (cI, 80, .inl X.2.2.1)), ((mq 3), .inl (cI, 80, .inl X.2.2.2.1)), ((mq 12), .inl (cI, 80, .inl (fun z9 => nI (eC z9)))), ((mq 13), .inl (cI, 8, .inl (fun z9 => nI (fC z9))))] H := hP
    have hD : va_D A [(mo, .inr (6, [.ref (mq 0), .ref (mq 1), .ref (mq 2), .ref (mq 3), .int (nI X.2.2.2.2), .ref (mq 5), .ref (mq 6), .int (nI F), .ref (mq 8), .ref (mq 9), .ref (mq 10), .ref (mq 11), .ref (mq 12), .ref (mq 13), .ref (mq 14), .ref (mq 15), .ref (mq 16), .ref (mq 17), .ref (mq 18), .ref (mq 19), .ref (mq 20), .ref (mq 21), .ref (mq 22), .int (nI dp)])), ((mq 0), .inl (cI, 80, .inl X.1)), ((mq 1), .inl (cI, 80, .inl X.2.1)), ((mq 2), .inl (cI, 80, .inl X.2.2.1)), ((mq 3), .inl (cI, 80, .inl X.2.2.2.1)), ((mq 12), .inl (cI, 80, .inl (fun z9 => nI (eC z9)))), ((mq 13), .inl (cI, 8, .inl (fun z9 => nI (fC z9))))] := hD
    refine lv_if_eq (tgt := 47) hx hb dM_costOf_30 (by decide) (fun c30 => ?_) (fun c30 => ?_)
    · have hpx : ¬ px_R kd := fun z => gb_1.mp c30 ((gm_R hkd).mpr z)
      refine lv_iconst (v := 0) hx hb dM_costOf_47 (by decide) ?_
      refine lv_istore (lv' := [(4, .int 0), (3, .int (nI (eC a0))), (2, .int (nI kd)), (0, .ref mo), (1, .int (nI e))]) hx hb dM_costOf_48 hl (by decide) rfl (fun ls hl => ?_)
      refine lv_iload_n hx hb dM_costOf_50 rfl (lv_at hl 2 rfl) ?_
      refine lv_bipush (v := 6) hx hb dM_costOf_51 (by decide) ?_
      refine lv_icmp_ne (tgt := 84) hx hb dM_costOf_53 (by decide) (fun c53 => ?_) (fun c53 => ?_)
      · have g53 : ¬ (kd = 6) := fun z => c53 ((gx_eq (rfl : (nI kd) = (nI kd)) (rfl : (6 : Int32) = nI 6) (by omega) (by decide)).mpr z)
        refine lv_iload_n hx hb dM_costOf_84 rfl (lv_at hl 2 rfl) ?_
        refine lv_bipush (v := 7) hx hb dM_costOf_85 (by decide) ?_
        refine lv_icmp_lt (tgt := 108) hx hb dM_costOf_87 (by decide) (fun c87 => ?_) (fun c87 => ?_)
        · have g87 : kd < 7 := (gx_lt (rfl : (nI kd) = (nI kd)) (rfl : (7 : Int32) = nI 7) (by omega) (by decide)).mp c87
          refine lv_iconst (v := 1) hx hb dM_costOf_108 (by decide) ?_
          refine lv_iload_n hx hb dM_costOf_109 rfl (lv_at hl 1 rfl) ?_
          refine lv_iadd hx hb dM_costOf_110 ?_
          refine lv_topi (fun v110 e110 => ?_)
          have n110 : v110 = nI (1 + (eC a0)) := by rw [e110]; exact gx_add (rfl : (1 : Int32) = nI 1) (rfl : (nI (eC a0)) = (nI (eC a0)))
          subst n110
          refine lv_iload hx hb dM_costOf_111 (lv_at hl 0 rfl) ?_
          refine lv_iadd hx hb dM_costOf_113 ?_
          refine lv_topi (fun v113 e113 => ?_)
          have n113 : v113 = nI ((1 + (eC a0)) + 0) := by rw [e113]; exact gx_add (rfl : (nI (1 + (eC a0))) = (nI (1 + (eC a0)))) (rfl : (0 : Int32) = nI 0)
          subst n113
          refine lv_iload_n hx hb dM_costOf_114 rfl (lv_at hl 2 rfl) ?_
          refine lv_bipush (v := 11) hx hb dM_costOf_115 (by decide) ?_
          refine lv_icmp_ne (tgt := 134) hx hb dM_costOf_117 (by decide) (fun c117 => ?_) (fun c117 => ?_)
          · have g117 : ¬ (kd = 11) := fun z => c117 ((gx_eq (rfl : (nI kd) = (nI kd)) (rfl : (11 : Int32) = nI 11) (by omega) (by decide)).mpr z)
            refine lv_iconst (v := 0) hx hb dM_costOf_134 (by decide) ?_
            refine lv_iadd hx hb dM_costOf_135 ?_
            refine lv_topi (fun v135 e135 => ?_)
            have n135 : v135 = nI (((1 + (eC a0)) + 0) + 0) := by rw [e135]; exact gx_add (rfl : (nI ((1 + (eC a0)) + 0)) = (nI ((1 + (eC a0)) + 0))) (rfl : (0 : Int32) = nI 0)
            subst n135
            refine gc_i (va_runS (As := [.int (nI (((1 + (eC a0)) + 0) + 0))]) (rest := []) ⟨hx, hb, hml, hown, ht⟩ (c_M_cap l D cI cJ cB cZ (((1 + (eC a0)) + 0) + 0) (by omega) H.size) (va_cwS 1 ht (gw_S m_601 m_602 m_6 m_603) rfl rfl rfl (by decide +kernel) ⟨Nat.le_of_ble_eq_true rfl, Nat.le_of_ble_eq_true rfl⟩) (gp_S hK hN (hP.sub (ws' := ([] : va_W)) [] rfl) (hD.sub (ws' := ([] : va_W)) [] (by decide) rfl)) rfl rfl hl.1 rfl (lv_room (Nat.le_of_ble_eq_true rfl)) dM_costOf_136 ⟨Nat.le_of_ble_eq_true rfl, Nat.le_of_ble_eq_true rfl⟩) hP hD hS hA [] rfl (by decide) (fun r w h => by obtain ⟨_, rfl⟩ := h; rfl) (fun r136 w136 H locs p136 hP hD hS => ?_)
            obtain ⟨rfl, rfl⟩ := p136
            have hP : va_P D vwCl [(mo, .inr (6, [.ref (mq 0), .ref (mq 1), .ref (mq 2), .ref (mq 3), .int (nI X.2.2.2.2), .ref (mq 5), .ref (mq 6), .int (nI F), .ref (mq 8), .ref (mq 9), .ref (mq 10), .ref (mq 11), .ref (mq 12), .ref (mq 13), .ref (mq 14), .ref (mq 15), .ref (mq 16), .ref (mq 17), .ref (mq 18), .ref (mq 19), .ref (mq 20), .ref (mq 21), .ref (mq 22), .int (nI dp)])), ((mq 0), .inl (cI, 80, .inl X.1)), ((mq 1), .inl (cI, 80, .inl X.2.1)), ((mq 2), .inl (cI, 80, .inl X.2.2.1)), ((mq 3), .inl (cI, 80, .inl X.2.2.2.1)), ((mq 12), .inl (cI, 80, .inl (fun z9 => nI (eC z9)))), ((mq 13), .inl (cI, 8, .inl (fun z9 => nI (fC z9))))] H := hP
            have hD : va_D A [(mo, .inr (6, [.ref (mq 0), .ref (mq 1), .ref (mq 2), .ref (mq 3), .int (nI X.2.2.2.2), .ref (mq 5), .ref (mq 6), .int (nI F), .ref (mq 8), .ref (mq 9), .ref (mq 10), .ref (mq 11), .ref (mq 12), .ref (mq 13), .ref (mq 14), .ref (mq 15), .ref (mq 16), .ref (mq 17), .ref (mq 18), .ref (mq 19), .ref (mq 20), .ref (mq 21), .ref (mq 22), .int (nI dp)])), ((mq 0), .inl (cI, 80, .inl X.1)), ((mq 1), .inl (cI, 80, .inl X.2.1)), ((mq 2), .inl (cI, 80, .inl X.2.2.1)), ((mq 3), .inl (cI, 80, .inl X.2.2.2.1)), ((mq 12), .inl (cI, 80, .inl (fun z9 => nI (eC z9)))), ((mq 13), .inl (cI, 8, .inl (fun z9 => nI (fC z9))))] := hD
            have hfin : (nI (min 1000 (((1 + (eC a0)) + 0) + 0))) = nI (mcost X eC fC e) := by
              show _ = nI (mcost X eC fC e)
              unfold mcost
              rw [hk1, cn_nI (show kd < 2 ^ 31 by omega)]
              rw [if_neg (by omega), hae, cn_nI (show a0 < 2 ^ 31 by omega)]
              rw [if_neg (by omega), if_neg (by omega), if_neg hpx, if_neg (by omega)]
            exact W.iret (v := (nI (min 1000 (((1 + (eC a0)) + 0) + 0)))) hx hb hr (fun t9 ht9 hW => ⟨⟨(nI (min 1000 (((1 + (eC a0)) + 0) + 0))), _, rfl, ⟨hfin, rfl⟩, by rw [ht9]; exact hP, hD⟩, hS.F ht9⟩) hS.2.2 dM_costOf_139
          · have g117 : kd = 11 := (gx_eq (rfl : (nI kd) = (nI kd)) (rfl : (11 : Int32) = nI 11) (by omega) (by decide)).mp c117
            obtain ⟨c0, hcl, hce⟩ := hkc g117
            have hfC1 := hfC c0
            refine lv_aload_n hx hb dM_costOf_120 rfl (lv_at hl 3 rfl) ?_
            refine va_get (D := D) (ci := 6) (v := .ref (mq 13)) (C := R_M) (T := F_M) (N := 24) hx hb ht i_M hown hK hP 0 rfl rfl 13 (by decide) (ht _ m_467) (fun _ h9 => h9) rfl dM_costOf_121 ?_
            refine lv_aload_n hx hb dM_costOf_124 rfl (lv_at hl 3 rfl) ?_
            refine va_get (D := D) (ci := 6) (v := .ref (mq 3)) (C := R_M) (T := F_M) (N := 24) hx hb ht i_M hown hK hP 0 rfl rfl 3 (by decide) (ht _ m_457) (fun _ h9 => h9) rfl dM_costOf_125 ?_
            refine lv_iload_n hx hb dM_costOf_128 rfl (lv_at hl 4 rfl) ?_
            have i129 : vp_in (nI e) 80 := gx_in (rfl : (nI e) = (nI e)) (by omega) (by decide)
            have k129 : ((nI e) : Int32).toNatClampNeg = e := gx_cl (rfl : (nI e) = (nI e)) (by omega)
            refine va_iald hx hb hK hP 4 0 rfl rfl i129 dM_costOf_129 ?_
            rw [k129]
            refine lv_topi (fun v129 e129 => ?_)
            rw [hce] at e129
            subst e129
            have i130 : vp_in (nI c0) 8 := gx_in (rfl : (nI c0) = (nI c0)) (by omega) (by decide)
            have k130 : ((nI c0) : Int32).toNatClampNeg = c0 := gx_cl (rfl : (nI c0) = (nI c0)) (by omega)
            refine va_iald hx hb hK hP 6 0 rfl rfl i130 dM_costOf_130 ?_
            rw [k130]
            refine lv_topi (fun v130 e130 => ?_)
            have n130 : v130 = nI (fC c0) := e130
            subst n130
            refine lv_goto (tgt := 135) hx hb dM_costOf_131 (by decide) ?_
            refine lv_iadd hx hb dM_costOf_135 ?_
            refine lv_topi (fun v135 e135 => ?_)
            have n135 : v135 = nI (((1 + (eC a0)) + 0) + (fC c0)) := by rw [e135]; exact gx_add (rfl : (nI ((1 + (eC a0)) + 0)) = (nI ((1 + (eC a0)) + 0))) (rfl : (nI (fC c0)) = (nI (fC c0)))
            subst n135
            refine gc_i (va_runS (As := [.int (nI (((1 + (eC a0)) + 0) + (fC c0)))]) (rest := []) ⟨hx, hb, hml, hown, ht⟩ (c_M_cap l D cI cJ cB cZ (((1 + (eC a0)) + 0) + (fC c0)) (by omega) H.size) (va_cwS 1 ht (gw_S m_601 m_602 m_6 m_603) rfl rfl rfl (by decide +kernel) ⟨Nat.le_of_ble_eq_true rfl, Nat.le_of_ble_eq_true rfl⟩) (gp_S hK hN (hP.sub (ws' := ([] : va_W)) [] rfl) (hD.sub (ws' := ([] : va_W)) [] (by decide) rfl)) rfl rfl hl.1 rfl (lv_room (Nat.le_of_ble_eq_true rfl)) dM_costOf_136 ⟨Nat.le_of_ble_eq_true rfl, Nat.le_of_ble_eq_true rfl⟩) hP hD hS hA [] rfl (by decide) (fun r w h => by obtain ⟨_, rfl⟩ := h; rfl) (fun r136 w136 H locs p136 hP hD hS => ?_)
            obtain ⟨rfl, rfl⟩ := p136
            have hP : va_P D vwCl [(mo, .inr (6, [.ref (mq 0), .ref (mq 1), .ref (mq 2), .ref (mq 3), .int (nI X.2.2.2.2), .ref (mq 5), .ref (mq 6), .int (nI F), .ref (mq 8), .ref (mq 9), .ref (mq 10), .ref (mq 11), .ref (mq 12), .ref (mq 13), .ref (mq 14), .ref (mq 15), .ref (mq 16), .ref (mq 17), .ref (mq 18), .ref (mq 19), .ref (mq 20), .ref (mq 21), .ref (mq 22), .int (nI dp)])), ((mq 0), .inl (cI, 80, .inl X.1)), ((mq 1), .inl (cI, 80, .inl X.2.1)), ((mq 2), .inl (cI, 80, .inl X.2.2.1)), ((mq 3), .inl (cI, 80, .inl X.2.2.2.1)), ((mq 12), .inl (cI, 80, .inl (fun z9 => nI (eC z9)))), ((mq 13), .inl (cI, 8, .inl (fun z9 => nI (fC z9))))] H := hP
            have hD : va_D A [(mo, .inr (6, [.ref (mq 0), .ref (mq 1), .ref (mq 2), .ref (mq 3), .int (nI X.2.2.2.2), .ref (mq 5), .ref (mq 6), .int (nI F), .ref (mq 8), .ref (mq 9), .ref (mq 10), .ref (mq 11), .ref (mq 12), .ref (mq 13), .ref (mq 14), .ref (mq 15), .ref (mq 16), .ref (mq 17), .ref (mq 18), .ref (mq 19), .ref (mq 20), .ref (mq 21), .ref (mq 22), .int (nI dp)])), ((mq 0), .inl (cI, 80, .inl X.1)), ((mq 1), .inl (cI, 80, .inl X.2.1)), ((mq 2), .inl (cI, 80, .inl X.2.2.1)), ((mq 3), .inl (cI, 80, .inl X.2.2.2.1)), ((mq 12), .inl (cI, 80, .inl (fun z9 => nI (eC z9)))), ((mq 13), .inl (cI, 8, .inl (fun z9 => nI (fC z9))))] := hD
            have hfin : (nI (min 1000 (((1 + (eC a0)) + 0) + (fC c0)))) = nI (mcost X eC fC e) := by
              show _ = nI (mcost X eC fC e)
              unfold mcost
              rw [hk1, cn_nI (show kd < 2 ^ 31 by omega)]
              rw [if_neg (by omega), hae, cn_nI (show a0 < 2 ^ 31 by omega)]
              rw [if_neg (by omega), if_neg (by omega), if_neg hpx, if_pos (by omega), hce, cn_nI (show c0 < 2 ^ 31 by omega)]
            exact W.iret (v := (nI (min 1000 (((1 + (eC a0)) + 0) + (fC c0))))) hx hb hr (fun t9 ht9 hW => ⟨⟨(nI (min 1000 (((1 + (eC a0)) + 0) + (fC c0)))), _, rfl, ⟨hfin, rfl⟩, by rw [ht9]; exact hP, hD⟩, hS.F ht9⟩) hS.2.2 dM_costOf_139
        · have g87 : ¬ (kd < 7) := fun z => c87 ((gx_lt (rfl : (nI kd) = (nI kd)) (rfl : (7 : Int32) = nI 7) (by omega) (by decide)).mpr z)
          refine lv_iload_n hx hb dM_costOf_90 rfl (lv_at hl 2 rfl) ?_
          refine lv_bipush (v := 9) hx hb dM_costOf_91 (by decide) ?_
          refine lv_icmp_gt (tgt := 108) hx hb dM_costOf_93 (by decide) (fun c93 => ?_) (fun c93 => ?_)
          · have g93 : 9 < kd := (gx_lt (rfl : (9 : Int32) = nI 9) (rfl : (nI kd) = (nI kd)) (by decide) (by omega)).mp c93
            refine lv_iconst (v := 1) hx hb dM_costOf_108 (by decide) ?_
            refine lv_iload_n hx hb dM_costOf_109 rfl (lv_at hl 1 rfl) ?_
            refine lv_iadd hx hb dM_costOf_110 ?_
            refine lv_topi (fun v110 e110 => ?_)
            have n110 : v110 = nI (1 + (eC a0)) := by rw [e110]; exact gx_add (rfl : (1 : Int32) = nI 1) (rfl : (nI (eC a0)) = (nI (eC a0)))
            subst n110
            refine lv_iload hx hb dM_costOf_111 (lv_at hl 0 rfl) ?_
            refine lv_iadd hx hb dM_costOf_113 ?_
            refine lv_topi (fun v113 e113 => ?_)
            have n113 : v113 = nI ((1 + (eC a0)) + 0) := by rw [e113]; exact gx_add (rfl : (nI (1 + (eC a0))) = (nI (1 + (eC a0)))) (rfl : (0 : Int32) = nI 0)
            subst n113
            refine lv_iload_n hx hb dM_costOf_114 rfl (lv_at hl 2 rfl) ?_
            refine lv_bipush (v := 11) hx hb dM_costOf_115 (by decide) ?_
            refine lv_icmp_ne (tgt := 134) hx hb dM_costOf_117 (by decide) (fun c117 => ?_) (fun c117 => ?_)
            · have g117 : ¬ (kd = 11) := fun z => c117 ((gx_eq (rfl : (nI kd) = (nI kd)) (rfl : (11 : Int32) = nI 11) (by omega) (by decide)).mpr z)
              refine lv_iconst (v := 0) hx hb dM_costOf_134 (by decide) ?_
              refine lv_iadd hx hb dM_costOf_135 ?_
              refine lv_topi (fun v135 e135 => ?_)
              have n135 : v135 = nI (((1 + (eC a0)) + 0) + 0) := by rw [e135]; exact gx_add (rfl : (nI ((1 + (eC a0)) + 0)) = (nI ((1 + (eC a0)) + 0))) (rfl : (0 : Int32) = nI 0)
              subst n135
              refine gc_i (va_runS (As := [.int (nI (((1 + (eC a0)) + 0) + 0))]) (rest := []) ⟨hx, hb, hml, hown, ht⟩ (c_M_cap l D cI cJ cB cZ (((1 + (eC a0)) + 0) + 0) (by omega) H.size) (va_cwS 1 ht (gw_S m_601 m_602 m_6 m_603) rfl rfl rfl (by decide +kernel) ⟨Nat.le_of_ble_eq_true rfl, Nat.le_of_ble_eq_true rfl⟩) (gp_S hK hN (hP.sub (ws' := ([] : va_W)) [] rfl) (hD.sub (ws' := ([] : va_W)) [] (by decide) rfl)) rfl rfl hl.1 rfl (lv_room (Nat.le_of_ble_eq_true rfl)) dM_costOf_136 ⟨Nat.le_of_ble_eq_true rfl, Nat.le_of_ble_eq_true rfl⟩) hP hD hS hA [] rfl (by decide) (fun r w h => by obtain ⟨_, rfl⟩ := h; rfl) (fun r136 w136 H locs p136 hP hD hS => ?_)
              obtain ⟨rfl, rfl⟩ := p136
              have hP : va_P D vwCl [(mo, .inr (6, [.ref (mq 0), .ref (mq 1), .ref (mq 2), .ref (mq 3), .int (nI X.2.2.2.2), .ref (mq 5), .ref (mq 6), .int (nI F), .ref (mq 8), .ref (mq 9), .ref (mq 10), .ref (mq 11), .ref (mq 12), .ref (mq 13), .ref (mq 14), .ref (mq 15), .ref (mq 16), .ref (mq 17), .ref (mq 18), .ref (mq 19), .ref (mq 20), .ref (mq 21), .ref (mq 22), .int (nI dp)])), ((mq 0), .inl (cI, 80, .inl X.1)), ((mq 1), .inl (cI, 80, .inl X.2.1)), ((mq 2), .inl (cI, 80, .inl X.2.2.1)), ((mq 3), .inl (cI, 80, .inl X.2.2.2.1)), ((mq 12), .inl (cI, 80, .inl (fun z9 => nI (eC z9)))), ((mq 13), .inl (cI, 8, .inl (fun z9 => nI (fC z9))))] H := hP
              have hD : va_D A [(mo, .inr (6, [.ref (mq 0), .ref (mq 1), .ref (mq 2), .ref (mq 3), .int (nI X.2.2.2.2), .ref (mq 5), .ref (mq 6), .int (nI F), .ref (mq 8), .ref (mq 9), .ref (mq 10), .ref (mq 11), .ref (mq 12), .ref (mq 13), .ref (mq 14), .ref (mq 15), .ref (mq 16), .ref (mq 17), .ref (mq 18), .ref (mq 19), .ref (mq 20), .ref (mq 21), .ref (mq 22), .int (nI dp)])), ((mq 0), .inl (cI, 80, .inl X.1)), ((mq 1), .inl (cI, 80, .inl X.2.1)), ((mq 2), .inl (cI, 80, .inl X.2.2.1)), ((mq 3), .inl (cI, 80, .inl X.2.2.2.1)), ((mq 12), .inl (cI, 80, .inl (fun z9 => nI (eC z9)))), ((mq 13), .inl (cI, 8, .inl (fun z9 => nI (fC z9))))] := hD
              have hfin : (nI (min 1000 (((1 + (eC a0)) + 0) + 0))) = nI (mcost X eC fC e) := by
                show _ = nI (mcost X eC fC e)
                unfold mcost
                rw [hk1, cn_nI (show kd < 2 ^ 31 by omega)]
                rw [if_neg (by omega), hae, cn_nI (show a0 < 2 ^ 31 by omega)]
                rw [if_neg (by omega), if_neg (by omega), if_neg hpx, if_neg (by omega)]
              exact W.iret (v := (nI (min 1000 (((1 + (eC a0)) + 0) + 0)))) hx hb hr (fun t9 ht9 hW => ⟨⟨(nI (min 1000 (((1 + (eC a0)) + 0) + 0))), _, rfl, ⟨hfin, rfl⟩, by rw [ht9]; exact hP, hD⟩, hS.F ht9⟩) hS.2.2 dM_costOf_139
            · have g117 : kd = 11 := (gx_eq (rfl : (nI kd) = (nI kd)) (rfl : (11 : Int32) = nI 11) (by omega) (by decide)).mp c117
              obtain ⟨c0, hcl, hce⟩ := hkc g117
              have hfC1 := hfC c0
              refine lv_aload_n hx hb dM_costOf_120 rfl (lv_at hl 3 rfl) ?_
              refine va_get (D := D) (ci := 6) (v := .ref (mq 13)) (C := R_M) (T := F_M) (N := 24) hx hb ht i_M hown hK hP 0 rfl rfl 13 (by decide) (ht _ m_467) (fun _ h9 => h9) rfl dM_costOf_121 ?_
              refine lv_aload_n hx hb dM_costOf_124 rfl (lv_at hl 3 rfl) ?_
              refine va_get (D := D) (ci := 6) (v := .ref (mq 3)) (C := R_M) (T := F_M) (N := 24) hx hb ht i_M hown hK hP 0 rfl rfl 3 (by decide) (ht _ m_457) (fun _ h9 => h9) rfl dM_costOf_125 ?_
              refine lv_iload_n hx hb dM_costOf_128 rfl (lv_at hl 4 rfl) ?_
              have i129 : vp_in (nI e) 80 := gx_in (rfl : (nI e) = (nI e)) (by omega) (by decide)
              have k129 : ((nI e) : Int32).toNatClampNeg = e := gx_cl (rfl : (nI e) = (nI e)) (by omega)
              refine va_iald hx hb hK hP 4 0 rfl rfl i129 dM_costOf_129 ?_
              rw [k129]
              refine lv_topi (fun v129 e129 => ?_)
              rw [hce] at e129
              subst e129
              have i130 : vp_in (nI c0) 8 := gx_in (rfl : (nI c0) = (nI c0)) (by omega) (by decide)
              have k130 : ((nI c0) : Int32).toNatClampNeg = c0 := gx_cl (rfl : (nI c0) = (nI c0)) (by omega)
              refine va_iald hx hb hK hP 6 0 rfl rfl i130 dM_costOf_130 ?_
              rw [k130]
              refine lv_topi (fun v130 e130 => ?_)
              have n130 : v130 = nI (fC c0) := e130
              subst n130
              refine lv_goto (tgt := 135) hx hb dM_costOf_131 (by decide) ?_
              refine lv_iadd hx hb dM_costOf_135 ?_
              refine lv_topi (fun v135 e135 => ?_)
              have n135 : v135 = nI (((1 + (eC a0)) + 0) + (fC c0)) := by rw [e135]; exact gx_add (rfl : (nI ((1 + (eC a0)) + 0)) = (nI ((1 + (eC a0)) + 0))) (rfl : (nI (fC c0)) = (nI (fC c0)))
              subst n135
              refine gc_i (va_runS (As := [.int (nI (((1 + (eC a0)) + 0) + (fC c0)))]) (rest := []) ⟨hx, hb, hml, hown, ht⟩ (c_M_cap l D cI cJ cB cZ (((1 + (eC a0)) + 0) + (fC c0)) (by omega) H.size) (va_cwS 1 ht (gw_S m_601 m_602 m_6 m_603) rfl rfl rfl (by decide +kernel) ⟨Nat.le_of_ble_eq_true rfl, Nat.le_of_ble_eq_true rfl⟩) (gp_S hK hN (hP.sub (ws' := ([] : va_W)) [] rfl) (hD.sub (ws' := ([] : va_W)) [] (by decide) rfl)) rfl rfl hl.1 rfl (lv_room (Nat.le_of_ble_eq_true rfl)) dM_costOf_136 ⟨Nat.le_of_ble_eq_true rfl, Nat.le_of_ble_eq_true rfl⟩) hP hD hS hA [] rfl (by decide) (fun r w h => by obtain ⟨_, rfl⟩ := h; rfl) (fun r136 w136 H locs p136 hP hD hS => ?_)
              obtain ⟨rfl, rfl⟩ := p136
              have hP : va_P D vwCl [(mo, .inr (6, [.ref (mq 0), .ref (mq 1), .ref (mq 2), .ref (mq 3), .int (nI X.2.2.2.2), .ref (mq 5), .ref (mq 6), .int (nI F), .ref (mq 8), .ref (mq 9), .ref (mq 10), .ref (mq 11), .ref (mq 12), .ref (mq 13), .ref (mq 14), .ref (mq 15), .ref (mq 16), .ref (mq 17), .ref (mq 18), .ref (mq 19), .ref (mq 20), .ref (mq 21), .ref (mq 22), .int (nI dp)])), ((mq 0), .inl (cI, 80, .inl X.1)), ((mq 1), .inl (cI, 80, .inl X.2.1)), ((mq 2), .inl (cI, 80, .inl X.2.2.1)), ((mq 3), .inl (cI, 80, .inl X.2.2.2.1)), ((mq 12), .inl (cI, 80, .inl (fun z9 => nI (eC z9)))), ((mq 13), .inl (cI, 8, .inl (fun z9 => nI (fC z9))))] H := hP
              have hD : va_D A [(mo, .inr (6, [.ref (mq 0), .ref (mq 1), .ref (mq 2), .ref (mq 3), .int (nI X.2.2.2.2), .ref (mq 5), .ref (mq 6), .int (nI F), .ref (mq 8), .ref (mq 9), .ref (mq 10), .ref (mq 11), .ref (mq 12), .ref (mq 13), .ref (mq 14), .ref (mq 15), .ref (mq 16), .ref (mq 17), .ref (mq 18), .ref (mq 19), .ref (mq 20), .ref (mq 21), .ref (mq 22), .int (nI dp)])), ((mq 0), .inl (cI, 80, .inl X.1)), ((mq 1), .inl (cI, 80, .inl X.2.1)), ((mq 2), .inl (cI, 80, .inl X.2.2.1)), ((mq 3), .inl (cI, 80, .inl X.2.2.2.1)), ((mq 12), .inl (cI, 80, .inl (fun z9 => nI (eC z9)))), ((mq 13), .inl (cI, 8, .inl (fun z9 => nI (fC z9))))] := hD
              have hfin : (nI (min 1000 (((1 + (eC a0)) + 0) + (fC c0)))) = nI (mcost X eC fC e) := by
                show _ = nI (mcost X eC fC e)
                unfold mcost
                rw [hk1, cn_nI (show kd < 2 ^ 31 by omega)]
                rw [if_neg (by omega), hae, cn_nI (show a0 < 2 ^ 31 by omega)]
                rw [if_neg (by omega), if_neg (by omega), if_neg hpx, if_pos (by omega), hce, cn_nI (show c0 < 2 ^ 31 by omega)]
              exact W.iret (v := (nI (min 1000 (((1 + (eC a0)) + 0) + (fC c0))))) hx hb hr (fun t9 ht9 hW => ⟨⟨(nI (min 1000 (((1 + (eC a0)) + 0) + (fC c0)))), _, rfl, ⟨hfin, rfl⟩, by rw [ht9]; exact hP, hD⟩, hS.F ht9⟩) hS.2.2 dM_costOf_139
          · have g93 : ¬ (9 < kd) := fun z => c93 ((gx_lt (rfl : (9 : Int32) = nI 9) (rfl : (nI kd) = (nI kd)) (by decide) (by omega)).mpr z)
            refine lv_iconst (v := 1) hx hb dM_costOf_96 (by decide) ?_
            refine lv_iconst (v := 2) hx hb dM_costOf_97 (by decide) ?_
            refine lv_iload_n hx hb dM_costOf_98 rfl (lv_at hl 1 rfl) ?_
            refine lv_iload hx hb dM_costOf_99 (lv_at hl 0 rfl) ?_
            refine lv_iadd hx hb dM_costOf_101 ?_
            refine lv_topi (fun v101 e101 => ?_)
            have n101 : v101 = nI ((eC a0) + 0) := by rw [e101]; exact gx_add (rfl : (nI (eC a0)) = (nI (eC a0))) (rfl : (0 : Int32) = nI 0)
            subst n101
            refine lv_imul hx hb dM_costOf_102 ?_
            refine lv_topi (fun v102 e102 => ?_)
            have n102 : v102 = nI (2 * ((eC a0) + 0)) := by rw [e102]; exact gx_mul (rfl : (2 : Int32) = nI 2) (rfl : (nI ((eC a0) + 0)) = (nI ((eC a0) + 0)))
            subst n102
            refine lv_iadd hx hb dM_costOf_103 ?_
            refine lv_topi (fun v103 e103 => ?_)
            have n103 : v103 = nI (1 + (2 * ((eC a0) + 0))) := by rw [e103]; exact gx_add (rfl : (1 : Int32) = nI 1) (rfl : (nI (2 * ((eC a0) + 0))) = (nI (2 * ((eC a0) + 0))))
            subst n103
            refine gc_i (va_runS (As := [.int (nI (1 + (2 * ((eC a0) + 0))))]) (rest := []) ⟨hx, hb, hml, hown, ht⟩ (c_M_cap l D cI cJ cB cZ (1 + (2 * ((eC a0) + 0))) (by omega) H.size) (va_cwS 1 ht (gw_S m_601 m_602 m_6 m_603) rfl rfl rfl (by decide +kernel) ⟨Nat.le_of_ble_eq_true rfl, Nat.le_of_ble_eq_true rfl⟩) (gp_S hK hN (hP.sub (ws' := ([] : va_W)) [] rfl) (hD.sub (ws' := ([] : va_W)) [] (by decide) rfl)) rfl rfl hl.1 rfl (lv_room (Nat.le_of_ble_eq_true rfl)) dM_costOf_104 ⟨Nat.le_of_ble_eq_true rfl, Nat.le_of_ble_eq_true rfl⟩) hP hD hS hA [] rfl (by decide) (fun r w h => by obtain ⟨_, rfl⟩ := h; rfl) (fun r104 w104 H locs p104 hP hD hS => ?_)
            obtain ⟨rfl, rfl⟩ := p104
            have hP : va_P D vwCl [(mo, .inr (6, [.ref (mq 0), .ref (mq 1), .ref (mq 2), .ref (mq 3), .int (nI X.2.2.2.2), .ref (mq 5), .ref (mq 6), .int (nI F), .ref (mq 8), .ref (mq 9), .ref (mq 10), .ref (mq 11), .ref (mq 12), .ref (mq 13), .ref (mq 14), .ref (mq 15), .ref (mq 16), .ref (mq 17), .ref (mq 18), .ref (mq 19), .ref (mq 20), .ref (mq 21), .ref (mq 22), .int (nI dp)])), ((mq 0), .inl (cI, 80, .inl X.1)), ((mq 1), .inl (cI, 80, .inl X.2.1)), ((mq 2), .inl (cI, 80, .inl X.2.2.1)), ((mq 3), .inl (cI, 80, .inl X.2.2.2.1)), ((mq 12), .inl (cI, 80, .inl (fun z9 => nI (eC z9)))), ((mq 13), .inl (cI, 8, .inl (fun z9 => nI (fC z9))))] H := hP
            have hD : va_D A [(mo, .inr (6, [.ref (mq 0), .ref (mq 1), .ref (mq 2), .ref (mq 3), .int (nI X.2.2.2.2), .ref (mq 5), .ref (mq 6), .int (nI F), .ref (mq 8), .ref (mq 9), .ref (mq 10), .ref (mq 11), .ref (mq 12), .ref (mq 13), .ref (mq 14), .ref (mq 15), .ref (mq 16), .ref (mq 17), .ref (mq 18), .ref (mq 19), .ref (mq 20), .ref (mq 21), .ref (mq 22), .int (nI dp)])), ((mq 0), .inl (cI, 80, .inl X.1)), ((mq 1), .inl (cI, 80, .inl X.2.1)), ((mq 2), .inl (cI, 80, .inl X.2.2.1)), ((mq 3), .inl (cI, 80, .inl X.2.2.2.1)), ((mq 12), .inl (cI, 80, .inl (fun z9 => nI (eC z9)))), ((mq 13), .inl (cI, 8, .inl (fun z9 => nI (fC z9))))] := hD
            have hfin : (nI (min 1000 (1 + (2 * ((eC a0) + 0))))) = nI (mcost X eC fC e) := by
              show _ = nI (mcost X eC fC e)
              unfold mcost
              rw [hk1, cn_nI (show kd < 2 ^ 31 by omega)]
              rw [if_neg (by omega), hae, cn_nI (show a0 < 2 ^ 31 by omega)]
              rw [if_neg (by omega), if_pos (by omega), if_neg hpx]
            exact W.iret (v := (nI (min 1000 (1 + (2 * ((eC a0) + 0)))))) hx hb hr (fun t9 ht9 hW => ⟨⟨(nI (min 1000 (1 + (2 * ((eC a0) + 0))))), _, rfl, ⟨hfin, rfl⟩, by rw [ht9]; exact hP, hD⟩, hS.F ht9⟩) hS.2.2 dM_costOf_107
      · have g53 : kd = 6 := (gx_eq (rfl : (nI kd) = (nI kd)) (rfl : (6 : Int32) = nI 6) (by omega) (by decide)).mp c53
        obtain ⟨b0, hb3, hbe⟩ := hk6 g53
        refine lv_iconst (v := 1) hx hb dM_costOf_56 (by decide) ?_
        refine lv_aload_n hx hb dM_costOf_57 rfl (lv_at hl 3 rfl) ?_
        refine va_get (D := D) (ci := 6) (v := .ref (mq 2)) (C := R_M) (T := F_M) (N := 24) hx hb ht i_M hown hK hP 0 rfl rfl 2 (by decide) (ht _ m_456) (fun _ h9 => h9) rfl dM_costOf_58 ?_
        refine lv_iload_n hx hb dM_costOf_61 rfl (lv_at hl 4 rfl) ?_
        have i62 : vp_in (nI e) 80 := gx_in (rfl : (nI e) = (nI e)) (by omega) (by decide)
        have k62 : ((nI e) : Int32).toNatClampNeg = e := gx_cl (rfl : (nI e) = (nI e)) (by omega)
        refine va_iald hx hb hK hP 3 0 rfl rfl i62 dM_costOf_62 ?_
        rw [k62]
        refine lv_topi (fun v62 e62 => ?_)
        rw [hbe] at e62
        subst e62
        refine lv_iconst (v := 1) hx hb dM_costOf_63 (by decide) ?_
        refine lv_icmp_le (tgt := 78) hx hb dM_costOf_64 (by decide) (fun c64 => ?_) (fun c64 => ?_)
        · have g64 : b0 ≤ 1 := (gx_le (rfl : (nI b0) = (nI b0)) (rfl : (1 : Int32) = nI 1) (by omega) (by decide)).mp c64
          refine lv_iload_n hx hb dM_costOf_78 rfl (lv_at hl 1 rfl) ?_
          refine lv_iadd hx hb dM_costOf_79 ?_
          refine lv_topi (fun v79 e79 => ?_)
          have n79 : v79 = nI (1 + (eC a0)) := by rw [e79]; exact gx_add (rfl : (1 : Int32) = nI 1) (rfl : (nI (eC a0)) = (nI (eC a0)))
          subst n79
          refine gc_i (va_runS (As := [.int (nI (1 + (eC a0)))]) (rest := []) ⟨hx, hb, hml, hown, ht⟩ (c_M_cap l D cI cJ cB cZ (1 + (eC a0)) (by omega) H.size) (va_cwS 1 ht (gw_S m_601 m_602 m_6 m_603) rfl rfl rfl (by decide +kernel) ⟨Nat.le_of_ble_eq_true rfl, Nat.le_of_ble_eq_true rfl⟩) (gp_S hK hN (hP.sub (ws' := ([] : va_W)) [] rfl) (hD.sub (ws' := ([] : va_W)) [] (by decide) rfl)) rfl rfl hl.1 rfl (lv_room (Nat.le_of_ble_eq_true rfl)) dM_costOf_80 ⟨Nat.le_of_ble_eq_true rfl, Nat.le_of_ble_eq_true rfl⟩) hP hD hS hA [] rfl (by decide) (fun r w h => by obtain ⟨_, rfl⟩ := h; rfl) (fun r80 w80 H locs p80 hP hD hS => ?_)
          obtain ⟨rfl, rfl⟩ := p80
          have hP : va_P D vwCl [(mo, .inr (6, [.ref (mq 0), .ref (mq 1), .ref (mq 2), .ref (mq 3), .int (nI X.2.2.2.2), .ref (mq 5), .ref (mq 6), .int (nI F), .ref (mq 8), .ref (mq 9), .ref (mq 10), .ref (mq 11), .ref (mq 12), .ref (mq 13), .ref (mq 14), .ref (mq 15), .ref (mq 16), .ref (mq 17), .ref (mq 18), .ref (mq 19), .ref (mq 20), .ref (mq 21), .ref (mq 22), .int (nI dp)])), ((mq 0), .inl (cI, 80, .inl X.1)), ((mq 1), .inl (cI, 80, .inl X.2.1)), ((mq 2), .inl (cI, 80, .inl X.2.2.1)), ((mq 3), .inl (cI, 80, .inl X.2.2.2.1)), ((mq 12), .inl (cI, 80, .inl (fun z9 => nI (eC z9)))), ((mq 13), .inl (cI, 8, .inl (fun z9 => nI (fC z9))))] H := hP
          have hD : va_D A [(mo, .inr (6, [.ref (mq 0), .ref (mq 1), .ref (mq 2), .ref (mq 3), .int (nI X.2.2.2.2), .ref (mq 5), .ref (mq 6), .int (nI F), .ref (mq 8), .ref (mq 9), .ref (mq 10), .ref (mq 11), .ref (mq 12), .ref (mq 13), .ref (mq 14), .ref (mq 15), .ref (mq 16), .ref (mq 17), .ref (mq 18), .ref (mq 19), .ref (mq 20), .ref (mq 21), .ref (mq 22), .int (nI dp)])), ((mq 0), .inl (cI, 80, .inl X.1)), ((mq 1), .inl (cI, 80, .inl X.2.1)), ((mq 2), .inl (cI, 80, .inl X.2.2.1)), ((mq 3), .inl (cI, 80, .inl X.2.2.2.1)), ((mq 12), .inl (cI, 80, .inl (fun z9 => nI (eC z9)))), ((mq 13), .inl (cI, 8, .inl (fun z9 => nI (fC z9))))] := hD
          have hfin : (nI (min 1000 (1 + (eC a0)))) = nI (mcost X eC fC e) := by
            show _ = nI (mcost X eC fC e)
            unfold mcost
            rw [hk1, cn_nI (show kd < 2 ^ 31 by omega)]
            rw [if_neg (by omega), hae, cn_nI (show a0 < 2 ^ 31 by omega)]
            rw [if_pos (by omega), hbe, cn_nI (show b0 < 2 ^ 31 by omega), if_neg (by omega)]
          exact W.iret (v := (nI (min 1000 (1 + (eC a0))))) hx hb hr (fun t9 ht9 hW => ⟨⟨(nI (min 1000 (1 + (eC a0)))), _, rfl, ⟨hfin, rfl⟩, by rw [ht9]; exact hP, hD⟩, hS.F ht9⟩) hS.2.2 dM_costOf_83
        · have g64 : ¬ (b0 ≤ 1) := fun z => c64 ((gx_le (rfl : (nI b0) = (nI b0)) (rfl : (1 : Int32) = nI 1) (by omega) (by decide)).mpr z)
          refine lv_aload_n hx hb dM_costOf_67 rfl (lv_at hl 3 rfl) ?_
          refine va_get (D := D) (ci := 6) (v := .ref (mq 2)) (C := R_M) (T := F_M) (N := 24) hx hb ht i_M hown hK hP 0 rfl rfl 2 (by decide) (ht _ m_456) (fun _ h9 => h9) rfl dM_costOf_68 ?_
          refine lv_iload_n hx hb dM_costOf_71 rfl (lv_at hl 4 rfl) ?_
          have i72 : vp_in (nI e) 80 := gx_in (rfl : (nI e) = (nI e)) (by omega) (by decide)
          have k72 : ((nI e) : Int32).toNatClampNeg = e := gx_cl (rfl : (nI e) = (nI e)) (by omega)
          refine va_iald hx hb hK hP 3 0 rfl rfl i72 dM_costOf_72 ?_
          rw [k72]
          refine lv_topi (fun v72 e72 => ?_)
          rw [hbe] at e72
          subst e72
          refine lv_iload_n hx hb dM_costOf_73 rfl (lv_at hl 1 rfl) ?_
          refine lv_imul hx hb dM_costOf_74 ?_
          refine lv_topi (fun v74 e74 => ?_)
          have n74 : v74 = nI (b0 * (eC a0)) := by rw [e74]; exact gx_mul (rfl : (nI b0) = (nI b0)) (rfl : (nI (eC a0)) = (nI (eC a0)))
          subst n74
          have hmul : b0 * eC a0 ≤ 3 * 1000 := Nat.mul_le_mul hb3 heC1
          refine lv_goto (tgt := 79) hx hb dM_costOf_75 (by decide) ?_
          refine lv_iadd hx hb dM_costOf_79 ?_
          refine lv_topi (fun v79 e79 => ?_)
          have n79 : v79 = nI (1 + (b0 * (eC a0))) := by rw [e79]; exact gx_add (rfl : (1 : Int32) = nI 1) (rfl : (nI (b0 * (eC a0))) = (nI (b0 * (eC a0))))
          subst n79
          refine gc_i (va_runS (As := [.int (nI (1 + (b0 * (eC a0))))]) (rest := []) ⟨hx, hb, hml, hown, ht⟩ (c_M_cap l D cI cJ cB cZ (1 + (b0 * (eC a0))) (by omega) H.size) (va_cwS 1 ht (gw_S m_601 m_602 m_6 m_603) rfl rfl rfl (by decide +kernel) ⟨Nat.le_of_ble_eq_true rfl, Nat.le_of_ble_eq_true rfl⟩) (gp_S hK hN (hP.sub (ws' := ([] : va_W)) [] rfl) (hD.sub (ws' := ([] : va_W)) [] (by decide) rfl)) rfl rfl hl.1 rfl (lv_room (Nat.le_of_ble_eq_true rfl)) dM_costOf_80 ⟨Nat.le_of_ble_eq_true rfl, Nat.le_of_ble_eq_true rfl⟩) hP hD hS hA [] rfl (by decide) (fun r w h => by obtain ⟨_, rfl⟩ := h; rfl) (fun r80 w80 H locs p80 hP hD hS => ?_)
          obtain ⟨rfl, rfl⟩ := p80
          have hP : va_P D vwCl [(mo, .inr (6, [.ref (mq 0), .ref (mq 1), .ref (mq 2), .ref (mq 3), .int (nI X.2.2.2.2), .ref (mq 5), .ref (mq 6), .int (nI F), .ref (mq 8), .ref (mq 9), .ref (mq 10), .ref (mq 11), .ref (mq 12), .ref (mq 13), .ref (mq 14), .ref (mq 15), .ref (mq 16), .ref (mq 17), .ref (mq 18), .ref (mq 19), .ref (mq 20), .ref (mq 21), .ref (mq 22), .int (nI dp)])), ((mq 0), .inl (cI, 80, .inl X.1)), ((mq 1), .inl (cI, 80, .inl X.2.1)), ((mq 2), .inl (cI, 80, .inl X.2.2.1)), ((mq 3), .inl (cI, 80, .inl X.2.2.2.1)), ((mq 12), .inl (cI, 80, .inl (fun z9 => nI (eC z9)))), ((mq 13), .inl (cI, 8, .inl (fun z9 => nI (fC z9))))] H := hP
          have hD : va_D A [(mo, .inr (6, [.ref (mq 0), .ref (mq 1), .ref (mq 2), .ref (mq 3), .int (nI X.2.2.2.2), .ref (mq 5), .ref (mq 6), .int (nI F), .ref (mq 8), .ref (mq 9), .ref (mq 10), .ref (mq 11), .ref (mq 12), .ref (mq 13), .ref (mq 14), .ref (mq 15), .ref (mq 16), .ref (mq 17), .ref (mq 18), .ref (mq 19), .ref (mq 20), .ref (mq 21), .ref (mq 22), .int (nI dp)])), ((mq 0), .inl (cI, 80, .inl X.1)), ((mq 1), .inl (cI, 80, .inl X.2.1)), ((mq 2), .inl (cI, 80, .inl X.2.2.1)), ((mq 3), .inl (cI, 80, .inl X.2.2.2.1)), ((mq 12), .inl (cI, 80, .inl (fun z9 => nI (eC z9)))), ((mq 13), .inl (cI, 8, .inl (fun z9 => nI (fC z9))))] := hD
          have hfin : (nI (min 1000 (1 + (b0 * (eC a0))))) = nI (mcost X eC fC e) := by
            show _ = nI (mcost X eC fC e)
            unfold mcost
            rw [hk1, cn_nI (show kd < 2 ^ 31 by omega)]
            rw [if_neg (by omega), hae, cn_nI (show a0 < 2 ^ 31 by omega)]
            rw [if_pos (by omega), hbe, cn_nI (show b0 < 2 ^ 31 by omega), if_pos (by omega)]
          exact W.iret (v := (nI (min 1000 (1 + (b0 * (eC a0)))))) hx hb hr (fun t9 ht9 hW => ⟨⟨(nI (min 1000 (1 + (b0 * (eC a0))))), _, rfl, ⟨hfin, rfl⟩, by rw [ht9]; exact hP, hD⟩, hS.F ht9⟩) hS.2.2 dM_costOf_83
    · have hpx := (gm_R hkd).mp (gb_0 c30)
      obtain ⟨b0, hbl, hbe⟩ := hkb hpx
      have heC2 := heC b0
      refine lv_aload_n hx hb dM_costOf_33 rfl (lv_at hl 2 rfl) ?_
      refine va_get (D := D) (ci := 6) (v := .ref (mq 12)) (C := R_M) (T := F_M) (N := 24) hx hb ht i_M hown hK hP 0 rfl rfl 12 (by decide) (ht _ m_466) (fun _ h9 => h9) rfl dM_costOf_34 ?_
      refine lv_aload_n hx hb dM_costOf_37 rfl (lv_at hl 2 rfl) ?_
      refine va_get (D := D) (ci := 6) (v := .ref (mq 2)) (C := R_M) (T := F_M) (N := 24) hx hb ht i_M hown hK hP 0 rfl rfl 2 (by decide) (ht _ m_456) (fun _ h9 => h9) rfl dM_costOf_38 ?_
      refine lv_iload_n hx hb dM_costOf_41 rfl (lv_at hl 3 rfl) ?_
      have i42 : vp_in (nI e) 80 := gx_in (rfl : (nI e) = (nI e)) (by omega) (by decide)
      have k42 : ((nI e) : Int32).toNatClampNeg = e := gx_cl (rfl : (nI e) = (nI e)) (by omega)
      refine va_iald hx hb hK hP 3 0 rfl rfl i42 dM_costOf_42 ?_
      rw [k42]
      refine lv_topi (fun v42 e42 => ?_)
      rw [hbe] at e42
      subst e42
      have i43 : vp_in (nI b0) 80 := gx_in (rfl : (nI b0) = (nI b0)) (by omega) (by decide)
      have k43 : ((nI b0) : Int32).toNatClampNeg = b0 := gx_cl (rfl : (nI b0) = (nI b0)) (by omega)
      refine va_iald hx hb hK hP 5 0 rfl rfl i43 dM_costOf_43 ?_
      rw [k43]
      refine lv_topi (fun v43 e43 => ?_)
      have n43 : v43 = nI (eC b0) := e43
      subst n43
      refine lv_goto (tgt := 48) hx hb dM_costOf_44 (by decide) ?_
      refine lv_istore (lv' := [(4, .int (nI (eC b0))), (3, .int (nI (eC a0))), (2, .int (nI kd)), (0, .ref mo), (1, .int (nI e))]) hx hb dM_costOf_48 hl (by decide) rfl (fun ls hl => ?_)
      refine lv_iload_n hx hb dM_costOf_50 rfl (lv_at hl 2 rfl) ?_
      refine lv_bipush (v := 6) hx hb dM_costOf_51 (by decide) ?_
      refine lv_icmp_ne (tgt := 84) hx hb dM_costOf_53 (by decide) (fun c53 => ?_) (fun c53 => ?_)
      · have g53 : ¬ (kd = 6) := fun z => c53 ((gx_eq (rfl : (nI kd) = (nI kd)) (rfl : (6 : Int32) = nI 6) (by omega) (by decide)).mpr z)
        refine lv_iload_n hx hb dM_costOf_84 rfl (lv_at hl 2 rfl) ?_
        refine lv_bipush (v := 7) hx hb dM_costOf_85 (by decide) ?_
        refine lv_icmp_lt (tgt := 108) hx hb dM_costOf_87 (by decide) (fun c87 => ?_) (fun c87 => ?_)
        · have g87 : kd < 7 := (gx_lt (rfl : (nI kd) = (nI kd)) (rfl : (7 : Int32) = nI 7) (by omega) (by decide)).mp c87
          refine lv_iconst (v := 1) hx hb dM_costOf_108 (by decide) ?_
          refine lv_iload_n hx hb dM_costOf_109 rfl (lv_at hl 1 rfl) ?_
          refine lv_iadd hx hb dM_costOf_110 ?_
          refine lv_topi (fun v110 e110 => ?_)
          have n110 : v110 = nI (1 + (eC a0)) := by rw [e110]; exact gx_add (rfl : (1 : Int32) = nI 1) (rfl : (nI (eC a0)) = (nI (eC a0)))
          subst n110
          refine lv_iload hx hb dM_costOf_111 (lv_at hl 0 rfl) ?_
          refine lv_iadd hx hb dM_costOf_113 ?_
          refine lv_topi (fun v113 e113 => ?_)
          have n113 : v113 = nI ((1 + (eC a0)) + (eC b0)) := by rw [e113]; exact gx_add (rfl : (nI (1 + (eC a0))) = (nI (1 + (eC a0)))) (rfl : (nI (eC b0)) = (nI (eC b0)))
          subst n113
          refine lv_iload_n hx hb dM_costOf_114 rfl (lv_at hl 2 rfl) ?_
          refine lv_bipush (v := 11) hx hb dM_costOf_115 (by decide) ?_
          refine lv_icmp_ne (tgt := 134) hx hb dM_costOf_117 (by decide) (fun c117 => ?_) (fun c117 => ?_)
          · have g117 : ¬ (kd = 11) := fun z => c117 ((gx_eq (rfl : (nI kd) = (nI kd)) (rfl : (11 : Int32) = nI 11) (by omega) (by decide)).mpr z)
            refine lv_iconst (v := 0) hx hb dM_costOf_134 (by decide) ?_
            refine lv_iadd hx hb dM_costOf_135 ?_
            refine lv_topi (fun v135 e135 => ?_)
            have n135 : v135 = nI (((1 + (eC a0)) + (eC b0)) + 0) := by rw [e135]; exact gx_add (rfl : (nI ((1 + (eC a0)) + (eC b0))) = (nI ((1 + (eC a0)) + (eC b0)))) (rfl : (0 : Int32) = nI 0)
            subst n135
            refine gc_i (va_runS (As := [.int (nI (((1 + (eC a0)) + (eC b0)) + 0))]) (rest := []) ⟨hx, hb, hml, hown, ht⟩ (c_M_cap l D cI cJ cB cZ (((1 + (eC a0)) + (eC b0)) + 0) (by omega) H.size) (va_cwS 1 ht (gw_S m_601 m_602 m_6 m_603) rfl rfl rfl (by decide +kernel) ⟨Nat.le_of_ble_eq_true rfl, Nat.le_of_ble_eq_true rfl⟩) (gp_S hK hN (hP.sub (ws' := ([] : va_W)) [] rfl) (hD.sub (ws' := ([] : va_W)) [] (by decide) rfl)) rfl rfl hl.1 rfl (lv_room (Nat.le_of_ble_eq_true rfl)) dM_costOf_136 ⟨Nat.le_of_ble_eq_true rfl, Nat.le_of_ble_eq_true rfl⟩) hP hD hS hA [] rfl (by decide) (fun r w h => by obtain ⟨_, rfl⟩ := h; rfl) (fun r136 w136 H locs p136 hP hD hS => ?_)
            obtain ⟨rfl, rfl⟩ := p136
            have hP : va_P D vwCl [(mo, .inr (6, [.ref (mq 0), .ref (mq 1), .ref (mq 2), .ref (mq 3), .int (nI X.2.2.2.2), .ref (mq 5), .ref (mq 6), .int (nI F), .ref (mq 8), .ref (mq 9), .ref (mq 10), .ref (mq 11), .ref (mq 12), .ref (mq 13), .ref (mq 14), .ref (mq 15), .ref (mq 16), .ref (mq 17), .ref (mq 18), .ref (mq 19), .ref (mq 20), .ref (mq 21), .ref (mq 22), .int (nI dp)])), ((mq 0), .inl (cI, 80, .inl X.1)), ((mq 1), .inl (cI, 80, .inl X.2.1)), ((mq 2), .inl (cI, 80, .inl X.2.2.1)), ((mq 3), .inl (cI, 80, .inl X.2.2.2.1)), ((mq 12), .inl (cI, 80, .inl (fun z9 => nI (eC z9)))), ((mq 13), .inl (cI, 8, .inl (fun z9 => nI (fC z9))))] H := hP
            have hD : va_D A [(mo, .inr (6, [.ref (mq 0), .ref (mq 1), .ref (mq 2), .ref (mq 3), .int (nI X.2.2.2.2), .ref (mq 5), .ref (mq 6), .int (nI F), .ref (mq 8), .ref (mq 9), .ref (mq 10), .ref (mq 11), .ref (mq 12), .ref (mq 13), .ref (mq 14), .ref (mq 15), .ref (mq 16), .ref (mq 17), .ref (mq 18), .ref (mq 19), .ref (mq 20), .ref (mq 21), .ref (mq 22), .int (nI dp)])), ((mq 0), .inl (cI, 80, .inl X.1)), ((mq 1), .inl (cI, 80, .inl X.2.1)), ((mq 2), .inl (cI, 80, .inl X.2.2.1)), ((mq 3), .inl (cI, 80, .inl X.2.2.2.1)), ((mq 12), .inl (cI, 80, .inl (fun z9 => nI (eC z9)))), ((mq 13), .inl (cI, 8, .inl (fun z9 => nI (fC z9))))] := hD
            have hfin : (nI (min 1000 (((1 + (eC a0)) + (eC b0)) + 0))) = nI (mcost X eC fC e) := by
              show _ = nI (mcost X eC fC e)
              unfold mcost
              rw [hk1, cn_nI (show kd < 2 ^ 31 by omega)]
              rw [if_neg (by omega), hae, cn_nI (show a0 < 2 ^ 31 by omega)]
              rw [if_neg (by omega), if_neg (by omega), if_pos hpx, hbe, cn_nI (show b0 < 2 ^ 31 by omega), if_neg (by omega)]
            exact W.iret (v := (nI (min 1000 (((1 + (eC a0)) + (eC b0)) + 0)))) hx hb hr (fun t9 ht9 hW => ⟨⟨(nI (min 1000 (((1 + (eC a0)) + (eC b0)) + 0))), _, rfl, ⟨hfin, rfl⟩, by rw [ht9]; exact hP, hD⟩, hS.F ht9⟩) hS.2.2 dM_costOf_139
          · have g117 : kd = 11 := (gx_eq (rfl : (nI kd) = (nI kd)) (rfl : (11 : Int32) = nI 11) (by omega) (by decide)).mp c117
            obtain ⟨c0, hcl, hce⟩ := hkc g117
            have hfC1 := hfC c0
            refine lv_aload_n hx hb dM_costOf_120 rfl (lv_at hl 3 rfl) ?_
            refine va_get (D := D) (ci := 6) (v := .ref (mq 13)) (C := R_M) (T := F_M) (N := 24) hx hb ht i_M hown hK hP 0 rfl rfl 13 (by decide) (ht _ m_467) (fun _ h9 => h9) rfl dM_costOf_121 ?_
            refine lv_aload_n hx hb dM_costOf_124 rfl (lv_at hl 3 rfl) ?_
            refine va_get (D := D) (ci := 6) (v := .ref (mq 3)) (C := R_M) (T := F_M) (N := 24) hx hb ht i_M hown hK hP 0 rfl rfl 3 (by decide) (ht _ m_457) (fun _ h9 => h9) rfl dM_costOf_125 ?_
            refine lv_iload_n hx hb dM_costOf_128 rfl (lv_at hl 4 rfl) ?_
            have i129 : vp_in (nI e) 80 := gx_in (rfl : (nI e) = (nI e)) (by omega) (by decide)
            have k129 : ((nI e) : Int32).toNatClampNeg = e := gx_cl (rfl : (nI e) = (nI e)) (by omega)
            refine va_iald hx hb hK hP 4 0 rfl rfl i129 dM_costOf_129 ?_
            rw [k129]
            refine lv_topi (fun v129 e129 => ?_)
            rw [hce] at e129
            subst e129
            have i130 : vp_in (nI c0) 8 := gx_in (rfl : (nI c0) = (nI c0)) (by omega) (by decide)
            have k130 : ((nI c0) : Int32).toNatClampNeg = c0 := gx_cl (rfl : (nI c0) = (nI c0)) (by omega)
            refine va_iald hx hb hK hP 6 0 rfl rfl i130 dM_costOf_130 ?_
            rw [k130]
            refine lv_topi (fun v130 e130 => ?_)
            have n130 : v130 = nI (fC c0) := e130
            subst n130
            refine lv_goto (tgt := 135) hx hb dM_costOf_131 (by decide) ?_
            refine lv_iadd hx hb dM_costOf_135 ?_
            refine lv_topi (fun v135 e135 => ?_)
            have n135 : v135 = nI (((1 + (eC a0)) + (eC b0)) + (fC c0)) := by rw [e135]; exact gx_add (rfl : (nI ((1 + (eC a0)) + (eC b0))) = (nI ((1 + (eC a0)) + (eC b0)))) (rfl : (nI (fC c0)) = (nI (fC c0)))
            subst n135
            refine gc_i (va_runS (As := [.int (nI (((1 + (eC a0)) + (eC b0)) + (fC c0)))]) (rest := []) ⟨hx, hb, hml, hown, ht⟩ (c_M_cap l D cI cJ cB cZ (((1 + (eC a0)) + (eC b0)) + (fC c0)) (by omega) H.size) (va_cwS 1 ht (gw_S m_601 m_602 m_6 m_603) rfl rfl rfl (by decide +kernel) ⟨Nat.le_of_ble_eq_true rfl, Nat.le_of_ble_eq_true rfl⟩) (gp_S hK hN (hP.sub (ws' := ([] : va_W)) [] rfl) (hD.sub (ws' := ([] : va_W)) [] (by decide) rfl)) rfl rfl hl.1 rfl (lv_room (Nat.le_of_ble_eq_true rfl)) dM_costOf_136 ⟨Nat.le_of_ble_eq_true rfl, Nat.le_of_ble_eq_true rfl⟩) hP hD hS hA [] rfl (by decide) (fun r w h => by obtain ⟨_, rfl⟩ := h; rfl) (fun r136 w136 H locs p136 hP hD hS => ?_)
            obtain ⟨rfl, rfl⟩ := p136
            have hP : va_P D vwCl [(mo, .inr (6, [.ref (mq 0), .ref (mq 1), .ref (mq 2), .ref (mq 3), .int (nI X.2.2.2.2), .ref (mq 5), .ref (mq 6), .int (nI F), .ref (mq 8), .ref (mq 9), .ref (mq 10), .ref (mq 11), .ref (mq 12), .ref (mq 13), .ref (mq 14), .ref (mq 15), .ref (mq 16), .ref (mq 17), .ref (mq 18), .ref (mq 19), .ref (mq 20), .ref (mq 21), .ref (mq 22), .int (nI dp)])), ((mq 0), .inl (cI, 80, .inl X.1)), ((mq 1), .inl (cI, 80, .inl X.2.1)), ((mq 2), .inl (cI, 80, .inl X.2.2.1)), ((mq 3), .inl (cI, 80, .inl X.2.2.2.1)), ((mq 12), .inl (cI, 80, .inl (fun z9 => nI (eC z9)))), ((mq 13), .inl (cI, 8, .inl (fun z9 => nI (fC z9))))] H := hP
            have hD : va_D A [(mo, .inr (6, [.ref (mq 0), .ref (mq 1), .ref (mq 2), .ref (mq 3), .int (nI X.2.2.2.2), .ref (mq 5), .ref (mq 6), .int (nI F), .ref (mq 8), .ref (mq 9), .ref (mq 10), .ref (mq 11), .ref (mq 12), .ref (mq 13), .ref (mq 14), .ref (mq 15), .ref (mq 16), .ref (mq 17), .ref (mq 18), .ref (mq 19), .ref (mq 20), .ref (mq 21), .ref (mq 22), .int (nI dp)])), ((mq 0), .inl (cI, 80, .inl X.1)), ((mq 1), .inl (cI, 80, .inl X.2.1)), ((mq 2), .inl (cI, 80, .inl X.2.2.1)), ((mq 3), .inl (cI, 80, .inl X.2.2.2.1)), ((mq 12), .inl (cI, 80, .inl (fun z9 => nI (eC z9)))), ((mq 13), .inl (cI, 8, .inl (fun z9 => nI (fC z9))))] := hD
            have hfin : (nI (min 1000 (((1 + (eC a0)) + (eC b0)) + (fC c0)))) = nI (mcost X eC fC e) := by
              show _ = nI (mcost X eC fC e)
              unfold mcost
              rw [hk1, cn_nI (show kd < 2 ^ 31 by omega)]
              rw [if_neg (by omega), hae, cn_nI (show a0 < 2 ^ 31 by omega)]
              rw [if_neg (by omega), if_neg (by omega), if_pos hpx, hbe, cn_nI (show b0 < 2 ^ 31 by omega), if_pos (by omega), hce, cn_nI (show c0 < 2 ^ 31 by omega)]
            exact W.iret (v := (nI (min 1000 (((1 + (eC a0)) + (eC b0)) + (fC c0))))) hx hb hr (fun t9 ht9 hW => ⟨⟨(nI (min 1000 (((1 + (eC a0)) + (eC b0)) + (fC c0)))), _, rfl, ⟨hfin, rfl⟩, by rw [ht9]; exact hP, hD⟩, hS.F ht9⟩) hS.2.2 dM_costOf_139
        · have g87 : ¬ (kd < 7) := fun z => c87 ((gx_lt (rfl : (nI kd) = (nI kd)) (rfl : (7 : Int32) = nI 7) (by omega) (by decide)).mpr z)
          refine lv_iload_n hx hb dM_costOf_90 rfl (lv_at hl 2 rfl) ?_
          refine lv_bipush (v := 9) hx hb dM_costOf_91 (by decide) ?_
          refine lv_icmp_gt (tgt := 108) hx hb dM_costOf_93 (by decide) (fun c93 => ?_) (fun c93 => ?_)
          · have g93 : 9 < kd := (gx_lt (rfl : (9 : Int32) = nI 9) (rfl : (nI kd) = (nI kd)) (by decide) (by omega)).mp c93
            refine lv_iconst (v := 1) hx hb dM_costOf_108 (by decide) ?_
            refine lv_iload_n hx hb dM_costOf_109 rfl (lv_at hl 1 rfl) ?_
            refine lv_iadd hx hb dM_costOf_110 ?_
            refine lv_topi (fun v110 e110 => ?_)
            have n110 : v110 = nI (1 + (eC a0)) := by rw [e110]; exact gx_add (rfl : (1 : Int32) = nI 1) (rfl : (nI (eC a0)) = (nI (eC a0)))
            subst n110
            refine lv_iload hx hb dM_costOf_111 (lv_at hl 0 rfl) ?_
            refine lv_iadd hx hb dM_costOf_113 ?_
            refine lv_topi (fun v113 e113 => ?_)
            have n113 : v113 = nI ((1 + (eC a0)) + (eC b0)) := by rw [e113]; exact gx_add (rfl : (nI (1 + (eC a0))) = (nI (1 + (eC a0)))) (rfl : (nI (eC b0)) = (nI (eC b0)))
            subst n113
            refine lv_iload_n hx hb dM_costOf_114 rfl (lv_at hl 2 rfl) ?_
            refine lv_bipush (v := 11) hx hb dM_costOf_115 (by decide) ?_
            refine lv_icmp_ne (tgt := 134) hx hb dM_costOf_117 (by decide) (fun c117 => ?_) (fun c117 => ?_)
            · have g117 : ¬ (kd = 11) := fun z => c117 ((gx_eq (rfl : (nI kd) = (nI kd)) (rfl : (11 : Int32) = nI 11) (by omega) (by decide)).mpr z)
              refine lv_iconst (v := 0) hx hb dM_costOf_134 (by decide) ?_
              refine lv_iadd hx hb dM_costOf_135 ?_
              refine lv_topi (fun v135 e135 => ?_)
              have n135 : v135 = nI (((1 + (eC a0)) + (eC b0)) + 0) := by rw [e135]; exact gx_add (rfl : (nI ((1 + (eC a0)) + (eC b0))) = (nI ((1 + (eC a0)) + (eC b0)))) (rfl : (0 : Int32) = nI 0)
              subst n135
              refine gc_i (va_runS (As := [.int (nI (((1 + (eC a0)) + (eC b0)) + 0))]) (rest := []) ⟨hx, hb, hml, hown, ht⟩ (c_M_cap l D cI cJ cB cZ (((1 + (eC a0)) + (eC b0)) + 0) (by omega) H.size) (va_cwS 1 ht (gw_S m_601 m_602 m_6 m_603) rfl rfl rfl (by decide +kernel) ⟨Nat.le_of_ble_eq_true rfl, Nat.le_of_ble_eq_true rfl⟩) (gp_S hK hN (hP.sub (ws' := ([] : va_W)) [] rfl) (hD.sub (ws' := ([] : va_W)) [] (by decide) rfl)) rfl rfl hl.1 rfl (lv_room (Nat.le_of_ble_eq_true rfl)) dM_costOf_136 ⟨Nat.le_of_ble_eq_true rfl, Nat.le_of_ble_eq_true rfl⟩) hP hD hS hA [] rfl (by decide) (fun r w h => by obtain ⟨_, rfl⟩ := h; rfl) (fun r136 w136 H locs p136 hP hD hS => ?_)
              obtain ⟨rfl, rfl⟩ := p136
              have hP : va_P D vwCl [(mo, .inr (6, [.ref (mq 0), .ref (mq 1), .ref (mq 2), .ref (mq 3), .int (nI X.2.2.2.2), .ref (mq 5), .ref (mq 6), .int (nI F), .ref (mq 8), .ref (mq 9), .ref (mq 10), .ref (mq 11), .ref (mq 12), .ref (mq 13), .ref (mq 14), .ref (mq 15), .ref (mq 16), .ref (mq 17), .ref (mq 18), .ref (mq 19), .ref (mq 20), .ref (mq 21), .ref (mq 22), .int (nI dp)])), ((mq 0), .inl (cI, 80, .inl X.1)), ((mq 1), .inl (cI, 80, .inl X.2.1)), ((mq 2), .inl (cI, 80, .inl X.2.2.1)), ((mq 3), .inl (cI, 80, .inl X.2.2.2.1)), ((mq 12), .inl (cI, 80, .inl (fun z9 => nI (eC z9)))), ((mq 13), .inl (cI, 8, .inl (fun z9 => nI (fC z9))))] H := hP
              have hD : va_D A [(mo, .inr (6, [.ref (mq 0), .ref (mq 1), .ref (mq 2), .ref (mq 3), .int (nI X.2.2.2.2), .ref (mq 5), .ref (mq 6), .int (nI F), .ref (mq 8), .ref (mq 9), .ref (mq 10), .ref (mq 11), .ref (mq 12), .ref (mq 13), .ref (mq 14), .ref (mq 15), .ref (mq 16), .ref (mq 17), .ref (mq 18), .ref (mq 19), .ref (mq 20), .ref (mq 21), .ref (mq 22), .int (nI dp)])), ((mq 0), .inl (cI, 80, .inl X.1)), ((mq 1), .inl (cI, 80, .inl X.2.1)), ((mq 2), .inl (cI, 80, .inl X.2.2.1)), ((mq 3), .inl (cI, 80, .inl X.2.2.2.1)), ((mq 12), .inl (cI, 80, .inl (fun z9 => nI (eC z9)))), ((mq 13), .inl (cI, 8, .inl (fun z9 => nI (fC z9))))] := hD
              have hfin : (nI (min 1000 (((1 + (eC a0)) + (eC b0)) + 0))) = nI (mcost X eC fC e) := by
                show _ = nI (mcost X eC fC e)
                unfold mcost
                rw [hk1, cn_nI (show kd < 2 ^ 31 by omega)]
                rw [if_neg (by omega), hae, cn_nI (show a0 < 2 ^ 31 by omega)]
                rw [if_neg (by omega), if_neg (by omega), if_pos hpx, hbe, cn_nI (show b0 < 2 ^ 31 by omega), if_neg (by omega)]
              exact W.iret (v := (nI (min 1000 (((1 + (eC a0)) + (eC b0)) + 0)))) hx hb hr (fun t9 ht9 hW => ⟨⟨(nI (min 1000 (((1 + (eC a0)) + (eC b0)) + 0))), _, rfl, ⟨hfin, rfl⟩, by rw [ht9]; exact hP, hD⟩, hS.F ht9⟩) hS.2.2 dM_costOf_139
            · have g117 : kd = 11 := (gx_eq (rfl : (nI kd) = (nI kd)) (rfl : (11 : Int32) = nI 11) (by omega) (by decide)).mp c117
              obtain ⟨c0, hcl, hce⟩ := hkc g117
              have hfC1 := hfC c0
              refine lv_aload_n hx hb dM_costOf_120 rfl (lv_at hl 3 rfl) ?_
              refine va_get (D := D) (ci := 6) (v := .ref (mq 13)) (C := R_M) (T := F_M) (N := 24) hx hb ht i_M hown hK hP 0 rfl rfl 13 (by decide) (ht _ m_467) (fun _ h9 => h9) rfl dM_costOf_121 ?_
              refine lv_aload_n hx hb dM_costOf_124 rfl (lv_at hl 3 rfl) ?_
              refine va_get (D := D) (ci := 6) (v := .ref (mq 3)) (C := R_M) (T := F_M) (N := 24) hx hb ht i_M hown hK hP 0 rfl rfl 3 (by decide) (ht _ m_457) (fun _ h9 => h9) rfl dM_costOf_125 ?_
              refine lv_iload_n hx hb dM_costOf_128 rfl (lv_at hl 4 rfl) ?_
              have i129 : vp_in (nI e) 80 := gx_in (rfl : (nI e) = (nI e)) (by omega) (by decide)
              have k129 : ((nI e) : Int32).toNatClampNeg = e := gx_cl (rfl : (nI e) = (nI e)) (by omega)
              refine va_iald hx hb hK hP 4 0 rfl rfl i129 dM_costOf_129 ?_
              rw [k129]
              refine lv_topi (fun v129 e129 => ?_)
              rw [hce] at e129
              subst e129
              have i130 : vp_in (nI c0) 8 := gx_in (rfl : (nI c0) = (nI c0)) (by omega) (by decide)
              have k130 : ((nI c0) : Int32).toNatClampNeg = c0 := gx_cl (rfl : (nI c0) = (nI c0)) (by omega)
              refine va_iald hx hb hK hP 6 0 rfl rfl i130 dM_costOf_130 ?_
              rw [k130]
              refine lv_topi (fun v130 e130 => ?_)
              have n130 : v130 = nI (fC c0) := e130
              subst n130
              refine lv_goto (tgt := 135) hx hb dM_costOf_131 (by decide) ?_
              refine lv_iadd hx hb dM_costOf_135 ?_
              refine lv_topi (fun v135 e135 => ?_)
              have n135 : v135 = nI (((1 + (eC a0)) + (eC b0)) + (fC c0)) := by rw [e135]; exact gx_add (rfl : (nI ((1 + (eC a0)) + (eC b0))) = (nI ((1 + (eC a0)) + (eC b0)))) (rfl : (nI (fC c0)) = (nI (fC c0)))
              subst n135
              refine gc_i (va_runS (As := [.int (nI (((1 + (eC a0)) + (eC b0)) + (fC c0)))]) (rest := []) ⟨hx, hb, hml, hown, ht⟩ (c_M_cap l D cI cJ cB cZ (((1 + (eC a0)) + (eC b0)) + (fC c0)) (by omega) H.size) (va_cwS 1 ht (gw_S m_601 m_602 m_6 m_603) rfl rfl rfl (by decide +kernel) ⟨Nat.le_of_ble_eq_true rfl, Nat.le_of_ble_eq_true rfl⟩) (gp_S hK hN (hP.sub (ws' := ([] : va_W)) [] rfl) (hD.sub (ws' := ([] : va_W)) [] (by decide) rfl)) rfl rfl hl.1 rfl (lv_room (Nat.le_of_ble_eq_true rfl)) dM_costOf_136 ⟨Nat.le_of_ble_eq_true rfl, Nat.le_of_ble_eq_true rfl⟩) hP hD hS hA [] rfl (by decide) (fun r w h => by obtain ⟨_, rfl⟩ := h; rfl) (fun r136 w136 H locs p136 hP hD hS => ?_)
              obtain ⟨rfl, rfl⟩ := p136
              have hP : va_P D vwCl [(mo, .inr (6, [.ref (mq 0), .ref (mq 1), .ref (mq 2), .ref (mq 3), .int (nI X.2.2.2.2), .ref (mq 5), .ref (mq 6), .int (nI F), .ref (mq 8), .ref (mq 9), .ref (mq 10), .ref (mq 11), .ref (mq 12), .ref (mq 13), .ref (mq 14), .ref (mq 15), .ref (mq 16), .ref (mq 17), .ref (mq 18), .ref (mq 19), .ref (mq 20), .ref (mq 21), .ref (mq 22), .int (nI dp)])), ((mq 0), .inl (cI, 80, .inl X.1)), ((mq 1), .inl (cI, 80, .inl X.2.1)), ((mq 2), .inl (cI, 80, .inl X.2.2.1)), ((mq 3), .inl (cI, 80, .inl X.2.2.2.1)), ((mq 12), .inl (cI, 80, .inl (fun z9 => nI (eC z9)))), ((mq 13), .inl (cI, 8, .inl (fun z9 => nI (fC z9))))] H := hP
              have hD : va_D A [(mo, .inr (6, [.ref (mq 0), .ref (mq 1), .ref (mq 2), .ref (mq 3), .int (nI X.2.2.2.2), .ref (mq 5), .ref (mq 6), .int (nI F), .ref (mq 8), .ref (mq 9), .ref (mq 10), .ref (mq 11), .ref (mq 12), .ref (mq 13), .ref (mq 14), .ref (mq 15), .ref (mq 16), .ref (mq 17), .ref (mq 18), .ref (mq 19), .ref (mq 20), .ref (mq 21), .ref (mq 22), .int (nI dp)])), ((mq 0), .inl (cI, 80, .inl X.1)), ((mq 1), .inl (cI, 80, .inl X.2.1)), ((mq 2), .inl (cI, 80, .inl X.2.2.1)), ((mq 3), .inl (cI, 80, .inl X.2.2.2.1)), ((mq 12), .inl (cI, 80, .inl (fun z9 => nI (eC z9)))), ((mq 13), .inl (cI, 8, .inl (fun z9 => nI (fC z9))))] := hD
              have hfin : (nI (min 1000 (((1 + (eC a0)) + (eC b0)) + (fC c0)))) = nI (mcost X eC fC e) := by
                show _ = nI (mcost X eC fC e)
                unfold mcost
                rw [hk1, cn_nI (show kd < 2 ^ 31 by omega)]
                rw [if_neg (by omega), hae, cn_nI (show a0 < 2 ^ 31 by omega)]
                rw [if_neg (by omega), if_neg (by omega), if_pos hpx, hbe, cn_nI (show b0 < 2 ^ 31 by omega), if_pos (by omega), hce, cn_nI (show c0 < 2 ^ 31 by omega)]
              exact W.iret (v := (nI (min 1000 (((1 + (eC a0)) + (eC b0)) + (fC c0))))) hx hb hr (fun t9 ht9 hW => ⟨⟨(nI (min 1000 (((1 + (eC a0)) + (eC b0)) + (fC c0)))), _, rfl, ⟨hfin, rfl⟩, by rw [ht9]; exact hP, hD⟩, hS.F ht9⟩) hS.2.2 dM_costOf_139
          · have g93 : ¬ (9 < kd) := fun z => c93 ((gx_lt (rfl : (9 : Int32) = nI 9) (rfl : (nI kd) = (nI kd)) (by decide) (by omega)).mpr z)
            refine lv_iconst (v := 1) hx hb dM_costOf_96 (by decide) ?_
            refine lv_iconst (v := 2) hx hb dM_costOf_97 (by decide) ?_
            refine lv_iload_n hx hb dM_costOf_98 rfl (lv_at hl 1 rfl) ?_
            refine lv_iload hx hb dM_costOf_99 (lv_at hl 0 rfl) ?_
            refine lv_iadd hx hb dM_costOf_101 ?_
            refine lv_topi (fun v101 e101 => ?_)
            have n101 : v101 = nI ((eC a0) + (eC b0)) := by rw [e101]; exact gx_add (rfl : (nI (eC a0)) = (nI (eC a0))) (rfl : (nI (eC b0)) = (nI (eC b0)))
            subst n101
            refine lv_imul hx hb dM_costOf_102 ?_
            refine lv_topi (fun v102 e102 => ?_)
            have n102 : v102 = nI (2 * ((eC a0) + (eC b0))) := by rw [e102]; exact gx_mul (rfl : (2 : Int32) = nI 2) (rfl : (nI ((eC a0) + (eC b0))) = (nI ((eC a0) + (eC b0))))
            subst n102
            refine lv_iadd hx hb dM_costOf_103 ?_
            refine lv_topi (fun v103 e103 => ?_)
            have n103 : v103 = nI (1 + (2 * ((eC a0) + (eC b0)))) := by rw [e103]; exact gx_add (rfl : (1 : Int32) = nI 1) (rfl : (nI (2 * ((eC a0) + (eC b0)))) = (nI (2 * ((eC a0) + (eC b0)))))
            subst n103
            refine gc_i (va_runS (As := [.int (nI (1 + (2 * ((eC a0) + (eC b0)))))]) (rest := []) ⟨hx, hb, hml, hown, ht⟩ (c_M_cap l D cI cJ cB cZ (1 + (2 * ((eC a0) + (eC b0)))) (by omega) H.size) (va_cwS 1 ht (gw_S m_601 m_602 m_6 m_603) rfl rfl rfl (by decide +kernel) ⟨Nat.le_of_ble_eq_true rfl, Nat.le_of_ble_eq_true rfl⟩) (gp_S hK hN (hP.sub (ws' := ([] : va_W)) [] rfl) (hD.sub (ws' := ([] : va_W)) [] (by decide) rfl)) rfl rfl hl.1 rfl (lv_room (Nat.le_of_ble_eq_true rfl)) dM_costOf_104 ⟨Nat.le_of_ble_eq_true rfl, Nat.le_of_ble_eq_true rfl⟩) hP hD hS hA [] rfl (by decide) (fun r w h => by obtain ⟨_, rfl⟩ := h; rfl) (fun r104 w104 H locs p104 hP hD hS => ?_)
            obtain ⟨rfl, rfl⟩ := p104
            have hP : va_P D vwCl [(mo, .inr (6, [.ref (mq 0), .ref (mq 1), .ref (mq 2), .ref (mq 3), .int (nI X.2.2.2.2), .ref (mq 5), .ref (mq 6), .int (nI F), .ref (mq 8), .ref (mq 9), .ref (mq 10), .ref (mq 11), .ref (mq 12), .ref (mq 13), .ref (mq 14), .ref (mq 15), .ref (mq 16), .ref (mq 17), .ref (mq 18), .ref (mq 19), .ref (mq 20), .ref (mq 21), .ref (mq 22), .int (nI dp)])), ((mq 0), .inl (cI, 80, .inl X.1)), ((mq 1), .inl (cI, 80, .inl X.2.1)), ((mq 2), .inl (cI, 80, .inl X.2.2.1)), ((mq 3), .inl (cI, 80, .inl X.2.2.2.1)), ((mq 12), .inl (cI, 80, .inl (fun z9 => nI (eC z9)))), ((mq 13), .inl (cI, 8, .inl (fun z9 => nI (fC z9))))] H := hP
            have hD : va_D A [(mo, .inr (6, [.ref (mq 0), .ref (mq 1), .ref (mq 2), .ref (mq 3), .int (nI X.2.2.2.2), .ref (mq 5), .ref (mq 6), .int (nI F), .ref (mq 8), .ref (mq 9), .ref (mq 10), .ref (mq 11), .ref (mq 12), .ref (mq 13), .ref (mq 14), .ref (mq 15), .ref (mq 16), .ref (mq 17), .ref (mq 18), .ref (mq 19), .ref (mq 20), .ref (mq 21), .ref (mq 22), .int (nI dp)])), ((mq 0), .inl (cI, 80, .inl X.1)), ((mq 1), .inl (cI, 80, .inl X.2.1)), ((mq 2), .inl (cI, 80, .inl X.2.2.1)), ((mq 3), .inl (cI, 80, .inl X.2.2.2.1)), ((mq 12), .inl (cI, 80, .inl (fun z9 => nI (eC z9)))), ((mq 13), .inl (cI, 8, .inl (fun z9 => nI (fC z9))))] := hD
            have hfin : (nI (min 1000 (1 + (2 * ((eC a0) + (eC b0)))))) = nI (mcost X eC fC e) := by
              show _ = nI (mcost X eC fC e)
              unfold mcost
              rw [hk1, cn_nI (show kd < 2 ^ 31 by omega)]
              rw [if_neg (by omega), hae, cn_nI (show a0 < 2 ^ 31 by omega)]
              rw [if_neg (by omega), if_pos (by omega), if_pos hpx, hbe, cn_nI (show b0 < 2 ^ 31 by omega)]
            exact W.iret (v := (nI (min 1000 (1 + (2 * ((eC a0) + (eC b0))))))) hx hb hr (fun t9 ht9 hW => ⟨⟨(nI (min 1000 (1 + (2 * ((eC a0) + (eC b0)))))), _, rfl, ⟨hfin, rfl⟩, by rw [ht9]; exact hP, hD⟩, hS.F ht9⟩) hS.2.2 dM_costOf_107
      · have g53 : kd = 6 := (gx_eq (rfl : (nI kd) = (nI kd)) (rfl : (6 : Int32) = nI 6) (by omega) (by decide)).mp c53
        exact absurd hpx (by rw [g53]; unfold px_R; omega)
  · have g9 : ¬ (2 ≤ kd) := fun z => c9 ((gx_le (rfl : (2 : Int32) = nI 2) (rfl : (nI kd) = (nI kd)) (by decide) (by omega)).mpr z)
    refine lv_iconst (v := 1) hx hb dM_costOf_12 (by decide) ?_
    have hfin : 1 = nI (mcost X eC fC e) := by
      show _ = nI (mcost X eC fC e)
      unfold mcost
      rw [hk1, cn_nI (show kd < 2 ^ 31 by omega)]
      rw [if_pos (by omega)]
      rfl
    exact W.iret (v := 1) hx hb hr (fun t9 ht9 hW => ⟨⟨1, _, rfl, ⟨hfin, rfl⟩, by rw [ht9]; exact hP, hD⟩, hS.F ht9⟩) hS.2.2 dM_costOf_13

noncomputable def tmz (K : Nat → Nat) (g : Nat → Nat) : Nat → Nat → Nat → Nat
  | 0, _, n => n
  | u + 1, k, n => match wi K k 0 with
    | none => n
    | some j => tmz K g u j (if K j = 4 then min 1000 (n * g j) else n)
theorem tmz_none {K g : Nat → Nat} {u k n : Nat} (h : wi K k 0 = none) : tmz K g u k n = n := by
  cases u with
  | zero => rfl
  | succ u => unfold tmz; rw [h]
theorem tmz_some {K g : Nat → Nat} {u k n j : Nat} (h : wi K k 0 = some j) : tmz K g (u + 1) k n = tmz K g u j (if K j = 4 then min 1000 (n * g j) else n) := by
  rw [tmz]; rw [h]
theorem tmz_le {K g : Nat → Nat} : ∀ (u k n : Nat), n ≤ 1000 → tmz K g u k n ≤ 1000 := by
  intro u
  induction u with
  | zero => intro k n h; exact h
  | succ u ih =>
    intro k n h
    rcases hw : wi K k 0 with _ | j
    · rw [tmz_none hw]; exact h
    · rw [tmz_some hw]; refine ih _ _ ?_
      split
      · exact Nat.min_le_left _ _
      · exact h
theorem kat_4 {sk sz : Nat → Nat} {f j : Nat} (h : kat sk sz f j = 4) : j < sz f := by
  unfold kat at h
  split at h
  · assumption
  · cases h
set_option maxHeartbeats 4000000 in
set_option maxRecDepth 100000 in
theorem c_M_times (l : Launch) (D : va_G) (cI cJ cB cZ : ClassId) (mo : Nat) (mq : Nat → Nat) (n F dp : Nat) (sk : Nat → Nat) (sb9 : Nat → Int32) (sz : Nat → Nat) (f k : Nat) (hf : f < 8) (hk : k ≤ 12) (hsz : ∀ i, sz i ≤ 12) (hsk : ∀ i, sk i ≤ 5) (hs4 : ∀ f k, f < 8 → k < sz f → sk (12 * f + k) = 4 → ∃ b, 1 ≤ b ∧ b ≤ 5 ∧ sb9 (12 * f + k) = nI b) : ct_I l y_M_times w_M_times ({ frames := 2, cells := 0, slots := 0, locals := 46 }) D (gk_T cI cJ cB cZ) [.ref mo, .int (nI f), .int (nI k)] [(mo, .inr (6, [.ref (mq 0), .ref (mq 1), .ref (mq 2), .ref (mq 3), .int (nI n), .ref (mq 5), .ref (mq 6), .int (nI F), .ref (mq 8), .ref (mq 9), .ref (mq 10), .ref (mq 11), .ref (mq 12), .ref (mq 13), .ref (mq 14), .ref (mq 15), .ref (mq 16), .ref (mq 17), .ref (mq 18), .ref (mq 19), .ref (mq 20), .ref (mq 21), .ref (mq 22), .int (nI dp)])), ((mq 8), .inl (cI, 96, .inl (fun z9 => nI (sk z9)))), ((mq 10), .inl (cI, 96, .inl sb9)), ((mq 11), .inl (cI, 8, .inl (fun z9 => nI (sz z9))))] (0) (0) (fun r w => r = nI (tmz (kat sk sz f) (fun i => cn (sb9 (12 * f + i))) 13 k 1) ∧ w = [(mo, .inr (6, [.ref (mq 0), .ref (mq 1), .ref (mq 2), .ref (mq 3), .int (nI n), .ref (mq 5), .ref (mq 6), .int (nI F), .ref (mq 8), .ref (mq 9), .ref (mq 10), .ref (mq 11), .ref (mq 12), .ref (mq 13), .ref (mq 14), .ref (mq 15), .ref (mq 16), .ref (mq 17), .ref (mq 18), .ref (mq 19), .ref (mq 20), .ref (mq 21), .ref (mq 22), .int (nI dp)])), ((mq 8), .inl (cI, 96, .inl (fun z9 => nI (sk z9)))), ((mq 10), .inl (cI, 96, .inl sb9)), ((mq 11), .inl (cI, 8, .inl (fun z9 => nI (sz z9))))]) := by
  intro sz
  refine Met.ofW (cc := b_M_times) (maxL := 5) (ret := (some .int)) (by decide) rfl ?_
  intro p ev9 s m args below meth c s₁ B9 hml hv
  obtain ⟨rfl, hsz, hP, hK, hN, hD0⟩ := hv
  have hx := B9.exec
  have hb := B9.bytes
  have hr := B9.returns
  have hts := atoms_spec (ws := w_M_times) B9.pre
  have ht : ∀ w ∈ gk_big, w.before _ s = true := fun w h => hts w (List.mem_cons_of_mem _ h)
  have hown : s.vm.findClass R_M = some m.cls := findClass_of_methodNamed B9.named
  have hlocks := B9.notSynchronized
  subst hsz
  have hD := hD0.self (sz := s.heap.size)
  generalize hAe : va_A [(mo, .inr (6, [.ref (mq 0), .ref (mq 1), .ref (mq 2), .ref (mq 3), .int (nI n), .ref (mq 5), .ref (mq 6), .int (nI F), .ref (mq 8), .ref (mq 9), .ref (mq 10), .ref (mq 11), .ref (mq 12), .ref (mq 13), .ref (mq 14), .ref (mq 15), .ref (mq 16), .ref (mq 17), .ref (mq 18), .ref (mq 19), .ref (mq 20), .ref (mq 21), .ref (mq 22), .int (nI dp)])), ((mq 8), .inl (cI, 96, .inl (fun z9 => nI (sk z9)))), ((mq 10), .inl (cI, 96, .inl sb9)), ((mq 11), .inl (cI, 8, .inl (fun z9 => nI (sz z9))))] s.heap.size = A at hD ⊢
  have hA : ∀ q : Nat, s.heap.size ≤ q → A q := fun q h => by rw [← hAe]; exact Or.inr h
  generalize hHe : s.heap = H at hP ⊢
  have hS : va_S A s.heap H [] := by rw [← hHe]; exact va_S.rf
  have hP : va_P D vwCl [(mo, .inr (6, [.ref (mq 0), .ref (mq 1), .ref (mq 2), .ref (mq 3), .int (nI n), .ref (mq 5), .ref (mq 6), .int (nI F), .ref (mq 8), .ref (mq 9), .ref (mq 10), .ref (mq 11), .ref (mq 12), .ref (mq 13), .ref (mq 14), .ref (mq 15), .ref (mq 16), .ref (mq 17), .ref (mq 18), .ref (mq 19), .ref (mq 20), .ref (mq 21), .ref (mq 22), .int (nI dp)])), ((mq 8), .inl (cI, 96, .inl (fun z9 => nI (sk z9)))), ((mq 10), .inl (cI, 96, .inl sb9)), ((mq 11), .inl (cI, 8, .inl (fun z9 => nI (sz z9))))] H := hP
  have hD : va_D A [(mo, .inr (6, [.ref (mq 0), .ref (mq 1), .ref (mq 2), .ref (mq 3), .int (nI n), .ref (mq 5), .ref (mq 6), .int (nI F), .ref (mq 8), .ref (mq 9), .ref (mq 10), .ref (mq 11), .ref (mq 12), .ref (mq 13), .ref (mq 14), .ref (mq 15), .ref (mq 16), .ref (mq 17), .ref (mq 18), .ref (mq 19), .ref (mq 20), .ref (mq 21), .ref (mq 22), .int (nI dp)])), ((mq 8), .inl (cI, 96, .inl (fun z9 => nI (sk z9)))), ((mq 10), .inl (cI, 96, .inl sb9)), ((mq 11), .inl (cI, 8, .inl (fun z9 => nI (sz z9))))] := hD
  have hl := lv_entry ([.ref mo, .int (nI f), .int (nI k)]) (n := 5) (Nat.le_of_ble_eq_true rfl)
  rw [lg_entry_eq]
  generalize (lg_sl ([.ref mo, .int (nI f), .int (nI k)]) ++ List.replicate (5 - (lg_sl ([.ref mo, .int (nI f), .int (nI k)])).length) Slot.unset).toArray = ls at hl ⊢
  have hl : lv_has ls 5 [(0, .ref mo), (1, .int (nI f)), (2, .int (nI k))] := hl
  refine lv_iconst (v := 1) hx hb dM_times_0 (by decide) ?_
  refine lv_istore_n (lv' := [(3, .int 1), (0, .ref mo), (1, .int (nI f)), (2, .int (nI k))]) hx hb dM_times_1 rfl hl (by decide) rfl (fun ls hl => ?_)
  refine lv_aload_n hx hb dM_times_2 rfl (lv_at hl 1 rfl) ?_
  refine lv_iload_n hx hb dM_times_3 rfl (lv_at hl 2 rfl) ?_
  refine lv_iload_n hx hb dM_times_4 rfl (lv_at hl 3 rfl) ?_
  refine gc_i (va_runV (As := [.int (nI f), .int (nI k)]) (rest := []) ⟨hx, hb, hml, hown, ht⟩ (c_M_within l D cI cJ cB cZ mo mq n F dp sk sz f k (by omega) (by omega) hsz hsk H.size) (cwV 2 ht (gw_V m_570 m_572 ms_21 m_6 m_573) rfl rfl rfl (by decide +kernel) ⟨Nat.le_of_ble_eq_true rfl, Nat.le_of_ble_eq_true rfl⟩) (gp_V (ci := 6) (q0 := 0) hK hN (hP.sub (ws' := [(mo, .inr (6, [.ref (mq 0), .ref (mq 1), .ref (mq 2), .ref (mq 3), .int (nI n), .ref (mq 5), .ref (mq 6), .int (nI F), .ref (mq 8), .ref (mq 9), .ref (mq 10), .ref (mq 11), .ref (mq 12), .ref (mq 13), .ref (mq 14), .ref (mq 15), .ref (mq 16), .ref (mq 17), .ref (mq 18), .ref (mq 19), .ref (mq 20), .ref (mq 21), .ref (mq 22), .int (nI dp)])), ((mq 8), .inl (cI, 96, .inl (fun z9 => nI (sk z9)))), ((mq 11), .inl (cI, 8, .inl (fun z9 => nI (sz z9))))]) [0, 1, 3] rfl) (hD.sub (ws' := [(mo, .inr (6, [.ref (mq 0), .ref (mq 1), .ref (mq 2), .ref (mq 3), .int (nI n), .ref (mq 5), .ref (mq 6), .int (nI F), .ref (mq 8), .ref (mq 9), .ref (mq 10), .ref (mq 11), .ref (mq 12), .ref (mq 13), .ref (mq 14), .ref (mq 15), .ref (mq 16), .ref (mq 17), .ref (mq 18), .ref (mq 19), .ref (mq 20), .ref (mq 21), .ref (mq 22), .int (nI dp)])), ((mq 8), .inl (cI, 96, .inl (fun z9 => nI (sk z9)))), ((mq 11), .inl (cI, 8, .inl (fun z9 => nI (sz z9))))]) [0, 1, 3] (by decide) rfl) rfl rfl) rfl rfl hl.1 rfl (lv_room (Nat.le_of_ble_eq_true rfl)) dM_times_5 ⟨Nat.le_of_ble_eq_true rfl, Nat.le_of_ble_eq_true rfl⟩) hP hD hS hA [0, 1, 3] rfl (by decide) (fun r w h => by obtain ⟨_, rfl⟩ := h; rfl) (fun r5 w5 H locs p5 hP hD hS => ?_)
  obtain ⟨rfl, rfl⟩ := p5
  have hP : va_P D vwCl [(mo, .inr (6, [.ref (mq 0), .ref (mq 1), .ref (mq 2), .ref (mq 3), .int (nI n), .ref (mq 5), .ref (mq 6), .int (nI F), .ref (mq 8), .ref (mq 9), .ref (mq 10), .ref (mq 11), .ref (mq 12), .ref (mq 13), .ref (mq 14), .ref (mq 15), .ref (mq 16), .ref (mq 17), .ref (mq 18), .ref (mq 19), .ref (mq 20), .ref (mq 21), .ref (mq 22), .int (nI dp)])), ((mq 8), .inl (cI, 96, .inl (fun z9 => nI (sk z9)))), ((mq 10), .inl (cI, 96, .inl sb9)), ((mq 11), .inl (cI, 8, .inl (fun z9 => nI (sz z9))))] H := hP
  have hD : va_D A [(mo, .inr (6, [.ref (mq 0), .ref (mq 1), .ref (mq 2), .ref (mq 3), .int (nI n), .ref (mq 5), .ref (mq 6), .int (nI F), .ref (mq 8), .ref (mq 9), .ref (mq 10), .ref (mq 11), .ref (mq 12), .ref (mq 13), .ref (mq 14), .ref (mq 15), .ref (mq 16), .ref (mq 17), .ref (mq 18), .ref (mq 19), .ref (mq 20), .ref (mq 21), .ref (mq 22), .int (nI dp)])), ((mq 8), .inl (cI, 96, .inl (fun z9 => nI (sk z9)))), ((mq 10), .inl (cI, 96, .inl sb9)), ((mq 11), .inl (cI, 8, .inl (fun z9 => nI (sz z9))))] := hD
  refine lv_istore (lv' := [(4, .int (oN (wi (kat sk sz f) k 0))), (3, .int 1), (0, .ref mo), (1, .int (nI f)), (2, .int (nI k))]) hx hb dM_times_8 hl (by decide) rfl (fun ls hl => ?_)
  have lp10 : ∀ (n10 : Nat) (u9 : Nat) (k0 : Nat) (n0 : Nat), u9 + 1 ≤ n10 → (k0 < u9) → (k0 ≤ 12) → (n0 ≤ 1000) → (tmz (kat sk sz f) (fun i => cn (sb9 (12 * f + i))) u9 k0 n0 = tmz (kat sk sz f) (fun i => cn (sb9 (12 * f + i))) 13 k 1) → ∀ (H : Heap) (locs : List Loc) (ls : Array Slot), va_P D vwCl [(mo, .inr (6, [.ref (mq 0), .ref (mq 1), .ref (mq 2), .ref (mq 3), .int (nI n), .ref (mq 5), .ref (mq 6), .int (nI F), .ref (mq 8), .ref (mq 9), .ref (mq 10), .ref (mq 11), .ref (mq 12), .ref (mq 13), .ref (mq 14), .ref (mq 15), .ref (mq 16), .ref (mq 17), .ref (mq 18), .ref (mq 19), .ref (mq 20), .ref (mq 21), .ref (mq 22), .int (nI dp)])), ((mq 8), .inl (cI, 96, .inl (fun z9 => nI (sk z9)))), ((mq 10), .inl (cI, 96, .inl sb9)), ((mq 11), .inl (cI, 8, .inl (fun z9 => nI (sz z9))))] H → va_D A [(mo, .inr (6, [.ref (mq 0), .ref (mq 1), .ref (mq 2), .ref (mq 3), .int (nI n), .ref (mq 5), .ref (mq 6), .int (nI F), .ref (mq 8), .ref (mq 9), .ref (mq 10), .ref (mq 11), .ref (mq 12), .ref (mq 13), .ref (mq 14), .ref (mq 15), .ref (mq 16), .ref (mq 17), .ref (mq 18), .ref (mq 19), .ref (mq 20), .ref (mq 21), .ref (mq 22), .int (nI dp)])), ((mq 8), .inl (cI, 96, .inl (fun z9 => nI (sk z9)))), ((mq 10), .inl (cI, 96, .inl sb9)), ((mq 11), .inl (cI, 8, .inl (fun z9 => nI (sz z9))))] → va_S A s.heap H locs → lv_has ls 5 [(4, .int (oN (wi (kat sk sz f) k0 0))), (3, .int (nI n0)), (0, .ref mo), (1, .int (nI f)), (2, .int (nI k))] → W p l ev9 (headSpec w_M_times ({ frames := 2, cells := 0, slots := 0, locals := 46 })).room s m ([.ref mo, .int (nI f), .int (nI k)] : List Value).toArray below meth c H locs 0 0 (MQ below (gq_I D A (fun r w => r = nI (tmz (kat sk sz f) (fun i => cn (sb9 (12 * f + i))) 13 k 1) ∧ w = [(mo, .inr (6, [.ref (mq 0), .ref (mq 1), .ref (mq 2), .ref (mq 3), .int (nI n), .ref (mq 5), .ref (mq 6), .int (nI F), .ref (mq 8), .ref (mq 9), .ref (mq 10), .ref (mq 11), .ref (mq 12), .ref (mq 13), .ref (mq 14), .ref (mq 15), .ref (mq 16), .ref (mq 17), .ref (mq 18), .ref (mq 19), .ref (mq 20), .ref (mq 21), .ref (mq 22), .int (nI dp)])), ((mq 8), .inl (cI, 96, .inl (fun z9 => nI (sk z9)))), ((mq 10), .inl (cI, 96, .inl sb9)), ((mq 11), .inl (cI, 8, .inl (fun z9 => nI (sz z9))))])) ([.ref mo, .int (nI f), .int (nI k)] : List Value).toArray s (0) (0) A) (F0 m 10 ls []) := by
    intro n10
    induction n10 with
    | zero =>
      intro u9 k0 n0 hm10
      exact absurd hm10 (by omega)
    | succ n10 ih10 =>
      intro u9 k0 n0 hm10 hu hk0 hn0 htm H locs ls hP hD hS hl
      refine lv_iload hx hb dM_times_10 (lv_at hl 0 rfl) ?_
      obtain ⟨u, rfl⟩ : ∃ u, u9 = u + 1 := ⟨u9 - 1, by omega⟩
      rcases hoq : wi (kat sk sz f) k0 0 with _ | j
      · rw [hoq] at hl
        have hl : lv_has ls 5 [(4, .int (-1)), (3, .int (nI n0)), (0, .ref mo), (1, .int (nI f)), (2, .int (nI k))] := hl
        refine lv_if_lt (tgt := 56) hx hb dM_times_12 (by decide) (fun c12 => ?_) (fun c12 => ?_)
        · refine lv_iload_n hx hb dM_times_56 rfl (lv_at hl 1 rfl) ?_
          exact W.iret (v := (nI n0)) hx hb hr (fun t9 ht9 hW => ⟨⟨(nI n0), _, rfl, ⟨by rw [← htm, tmz_none hoq], rfl⟩, by rw [ht9]; exact hP, hD⟩, hS.F ht9⟩) hS.2.2 dM_times_57
        · exact absurd (by decide : (-1 : Int32) < 0) c12
      · rw [hoq] at hl
        have hl : lv_has ls 5 [(4, .int (nI j)), (3, .int (nI n0)), (0, .ref mo), (1, .int (nI f)), (2, .int (nI k))] := hl
        obtain ⟨hj, hjo⟩ := wi_lt _ _ _ hoq
        refine lv_if_lt (tgt := 56) hx hb dM_times_12 (by decide) (fun c12 => ?_) (fun c12 => ?_)
        · have g12 : j < 0 := (gx_lt (rfl : (nI j) = (nI j)) (rfl : (0 : Int32) = nI 0) (by omega) (by decide)).mp c12
          refine lv_iload_n hx hb dM_times_56 rfl (lv_at hl 1 rfl) ?_
          exfalso; omega
        · have g12 : ¬ (j < 0) := fun z => c12 ((gx_lt (rfl : (nI j) = (nI j)) (rfl : (0 : Int32) = nI 0) (by omega) (by decide)).mpr z)
          refine lv_aload_n hx hb dM_times_15 rfl (lv_at hl 2 rfl) ?_
          refine lv_iload_n hx hb dM_times_16 rfl (lv_at hl 3 rfl) ?_
          refine lv_iload hx hb dM_times_17 (lv_at hl 0 rfl) ?_
          refine gc_i (va_runV (As := [.int (nI f), .int (nI j)]) (rest := []) ⟨hx, hb, hml, hown, ht⟩ (c_M_kindAt l D cI cJ cB cZ mo mq n F dp sk sz f j (by omega) (by omega) hsz H.size) (cwV 2 ht (gw_V m_574 m_576 ms_22 m_6 m_577) rfl rfl rfl (by decide +kernel) ⟨Nat.le_of_ble_eq_true rfl, Nat.le_of_ble_eq_true rfl⟩) (gp_V (ci := 6) (q0 := 0) hK hN (hP.sub (ws' := [(mo, .inr (6, [.ref (mq 0), .ref (mq 1), .ref (mq 2), .ref (mq 3), .int (nI n), .ref (mq 5), .ref (mq 6), .int (nI F), .ref (mq 8), .ref (mq 9), .ref (mq 10), .ref (mq 11), .ref (mq 12), .ref (mq 13), .ref (mq 14), .ref (mq 15), .ref (mq 16), .ref (mq 17), .ref (mq 18), .ref (mq 19), .ref (mq 20), .ref (mq 21), .ref (mq 22), .int (nI dp)])), ((mq 8), .inl (cI, 96, .inl (fun z9 => nI (sk z9)))), ((mq 11), .inl (cI, 8, .inl (fun z9 => nI (sz z9))))]) [0, 1, 3] rfl) (hD.sub (ws' := [(mo, .inr (6, [.ref (mq 0), .ref (mq 1), .ref (mq 2), .ref (mq 3), .int (nI n), .ref (mq 5), .ref (mq 6), .int (nI F), .ref (mq 8), .ref (mq 9), .ref (mq 10), .ref (mq 11), .ref (mq 12), .ref (mq 13), .ref (mq 14), .ref (mq 15), .ref (mq 16), .ref (mq 17), .ref (mq 18), .ref (mq 19), .ref (mq 20), .ref (mq 21), .ref (mq 22), .int (nI dp)])), ((mq 8), .inl (cI, 96, .inl (fun z9 => nI (sk z9)))), ((mq 11), .inl (cI, 8, .inl (fun z9 => nI (sz z9))))]) [0, 1, 3] (by decide) rfl) rfl rfl) rfl rfl hl.1 rfl (lv_room (Nat.le_of_ble_eq_true rfl)) dM_times_19 ⟨Nat.le_of_ble_eq_true rfl, Nat.le_of_ble_eq_true rfl⟩) hP hD hS hA [0, 1, 3] rfl (by decide) (fun r w h => by obtain ⟨_, rfl⟩ := h; rfl) (fun r19 w19 H locs p19 hP hD hS => ?_)
          obtain ⟨rfl, rfl⟩ := p19
          have hkl19 := kat_le (sz := sz) hsk f j
          have hP : va_P D vwCl [(mo, .inr (6, [.ref (mq 0), .ref (mq 1), .ref (mq 2), .ref (mq 3), .int (nI n), .ref (mq 5), .ref (mq 6), .int (nI F), .ref (mq 8), .ref (mq 9), .ref (mq 10), .ref (mq 11), .ref (mq 12), .ref (mq 13), .ref (mq 14), .ref (mq 15), .ref (mq 16), .ref (mq 17), .ref (mq 18), .ref (mq 19), .ref (mq 20), .ref (mq 21), .ref (mq 22), .int (nI dp)])), ((mq 8), .inl (cI, 96, .inl (fun z9 => nI (sk z9)))), ((mq 10), .inl (cI, 96, .inl sb9)), ((mq 11), .inl (cI, 8, .inl (fun z9 => nI (sz z9))))] H := hP
          have hD : va_D A [(mo, .inr (6, [.ref (mq 0), .ref (mq 1), .ref (mq 2), .ref (mq 3), .int (nI n), .ref (mq 5), .ref (mq 6), .int (nI F), .ref (mq 8), .ref (mq 9), .ref (mq 10), .ref (mq 11), .ref (mq 12), .ref (mq 13), .ref (mq 14), .ref (mq 15), .ref (mq 16), .ref (mq 17), .ref (mq 18), .ref (mq 19), .ref (mq 20), .ref (mq 21), .ref (mq 22), .int (nI dp)])), ((mq 8), .inl (cI, 96, .inl (fun z9 => nI (sk z9)))), ((mq 10), .inl (cI, 96, .inl sb9)), ((mq 11), .inl (cI, 8, .inl (fun z9 => nI (sz z9))))] := hD
          refine lv_iconst (v := 4) hx hb dM_times_22 (by decide) ?_
          refine lv_icmp_ne (tgt := 44) hx hb dM_times_23 (by decide) (fun c23 => ?_) (fun c23 => ?_)
          · have g23 : ¬ ((kat sk sz f j) = 4) := fun z => c23 ((gx_eq (rfl : (nI (kat sk sz f j)) = (nI (kat sk sz f j))) (rfl : (4 : Int32) = nI 4) (by omega) (by decide)).mpr z)
            refine lv_aload_n hx hb dM_times_44 rfl (lv_at hl 2 rfl) ?_
            refine lv_iload_n hx hb dM_times_45 rfl (lv_at hl 3 rfl) ?_
            refine lv_iload hx hb dM_times_46 (lv_at hl 0 rfl) ?_
            refine gc_i (va_runV (As := [.int (nI f), .int (nI j)]) (rest := []) ⟨hx, hb, hml, hown, ht⟩ (c_M_within l D cI cJ cB cZ mo mq n F dp sk sz f j (by omega) (by omega) hsz hsk H.size) (cwV 2 ht (gw_V m_570 m_572 ms_21 m_6 m_573) rfl rfl rfl (by decide +kernel) ⟨Nat.le_of_ble_eq_true rfl, Nat.le_of_ble_eq_true rfl⟩) (gp_V (ci := 6) (q0 := 0) hK hN (hP.sub (ws' := [(mo, .inr (6, [.ref (mq 0), .ref (mq 1), .ref (mq 2), .ref (mq 3), .int (nI n), .ref (mq 5), .ref (mq 6), .int (nI F), .ref (mq 8), .ref (mq 9), .ref (mq 10), .ref (mq 11), .ref (mq 12), .ref (mq 13), .ref (mq 14), .ref (mq 15), .ref (mq 16), .ref (mq 17), .ref (mq 18), .ref (mq 19), .ref (mq 20), .ref (mq 21), .ref (mq 22), .int (nI dp)])), ((mq 8), .inl (cI, 96, .inl (fun z9 => nI (sk z9)))), ((mq 11), .inl (cI, 8, .inl (fun z9 => nI (sz z9))))]) [0, 1, 3] rfl) (hD.sub (ws' := [(mo, .inr (6, [.ref (mq 0), .ref (mq 1), .ref (mq 2), .ref (mq 3), .int (nI n), .ref (mq 5), .ref (mq 6), .int (nI F), .ref (mq 8), .ref (mq 9), .ref (mq 10), .ref (mq 11), .ref (mq 12), .ref (mq 13), .ref (mq 14), .ref (mq 15), .ref (mq 16), .ref (mq 17), .ref (mq 18), .ref (mq 19), .ref (mq 20), .ref (mq 21), .ref (mq 22), .int (nI dp)])), ((mq 8), .inl (cI, 96, .inl (fun z9 => nI (sk z9)))), ((mq 11), .inl (cI, 8, .inl (fun z9 => nI (sz z9))))]) [0, 1, 3] (by decide) rfl) rfl rfl) rfl rfl hl.1 rfl (lv_room (Nat.le_of_ble_eq_true rfl)) dM_times_48 ⟨Nat.le_of_ble_eq_true rfl, Nat.le_of_ble_eq_true rfl⟩) hP hD hS hA [0, 1, 3] rfl (by decide) (fun r w h => by obtain ⟨_, rfl⟩ := h; rfl) (fun r48 w48 H locs p48 hP hD hS => ?_)
            obtain ⟨rfl, rfl⟩ := p48
            have hP : va_P D vwCl [(mo, .inr (6, [.ref (mq 0), .ref (mq 1), .ref (mq 2), .ref (mq 3), .int (nI n), .ref (mq 5), .ref (mq 6), .int (nI F), .ref (mq 8), .ref (mq 9), .ref (mq 10), .ref (mq 11), .ref (mq 12), .ref (mq 13), .ref (mq 14), .ref (mq 15), .ref (mq 16), .ref (mq 17), .ref (mq 18), .ref (mq 19), .ref (mq 20), .ref (mq 21), .ref (mq 22), .int (nI dp)])), ((mq 8), .inl (cI, 96, .inl (fun z9 => nI (sk z9)))), ((mq 10), .inl (cI, 96, .inl sb9)), ((mq 11), .inl (cI, 8, .inl (fun z9 => nI (sz z9))))] H := hP
            have hD : va_D A [(mo, .inr (6, [.ref (mq 0), .ref (mq 1), .ref (mq 2), .ref (mq 3), .int (nI n), .ref (mq 5), .ref (mq 6), .int (nI F), .ref (mq 8), .ref (mq 9), .ref (mq 10), .ref (mq 11), .ref (mq 12), .ref (mq 13), .ref (mq 14), .ref (mq 15), .ref (mq 16), .ref (mq 17), .ref (mq 18), .ref (mq 19), .ref (mq 20), .ref (mq 21), .ref (mq 22), .int (nI dp)])), ((mq 8), .inl (cI, 96, .inl (fun z9 => nI (sk z9)))), ((mq 10), .inl (cI, 96, .inl sb9)), ((mq 11), .inl (cI, 8, .inl (fun z9 => nI (sz z9))))] := hD
            refine lv_istore (lv' := [(4, .int (oN (wi (kat sk sz f) j 0))), (3, .int (nI n0)), (0, .ref mo), (1, .int (nI f)), (2, .int (nI k))]) hx hb dM_times_51 hl (by decide) rfl (fun ls hl => ?_)
            refine lv_goto (tgt := 10) hx hb dM_times_53 (by decide) ?_
            exact ih10 u j n0 (by omega) (by omega) (by omega) (by omega) (by rw [← htm, tmz_some hoq, if_neg g23]) _ _ _ hP hD hS (lv_sub hl [0, 1, 2, 3, 4] rfl)
          · have g23 : (kat sk sz f j) = 4 := (gx_eq (rfl : (nI (kat sk sz f j)) = (nI (kat sk sz f j))) (rfl : (4 : Int32) = nI 4) (by omega) (by decide)).mp c23
            have hjs : j < sz f := kat_4 g23
            obtain ⟨b0, hb1, hb5, hbe⟩ := hs4 f j (by omega) hjs (by unfold kat at g23; rw [if_pos hjs] at g23; exact g23)
            refine lv_iload_n hx hb dM_times_26 rfl (lv_at hl 1 rfl) ?_
            refine lv_aload_n hx hb dM_times_27 rfl (lv_at hl 2 rfl) ?_
            refine va_get (D := D) (ci := 6) (v := .ref (mq 10)) (C := R_M) (T := F_M) (N := 24) hx hb ht i_M hown hK hP 0 rfl rfl 10 (by decide) (ht _ m_464) (fun _ h9 => h9) rfl dM_times_28 ?_
            refine lv_bipush (v := 12) hx hb dM_times_31 (by decide) ?_
            refine lv_iload_n hx hb dM_times_33 rfl (lv_at hl 3 rfl) ?_
            refine lv_imul hx hb dM_times_34 ?_
            refine lv_topi (fun v34 e34 => ?_)
            have n34 : v34 = nI (12 * f) := by rw [e34]; exact gx_mul (rfl : (12 : Int32) = nI 12) (rfl : (nI f) = (nI f))
            subst n34
            refine lv_iload hx hb dM_times_35 (lv_at hl 0 rfl) ?_
            refine lv_iadd hx hb dM_times_37 ?_
            refine lv_topi (fun v37 e37 => ?_)
            have n37 : v37 = nI ((12 * f) + j) := by rw [e37]; exact gx_add (rfl : (nI (12 * f)) = (nI (12 * f))) (rfl : (nI j) = (nI j))
            subst n37
            have i38 : vp_in (nI ((12 * f) + j)) 96 := gx_in (rfl : (nI ((12 * f) + j)) = (nI ((12 * f) + j))) (by omega) (by decide)
            have k38 : ((nI ((12 * f) + j)) : Int32).toNatClampNeg = ((12 * f) + j) := gx_cl (rfl : (nI ((12 * f) + j)) = (nI ((12 * f) + j))) (by omega)
            refine va_iald hx hb hK hP 2 0 rfl rfl i38 dM_times_38 ?_
            rw [k38]
            refine lv_topi (fun v38 e38 => ?_)
            rw [hbe] at e38
            subst e38
            refine lv_imul hx hb dM_times_39 ?_
            refine lv_topi (fun v39 e39 => ?_)
            have n39 : v39 = nI (n0 * b0) := by rw [e39]; exact gx_mul (rfl : (nI n0) = (nI n0)) (rfl : (nI b0) = (nI b0))
            subst n39
            have hmul : n0 * b0 ≤ 1000 * 5 := Nat.mul_le_mul hn0 hb5
            refine gc_i (va_runS (As := [.int (nI (n0 * b0))]) (rest := []) ⟨hx, hb, hml, hown, ht⟩ (c_M_cap l D cI cJ cB cZ (n0 * b0) (by omega) H.size) (va_cwS 1 ht (gw_S m_601 m_602 m_6 m_603) rfl rfl rfl (by decide +kernel) ⟨Nat.le_of_ble_eq_true rfl, Nat.le_of_ble_eq_true rfl⟩) (gp_S hK hN (hP.sub (ws' := ([] : va_W)) [] rfl) (hD.sub (ws' := ([] : va_W)) [] (by decide) rfl)) rfl rfl hl.1 rfl (lv_room (Nat.le_of_ble_eq_true rfl)) dM_times_40 ⟨Nat.le_of_ble_eq_true rfl, Nat.le_of_ble_eq_true rfl⟩) hP hD hS hA [] rfl (by decide) (fun r w h => by obtain ⟨_, rfl⟩ := h; rfl) (fun r40 w40 H locs p40 hP hD hS => ?_)
            obtain ⟨rfl, rfl⟩ := p40
            have hP : va_P D vwCl [(mo, .inr (6, [.ref (mq 0), .ref (mq 1), .ref (mq 2), .ref (mq 3), .int (nI n), .ref (mq 5), .ref (mq 6), .int (nI F), .ref (mq 8), .ref (mq 9), .ref (mq 10), .ref (mq 11), .ref (mq 12), .ref (mq 13), .ref (mq 14), .ref (mq 15), .ref (mq 16), .ref (mq 17), .ref (mq 18), .ref (mq 19), .ref (mq 20), .ref (mq 21), .ref (mq 22), .int (nI dp)])), ((mq 8), .inl (cI, 96, .inl (fun z9 => nI (sk z9)))), ((mq 10), .inl (cI, 96, .inl sb9)), ((mq 11), .inl (cI, 8, .inl (fun z9 => nI (sz z9))))] H := hP
            have hD : va_D A [(mo, .inr (6, [.ref (mq 0), .ref (mq 1), .ref (mq 2), .ref (mq 3), .int (nI n), .ref (mq 5), .ref (mq 6), .int (nI F), .ref (mq 8), .ref (mq 9), .ref (mq 10), .ref (mq 11), .ref (mq 12), .ref (mq 13), .ref (mq 14), .ref (mq 15), .ref (mq 16), .ref (mq 17), .ref (mq 18), .ref (mq 19), .ref (mq 20), .ref (mq 21), .ref (mq 22), .int (nI dp)])), ((mq 8), .inl (cI, 96, .inl (fun z9 => nI (sk z9)))), ((mq 10), .inl (cI, 96, .inl sb9)), ((mq 11), .inl (cI, 8, .inl (fun z9 => nI (sz z9))))] := hD
            refine lv_istore_n (lv' := [(3, .int (nI (min 1000 (n0 * b0)))), (4, .int (nI j)), (0, .ref mo), (1, .int (nI f)), (2, .int (nI k))]) hx hb dM_times_43 rfl hl (by decide) rfl (fun ls hl => ?_)
            refine lv_aload_n hx hb dM_times_44 rfl (lv_at hl 2 rfl) ?_
            refine lv_iload_n hx hb dM_times_45 rfl (lv_at hl 3 rfl) ?_
            refine lv_iload hx hb dM_times_46 (lv_at hl 1 rfl) ?_
            refine gc_i (va_runV (As := [.int (nI f), .int (nI j)]) (rest := []) ⟨hx, hb, hml, hown, ht⟩ (c_M_within l D cI cJ cB cZ mo mq n F dp sk sz f j (by omega) (by omega) hsz hsk H.size) (cwV 2 ht (gw_V m_570 m_572 ms_21 m_6 m_573) rfl rfl rfl (by decide +kernel) ⟨Nat.le_of_ble_eq_true rfl, Nat.le_of_ble_eq_true rfl⟩) (gp_V (ci := 6) (q0 := 0) hK hN (hP.sub (ws' := [(mo, .inr (6, [.ref (mq 0), .ref (mq 1), .ref (mq 2), .ref (mq 3), .int (nI n), .ref (mq 5), .ref (mq 6), .int (nI F), .ref (mq 8), .ref (mq 9), .ref (mq 10), .ref (mq 11), .ref (mq 12), .ref (mq 13), .ref (mq 14), .ref (mq 15), .ref (mq 16), .ref (mq 17), .ref (mq 18), .ref (mq 19), .ref (mq 20), .ref (mq 21), .ref (mq 22), .int (nI dp)])), ((mq 8), .inl (cI, 96, .inl (fun z9 => nI (sk z9)))), ((mq 11), .inl (cI, 8, .inl (fun z9 => nI (sz z9))))]) [0, 1, 3] rfl) (hD.sub (ws' := [(mo, .inr (6, [.ref (mq 0), .ref (mq 1), .ref (mq 2), .ref (mq 3), .int (nI n), .ref (mq 5), .ref (mq 6), .int (nI F), .ref (mq 8), .ref (mq 9), .ref (mq 10), .ref (mq 11), .ref (mq 12), .ref (mq 13), .ref (mq 14), .ref (mq 15), .ref (mq 16), .ref (mq 17), .ref (mq 18), .ref (mq 19), .ref (mq 20), .ref (mq 21), .ref (mq 22), .int (nI dp)])), ((mq 8), .inl (cI, 96, .inl (fun z9 => nI (sk z9)))), ((mq 11), .inl (cI, 8, .inl (fun z9 => nI (sz z9))))]) [0, 1, 3] (by decide) rfl) rfl rfl) rfl rfl hl.1 rfl (lv_room (Nat.le_of_ble_eq_true rfl)) dM_times_48 ⟨Nat.le_of_ble_eq_true rfl, Nat.le_of_ble_eq_true rfl⟩) hP hD hS hA [0, 1, 3] rfl (by decide) (fun r w h => by obtain ⟨_, rfl⟩ := h; rfl) (fun r48 w48 H locs p48 hP hD hS => ?_)
            obtain ⟨rfl, rfl⟩ := p48
            have hP : va_P D vwCl [(mo, .inr (6, [.ref (mq 0), .ref (mq 1), .ref (mq 2), .ref (mq 3), .int (nI n), .ref (mq 5), .ref (mq 6), .int (nI F), .ref (mq 8), .ref (mq 9), .ref (mq 10), .ref (mq 11), .ref (mq 12), .ref (mq 13), .ref (mq 14), .ref (mq 15), .ref (mq 16), .ref (mq 17), .ref (mq 18), .ref (mq 19), .ref (mq 20), .ref (mq 21), .ref (mq 22), .int (nI dp)])), ((mq 8), .inl (cI, 96, .inl (fun z9 => nI (sk z9)))), ((mq 10), .inl (cI, 96, .inl sb9)), ((mq 11), .inl (cI, 8, .inl (fun z9 => nI (sz z9))))] H := hP
            have hD : va_D A [(mo, .inr (6, [.ref (mq 0), .ref (mq 1), .ref (mq 2), .ref (mq 3), .int (nI n), .ref (mq 5), .ref (mq 6), .int (nI F), .ref (mq 8), .ref (mq 9), .ref (mq 10), .ref (mq 11), .ref (mq 12), .ref (mq 13), .ref (mq 14), .ref (mq 15), .ref (mq 16), .ref (mq 17), .ref (mq 18), .ref (mq 19), .ref (mq 20), .ref (mq 21), .ref (mq 22), .int (nI dp)])), ((mq 8), .inl (cI, 96, .inl (fun z9 => nI (sk z9)))), ((mq 10), .inl (cI, 96, .inl sb9)), ((mq 11), .inl (cI, 8, .inl (fun z9 => nI (sz z9))))] := hD
            refine lv_istore (lv' := [(4, .int (oN (wi (kat sk sz f) j 0))), (3, .int (nI (min 1000 (n0 * b0)))), (0, .ref mo), (1, .int (nI f)), (2, .int (nI k))]) hx hb dM_times_51 hl (by decide) rfl (fun ls hl => ?_)
            refine lv_goto (tgt := 10) hx hb dM_times_53 (by decide) ?_
            exact ih10 u j (min 1000 (n0 * b0)) (by omega) (by omega) (by omega) (by omega) (by rw [← htm, tmz_some hoq, if_pos g23, show cn (sb9 (12 * f + j)) = b0 by rw [hbe]; exact cn_nI (by omega)]) _ _ _ hP hD hS (lv_sub hl [0, 1, 2, 3, 4] rfl)
  exact lp10 ((13) + 1) 13 k 1 (by omega) (by omega) (by omega) (by omega) rfl _ _ _ hP hD hS (lv_sub hl [0, 1, 2, 3, 4] rfl)

noncomputable def mown (sk : Nat → Nat) (sb : Nat → Int32) (eC : Nat → Nat) (i : Nat) : Nat := if sk i ≤ 2 then 1 + eC (cn (sb i)) else if sk i = 4 then 1 else 0
noncomputable def msum (sk : Nat → Nat) (sb : Nat → Int32) (sz eC : Nat → Nat) (f : Nat) : Nat → Nat
  | 0 => 1
  | k + 1 => min 1000 (msum sk sb sz eC f k + mown sk sb eC (12 * f + k) * tmz (kat sk sz f) (fun i => cn (sb (12 * f + i))) 13 k 1)
theorem msum_le {sk : Nat → Nat} {sb : Nat → Int32} {sz eC : Nat → Nat} {f : Nat} : ∀ k, msum sk sb sz eC f k ≤ 1000
  | 0 => by show 1 ≤ 1000; decide
  | k + 1 => Nat.min_le_left _ _
set_option maxHeartbeats 4000000 in
set_option maxRecDepth 100000 in
theorem c_M_sumOf (l : Launch) (D : va_G) (cI cJ cB cZ : ClassId) (mo : Nat) (mq : Nat → Nat) (F dp : Nat) (X : Ex) (sk : Nat → Nat) (sb9 : Nat → Int32) (sz eC : Nat → Nat) (f : Nat) (hf : f < 8) (heC : ∀ i, eC i ≤ 1000) (hX : ex_ok X) (hsz : ∀ i, sz i ≤ 12) (hsk : ∀ i, sk i ≤ 5) (hsb : ∀ f k, f < 8 → k < sz f → sk (12 * f + k) ≤ 2 → ∃ e, e < X.2.2.2.2 ∧ sb9 (12 * f + k) = nI e) (hs4 : ∀ f k, f < 8 → k < sz f → sk (12 * f + k) = 4 → ∃ b, 1 ≤ b ∧ b ≤ 5 ∧ sb9 (12 * f + k) = nI b) : ct_I l y_M_sumOf w_M_sumOf ({ frames := 3, cells := 0, slots := 0, locals := 70 }) D (gk_T cI cJ cB cZ) [.ref mo, .int (nI f)] [(mo, .inr (6, [.ref (mq 0), .ref (mq 1), .ref (mq 2), .ref (mq 3), .int (nI X.2.2.2.2), .ref (mq 5), .ref (mq 6), .int (nI F), .ref (mq 8), .ref (mq 9), .ref (mq 10), .ref (mq 11), .ref (mq 12), .ref (mq 13), .ref (mq 14), .ref (mq 15), .ref (mq 16), .ref (mq 17), .ref (mq 18), .ref (mq 19), .ref (mq 20), .ref (mq 21), .ref (mq 22), .int (nI dp)])), ((mq 8), .inl (cI, 96, .inl (fun z9 => nI (sk z9)))), ((mq 10), .inl (cI, 96, .inl sb9)), ((mq 11), .inl (cI, 8, .inl (fun z9 => nI (sz z9)))), ((mq 12), .inl (cI, 80, .inl (fun z9 => nI (eC z9))))] (0) (0) (fun r w => r = nI (msum sk sb9 sz eC f (sz f)) ∧ w = [(mo, .inr (6, [.ref (mq 0), .ref (mq 1), .ref (mq 2), .ref (mq 3), .int (nI X.2.2.2.2), .ref (mq 5), .ref (mq 6), .int (nI F), .ref (mq 8), .ref (mq 9), .ref (mq 10), .ref (mq 11), .ref (mq 12), .ref (mq 13), .ref (mq 14), .ref (mq 15), .ref (mq 16), .ref (mq 17), .ref (mq 18), .ref (mq 19), .ref (mq 20), .ref (mq 21), .ref (mq 22), .int (nI dp)])), ((mq 8), .inl (cI, 96, .inl (fun z9 => nI (sk z9)))), ((mq 10), .inl (cI, 96, .inl sb9)), ((mq 11), .inl (cI, 8, .inl (fun z9 => nI (sz z9)))), ((mq 12), .inl (cI, 80, .inl (fun z9 => nI (eC z9))))]) := by
  intro sz
  refine Met.ofW (cc := b_M_sumOf) (maxL := 6) (ret := (some .int)) (by decide) rfl ?_
  intro p ev9 s m args below meth c s₁ B9 hml hv
  obtain ⟨rfl, hsz, hP, hK, hN, hD0⟩ := hv
  have hx := B9.exec
  have hb := B9.bytes
  have hr := B9.returns
  have hts := atoms_spec (ws := w_M_sumOf) B9.pre
  have ht : ∀ w ∈ gk_big, w.before _ s = true := fun w h => hts w (List.mem_cons_of_mem _ h)
  have hown : s.vm.findClass R_M = some m.cls := findClass_of_methodNamed B9.named
  have hlocks := B9.notSynchronized
  subst hsz
  have hD := hD0.self (sz := s.heap.size)
  generalize hAe : va_A [(mo, .inr (6, [.ref (mq 0), .ref (mq 1), .ref (mq 2), .ref (mq 3), .int (nI X.2.2.2.2), .ref (mq 5), .ref (mq 6), .int (nI F), .ref (mq 8), .ref (mq 9), .ref (mq 10), .ref (mq 11), .ref (mq 12), .ref (mq 13), .ref (mq 14), .ref (mq 15), .ref (mq 16), .ref (mq 17), .ref (mq 18), .ref (mq 19), .ref (mq 20), .ref (mq 21), .ref (mq 22), .int (nI dp)])), ((mq 8), .inl (cI, 96, .inl (fun z9 => nI (sk z9)))), ((mq 10), .inl (cI, 96, .inl sb9)), ((mq 11), .inl (cI, 8, .inl (fun z9 => nI (sz z9)))), ((mq 12), .inl (cI, 80, .inl (fun z9 => nI (eC z9))))] s.heap.size = A at hD ⊢
  have hA : ∀ q : Nat, s.heap.size ≤ q → A q := fun q h => by rw [← hAe]; exact Or.inr h
  generalize hHe : s.heap = H at hP ⊢
  have hS : va_S A s.heap H [] := by rw [← hHe]; exact va_S.rf
  have hP : va_P D vwCl [(mo, .inr (6, [.ref (mq 0), .ref (mq 1), .ref (mq 2), .ref (mq 3), .int (nI X.2.2.2.2), .ref (mq 5), .ref (mq 6), .int (nI F), .ref (mq 8), .ref (mq 9), .ref (mq 10), .ref (mq 11), .ref (mq 12), .ref (mq 13), .ref (mq 14), .ref (mq 15), .ref (mq 16), .ref (mq 17), .ref (mq 18), .ref (mq 19), .ref (mq 20), .ref (mq 21), .ref (mq 22), .int (nI dp)])), ((mq 8), .inl (cI, 96, .inl (fun z9 => nI (sk z9)))), ((mq 10), .inl (cI, 96, .inl sb9)), ((mq 11), .inl (cI, 8, .inl (fun z9 => nI (sz z9)))), ((mq 12), .inl (cI, 80, .inl (fun z9 => nI (eC z9))))] H := hP
  have hD : va_D A [(mo, .inr (6, [.ref (mq 0), .ref (mq 1), .ref (mq 2), .ref (mq 3), .int (nI X.2.2.2.2), .ref (mq 5), .ref (mq 6), .int (nI F), .ref (mq 8), .ref (mq 9), .ref (mq 10), .ref (mq 11), .ref (mq 12), .ref (mq 13), .ref (mq 14), .ref (mq 15), .ref (mq 16), .ref (mq 17), .ref (mq 18), .ref (mq 19), .ref (mq 20), .ref (mq 21), .ref (mq 22), .int (nI dp)])), ((mq 8), .inl (cI, 96, .inl (fun z9 => nI (sk z9)))), ((mq 10), .inl (cI, 96, .inl sb9)), ((mq 11), .inl (cI, 8, .inl (fun z9 => nI (sz z9)))), ((mq 12), .inl (cI, 80, .inl (fun z9 => nI (eC z9))))] := hD
  have hl := lv_entry ([.ref mo, .int (nI f)]) (n := 6) (Nat.le_of_ble_eq_true rfl)
  rw [lg_entry_eq]
  generalize (lg_sl ([.ref mo, .int (nI f)]) ++ List.replicate (6 - (lg_sl ([.ref mo, .int (nI f)])).length) Slot.unset).toArray = ls at hl ⊢
  have hl : lv_has ls 6 [(0, .ref mo), (1, .int (nI f))] := hl
  have hn80 := hX.1
  have hszf := hsz f
  refine lv_iconst (v := 1) hx hb dM_sumOf_0 (by decide) ?_
  refine lv_istore_n (lv' := [(2, .int 1), (0, .ref mo), (1, .int (nI f))]) hx hb dM_sumOf_1 rfl hl (by decide) rfl (fun ls hl => ?_)
  have hl : lv_has ls 6 [(2, .int (nI (msum sk sb9 sz eC f 0))), (0, .ref mo), (1, .int (nI f))] := hl
  refine lv_iconst (v := 0) hx hb dM_sumOf_2 (by decide) ?_
  refine lv_istore_n (lv' := [(3, .int 0), (2, .int (nI (msum sk sb9 sz eC f 0))), (0, .ref mo), (1, .int (nI f))]) hx hb dM_sumOf_3 rfl hl (by decide) rfl (fun ls hl => ?_)
  have lp4 : ∀ (n4 : Nat) (k : Nat), sz f - k + 1 ≤ n4 → (k ≤ sz f) → ∀ (H : Heap) (locs : List Loc) (ls : Array Slot), va_P D vwCl [(mo, .inr (6, [.ref (mq 0), .ref (mq 1), .ref (mq 2), .ref (mq 3), .int (nI X.2.2.2.2), .ref (mq 5), .ref (mq 6), .int (nI F), .ref (mq 8), .ref (mq 9), .ref (mq 10), .ref (mq 11), .ref (mq 12), .ref (mq 13), .ref (mq 14), .ref (mq 15), .ref (mq 16), .ref (mq 17), .ref (mq 18), .ref (mq 19), .ref (mq 20), .ref (mq 21), .ref (mq 22), .int (nI dp)])), ((mq 8), .inl (cI, 96, .inl (fun z9 => nI (sk z9)))), ((mq 10), .inl (cI, 96, .inl sb9)), ((mq 11), .inl (cI, 8, .inl (fun z9 => nI (sz z9)))), ((mq 12), .inl (cI, 80, .inl (fun z9 => nI (eC z9))))] H → va_D A [(mo, .inr (6, [.ref (mq 0), .ref (mq 1), .ref (mq 2), .ref (mq 3), .int (nI X.2.2.2.2), .ref (mq 5), .ref (mq 6), .int (nI F), .ref (mq 8), .ref (mq 9), .ref (mq 10), .ref (mq 11), .ref (mq 12), .ref (mq 13), .ref (mq 14), .ref (mq 15), .ref (mq 16), .ref (mq 17), .ref (mq 18), .ref (mq 19), .ref (mq 20), .ref (mq 21), .ref (mq 22), .int (nI dp)])), ((mq 8), .inl (cI, 96, .inl (fun z9 => nI (sk z9)))), ((mq 10), .inl (cI, 96, .inl sb9)), ((mq 11), .inl (cI, 8, .inl (fun z9 => nI (sz z9)))), ((mq 12), .inl (cI, 80, .inl (fun z9 => nI (eC z9))))] → va_S A s.heap H locs → lv_has ls 6 [(3, .int (nI k)), (2, .int (nI (msum sk sb9 sz eC f k))), (0, .ref mo), (1, .int (nI f))] → W p l ev9 (headSpec w_M_sumOf ({ frames := 3, cells := 0, slots := 0, locals := 70 })).room s m ([.ref mo, .int (nI f)] : List Value).toArray below meth c H locs 0 0 (MQ below (gq_I D A (fun r w => r = nI (msum sk sb9 sz eC f (sz f)) ∧ w = [(mo, .inr (6, [.ref (mq 0), .ref (mq 1), .ref (mq 2), .ref (mq 3), .int (nI X.2.2.2.2), .ref (mq 5), .ref (mq 6), .int (nI F), .ref (mq 8), .ref (mq 9), .ref (mq 10), .ref (mq 11), .ref (mq 12), .ref (mq 13), .ref (mq 14), .ref (mq 15), .ref (mq 16), .ref (mq 17), .ref (mq 18), .ref (mq 19), .ref (mq 20), .ref (mq 21), .ref (mq 22), .int (nI dp)])), ((mq 8), .inl (cI, 96, .inl (fun z9 => nI (sk z9)))), ((mq 10), .inl (cI, 96, .inl sb9)), ((mq 11), .inl (cI, 8, .inl (fun z9 => nI (sz z9)))), ((mq 12), .inl (cI, 80, .inl (fun z9 => nI (eC z9))))])) ([.ref mo, .int (nI f)] : List Value).toArray s (0) (0) A) (F0 m 4 ls []) := by
    intro n4
    induction n4 with
    | zero =>
      intro k hm4
      exact absurd hm4 (by omega)
    | succ n4 ih4 =>
      intro k hm4 hk H locs ls hP hD hS hl
      have hskk := hsk (12 * f + k)
      have hmsk := msum_le (sk := sk) (sb := sb9) (sz := sz) (eC := eC) (f := f) k
      refine lv_iload_n hx hb dM_sumOf_4 rfl (lv_at hl 0 rfl) ?_
      refine lv_aload_n hx hb dM_sumOf_5 rfl (lv_at hl 2 rfl) ?_
      refine va_get (D := D) (ci := 6) (v := .ref (mq 11)) (C := R_M) (T := F_M) (N := 24) hx hb ht i_M hown hK hP 0 rfl rfl 11 (by decide) (ht _ m_465) (fun _ h9 => h9) rfl dM_sumOf_6 ?_
      refine lv_iload_n hx hb dM_sumOf_9 rfl (lv_at hl 3 rfl) ?_
      have i10 : vp_in (nI f) 8 := gx_in (rfl : (nI f) = (nI f)) (by omega) (by decide)
      have k10 : ((nI f) : Int32).toNatClampNeg = f := gx_cl (rfl : (nI f) = (nI f)) (by omega)
      refine va_iald hx hb hK hP 3 0 rfl rfl i10 dM_sumOf_10 ?_
      rw [k10]
      refine lv_topi (fun v10 e10 => ?_)
      have n10 : v10 = nI (sz f) := e10
      subst n10
      refine lv_icmp_ge (tgt := 90) hx hb dM_sumOf_11 (by decide) (fun c11 => ?_) (fun c11 => ?_)
      · have g11 : (sz f) ≤ k := (gx_le (rfl : (nI (sz f)) = (nI (sz f))) (rfl : (nI k) = (nI k)) (by omega) (by omega)).mp c11
        refine lv_iload_n hx hb dM_sumOf_90 rfl (lv_at hl 1 rfl) ?_
        exact W.iret (v := (nI (msum sk sb9 sz eC f k))) hx hb hr (fun t9 ht9 hW => ⟨⟨(nI (msum sk sb9 sz eC f k)), _, rfl, ⟨by rw [show k = sz f by omega], rfl⟩, by rw [ht9]; exact hP, hD⟩, hS.F ht9⟩) hS.2.2 dM_sumOf_91
      · have g11 : ¬ ((sz f) ≤ k) := fun z => c11 ((gx_le (rfl : (nI (sz f)) = (nI (sz f))) (rfl : (nI k) = (nI k)) (by omega) (by omega)).mpr z)
        refine lv_aload_n hx hb dM_sumOf_14 rfl (lv_at hl 2 rfl) ?_
        refine va_get (D := D) (ci := 6) (v := .ref (mq 8)) (C := R_M) (T := F_M) (N := 24) hx hb ht i_M hown hK hP 0 rfl rfl 8 (by decide) (ht _ m_462) (fun _ h9 => h9) rfl dM_sumOf_15 ?_
        refine lv_bipush (v := 12) hx hb dM_sumOf_18 (by decide) ?_
        refine lv_iload_n hx hb dM_sumOf_20 rfl (lv_at hl 3 rfl) ?_
        refine lv_imul hx hb dM_sumOf_21 ?_
        refine lv_topi (fun v21 e21 => ?_)
        have n21 : v21 = nI (12 * f) := by rw [e21]; exact gx_mul (rfl : (12 : Int32) = nI 12) (rfl : (nI f) = (nI f))
        subst n21
        refine lv_iload_n hx hb dM_sumOf_22 rfl (lv_at hl 0 rfl) ?_
        refine lv_iadd hx hb dM_sumOf_23 ?_
        refine lv_topi (fun v23 e23 => ?_)
        have n23 : v23 = nI ((12 * f) + k) := by rw [e23]; exact gx_add (rfl : (nI (12 * f)) = (nI (12 * f))) (rfl : (nI k) = (nI k))
        subst n23
        have i24 : vp_in (nI ((12 * f) + k)) 96 := gx_in (rfl : (nI ((12 * f) + k)) = (nI ((12 * f) + k))) (by omega) (by decide)
        have k24 : ((nI ((12 * f) + k)) : Int32).toNatClampNeg = ((12 * f) + k) := gx_cl (rfl : (nI ((12 * f) + k)) = (nI ((12 * f) + k))) (by omega)
        refine va_iald hx hb hK hP 1 0 rfl rfl i24 dM_sumOf_24 ?_
        rw [k24]
        refine lv_topi (fun v24 e24 => ?_)
        have n24 : v24 = nI (sk ((12 * f) + k)) := e24
        subst n24
        refine lv_istore (lv' := [(4, .int (nI (sk ((12 * f) + k)))), (3, .int (nI k)), (2, .int (nI (msum sk sb9 sz eC f k))), (0, .ref mo), (1, .int (nI f))]) hx hb dM_sumOf_25 hl (by decide) rfl (fun ls hl => ?_)
        refine lv_iload hx hb dM_sumOf_27 (lv_at hl 0 rfl) ?_
        refine gc_i (va_runS (As := [.int (nI (sk ((12 * f) + k)))]) (rest := []) ⟨hx, hb, hml, hown, ht⟩ (c_M_uses l D cI cJ cB cZ (sk ((12 * f) + k)) (by omega) H.size) (va_cwS 1 ht (gw_S m_563 m_564 m_6 m_565) rfl rfl rfl (by decide +kernel) ⟨Nat.le_of_ble_eq_true rfl, Nat.le_of_ble_eq_true rfl⟩) (gp_S hK hN (hP.sub (ws' := ([] : va_W)) [] rfl) (hD.sub (ws' := ([] : va_W)) [] (by decide) rfl)) rfl rfl hl.1 rfl (lv_room (Nat.le_of_ble_eq_true rfl)) dM_sumOf_29 ⟨Nat.le_of_ble_eq_true rfl, Nat.le_of_ble_eq_true rfl⟩) hP hD hS hA [] rfl (by decide) (fun r w h => by obtain ⟨_, rfl⟩ := h; rfl) (fun r29 w29 H locs p29 hP hD hS => ?_)
        obtain ⟨rfl, rfl⟩ := p29
        have hP : va_P D vwCl [(mo, .inr (6, [.ref (mq 0), .ref (mq 1), .ref (mq 2), .ref (mq 3), .int (nI X.2.2.2.2), .ref (mq 5), .ref (mq 6), .int (nI F), .ref (mq 8), .ref (mq 9), .ref (mq 10), .ref (mq 11), .ref (mq 12), .ref (mq 13), .ref (mq 14), .ref (mq 15), .ref (mq 16), .ref (mq 17), .ref (mq 18), .ref (mq 19), .ref (mq 20), .ref (mq 21), .ref (mq 22), .int (nI dp)])), ((mq 8), .inl (cI, 96, .inl (fun z9 => nI (sk z9)))), ((mq 10), .inl (cI, 96, .inl sb9)), ((mq 11), .inl (cI, 8, .inl (fun z9 => nI (sz z9)))), ((mq 12), .inl (cI, 80, .inl (fun z9 => nI (eC z9))))] H := hP
        have hD : va_D A [(mo, .inr (6, [.ref (mq 0), .ref (mq 1), .ref (mq 2), .ref (mq 3), .int (nI X.2.2.2.2), .ref (mq 5), .ref (mq 6), .int (nI F), .ref (mq 8), .ref (mq 9), .ref (mq 10), .ref (mq 11), .ref (mq 12), .ref (mq 13), .ref (mq 14), .ref (mq 15), .ref (mq 16), .ref (mq 17), .ref (mq 18), .ref (mq 19), .ref (mq 20), .ref (mq 21), .ref (mq 22), .int (nI dp)])), ((mq 8), .inl (cI, 96, .inl (fun z9 => nI (sk z9)))), ((mq 10), .inl (cI, 96, .inl sb9)), ((mq 11), .inl (cI, 8, .inl (fun z9 => nI (sz z9)))), ((mq 12), .inl (cI, 80, .inl (fun z9 => nI (eC z9))))] := hD
        refine lv_if_eq (tgt := 56) hx hb dM_sumOf_32 (by decide) (fun c32 => ?_) (fun c32 => ?_)
        · refine lv_iload hx hb dM_sumOf_56 (lv_at hl 0 rfl) ?_
          refine lv_iconst (v := 4) hx hb dM_sumOf_58 (by decide) ?_
          refine lv_icmp_ne (tgt := 66) hx hb dM_sumOf_59 (by decide) (fun c59 => ?_) (fun c59 => ?_)
          · have g59 : ¬ ((sk ((12 * f) + k)) = 4) := fun z => c59 ((gx_eq (rfl : (nI (sk ((12 * f) + k))) = (nI (sk ((12 * f) + k)))) (rfl : (4 : Int32) = nI 4) (by omega) (by decide)).mpr z)
            refine lv_iconst (v := 0) hx hb dM_sumOf_66 (by decide) ?_
            refine lv_istore (lv' := [(5, .int 0), (4, .int (nI (sk ((12 * f) + k)))), (3, .int (nI k)), (2, .int (nI (msum sk sb9 sz eC f k))), (0, .ref mo), (1, .int (nI f))]) hx hb dM_sumOf_67 hl (by decide) rfl (fun ls hl => ?_)
            refine lv_iload_n hx hb dM_sumOf_69 rfl (lv_at hl 3 rfl) ?_
            refine lv_iload hx hb dM_sumOf_70 (lv_at hl 0 rfl) ?_
            refine lv_aload_n hx hb dM_sumOf_72 rfl (lv_at hl 4 rfl) ?_
            refine lv_iload_n hx hb dM_sumOf_73 rfl (lv_at hl 5 rfl) ?_
            refine lv_iload_n hx hb dM_sumOf_74 rfl (lv_at hl 2 rfl) ?_
            refine gc_i (va_runV (As := [.int (nI f), .int (nI k)]) (rest := [.int 0, .int (nI (msum sk sb9 sz eC f k))]) ⟨hx, hb, hml, hown, ht⟩ (c_M_times l D cI cJ cB cZ mo mq X.2.2.2.2 F dp sk sb9 sz f k (by omega) (by omega) hsz hsk hs4 H.size) (cwV 2 ht (gw_V m_608 m_610 ms_29 m_6 m_611) rfl rfl rfl (by decide +kernel) ⟨Nat.le_of_ble_eq_true rfl, Nat.le_of_ble_eq_true rfl⟩) (gp_V (ci := 6) (q0 := 0) hK hN (hP.sub (ws' := [(mo, .inr (6, [.ref (mq 0), .ref (mq 1), .ref (mq 2), .ref (mq 3), .int (nI X.2.2.2.2), .ref (mq 5), .ref (mq 6), .int (nI F), .ref (mq 8), .ref (mq 9), .ref (mq 10), .ref (mq 11), .ref (mq 12), .ref (mq 13), .ref (mq 14), .ref (mq 15), .ref (mq 16), .ref (mq 17), .ref (mq 18), .ref (mq 19), .ref (mq 20), .ref (mq 21), .ref (mq 22), .int (nI dp)])), ((mq 8), .inl (cI, 96, .inl (fun z9 => nI (sk z9)))), ((mq 10), .inl (cI, 96, .inl sb9)), ((mq 11), .inl (cI, 8, .inl (fun z9 => nI (sz z9))))]) [0, 1, 2, 3] rfl) (hD.sub (ws' := [(mo, .inr (6, [.ref (mq 0), .ref (mq 1), .ref (mq 2), .ref (mq 3), .int (nI X.2.2.2.2), .ref (mq 5), .ref (mq 6), .int (nI F), .ref (mq 8), .ref (mq 9), .ref (mq 10), .ref (mq 11), .ref (mq 12), .ref (mq 13), .ref (mq 14), .ref (mq 15), .ref (mq 16), .ref (mq 17), .ref (mq 18), .ref (mq 19), .ref (mq 20), .ref (mq 21), .ref (mq 22), .int (nI dp)])), ((mq 8), .inl (cI, 96, .inl (fun z9 => nI (sk z9)))), ((mq 10), .inl (cI, 96, .inl sb9)), ((mq 11), .inl (cI, 8, .inl (fun z9 => nI (sz z9))))]) [0, 1, 2, 3] (by decide) rfl) rfl rfl) rfl rfl hl.1 rfl (lv_room (Nat.le_of_ble_eq_true rfl)) dM_sumOf_75 ⟨Nat.le_of_ble_eq_true rfl, Nat.le_of_ble_eq_true rfl⟩) hP hD hS hA [0, 1, 2, 3] rfl (by decide) (fun r w h => by obtain ⟨_, rfl⟩ := h; rfl) (fun r75 w75 H locs p75 hP hD hS => ?_)
            obtain ⟨rfl, rfl⟩ := p75
            have htz75 := tmz_le (K := kat sk sz f) (g := (fun i => cn (sb9 (12 * f + i)))) 13 k 1 (by decide)
            have hP : va_P D vwCl [(mo, .inr (6, [.ref (mq 0), .ref (mq 1), .ref (mq 2), .ref (mq 3), .int (nI X.2.2.2.2), .ref (mq 5), .ref (mq 6), .int (nI F), .ref (mq 8), .ref (mq 9), .ref (mq 10), .ref (mq 11), .ref (mq 12), .ref (mq 13), .ref (mq 14), .ref (mq 15), .ref (mq 16), .ref (mq 17), .ref (mq 18), .ref (mq 19), .ref (mq 20), .ref (mq 21), .ref (mq 22), .int (nI dp)])), ((mq 8), .inl (cI, 96, .inl (fun z9 => nI (sk z9)))), ((mq 10), .inl (cI, 96, .inl sb9)), ((mq 11), .inl (cI, 8, .inl (fun z9 => nI (sz z9)))), ((mq 12), .inl (cI, 80, .inl (fun z9 => nI (eC z9))))] H := hP
            have hD : va_D A [(mo, .inr (6, [.ref (mq 0), .ref (mq 1), .ref (mq 2), .ref (mq 3), .int (nI X.2.2.2.2), .ref (mq 5), .ref (mq 6), .int (nI F), .ref (mq 8), .ref (mq 9), .ref (mq 10), .ref (mq 11), .ref (mq 12), .ref (mq 13), .ref (mq 14), .ref (mq 15), .ref (mq 16), .ref (mq 17), .ref (mq 18), .ref (mq 19), .ref (mq 20), .ref (mq 21), .ref (mq 22), .int (nI dp)])), ((mq 8), .inl (cI, 96, .inl (fun z9 => nI (sk z9)))), ((mq 10), .inl (cI, 96, .inl sb9)), ((mq 11), .inl (cI, 8, .inl (fun z9 => nI (sz z9)))), ((mq 12), .inl (cI, 80, .inl (fun z9 => nI (eC z9))))] := hD
            have hmul : 0 * (tmz (kat sk sz f) (fun i => cn (sb9 (12 * f + i))) 13 k 1) ≤ 1001 * 1000 := Nat.mul_le_mul (by omega) htz75
            refine lv_imul hx hb dM_sumOf_78 ?_
            refine lv_topi (fun v78 e78 => ?_)
            have n78 : v78 = nI (0 * (tmz (kat sk sz f) (fun i => cn (sb9 (12 * f + i))) 13 k 1)) := by rw [e78]; exact gx_mul (rfl : (0 : Int32) = nI 0) (rfl : (nI (tmz (kat sk sz f) (fun i => cn (sb9 (12 * f + i))) 13 k 1)) = (nI (tmz (kat sk sz f) (fun i => cn (sb9 (12 * f + i))) 13 k 1)))
            subst n78
            refine lv_iadd hx hb dM_sumOf_79 ?_
            refine lv_topi (fun v79 e79 => ?_)
            have n79 : v79 = nI ((msum sk sb9 sz eC f k) + (0 * (tmz (kat sk sz f) (fun i => cn (sb9 (12 * f + i))) 13 k 1))) := by rw [e79]; exact gx_add (rfl : (nI (msum sk sb9 sz eC f k)) = (nI (msum sk sb9 sz eC f k))) (rfl : (nI (0 * (tmz (kat sk sz f) (fun i => cn (sb9 (12 * f + i))) 13 k 1))) = (nI (0 * (tmz (kat sk sz f) (fun i => cn (sb9 (12 * f + i))) 13 k 1))))
            subst n79
            refine gc_i (va_runS (As := [.int (nI ((msum sk sb9 sz eC f k) + (0 * (tmz (kat sk sz f) (fun i => cn (sb9 (12 * f + i))) 13 k 1))))]) (rest := []) ⟨hx, hb, hml, hown, ht⟩ (c_M_cap l D cI cJ cB cZ ((msum sk sb9 sz eC f k) + (0 * (tmz (kat sk sz f) (fun i => cn (sb9 (12 * f + i))) 13 k 1))) (by omega) H.size) (va_cwS 1 ht (gw_S m_601 m_602 m_6 m_603) rfl rfl rfl (by decide +kernel) ⟨Nat.le_of_ble_eq_true rfl, Nat.le_of_ble_eq_true rfl⟩) (gp_S hK hN (hP.sub (ws' := ([] : va_W)) [] rfl) (hD.sub (ws' := ([] : va_W)) [] (by decide) rfl)) rfl rfl hl.1 rfl (lv_room (Nat.le_of_ble_eq_true rfl)) dM_sumOf_80 ⟨Nat.le_of_ble_eq_true rfl, Nat.le_of_ble_eq_true rfl⟩) hP hD hS hA [] rfl (by decide) (fun r w h => by obtain ⟨_, rfl⟩ := h; rfl) (fun r80 w80 H locs p80 hP hD hS => ?_)
            obtain ⟨rfl, rfl⟩ := p80
            have hP : va_P D vwCl [(mo, .inr (6, [.ref (mq 0), .ref (mq 1), .ref (mq 2), .ref (mq 3), .int (nI X.2.2.2.2), .ref (mq 5), .ref (mq 6), .int (nI F), .ref (mq 8), .ref (mq 9), .ref (mq 10), .ref (mq 11), .ref (mq 12), .ref (mq 13), .ref (mq 14), .ref (mq 15), .ref (mq 16), .ref (mq 17), .ref (mq 18), .ref (mq 19), .ref (mq 20), .ref (mq 21), .ref (mq 22), .int (nI dp)])), ((mq 8), .inl (cI, 96, .inl (fun z9 => nI (sk z9)))), ((mq 10), .inl (cI, 96, .inl sb9)), ((mq 11), .inl (cI, 8, .inl (fun z9 => nI (sz z9)))), ((mq 12), .inl (cI, 80, .inl (fun z9 => nI (eC z9))))] H := hP
            have hD : va_D A [(mo, .inr (6, [.ref (mq 0), .ref (mq 1), .ref (mq 2), .ref (mq 3), .int (nI X.2.2.2.2), .ref (mq 5), .ref (mq 6), .int (nI F), .ref (mq 8), .ref (mq 9), .ref (mq 10), .ref (mq 11), .ref (mq 12), .ref (mq 13), .ref (mq 14), .ref (mq 15), .ref (mq 16), .ref (mq 17), .ref (mq 18), .ref (mq 19), .ref (mq 20), .ref (mq 21), .ref (mq 22), .int (nI dp)])), ((mq 8), .inl (cI, 96, .inl (fun z9 => nI (sk z9)))), ((mq 10), .inl (cI, 96, .inl sb9)), ((mq 11), .inl (cI, 8, .inl (fun z9 => nI (sz z9)))), ((mq 12), .inl (cI, 80, .inl (fun z9 => nI (eC z9))))] := hD
            refine lv_istore_n (lv' := [(2, .int (nI (min 1000 ((msum sk sb9 sz eC f k) + (0 * (tmz (kat sk sz f) (fun i => cn (sb9 (12 * f + i))) 13 k 1)))))), (5, .int 0), (4, .int (nI (sk ((12 * f) + k)))), (3, .int (nI k)), (0, .ref mo), (1, .int (nI f))]) hx hb dM_sumOf_83 rfl hl (by decide) rfl (fun ls hl => ?_)
            have hms : (nI (min 1000 ((msum sk sb9 sz eC f k) + (0 * (tmz (kat sk sz f) (fun i => cn (sb9 (12 * f + i))) 13 k 1))))) = nI (msum sk sb9 sz eC f (k + 1)) := by
              show _ = nI (min 1000 (msum sk sb9 sz eC f k + mown sk sb9 eC (12 * f + k) * _))
              unfold mown
              rw [if_neg (gb_1.mp c32), if_neg (by omega)]
            rw [hms] at hl
            have hl : lv_has ls 6 [(2, .int (nI (msum sk sb9 sz eC f (k + 1)))), (5, .int 0), (4, .int (nI (sk ((12 * f) + k)))), (3, .int (nI k)), (0, .ref mo), (1, .int (nI f))] := hl
            refine lv_iinc (v := (nI (k + 1))) (lv' := [(3, .int (nI (k + 1))), (2, .int (nI (msum sk sb9 sz eC f (k + 1)))), (5, .int 0), (4, .int (nI (sk ((12 * f) + k)))), (0, .ref mo), (1, .int (nI f))]) hx hb dM_sumOf_84 hl (k := 3) rfl (gx_inc (rfl : (nI k) = (nI k))) (by decide) rfl (fun ls hl => ?_)
            refine lv_goto (tgt := 4) hx hb dM_sumOf_87 (by decide) ?_
            exact ih4 (k + 1) (by omega) (by omega) _ _ _ hP hD hS (lv_sub hl [0, 1, 4, 5] rfl)
          · have g59 : (sk ((12 * f) + k)) = 4 := (gx_eq (rfl : (nI (sk ((12 * f) + k))) = (nI (sk ((12 * f) + k)))) (rfl : (4 : Int32) = nI 4) (by omega) (by decide)).mp c59
            refine lv_iconst (v := 1) hx hb dM_sumOf_62 (by decide) ?_
            refine lv_goto (tgt := 67) hx hb dM_sumOf_63 (by decide) ?_
            refine lv_istore (lv' := [(5, .int 1), (4, .int (nI (sk ((12 * f) + k)))), (3, .int (nI k)), (2, .int (nI (msum sk sb9 sz eC f k))), (0, .ref mo), (1, .int (nI f))]) hx hb dM_sumOf_67 hl (by decide) rfl (fun ls hl => ?_)
            refine lv_iload_n hx hb dM_sumOf_69 rfl (lv_at hl 3 rfl) ?_
            refine lv_iload hx hb dM_sumOf_70 (lv_at hl 0 rfl) ?_
            refine lv_aload_n hx hb dM_sumOf_72 rfl (lv_at hl 4 rfl) ?_
            refine lv_iload_n hx hb dM_sumOf_73 rfl (lv_at hl 5 rfl) ?_
            refine lv_iload_n hx hb dM_sumOf_74 rfl (lv_at hl 2 rfl) ?_
            refine gc_i (va_runV (As := [.int (nI f), .int (nI k)]) (rest := [.int 1, .int (nI (msum sk sb9 sz eC f k))]) ⟨hx, hb, hml, hown, ht⟩ (c_M_times l D cI cJ cB cZ mo mq X.2.2.2.2 F dp sk sb9 sz f k (by omega) (by omega) hsz hsk hs4 H.size) (cwV 2 ht (gw_V m_608 m_610 ms_29 m_6 m_611) rfl rfl rfl (by decide +kernel) ⟨Nat.le_of_ble_eq_true rfl, Nat.le_of_ble_eq_true rfl⟩) (gp_V (ci := 6) (q0 := 0) hK hN (hP.sub (ws' := [(mo, .inr (6, [.ref (mq 0), .ref (mq 1), .ref (mq 2), .ref (mq 3), .int (nI X.2.2.2.2), .ref (mq 5), .ref (mq 6), .int (nI F), .ref (mq 8), .ref (mq 9), .ref (mq 10), .ref (mq 11), .ref (mq 12), .ref (mq 13), .ref (mq 14), .ref (mq 15), .ref (mq 16), .ref (mq 17), .ref (mq 18), .ref (mq 19), .ref (mq 20), .ref (mq 21), .ref (mq 22), .int (nI dp)])), ((mq 8), .inl (cI, 96, .inl (fun z9 => nI (sk z9)))), ((mq 10), .inl (cI, 96, .inl sb9)), ((mq 11), .inl (cI, 8, .inl (fun z9 => nI (sz z9))))]) [0, 1, 2, 3] rfl) (hD.sub (ws' := [(mo, .inr (6, [.ref (mq 0), .ref (mq 1), .ref (mq 2), .ref (mq 3), .int (nI X.2.2.2.2), .ref (mq 5), .ref (mq 6), .int (nI F), .ref (mq 8), .ref (mq 9), .ref (mq 10), .ref (mq 11), .ref (mq 12), .ref (mq 13), .ref (mq 14), .ref (mq 15), .ref (mq 16), .ref (mq 17), .ref (mq 18), .ref (mq 19), .ref (mq 20), .ref (mq 21), .ref (mq 22), .int (nI dp)])), ((mq 8), .inl (cI, 96, .inl (fun z9 => nI (sk z9)))), ((mq 10), .inl (cI, 96, .inl sb9)), ((mq 11), .inl (cI, 8, .inl (fun z9 => nI (sz z9))))]) [0, 1, 2, 3] (by decide) rfl) rfl rfl) rfl rfl hl.1 rfl (lv_room (Nat.le_of_ble_eq_true rfl)) dM_sumOf_75 ⟨Nat.le_of_ble_eq_true rfl, Nat.le_of_ble_eq_true rfl⟩) hP hD hS hA [0, 1, 2, 3] rfl (by decide) (fun r w h => by obtain ⟨_, rfl⟩ := h; rfl) (fun r75 w75 H locs p75 hP hD hS => ?_)
            obtain ⟨rfl, rfl⟩ := p75
            have htz75 := tmz_le (K := kat sk sz f) (g := (fun i => cn (sb9 (12 * f + i)))) 13 k 1 (by decide)
            have hP : va_P D vwCl [(mo, .inr (6, [.ref (mq 0), .ref (mq 1), .ref (mq 2), .ref (mq 3), .int (nI X.2.2.2.2), .ref (mq 5), .ref (mq 6), .int (nI F), .ref (mq 8), .ref (mq 9), .ref (mq 10), .ref (mq 11), .ref (mq 12), .ref (mq 13), .ref (mq 14), .ref (mq 15), .ref (mq 16), .ref (mq 17), .ref (mq 18), .ref (mq 19), .ref (mq 20), .ref (mq 21), .ref (mq 22), .int (nI dp)])), ((mq 8), .inl (cI, 96, .inl (fun z9 => nI (sk z9)))), ((mq 10), .inl (cI, 96, .inl sb9)), ((mq 11), .inl (cI, 8, .inl (fun z9 => nI (sz z9)))), ((mq 12), .inl (cI, 80, .inl (fun z9 => nI (eC z9))))] H := hP
            have hD : va_D A [(mo, .inr (6, [.ref (mq 0), .ref (mq 1), .ref (mq 2), .ref (mq 3), .int (nI X.2.2.2.2), .ref (mq 5), .ref (mq 6), .int (nI F), .ref (mq 8), .ref (mq 9), .ref (mq 10), .ref (mq 11), .ref (mq 12), .ref (mq 13), .ref (mq 14), .ref (mq 15), .ref (mq 16), .ref (mq 17), .ref (mq 18), .ref (mq 19), .ref (mq 20), .ref (mq 21), .ref (mq 22), .int (nI dp)])), ((mq 8), .inl (cI, 96, .inl (fun z9 => nI (sk z9)))), ((mq 10), .inl (cI, 96, .inl sb9)), ((mq 11), .inl (cI, 8, .inl (fun z9 => nI (sz z9)))), ((mq 12), .inl (cI, 80, .inl (fun z9 => nI (eC z9))))] := hD
            have hmul : 1 * (tmz (kat sk sz f) (fun i => cn (sb9 (12 * f + i))) 13 k 1) ≤ 1001 * 1000 := Nat.mul_le_mul (by omega) htz75
            refine lv_imul hx hb dM_sumOf_78 ?_
            refine lv_topi (fun v78 e78 => ?_)
            have n78 : v78 = nI (1 * (tmz (kat sk sz f) (fun i => cn (sb9 (12 * f + i))) 13 k 1)) := by rw [e78]; exact gx_mul (rfl : (1 : Int32) = nI 1) (rfl : (nI (tmz (kat sk sz f) (fun i => cn (sb9 (12 * f + i))) 13 k 1)) = (nI (tmz (kat sk sz f) (fun i => cn (sb9 (12 * f + i))) 13 k 1)))
            subst n78
            refine lv_iadd hx hb dM_sumOf_79 ?_
            refine lv_topi (fun v79 e79 => ?_)
            have n79 : v79 = nI ((msum sk sb9 sz eC f k) + (1 * (tmz (kat sk sz f) (fun i => cn (sb9 (12 * f + i))) 13 k 1))) := by rw [e79]; exact gx_add (rfl : (nI (msum sk sb9 sz eC f k)) = (nI (msum sk sb9 sz eC f k))) (rfl : (nI (1 * (tmz (kat sk sz f) (fun i => cn (sb9 (12 * f + i))) 13 k 1))) = (nI (1 * (tmz (kat sk sz f) (fun i => cn (sb9 (12 * f + i))) 13 k 1))))
            subst n79
            refine gc_i (va_runS (As := [.int (nI ((msum sk sb9 sz eC f k) + (1 * (tmz (kat sk sz f) (fun i => cn (sb9 (12 * f + i))) 13 k 1))))]) (rest := []) ⟨hx, hb, hml, hown, ht⟩ (c_M_cap l D cI cJ cB cZ ((msum sk sb9 sz eC f k) + (1 * (tmz (kat sk sz f) (fun i => cn (sb9 (12 * f + i))) 13 k 1))) (by omega) H.size) (va_cwS 1 ht (gw_S m_601 m_602 m_6 m_603) rfl rfl rfl (by decide +kernel) ⟨Nat.le_of_ble_eq_true rfl, Nat.le_of_ble_eq_true rfl⟩) (gp_S hK hN (hP.sub (ws' := ([] : va_W)) [] rfl) (hD.sub (ws' := ([] : va_W)) [] (by decide) rfl)) rfl rfl hl.1 rfl (lv_room (Nat.le_of_ble_eq_true rfl)) dM_sumOf_80 ⟨Nat.le_of_ble_eq_true rfl, Nat.le_of_ble_eq_true rfl⟩) hP hD hS hA [] rfl (by decide) (fun r w h => by obtain ⟨_, rfl⟩ := h; rfl) (fun r80 w80 H locs p80 hP hD hS => ?_)
            obtain ⟨rfl, rfl⟩ := p80
            have hP : va_P D vwCl [(mo, .inr (6, [.ref (mq 0), .ref (mq 1), .ref (mq 2), .ref (mq 3), .int (nI X.2.2.2.2), .ref (mq 5), .ref (mq 6), .int (nI F), .ref (mq 8), .ref (mq 9), .ref (mq 10), .ref (mq 11), .ref (mq 12), .ref (mq 13), .ref (mq 14), .ref (mq 15), .ref (mq 16), .ref (mq 17), .ref (mq 18), .ref (mq 19), .ref (mq 20), .ref (mq 21), .ref (mq 22), .int (nI dp)])), ((mq 8), .inl (cI, 96, .inl (fun z9 => nI (sk z9)))), ((mq 10), .inl (cI, 96, .inl sb9)), ((mq 11), .inl (cI, 8, .inl (fun z9 => nI (sz z9)))), ((mq 12), .inl (cI, 80, .inl (fun z9 => nI (eC z9))))] H := hP
            have hD : va_D A [(mo, .inr (6, [.ref (mq 0), .ref (mq 1), .ref (mq 2), .ref (mq 3), .int (nI X.2.2.2.2), .ref (mq 5), .ref (mq 6), .int (nI F), .ref (mq 8), .ref (mq 9), .ref (mq 10), .ref (mq 11), .ref (mq 12), .ref (mq 13), .ref (mq 14), .ref (mq 15), .ref (mq 16), .ref (mq 17), .ref (mq 18), .ref (mq 19), .ref (mq 20), .ref (mq 21), .ref (mq 22), .int (nI dp)])), ((mq 8), .inl (cI, 96, .inl (fun z9 => nI (sk z9)))), ((mq 10), .inl (cI, 96, .inl sb9)), ((mq 11), .inl (cI, 8, .inl (fun z9 => nI (sz z9)))), ((mq 12), .inl (cI, 80, .inl (fun z9 => nI (eC z9))))] := hD
            refine lv_istore_n (lv' := [(2, .int (nI (min 1000 ((msum sk sb9 sz eC f k) + (1 * (tmz (kat sk sz f) (fun i => cn (sb9 (12 * f + i))) 13 k 1)))))), (5, .int 1), (4, .int (nI (sk ((12 * f) + k)))), (3, .int (nI k)), (0, .ref mo), (1, .int (nI f))]) hx hb dM_sumOf_83 rfl hl (by decide) rfl (fun ls hl => ?_)
            have hms : (nI (min 1000 ((msum sk sb9 sz eC f k) + (1 * (tmz (kat sk sz f) (fun i => cn (sb9 (12 * f + i))) 13 k 1))))) = nI (msum sk sb9 sz eC f (k + 1)) := by
              show _ = nI (min 1000 (msum sk sb9 sz eC f k + mown sk sb9 eC (12 * f + k) * _))
              unfold mown
              rw [if_neg (gb_1.mp c32), if_pos (by omega)]
            rw [hms] at hl
            have hl : lv_has ls 6 [(2, .int (nI (msum sk sb9 sz eC f (k + 1)))), (5, .int 1), (4, .int (nI (sk ((12 * f) + k)))), (3, .int (nI k)), (0, .ref mo), (1, .int (nI f))] := hl
            refine lv_iinc (v := (nI (k + 1))) (lv' := [(3, .int (nI (k + 1))), (2, .int (nI (msum sk sb9 sz eC f (k + 1)))), (5, .int 1), (4, .int (nI (sk ((12 * f) + k)))), (0, .ref mo), (1, .int (nI f))]) hx hb dM_sumOf_84 hl (k := 3) rfl (gx_inc (rfl : (nI k) = (nI k))) (by decide) rfl (fun ls hl => ?_)
            refine lv_goto (tgt := 4) hx hb dM_sumOf_87 (by decide) ?_
            exact ih4 (k + 1) (by omega) (by omega) _ _ _ hP hD hS (lv_sub hl [0, 1, 4, 5] rfl)
        · obtain ⟨e0, he1, he0⟩ := hsb f k (by omega) (by omega) (gb_0 c32)
          have heC1 := heC e0
          refine lv_iconst (v := 1) hx hb dM_sumOf_35 (by decide) ?_
          refine lv_aload_n hx hb dM_sumOf_36 rfl (lv_at hl 3 rfl) ?_
          refine va_get (D := D) (ci := 6) (v := .ref (mq 12)) (C := R_M) (T := F_M) (N := 24) hx hb ht i_M hown hK hP 0 rfl rfl 12 (by decide) (ht _ m_466) (fun _ h9 => h9) rfl dM_sumOf_37 ?_
          refine lv_aload_n hx hb dM_sumOf_40 rfl (lv_at hl 3 rfl) ?_
          refine va_get (D := D) (ci := 6) (v := .ref (mq 10)) (C := R_M) (T := F_M) (N := 24) hx hb ht i_M hown hK hP 0 rfl rfl 10 (by decide) (ht _ m_464) (fun _ h9 => h9) rfl dM_sumOf_41 ?_
          refine lv_bipush (v := 12) hx hb dM_sumOf_44 (by decide) ?_
          refine lv_iload_n hx hb dM_sumOf_46 rfl (lv_at hl 4 rfl) ?_
          refine lv_imul hx hb dM_sumOf_47 ?_
          refine lv_topi (fun v47 e47 => ?_)
          have n47 : v47 = nI (12 * f) := by rw [e47]; exact gx_mul (rfl : (12 : Int32) = nI 12) (rfl : (nI f) = (nI f))
          subst n47
          refine lv_iload_n hx hb dM_sumOf_48 rfl (lv_at hl 1 rfl) ?_
          refine lv_iadd hx hb dM_sumOf_49 ?_
          refine lv_topi (fun v49 e49 => ?_)
          have n49 : v49 = nI ((12 * f) + k) := by rw [e49]; exact gx_add (rfl : (nI (12 * f)) = (nI (12 * f))) (rfl : (nI k) = (nI k))
          subst n49
          have i50 : vp_in (nI ((12 * f) + k)) 96 := gx_in (rfl : (nI ((12 * f) + k)) = (nI ((12 * f) + k))) (by omega) (by decide)
          have k50 : ((nI ((12 * f) + k)) : Int32).toNatClampNeg = ((12 * f) + k) := gx_cl (rfl : (nI ((12 * f) + k)) = (nI ((12 * f) + k))) (by omega)
          refine va_iald hx hb hK hP 2 0 rfl rfl i50 dM_sumOf_50 ?_
          rw [k50]
          refine lv_topi (fun v50 e50 => ?_)
          rw [he0] at e50
          subst e50
          have i51 : vp_in (nI e0) 80 := gx_in (rfl : (nI e0) = (nI e0)) (by omega) (by decide)
          have k51 : ((nI e0) : Int32).toNatClampNeg = e0 := gx_cl (rfl : (nI e0) = (nI e0)) (by omega)
          refine va_iald hx hb hK hP 4 0 rfl rfl i51 dM_sumOf_51 ?_
          rw [k51]
          refine lv_topi (fun v51 e51 => ?_)
          have n51 : v51 = nI (eC e0) := e51
          subst n51
          refine lv_iadd hx hb dM_sumOf_52 ?_
          refine lv_topi (fun v52 e52 => ?_)
          have n52 : v52 = nI (1 + (eC e0)) := by rw [e52]; exact gx_add (rfl : (1 : Int32) = nI 1) (rfl : (nI (eC e0)) = (nI (eC e0)))
          subst n52
          refine lv_goto (tgt := 67) hx hb dM_sumOf_53 (by decide) ?_
          refine lv_istore (lv' := [(5, .int (nI (1 + (eC e0)))), (4, .int (nI (sk ((12 * f) + k)))), (3, .int (nI k)), (2, .int (nI (msum sk sb9 sz eC f k))), (0, .ref mo), (1, .int (nI f))]) hx hb dM_sumOf_67 hl (by decide) rfl (fun ls hl => ?_)
          refine lv_iload_n hx hb dM_sumOf_69 rfl (lv_at hl 3 rfl) ?_
          refine lv_iload hx hb dM_sumOf_70 (lv_at hl 0 rfl) ?_
          refine lv_aload_n hx hb dM_sumOf_72 rfl (lv_at hl 4 rfl) ?_
          refine lv_iload_n hx hb dM_sumOf_73 rfl (lv_at hl 5 rfl) ?_
          refine lv_iload_n hx hb dM_sumOf_74 rfl (lv_at hl 2 rfl) ?_
          refine gc_i (va_runV (As := [.int (nI f), .int (nI k)]) (rest := [.int (nI (1 + (eC e0))), .int (nI (msum sk sb9 sz eC f k))]) ⟨hx, hb, hml, hown, ht⟩ (c_M_times l D cI cJ cB cZ mo mq X.2.2.2.2 F dp sk sb9 sz f k (by omega) (by omega) hsz hsk hs4 H.size) (cwV 2 ht (gw_V m_608 m_610 ms_29 m_6 m_611) rfl rfl rfl (by decide +kernel) ⟨Nat.le_of_ble_eq_true rfl, Nat.le_of_ble_eq_true rfl⟩) (gp_V (ci := 6) (q0 := 0) hK hN (hP.sub (ws' := [(mo, .inr (6, [.ref (mq 0), .ref (mq 1), .ref (mq 2), .ref (mq 3), .int (nI X.2.2.2.2), .ref (mq 5), .ref (mq 6), .int (nI F), .ref (mq 8), .ref (mq 9), .ref (mq 10), .ref (mq 11), .ref (mq 12), .ref (mq 13), .ref (mq 14), .ref (mq 15), .ref (mq 16), .ref (mq 17), .ref (mq 18), .ref (mq 19), .ref (mq 20), .ref (mq 21), .ref (mq 22), .int (nI dp)])), ((mq 8), .inl (cI, 96, .inl (fun z9 => nI (sk z9)))), ((mq 10), .inl (cI, 96, .inl sb9)), ((mq 11), .inl (cI, 8, .inl (fun z9 => nI (sz z9))))]) [0, 1, 2, 3] rfl) (hD.sub (ws' := [(mo, .inr (6, [.ref (mq 0), .ref (mq 1), .ref (mq 2), .ref (mq 3), .int (nI X.2.2.2.2), .ref (mq 5), .ref (mq 6), .int (nI F), .ref (mq 8), .ref (mq 9), .ref (mq 10), .ref (mq 11), .ref (mq 12), .ref (mq 13), .ref (mq 14), .ref (mq 15), .ref (mq 16), .ref (mq 17), .ref (mq 18), .ref (mq 19), .ref (mq 20), .ref (mq 21), .ref (mq 22), .int (nI dp)])), ((mq 8), .inl (cI, 96, .inl (fun z9 => nI (sk z9)))), ((mq 10), .inl (cI, 96, .inl sb9)), ((mq 11), .inl (cI, 8, .inl (fun z9 => nI (sz z9))))]) [0, 1, 2, 3] (by decide) rfl) rfl rfl) rfl rfl hl.1 rfl (lv_room (Nat.le_of_ble_eq_true rfl)) dM_sumOf_75 ⟨Nat.le_of_ble_eq_true rfl, Nat.le_of_ble_eq_true rfl⟩) hP hD hS hA [0, 1, 2, 3] rfl (by decide) (fun r w h => by obtain ⟨_, rfl⟩ := h; rfl) (fun r75 w75 H locs p75 hP hD hS => ?_)
          obtain ⟨rfl, rfl⟩ := p75
          have htz75 := tmz_le (K := kat sk sz f) (g := (fun i => cn (sb9 (12 * f + i)))) 13 k 1 (by decide)
          have hP : va_P D vwCl [(mo, .inr (6, [.ref (mq 0), .ref (mq 1), .ref (mq 2), .ref (mq 3), .int (nI X.2.2.2.2), .ref (mq 5), .ref (mq 6), .int (nI F), .ref (mq 8), .ref (mq 9), .ref (mq 10), .ref (mq 11), .ref (mq 12), .ref (mq 13), .ref (mq 14), .ref (mq 15), .ref (mq 16), .ref (mq 17), .ref (mq 18), .ref (mq 19), .ref (mq 20), .ref (mq 21), .ref (mq 22), .int (nI dp)])), ((mq 8), .inl (cI, 96, .inl (fun z9 => nI (sk z9)))), ((mq 10), .inl (cI, 96, .inl sb9)), ((mq 11), .inl (cI, 8, .inl (fun z9 => nI (sz z9)))), ((mq 12), .inl (cI, 80, .inl (fun z9 => nI (eC z9))))] H := hP
          have hD : va_D A [(mo, .inr (6, [.ref (mq 0), .ref (mq 1), .ref (mq 2), .ref (mq 3), .int (nI X.2.2.2.2), .ref (mq 5), .ref (mq 6), .int (nI F), .ref (mq 8), .ref (mq 9), .ref (mq 10), .ref (mq 11), .ref (mq 12), .ref (mq 13), .ref (mq 14), .ref (mq 15), .ref (mq 16), .ref (mq 17), .ref (mq 18), .ref (mq 19), .ref (mq 20), .ref (mq 21), .ref (mq 22), .int (nI dp)])), ((mq 8), .inl (cI, 96, .inl (fun z9 => nI (sk z9)))), ((mq 10), .inl (cI, 96, .inl sb9)), ((mq 11), .inl (cI, 8, .inl (fun z9 => nI (sz z9)))), ((mq 12), .inl (cI, 80, .inl (fun z9 => nI (eC z9))))] := hD
          have hmul : (1 + (eC e0)) * (tmz (kat sk sz f) (fun i => cn (sb9 (12 * f + i))) 13 k 1) ≤ 1001 * 1000 := Nat.mul_le_mul (by omega) htz75
          refine lv_imul hx hb dM_sumOf_78 ?_
          refine lv_topi (fun v78 e78 => ?_)
          have n78 : v78 = nI ((1 + (eC e0)) * (tmz (kat sk sz f) (fun i => cn (sb9 (12 * f + i))) 13 k 1)) := by rw [e78]; exact gx_mul (rfl : (nI (1 + (eC e0))) = (nI (1 + (eC e0)))) (rfl : (nI (tmz (kat sk sz f) (fun i => cn (sb9 (12 * f + i))) 13 k 1)) = (nI (tmz (kat sk sz f) (fun i => cn (sb9 (12 * f + i))) 13 k 1)))
          subst n78
          refine lv_iadd hx hb dM_sumOf_79 ?_
          refine lv_topi (fun v79 e79 => ?_)
          have n79 : v79 = nI ((msum sk sb9 sz eC f k) + ((1 + (eC e0)) * (tmz (kat sk sz f) (fun i => cn (sb9 (12 * f + i))) 13 k 1))) := by rw [e79]; exact gx_add (rfl : (nI (msum sk sb9 sz eC f k)) = (nI (msum sk sb9 sz eC f k))) (rfl : (nI ((1 + (eC e0)) * (tmz (kat sk sz f) (fun i => cn (sb9 (12 * f + i))) 13 k 1))) = (nI ((1 + (eC e0)) * (tmz (kat sk sz f) (fun i => cn (sb9 (12 * f + i))) 13 k 1))))
          subst n79
          refine gc_i (va_runS (As := [.int (nI ((msum sk sb9 sz eC f k) + ((1 + (eC e0)) * (tmz (kat sk sz f) (fun i => cn (sb9 (12 * f + i))) 13 k 1))))]) (rest := []) ⟨hx, hb, hml, hown, ht⟩ (c_M_cap l D cI cJ cB cZ ((msum sk sb9 sz eC f k) + ((1 + (eC e0)) * (tmz (kat sk sz f) (fun i => cn (sb9 (12 * f + i))) 13 k 1))) (by omega) H.size) (va_cwS 1 ht (gw_S m_601 m_602 m_6 m_603) rfl rfl rfl (by decide +kernel) ⟨Nat.le_of_ble_eq_true rfl, Nat.le_of_ble_eq_true rfl⟩) (gp_S hK hN (hP.sub (ws' := ([] : va_W)) [] rfl) (hD.sub (ws' := ([] : va_W)) [] (by decide) rfl)) rfl rfl hl.1 rfl (lv_room (Nat.le_of_ble_eq_true rfl)) dM_sumOf_80 ⟨Nat.le_of_ble_eq_true rfl, Nat.le_of_ble_eq_true rfl⟩) hP hD hS hA [] rfl (by decide) (fun r w h => by obtain ⟨_, rfl⟩ := h; rfl) (fun r80 w80 H locs p80 hP hD hS => ?_)
          obtain ⟨rfl, rfl⟩ := p80
          have hP : va_P D vwCl [(mo, .inr (6, [.ref (mq 0), .ref (mq 1), .ref (mq 2), .ref (mq 3), .int (nI X.2.2.2.2), .ref (mq 5), .ref (mq 6), .int (nI F), .ref (mq 8), .ref (mq 9), .ref (mq 10), .ref (mq 11), .ref (mq 12), .ref (mq 13), .ref (mq 14), .ref (mq 15), .ref (mq 16), .ref (mq 17), .ref (mq 18), .ref (mq 19), .ref (mq 20), .ref (mq 21), .ref (mq 22), .int (nI dp)])), ((mq 8), .inl (cI, 96, .inl (fun z9 => nI (sk z9)))), ((mq 10), .inl (cI, 96, .inl sb9)), ((mq 11), .inl (cI, 8, .inl (fun z9 => nI (sz z9)))), ((mq 12), .inl (cI, 80, .inl (fun z9 => nI (eC z9))))] H := hP
          have hD : va_D A [(mo, .inr (6, [.ref (mq 0), .ref (mq 1), .ref (mq 2), .ref (mq 3), .int (nI X.2.2.2.2), .ref (mq 5), .ref (mq 6), .int (nI F), .ref (mq 8), .ref (mq 9), .ref (mq 10), .ref (mq 11), .ref (mq 12), .ref (mq 13), .ref (mq 14), .ref (mq 15), .ref (mq 16), .ref (mq 17), .ref (mq 18), .ref (mq 19), .ref (mq 20), .ref (mq 21), .ref (mq 22), .int (nI dp)])), ((mq 8), .inl (cI, 96, .inl (fun z9 => nI (sk z9)))), ((mq 10), .inl (cI, 96, .inl sb9)), ((mq 11), .inl (cI, 8, .inl (fun z9 => nI (sz z9)))), ((mq 12), .inl (cI, 80, .inl (fun z9 => nI (eC z9))))] := hD
          refine lv_istore_n (lv' := [(2, .int (nI (min 1000 ((msum sk sb9 sz eC f k) + ((1 + (eC e0)) * (tmz (kat sk sz f) (fun i => cn (sb9 (12 * f + i))) 13 k 1)))))), (5, .int (nI (1 + (eC e0)))), (4, .int (nI (sk ((12 * f) + k)))), (3, .int (nI k)), (0, .ref mo), (1, .int (nI f))]) hx hb dM_sumOf_83 rfl hl (by decide) rfl (fun ls hl => ?_)
          have hms : (nI (min 1000 ((msum sk sb9 sz eC f k) + ((1 + (eC e0)) * (tmz (kat sk sz f) (fun i => cn (sb9 (12 * f + i))) 13 k 1))))) = nI (msum sk sb9 sz eC f (k + 1)) := by
            show _ = nI (min 1000 (msum sk sb9 sz eC f k + mown sk sb9 eC (12 * f + k) * _))
            unfold mown
            rw [if_pos (gb_0 c32), he0, cn_nI (by omega)]
          rw [hms] at hl
          have hl : lv_has ls 6 [(2, .int (nI (msum sk sb9 sz eC f (k + 1)))), (5, .int (nI (1 + (eC e0)))), (4, .int (nI (sk ((12 * f) + k)))), (3, .int (nI k)), (0, .ref mo), (1, .int (nI f))] := hl
          refine lv_iinc (v := (nI (k + 1))) (lv' := [(3, .int (nI (k + 1))), (2, .int (nI (msum sk sb9 sz eC f (k + 1)))), (5, .int (nI (1 + (eC e0)))), (4, .int (nI (sk ((12 * f) + k)))), (0, .ref mo), (1, .int (nI f))]) hx hb dM_sumOf_84 hl (k := 3) rfl (gx_inc (rfl : (nI k) = (nI k))) (by decide) rfl (fun ls hl => ?_)
          refine lv_goto (tgt := 4) hx hb dM_sumOf_87 (by decide) ?_
          exact ih4 (k + 1) (by omega) (by omega) _ _ _ hP hD hS (lv_sub hl [0, 1, 4, 5] rfl)
  exact lp4 (sz f - (0) + 1) 0 (by omega) (by omega) _ _ _ hP hD hS (lv_sub hl [0, 1, 2, 3] rfl)

