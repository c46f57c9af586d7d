section MCH2
variable {X : Ex} {C : Cs} {Bs : Nat → Bd} {o : Nat → Prop} {ba : Nat → Option Nat} {sk sz L : Nat → Nat} {sa sb : Nat → Int32}
/-- the functions that f calls do as they should -/
def FNS (X : Ex) (C : Cs) (Bs : Nat → Bd) (o : Nat → Prop) (ba : Nat → Option Nat) (sk : Nat → Nat) (sa sb : Nat → Int32) (sz L : Nat → Nat) (f : Nat) : Prop := ∀ g, g < 8 → o g → C.2.2.2.1 g + 5 ≤ C.2.2.2.1 f → ∀ r, RB X C sk sa sb sz L g 0 ((Bs g).2.2.2.2.2.2.1 + (Bs g).2.2.2.2.2.2.2) r ((dg X ba Bs 51).2 (Bs g) 0 (Bs g).2.2.2.2.2.2.1 r)
/-- the expression is worked out, but for the last stretch -/
def EV (X : Ex) (Bs : Nat → Bd) (ba : Nat → Option Nat) (sk : Nat → Nat) (sa sb : Nat → Int32) (sz L : Nat → Nat) (d f pc e : Nat) (r : Ev) (M : MS) : Prop := ∃ u N, Gs X sk sa sb sz L u M N ∧ At d f pc r N ∧ (N.2.2.2.1 d = -1 ∨ ∃ k0, k0 ≤ 80 ∧ N.2.2.2.1 d = nI k0) ∧ Lo d M N ∧ (∀ k, k < 24 * (d + 1) → N.2.2.2.2.1 k = M.2.2.2.2.1 k) ∧
  (evr X N.2.2.2.2.2.2.2 N.2.2.2.2.2.1 d e N.2.2.2.1 N.2.2.2.2.2.2.1).1 = none ∧ rd (evr X N.2.2.2.2.2.2.2 N.2.2.2.2.2.1 d e N.2.2.2.1 N.2.2.2.2.2.2.1).2 (320 * d + 4 * e) = (dg X ba Bs 51).1 e r ∧ (∀ i, i < 320 * d → (evr X N.2.2.2.2.2.2.2 N.2.2.2.2.2.1 d e N.2.2.2.1 N.2.2.2.2.2.2.1).2 i = N.2.2.2.2.2.2.1 i) ∧ (∀ i, i < 80 * d → (ndE X N.2.2.2.2.2.2.2 N.2.2.2.1 d e i ↔ N.2.2.2.2.2.2.2 i))
theorem st_kv (hC : CI X C Bs o) {f pc : Nat} (hf : f < 8) (of : o f) (hs : pc < (Bs f).2.2.2.2.2.2.1) (hk2 : (Bs f).1 pc ≤ 2) : kv C C.2.2.2.1 (cn ((Bs f).2.2.1 pc)) + 2 ≤ 40 := by
  obtain ⟨hB, e0, e40⟩ := hC.2.2.1 f hf of
  have h1 := fV_mem (C := C) (p := C.2.2.2.1) (kd := (Bs f).1) (op := (Bs f).2.2.1) (m := (Bs f).2.2.2.2.2.2.1) pc hs
  have h2 : 1 * ow C C.2.2.2.1 (Bs f).1 (Bs f).2.2.1 pc ≤ tk (Bs f).1 (Bs f).2.2.1 pc * ow C C.2.2.2.1 (Bs f).1 (Bs f).2.2.1 pc := Nat.mul_le_mul_right _ (fn_tk hB (by omega))
  have h3 : ow C C.2.2.2.1 (Bs f).1 (Bs f).2.2.1 pc = 1 + kv C C.2.2.2.1 (cn ((Bs f).2.2.1 pc)) := if_pos hk2
  rw [← e0] at h1
  omega
theorem go_ev2 (h : MH X C Bs o ba sk sa sb sz L) {f d pc : Nat} {r : Ev} (hf : f < 8) (of : o f) (hd : 5 * d + C.2.2.2.1 f ≤ 40) (hs : pc < (Bs f).2.2.2.2.2.2.1) (hk2 : (Bs f).1 pc ≤ 2) (hfn : FNS X C Bs o ba sk sa sb sz L f) :
    ∀ n k M, k ≤ cn ((Bs f).2.2.1 pc) + 1 → cn ((Bs f).2.2.1 pc) + 1 - k ≤ n → At d f pc r M → M.2.2.2.1 d = nI k → (∀ z, z < 80 → (M.2.2.2.2.2.2.2 (80 * d + z) ↔ Rx X (fun y => y = cn ((Bs f).2.2.1 pc)) z)) → EI X (dg X ba Bs 51).1 r d (cn ((Bs f).2.2.1 pc)) k M.2.2.2.2.2.2.1 → EV X Bs ba sk sa sb sz L d f pc (cn ((Bs f).2.2.1 pc)) r M
  | n, k, M, hk, hn, hA, hfa, hnd, hEI => by
    obtain ⟨hX, hE, hO, -⟩ := id h.1
    obtain ⟨hB, -, -⟩ := hO f hf of
    have he := fn_op hX hB hs hk2
    have h80 := hX.1
    have hkv := st_kv h.1 hf of hs hk2
    have hk31 : k < 2 ^ 31 := by omega
    have hnE : ndE X M.2.2.2.2.2.2.2 M.2.2.2.1 d (cn ((Bs f).2.2.1 pc)) = M.2.2.2.2.2.2.2 := by unfold ndE; rw [hfa, if_neg (nI_pos hk31)]
    have hkE : kE M.2.2.2.1 d = k := by unfold kE; rw [hfa, if_neg (nI_pos hk31), cn_nI hk31]
    have hevr : evr X M.2.2.2.2.2.2.2 M.2.2.2.2.2.1 d (cn ((Bs f).2.2.1 pc)) M.2.2.2.1 M.2.2.2.2.2.2.1 = evl X M.2.2.2.2.2.2.2 M.2.2.2.2.2.1 d (cn ((Bs f).2.2.1 pc)) (cn ((Bs f).2.2.1 pc) + 1 - k) k M.2.2.2.2.2.2.1 := by unfold evr; rw [hnE, hkE]
    have hEI' := hEI
    rw [← hA.2.2.2] at hEI'
    obtain ⟨g1, g2⟩ := evl_run hX (V := (dg X ba Bs 51).1) (en := dx_ent ba Bs (dg X ba Bs 51).2) (nd := M.2.2.2.2.2.2.2) (ce := M.2.2.2.2.2.1) (d := d) he hnd (fun z hz => by
      have := Rx_kv hX hE (p := C.2.2.2.1) he (by omega) hz
      exact ⟨this.1, V_e h.1 this.1 (by omega)⟩) (cn ((Bs f).2.2.1 pc) + 1 - k) k M.2.2.2.2.2.2.1 (by omega) hEI'
    rw [← hevr, hA.2.2.2] at g2
    rw [← hevr] at g1
    rcases g2 with ⟨g3, g4⟩ | ⟨q, g3, g4, g5, g6, g7, g8⟩
    · exact ⟨0, M, rfl, hA, Or.inr ⟨k, by omega, hfa⟩, Lo_refl _ _, fun _ _ => rfl, g3, g4 _ (by omega) (fun R a _ _ => a _ rfl), g1, fun i _ => by rw [hnE]⟩
    · obtain ⟨u, N, c1, c2, c3, c4, c5, c6, c7⟩ := go_call h hf of hd hA hs hk2 (Or.inr ⟨k, by omega, hfa⟩) hfn (fun z hz => by rw [hnE]; exact hnd z hz) (fun i _ => by rw [hnE]) g3 g6 g7 g8 g1
      cases n with
      | zero => omega
      | succ n =>
        obtain ⟨v, P, d1, d2, d3, d4, d5, d6, d7, d8, d9⟩ := go_ev2 h hf of hd hs hk2 hfn n (q + 1) N (by omega) (by omega) c2 c3 c4 c5
        exact ⟨u + v, P, gs_add c1 d1, d2, d3, Lo_trans c6 d4, fun k hk => (d5 k hk).trans (c7 k hk), d6, d7, d8, d9⟩
theorem go_eval (h : MH X C Bs o ba sk sa sb sz L) {f d pc : Nat} {r : Ev} {M : MS} (hf : f < 8) (of : o f) (hd : 5 * d + C.2.2.2.1 f ≤ 40) (hs : pc < (Bs f).2.2.2.2.2.2.1) (hk2 : (Bs f).1 pc ≤ 2) (hfn : FNS X C Bs o ba sk sa sb sz L f) (hA : At d f pc r M) (hfa : M.2.2.2.1 d = -1) : EV X Bs ba sk sa sb sz L d f pc (cn ((Bs f).2.2.1 pc)) r M := by
  obtain ⟨hX, hE, hO, -⟩ := id h.1
  obtain ⟨hB, -, -⟩ := hO f hf of
  have he := fn_op hX hB hs hk2
  have h80 := hX.1
  have hkv := st_kv h.1 hf of hs hk2
  have hm1 : (-1 : Int32) < 0 := by decide
  have hnE : ndE X M.2.2.2.2.2.2.2 M.2.2.2.1 d (cn ((Bs f).2.2.1 pc)) = ndx M.2.2.2.2.2.2.2 d (Rx X (fun z => z = cn ((Bs f).2.2.1 pc))) := by unfold ndE; rw [hfa, if_pos hm1]
  have hkE : kE M.2.2.2.1 d = 0 := by unfold kE; rw [hfa, if_pos hm1]
  have hevr : evr X M.2.2.2.2.2.2.2 M.2.2.2.2.2.1 d (cn ((Bs f).2.2.1 pc)) M.2.2.2.1 M.2.2.2.2.2.2.1 = evl X (ndx M.2.2.2.2.2.2.2 d (Rx X (fun z => z = cn ((Bs f).2.2.1 pc)))) M.2.2.2.2.2.1 d (cn ((Bs f).2.2.1 pc)) (cn ((Bs f).2.2.1 pc) + 1 - 0) 0 M.2.2.2.2.2.2.1 := by unfold evr; rw [hnE, hkE]
  have hnd : ∀ z, z < 80 → (ndx M.2.2.2.2.2.2.2 d (Rx X (fun z => z = cn ((Bs f).2.2.1 pc))) (80 * d + z) ↔ Rx X (fun y => y = cn ((Bs f).2.2.1 pc)) z) := fun z hz => by
    unfold ndx; rw [if_pos (by omega), show 80 * d + z - 80 * d = z by omega]
  have hndl : ∀ i, i < 80 * d → (ndx M.2.2.2.2.2.2.2 d (Rx X (fun z => z = cn ((Bs f).2.2.1 pc))) i ↔ M.2.2.2.2.2.2.2 i) := fun i hi => by
    unfold ndx; rw [if_neg (by omega)]
  obtain ⟨g1, g2⟩ := evl_run hX (V := (dg X ba Bs 51).1) (en := dx_ent ba Bs (dg X ba Bs 51).2) (nd := ndx M.2.2.2.2.2.2.2 d (Rx X (fun z => z = cn ((Bs f).2.2.1 pc)))) (ce := M.2.2.2.2.2.1) (d := d) he hnd (fun z hz => by
      have := Rx_kv hX hE (p := C.2.2.2.1) he (by omega) hz
      exact ⟨this.1, V_e h.1 this.1 (by omega)⟩) (cn ((Bs f).2.2.1 pc) + 1 - 0) 0 M.2.2.2.2.2.2.1 (by omega) (fun z hz => absurd hz (by omega))
  rw [← hevr, hA.2.2.2] at g2
  rw [← hevr] at g1
  rcases g2 with ⟨g3, g4⟩ | ⟨q, g3, g4, g5, g6, g7, g8⟩
  · exact ⟨0, M, rfl, hA, Or.inl hfa, Lo_refl _ _, fun _ _ => rfl, g3, g4 _ (by omega) (fun R a _ _ => a _ rfl), g1, fun i hi => by rw [hnE]; exact hndl i hi⟩
  · obtain ⟨u, N, c1, c2, c3, c4, c5, c6, c7⟩ := go_call h hf of hd hA hs hk2 (Or.inl hfa) hfn (fun z hz => by rw [hnE]; exact hnd z hz) (fun i hi => by rw [hnE]; exact hndl i hi) g3 g6 g7 g8 g1
    obtain ⟨v, P, d1, d2, d3, d4, d5, d6, d7, d8, d9⟩ := go_ev2 h hf of hd hs hk2 hfn _ (q + 1) N (by omega) (Nat.le_refl _) c2 c3 c4 c5
    exact ⟨u + v, P, gs_add c1 d1, d2, d3, Lo_trans c6 d4, fun k hk => (d5 k hk).trans (c7 k hk), d6, d7, d8, d9⟩
/-- a piece of the way: to pc2, with cells r2 -/
def WY (X : Ex) (sk : Nat → Nat) (sa sb : Nat → Int32) (sz L : Nat → Nat) (d f pc2 : Nat) (r2 : Ev) (kp : Nat) (M : MS) : Prop := ∃ u N, Gs X sk sa sb sz L u M N ∧ At d f pc2 r2 N ∧ N.2.2.2.1 d = -1 ∧ Lo d M N ∧ ∀ k, k < kp → N.2.2.2.2.1 (24 * d + k) = M.2.2.2.2.1 (24 * d + k)
theorem wy_trans {d f p2 p3 kp : Nat} {r2 r3 : Ev} {M : MS} (h : WY X sk sa sb sz L d f p2 r2 kp M) (g : ∀ N, At d f p2 r2 N → N.2.2.2.1 d = -1 → (∀ k, k < kp → N.2.2.2.2.1 (24 * d + k) = M.2.2.2.2.1 (24 * d + k)) → WY X sk sa sb sz L d f p3 r3 kp N) : WY X sk sa sb sz L d f p3 r3 kp M := by
  obtain ⟨u, N, a1, a2, a3, a4, a5⟩ := h
  obtain ⟨v, P, b1, b2, b3, b4, b5⟩ := g N a2 a3 a5
  exact ⟨u + v, P, gs_add a1 b1, b2, b3, Lo_trans a4 b4, fun k hk => (b5 k hk).trans (a5 k hk)⟩
theorem wy_le {d f p2 kp kp2 : Nat} {r2 : Ev} {M : MS} (h : WY X sk sa sb sz L d f p2 r2 kp M) (hk : kp2 ≤ kp) : WY X sk sa sb sz L d f p2 r2 kp2 M := by
  obtain ⟨u, N, a1, a2, a3, a4, a5⟩ := h
  exact ⟨u, N, a1, a2, a3, a4, fun k hk2 => a5 k (by omega)⟩
theorem wy_1 {d f pc p2 kp : Nat} {r : Ev} {M : MS} (hA : At d f pc r M) (hfa : M.2.2.2.1 d = -1) (g : Gs X sk sa sb sz L 1 M (M.1, M.2.1, va_up M.2.2.1 d p2, M.2.2.2)) : WY X sk sa sb sz L d f p2 r kp M :=
  ⟨1, _, g, ⟨hA.1, hA.2.1, va_up_self _ _ _, hA.2.2.2⟩, hfa, ⟨fun _ _ => rfl, fun i hi => va_up_ne _ _ (by omega), fun _ _ => rfl, fun _ _ => rfl, fun _ _ => rfl, fun _ _ => rfl, fun _ _ => Iff.rfl⟩, fun _ _ => rfl⟩
/-- the last step of a statement with an expression -/
theorem go_set (h : MH X C Bs o ba sk sa sb sz L) {f d pc : Nat} {r : Ev} {M : MS} (hf : f < 8) (of : o f) (hd : 5 * d + C.2.2.2.1 f ≤ 40) (hs : pc < (Bs f).2.2.2.2.2.2.1) (hk2 : (Bs f).1 pc ≤ 1) (hfn : FNS X C Bs o ba sk sa sb sz L f) (hA : At d f pc r M) (hfa : M.2.2.2.1 d = -1) :
    WY X sk sa sb sz L d f (pc + 1) (dx_st (dg X ba Bs 51).1 (dg X ba Bs 51).2 (Bs f) pc r).2 12 M := by
  obtain ⟨hX, hE, hO, -⟩ := id h.1
  obtain ⟨hB, -, -⟩ := hO f hf of
  obtain ⟨-, q0, q1, -, -⟩ := hB.2.1.2.2 pc hs
  have hkK : kb (Bs f).1 (Bs f).2.2.2.2.2.2.1 pc = (Bs f).1 pc := kb_lt hs
  obtain ⟨u, N, a1, a2, a3, a4, a5, a6, a7, a8, a9⟩ := go_eval h hf of hd hs (by omega) hfn hA hfa
  have key : ∀ slot, slot < 14 → (∀ P, nxt X sk sa sb sz L N P → P = (d + 1, N.2.1, va_up N.2.2.1 d (pc + 1), upd N.2.2.2.1 d (-1), N.2.2.2.2.1, lp N.2.2.2.2.2.1 (56 * d + 4 * slot) (fun j => (evr X N.2.2.2.2.2.2.2 N.2.2.2.2.2.1 d (cn ((Bs f).2.2.1 pc)) N.2.2.2.1 N.2.2.2.2.2.2.1).2 (320 * d + 4 * cn ((Bs f).2.2.1 pc) + j)) 4, (evr X N.2.2.2.2.2.2.2 N.2.2.2.2.2.1 d (cn ((Bs f).2.2.1 pc)) N.2.2.2.1 N.2.2.2.2.2.2.1).2, ndE X N.2.2.2.2.2.2.2 N.2.2.2.1 d (cn ((Bs f).2.2.1 pc)))) → WY X sk sa sb sz L d f (pc + 1) (va_up r slot ((dg X ba Bs 51).1 (cn ((Bs f).2.2.1 pc)) r)) 12 M := fun slot hsl hP => by
    refine ⟨u + 1, _, gs_add a1 (gs_1 (sfe_in h hf of hd a2 (by omega) (fun _ => ⟨a3, fun k hk => by rw [a6] at hk; cases hk⟩) (fun z => by omega)) hP), ⟨rfl, a2.2.1, va_up_self _ _ _, ?_⟩, pk_us, Lo_trans a4 ⟨fun _ _ => rfl, fun i hi => va_up_ne _ _ (by omega), fun i hi => pk_un (by omega), fun _ _ => rfl, fun i hi => lp_o (f := N.2.2.2.2.2.1) (b := 56 * d + 4 * slot) (s := fun j => (evr X N.2.2.2.2.2.2.2 N.2.2.2.2.2.1 d (cn ((Bs f).2.2.1 pc)) N.2.2.2.1 N.2.2.2.2.2.2.1).2 (320 * d + 4 * cn ((Bs f).2.2.1 pc) + j)) (k := 4) (z := i) (by omega), a8, a9⟩, fun k hk => a5 _ (by omega)⟩
    show er (lp N.2.2.2.2.2.1 (56 * d + 4 * slot) (fun j => (evr X N.2.2.2.2.2.2.2 N.2.2.2.2.2.1 d (cn ((Bs f).2.2.1 pc)) N.2.2.2.1 N.2.2.2.2.2.2.1).2 (320 * d + 4 * cn ((Bs f).2.2.1 pc) + j)) 4) d = _
    rw [er_lp hsl, a2.2.2.2, rd_jt, a7]
  unfold dx_st
  by_cases k0 : (Bs f).1 pc = 0
  · rw [if_pos k0]
    obtain ⟨v, hv, hev⟩ := q0 k0
    have hcv : cn ((Bs f).2.1 pc) = v := by rw [hev, cn_nI (by omega)]
    rw [hcv]
    refine key v (by omega) (fun P hP => ?_)
    obtain ⟨a, b, hab, hq⟩ := step_eq h hf of a2 (by omega) hP
    obtain ⟨ha, hb⟩ := hab hs
    rw [ha, hb, hcv] at hq
    exact ((hq.1 (by omega)).2 a6).1 (by omega)
  · have k1 : (Bs f).1 pc = 1 := by omega
    rw [if_neg k0, if_pos k1]
    obtain ⟨v, hv, hev⟩ := q1 k1
    have hcv : cn ((Bs f).2.1 pc) = v := by rw [hev, cn_nI (by omega)]
    rw [hcv]
    have h5 : (r 5).1 = N.2.2.2.2.2.1 (56 * d + 4 * 5) := by rw [← a2.2.2.2]; unfold er; rw [if_pos (by omega)]; rfl
    have hpl := pl_lt (r 5).1
    refine key (6 + v * 4 + pl (r 5).1) (by omega) (fun P hP => ?_)
    obtain ⟨a, b, hab, hq⟩ := step_eq h hf of a2 (by omega) hP
    obtain ⟨ha, hb⟩ := hab hs
    rw [ha, hb, hcv] at hq
    have := ((hq.1 (by omega)).2 a6).2.1 (by omega)
    rw [← h5, show 6 + 4 * v + pl (r 5).1 = 6 + v * 4 + pl (r 5).1 by omega] at this
    exact this
theorem go_cond (h : MH X C Bs o ba sk sa sb sz L) {f d pc : Nat} {r : Ev} {M : MS} (hf : f < 8) (of : o f) (hd : 5 * d + C.2.2.2.1 f ≤ 40) (hs : pc < (Bs f).2.2.2.2.2.2.1) (hk2 : (Bs f).1 pc = 2) (hfn : FNS X C Bs o ba sk sa sb sz L f) (hA : At d f pc r M) (hfa : M.2.2.2.1 d = -1) :
    WY X sk sa sb sz L d f (if ((dg X ba Bs 51).1 (cn ((Bs f).2.2.1 pc)) r).1 ≤ 0 then cls (kb (Bs f).1 (Bs f).2.2.2.2.2.2.1) True ((Bs f).2.2.2.2.2.2.1 + 12 - (pc + 1)) (pc + 1) 0 + 1 else pc + 1) r 12 M := by
  have hkK : kb (Bs f).1 (Bs f).2.2.2.2.2.2.1 pc = (Bs f).1 pc := kb_lt hs
  obtain ⟨hB, -, -⟩ := h.1.2.2.1 f hf of
  have h12 := hB.1.1
  obtain ⟨u, N, a1, a2, a3, a4, a5, a6, a7, a8, a9⟩ := go_eval h hf of hd hs (by omega) hfn hA hfa
  have hv : (evr X N.2.2.2.2.2.2.2 N.2.2.2.2.2.1 d (cn ((Bs f).2.2.1 pc)) N.2.2.2.1 N.2.2.2.2.2.2.1).2 (320 * d + 4 * cn ((Bs f).2.2.1 pc)) = ((dg X ba Bs 51).1 (cn ((Bs f).2.2.1 pc)) r).1 := by rw [← a7]; rfl
  have s1 : Gs X sk sa sb sz L 1 N (d + 1, N.2.1, va_up N.2.2.1 d (if ((dg X ba Bs 51).1 (cn ((Bs f).2.2.1 pc)) r).1 ≤ 0 then cls (kb (Bs f).1 (Bs f).2.2.2.2.2.2.1) True ((Bs f).2.2.2.2.2.2.1 + 12 - (pc + 1)) (pc + 1) 0 + 1 else pc + 1), upd N.2.2.2.1 d (-1), N.2.2.2.2.1, N.2.2.2.2.2.1, (evr X N.2.2.2.2.2.2.2 N.2.2.2.2.2.1 d (cn ((Bs f).2.2.1 pc)) N.2.2.2.1 N.2.2.2.2.2.2.1).2, ndE X N.2.2.2.2.2.2.2 N.2.2.2.1 d (cn ((Bs f).2.2.1 pc))) := by
    refine gs_1 (sfe_in h hf of hd a2 (by omega) (fun _ => ⟨a3, fun k hk => by rw [a6] at hk; cases hk⟩) (fun z => by omega)) (fun P hP => ?_)
    obtain ⟨a, b, hab, hq⟩ := step_eq h hf of a2 (by omega) hP
    obtain ⟨ha, hb⟩ := hab hs
    rw [hb] at hq
    have := ((hq.1 (by omega)).2 a6).2.2 (by omega)
    rw [hv, ms_cl] at this
    exact this
  exact ⟨u + 1, _, gs_add a1 s1, ⟨rfl, a2.2.1, va_up_self _ _ _, a2.2.2.2⟩, pk_us, Lo_trans a4 ⟨fun _ _ => rfl, fun i hi => va_up_ne _ _ (by omega), fun i hi => pk_un (by omega), fun _ _ => rfl, fun _ _ => rfl, a8, a9⟩, fun k hk => a5 _ (by omega)⟩
/-- blocks of the pure runs -/
theorem dbl_skip {rs : Bd → Nat → Ev → Nat × Ev} {B : Bd} : ∀ m a x r, a ≤ x → dx_bl rs B m a x r = dx_bl rs B (a + m - x) x x r
  | 0, a, x, r, h => by rw [show a + 0 - x = 0 by omega]; rfl
  | m + 1, a, x, r, h => by
    by_cases e : a = x
    · subst e; rw [show a + (m + 1) - a = m + 1 by omega]
    · rw [dx_bl, if_neg e, dbl_skip m (a + 1) x r (by omega), show a + 1 + m - x = a + (m + 1) - x by omega]
theorem rep_c {F : Ev → Ev} : ∀ n r, dx_rep F n (F r) = dx_rep F (n + 1) r
  | 0, r => rfl
  | n + 1, r => by rw [dx_rep, rep_c n r]; rfl
theorem Vb_0 (hC : CI X C Bs o) {f i j : Nat} {r : Ev} (hf : f < 8) (of : o f) (hj : j ≤ (Bs f).2.2.2.2.2.2.1) (h : j ≤ i) : (dg X ba Bs 51).2 (Bs f) i j r = r := by
  rw [V_b hC hf of hj, show j - i = 0 by omega]; rfl
/-- from x on -/
theorem Vb_n (hC : CI X C Bs o) {f x j y : Nat} {r : Ev} (hf : f < 8) (of : o f) (hj : j ≤ (Bs f).2.2.2.2.2.2.1) (hx : x < j) (hy : x + 1 ≤ y) (hn : (dx_st (dg X ba Bs 51).1 (dg X ba Bs 51).2 (Bs f) x r).1 = min y ((Bs f).2.2.2.2.2.2.1 + 1)) :
    (dg X ba Bs 51).2 (Bs f) x j r = (dg X ba Bs 51).2 (Bs f) y j (dx_st (dg X ba Bs 51).1 (dg X ba Bs 51).2 (Bs f) x r).2 := by
  rw [V_b hC hf of hj, show j - x = (j - (x + 1)) + 1 by omega, dx_bl, if_pos rfl, hn, dbl_skip _ _ _ _ (by omega), V_b hC hf of hj]
  by_cases e : y ≤ (Bs f).2.2.2.2.2.2.1 + 1
  · rw [Nat.min_eq_left e, show x + 1 + (j - (x + 1)) - y = j - y by omega]
  · rw [Nat.min_eq_right (by omega), show x + 1 + (j - (x + 1)) - ((Bs f).2.2.2.2.2.2.1 + 1) = 0 by omega, show j - y = 0 by omega]; rfl
/-- the rounds of a REPEAT -/
theorem go_rounds (h : MH X C Bs o ba sk sa sb sz L) {f d x c : Nat} {P : List (Nat × Nat)} (hf : f < 8) (of : o f) (hd : 5 * d + C.2.2.2.1 f ≤ 40) (hc : c < (Bs f).2.2.2.2.2.2.1 + (Bs f).2.2.2.2.2.2.2) (hk : kb (Bs f).1 (Bs f).2.2.2.2.2.2.1 c = 5) (hps : ps (kb (Bs f).1 (Bs f).2.2.2.2.2.2.1) c = (x, x) :: P) (h4 : kb (Bs f).1 (Bs f).2.2.2.2.2.2.1 x = 4)
    {F : Ev → Ev} (hF : ∀ r, RB X C sk sa sb sz L f (x + 1) c r (F r)) : ∀ i r M, i + 1 ≤ 5 → At d f (x + 1) r M → M.2.2.2.1 d = -1 → M.2.2.2.2.1 (24 * d + x) = i + 1 → WY X sk sa sb sz L d f (c + 1) (dx_rep F (i + 1) r) x M
  | i, r, M, hi, hA, hfa, hl => by
    obtain ⟨u, N, a1, a2, a3, a4, a5⟩ := hF r d M hd hA hfa
    have hlN : N.2.2.2.2.1 (24 * d + x) = i + 1 := by rw [a5 x (by omega), hl]
    have s := go_endr h hf of hd a2 hc hk hps h4 (by rw [hlN]; omega)
    rw [hlN, Nat.add_sub_cancel] at s
    have hlo : Lo d N (N.1, N.2.1, va_up N.2.2.1 d (if 0 < i then x + 1 else c + 1), N.2.2.2.1, va_up N.2.2.2.2.1 (24 * d + x) i, N.2.2.2.2.2) := ⟨fun _ _ => rfl, fun i hi => va_up_ne _ _ (by omega), fun _ _ => rfl, fun i hi => va_up_ne _ _ (by omega), fun _ _ => rfl, fun _ _ => rfl, fun _ _ => Iff.rfl⟩
    cases i with
    | zero =>
      rw [if_neg (by omega)] at s hlo
      refine ⟨u + 1, _, gs_add a1 s, ⟨a2.1, a2.2.1, va_up_self _ _ _, a2.2.2.2⟩, a3, Lo_trans a4 hlo, fun k hk => ?_⟩
      show va_up N.2.2.2.2.1 (24 * d + x) 0 (24 * d + k) = _
      rw [va_up_ne _ _ (by omega)]; exact a5 k (by omega)
    | succ i =>
      rw [if_pos (by omega)] at s hlo
      obtain ⟨v, Q, b1, b2, b3, b4, b5⟩ := go_rounds h hf of hd hc hk hps h4 hF i (F r) _ (by omega) (⟨a2.1, a2.2.1, va_up_self _ _ _, a2.2.2.2⟩ : At d f (x + 1) (F r) (N.1, N.2.1, va_up N.2.2.1 d (x + 1), N.2.2.2.1, va_up N.2.2.2.2.1 (24 * d + x) (i + 1), N.2.2.2.2.2)) a3 (va_up_self _ _ _)
      rw [rep_c] at b2
      refine ⟨u + 1 + v, Q, gs_add (gs_add a1 s) b1, b2, b3, Lo_trans (Lo_trans a4 hlo) b4, fun k hk => (b5 k hk).trans ?_⟩
      show va_up N.2.2.2.2.1 (24 * d + x) (i + 1) (24 * d + k) = _
      rw [va_up_ne _ _ (by omega)]; exact a5 k (by omega)
theorem wy_rb {d f a b kp : Nat} {r r2 : Ev} {M : MS} (h : RB X C sk sa sb sz L f a b r r2) (hd : 5 * d + C.2.2.2.1 f ≤ 40) (hA : At d f a r M) (hfa : M.2.2.2.1 d = -1) (hk : kp ≤ a) : WY X sk sa sb sz L d f b r2 kp M := by
  obtain ⟨u, N, a1, a2, a3, a4, a5⟩ := h d M hd hA hfa
  exact ⟨u, N, a1, a2, a3, a4, fun k hk2 => a5 k (by omega)⟩
/-- a block, from x on -/
theorem go_blk (h : MH X C Bs o ba sk sa sb sz L) {f : Nat} (hf : f < 8) (of : o f) (hfn : FNS X C Bs o ba sk sa sb sz L f) : ∀ n x b r, b - x ≤ n → blk (Bs f) x b → b ≤ (Bs f).2.2.2.2.2.2.1 + (Bs f).2.2.2.2.2.2.2 → RB X C sk sa sb sz L f x b r ((dg X ba Bs 51).2 (Bs f) x (min b (Bs f).2.2.2.2.2.2.1) r)
  | n, x, b, r, hn, hb, hbt => by
    intro d M hd hA hfa
    obtain ⟨hB, -, -⟩ := h.1.2.2.1 f hf of
    have h12 := hB.1.1
    have hle := blk_le hb
    by_cases exb : x = b
    · subst exb
      rw [Vb_0 h.1 hf of (by omega) (by omega)]
      exact ⟨0, M, rfl, hA, hfa, Lo_refl _ _, fun _ _ => rfl⟩
    have hxs : x < (Bs f).2.2.2.2.2.2.1 := Classical.byContradiction fun z => exb (blk_end hb (Or.inl (kb_ge (by omega))))
    have hkK : kb (Bs f).1 (Bs f).2.2.2.2.2.2.1 x = (Bs f).1 x := kb_lt hxs
    have hk5 := hB.1.2.1 x
    have hn35 : ¬ ((Bs f).1 x = 5 ∨ (Bs f).1 x = 3) := fun z => exb (blk_end hb (by omega))
    cases n with
    | zero => omega
    | succ n =>
    have ih := go_blk h hf of hfn n
    show WY X sk sa sb sz L d f b _ x M
    by_cases k1 : (Bs f).1 x ≤ 1
    · have hnx : (dx_st (dg X ba Bs 51).1 (dg X ba Bs 51).2 (Bs f) x r).1 = min (x + 1) ((Bs f).2.2.2.2.2.2.1 + 1) := by
        rw [Nat.min_eq_left (by omega)]
        unfold dx_st
        by_cases k0 : (Bs f).1 x = 0
        · rw [if_pos k0]
        · rw [if_neg k0, if_pos (by omega)]
      rw [Vb_n h.1 hf of (by omega) (by omega) (Nat.le_refl _) hnx]
      refine wy_trans (wy_le (go_set h hf of hd hxs k1 hfn hA hfa) (by omega)) (fun N a1 a2 a3 => wy_rb (ih (x + 1) b _ (by omega) (blk_1 hb (by omega)).1 hbt) hd a1 a2 (by omega))
    obtain ⟨c, g1, g2, g3, g4, g5, g6⟩ := blk_op hB.1 hb hxs (by omega)
    by_cases k2 : (Bs f).1 x = 2
    · have hst : dx_st (dg X ba Bs 51).1 (dg X ba Bs 51).2 (Bs f) x r = (bd_end (Bs f) x + 1, dx_if (dg X ba Bs 51).1 (dg X ba Bs 51).2 (Bs f) x r) := by
        unfold dx_st; rw [if_neg (by omega), if_neg (by omega), if_pos k2]
      rcases g6 with ⟨q1, q2, q3, q4, q5⟩ | ⟨q1, q2, q3, q4, e, r1, r2, r3, r4, r5, r6, r7, r8, r9⟩
      · have hcb := blk_le q2
        have hnx : (dx_st (dg X ba Bs 51).1 (dg X ba Bs 51).2 (Bs f) x r).1 = min (c + 1) ((Bs f).2.2.2.2.2.2.1 + 1) := by
          rw [hst]; show bd_end (Bs f) x + 1 = _; rw [q4]; omega
        rw [Vb_n h.1 hf of (by omega) (by omega) (by omega) hnx, hst]
        have fin : ∀ N r', At d f (c + 1) r' N → N.2.2.2.1 d = -1 → WY X sk sa sb sz L d f b ((dg X ba Bs 51).2 (Bs f) (c + 1) (min b (Bs f).2.2.2.2.2.2.1) r') x N := fun N r' a1 a2 => wy_rb (ih (c + 1) b r' (by omega) q2 hbt) hd a1 a2 (by omega)
        have hcond := go_cond h hf of hd hxs k2 hfn hA hfa
        rw [q5] at hcond
        unfold dx_if
        by_cases z : ((dg X ba Bs 51).1 (cn ((Bs f).2.2.1 x)) r).1 ≤ 0
        · rw [if_pos z] at hcond
          rw [if_neg (Int64.not_lt.mpr z)]
          rw [show (dg X ba Bs 51).2 (Bs f) (bd_close (Bs f) x + 1) (bd_end (Bs f) x) r = r from Vb_0 h.1 hf of (bd_end_le _ _) (by rw [q4, g3]; omega)]
          exact wy_trans (wy_le hcond (by omega)) (fun N a1 a2 _ => fin N r a1 a2)
        · rw [if_neg z] at hcond
          rw [if_pos (Int64.not_le.mp z), g3]
          refine wy_trans (wy_le hcond (by omega)) (fun N a1 a2 _ => wy_trans (wy_rb (ih (x + 1) c r (by omega) g1 (by omega)) hd a1 a2 (by omega)) (fun P b1 b2 _ => wy_trans (wy_1 b1 b2 (go_end h hf of hd b1 (by omega) q1 g5 (by omega))) (fun Q c1 c2 _ => fin Q _ c1 c2)))
      · have heb := blk_le r7
        have hce := blk_le r1
        have hnx : (dx_st (dg X ba Bs 51).1 (dg X ba Bs 51).2 (Bs f) x r).1 = min (e + 1) ((Bs f).2.2.2.2.2.2.1 + 1) := by
          rw [hst]; show bd_end (Bs f) x + 1 = _; rw [r4]; omega
        rw [Vb_n h.1 hf of (by omega) (by omega) (by omega) hnx, hst]
        have fin : ∀ N r', At d f e r' N → N.2.2.2.1 d = -1 → WY X sk sa sb sz L d f b ((dg X ba Bs 51).2 (Bs f) (e + 1) (min b (Bs f).2.2.2.2.2.2.1) r') x N := fun N r' a1 a2 =>
          wy_trans (wy_1 a1 a2 (go_end h hf of hd a1 (by omega) r3 r6 (by omega))) (fun P b1 b2 _ => wy_rb (ih (e + 1) b r' (by omega) r7 hbt) hd b1 b2 (by omega))
        have hcond := go_cond h hf of hd hxs k2 hfn hA hfa
        rw [q4] at hcond
        unfold dx_if
        by_cases z : ((dg X ba Bs 51).1 (cn ((Bs f).2.2.1 x)) r).1 ≤ 0
        · rw [if_pos z] at hcond
          rw [if_neg (Int64.not_lt.mpr z), show bd_close (Bs f) x = c by rw [g3]; omega, r4]
          exact wy_trans (wy_le hcond (by omega)) (fun N a1 a2 _ => wy_trans (wy_rb (ih (c + 1) e r (by omega) r1 (by omega)) hd a1 a2 (by omega)) (fun P b1 b2 _ => fin P _ b1 b2))
        · rw [if_neg z] at hcond
          rw [if_pos (Int64.not_le.mp z), g3]
          refine wy_trans (wy_le hcond (by omega)) (fun N a1 a2 _ => wy_trans (wy_rb (ih (x + 1) c r (by omega) g1 (by omega)) hd a1 a2 (by omega)) (fun P b1 b2 _ => ?_))
          have hs := go_else h hf of hd b1 (by omega) q1 g5
          rw [r9 (0 = 1) (by omega)] at hs
          exact wy_trans (wy_1 b1 b2 hs) (fun Q c1 c2 _ => fin Q _ c1 c2)
    · have k4 : (Bs f).1 x = 4 := by omega
      rcases g6 with ⟨q1, q2, q3, q4, q5⟩ | ⟨q1, q2, q3⟩
      · have hcb := blk_le q2
        have hst : dx_st (dg X ba Bs 51).1 (dg X ba Bs 51).2 (Bs f) x r = (bd_close (Bs f) x + 1, dx_rep ((dg X ba Bs 51).2 (Bs f) (x + 1) (bd_close (Bs f) x)) (cn ((Bs f).2.2.1 x)) r) := by
          unfold dx_st; rw [if_neg (by omega), if_neg (by omega), if_neg (by omega), if_pos k4]
        have hnx : (dx_st (dg X ba Bs 51).1 (dg X ba Bs 51).2 (Bs f) x r).1 = min (c + 1) ((Bs f).2.2.2.2.2.2.1 + 1) := by
          rw [hst]; show bd_close (Bs f) x + 1 = _; rw [g3]; omega
        rw [Vb_n h.1 hf of (by omega) (by omega) (by omega) hnx, hst, g3]
        obtain ⟨h51, h55⟩ := hB.2.2 x hxs k4
        have s := go_rep h hf of hd hA hxs (by omega)
        obtain ⟨i, hi⟩ : ∃ i, cn ((Bs f).2.2.1 x) = i + 1 := ⟨cn ((Bs f).2.2.1 x) - 1, by omega⟩
        rw [hi] at s h55 ⊢
        obtain ⟨v, Q, b1, b2, b3, b4, b5⟩ := go_rounds h hf of hd (x := x) (c := c) (by omega) q1 g5 (by omega) (fun r => ih (x + 1) c r (by omega) g1 (by omega)) i r _ h55 (⟨hA.1, hA.2.1, va_up_self _ _ _, hA.2.2.2⟩ : At d f (x + 1) r (M.1, M.2.1, va_up M.2.2.1 d (x + 1), M.2.2.2.1, va_up M.2.2.2.2.1 (24 * d + x) (i + 1), M.2.2.2.2.2)) hfa (va_up_self _ _ _)
        have w1 : WY X sk sa sb sz L d f (c + 1) (dx_rep ((dg X ba Bs 51).2 (Bs f) (x + 1) (min c (Bs f).2.2.2.2.2.2.1)) (i + 1) r) x M := by
          refine ⟨1 + v, Q, gs_add s b1, b2, b3, Lo_trans (N := (M.1, M.2.1, va_up M.2.2.1 d (x + 1), M.2.2.2.1, va_up M.2.2.2.2.1 (24 * d + x) (i + 1), M.2.2.2.2.2)) ⟨fun _ _ => rfl, fun i hi => va_up_ne _ _ (by omega), fun _ _ => rfl, fun i hi => va_up_ne _ _ (by omega), fun _ _ => rfl, fun _ _ => rfl, fun _ _ => Iff.rfl⟩ b4, fun k hk => (b5 k hk).trans ?_⟩
          show va_up M.2.2.2.2.1 (24 * d + x) (i + 1) (24 * d + k) = _
          rw [va_up_ne _ _ (by omega)]
        exact wy_trans w1 (fun N a1 a2 _ => wy_rb (ih (c + 1) b _ (by omega) q2 hbt) hd a1 a2 (by omega))
      · omega
/-- a function, at any cost -/
theorem go_fn (h : MH X C Bs o ba sk sa sb sz L) : ∀ n f, f < 8 → o f → C.2.2.2.1 f ≤ n → ∀ r, RB X C sk sa sb sz L f 0 ((Bs f).2.2.2.2.2.2.1 + (Bs f).2.2.2.2.2.2.2) r ((dg X ba Bs 51).2 (Bs f) 0 (Bs f).2.2.2.2.2.2.1 r)
  | n, f, hf, of, hn, r => by
    obtain ⟨hB, -, -⟩ := h.1.2.2.1 f hf of
    have hfn : FNS X C Bs o ba sk sa sb sz L f := fun g hg og hT r => by
      cases n with
      | zero => omega
      | succ n => exact go_fn h n g hg og (by omega) r
    have := go_blk h hf of hfn _ 0 _ r (Nat.le_refl _) (blk_top hB.1) (Nat.le_refl _)
    rw [Nat.min_eq_right (by omega)] at this
    exact this
end MCH2
