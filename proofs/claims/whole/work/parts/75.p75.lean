/-- all below frame d is as it was -/
def Lo (d : Nat) (M N : MS) : Prop := (∀ i, i ≤ d → N.2.1 i = M.2.1 i) ∧ (∀ i, i < d → N.2.2.1 i = M.2.2.1 i) ∧ (∀ i, i < d → N.2.2.2.1 i = M.2.2.2.1 i) ∧ (∀ i, i < 24 * d → N.2.2.2.2.1 i = M.2.2.2.2.1 i) ∧ (∀ i, i < 56 * d → N.2.2.2.2.2.1 i = M.2.2.2.2.2.1 i) ∧ (∀ i, i < 320 * d → N.2.2.2.2.2.2.1 i = M.2.2.2.2.2.2.1 i) ∧ (∀ i, i < 80 * d → (N.2.2.2.2.2.2.2 i ↔ M.2.2.2.2.2.2.2 i))
theorem Lo_refl (d : Nat) (M : MS) : Lo d M M := ⟨fun _ _ => rfl, fun _ _ => rfl, fun _ _ => rfl, fun _ _ => rfl, fun _ _ => rfl, fun _ _ => rfl, fun _ _ => Iff.rfl⟩
theorem Lo_trans {d : Nat} {M N P : MS} (h : Lo d M N) (g : Lo d N P) : Lo d M P :=
  ⟨fun i hi => (g.1 i hi).trans (h.1 i hi), fun i hi => (g.2.1 i hi).trans (h.2.1 i hi), fun i hi => (g.2.2.1 i hi).trans (h.2.2.1 i hi), fun i hi => (g.2.2.2.1 i hi).trans (h.2.2.2.1 i hi), fun i hi => (g.2.2.2.2.1 i hi).trans (h.2.2.2.2.1 i hi), fun i hi => (g.2.2.2.2.2.1 i hi).trans (h.2.2.2.2.2.1 i hi), fun i hi => (g.2.2.2.2.2.2 i hi).trans (h.2.2.2.2.2.2 i hi)⟩
/-- in frame d: function f stands at pc, its cells are r -/
def At (d f pc : Nat) (r : Ev) (M : MS) : Prop := M.1 = d + 1 ∧ M.2.1 d = f ∧ M.2.2.1 d = pc ∧ er M.2.2.2.2.2.1 d = r
section MCH
variable {X : Ex} {C : Cs} {Bs : Nat → Bd} {o : Nat → Prop} {ba : Nat → Option Nat} {sk sz L : Nat → Nat} {sa sb : Nat → Int32}
theorem gs_add {u v : Nat} {M N P : MS} (h : Gs X sk sa sb sz L u M N) (g : Gs X sk sa sb sz L v N P) : Gs X sk sa sb sz L (u + v) M P := by
  induction u generalizing M with
  | zero => rw [Nat.zero_add, show M = N from h]; exact g
  | succ u ih => rw [Nat.succ_add]; exact ⟨h.1, fun M2 h2 => ih (h.2 M2 h2)⟩
theorem gs_1 {M N : MS} (h : sfe X sk sb sz L M) (g : ∀ N2, nxt X sk sa sb sz L M N2 → N2 = N) : Gs X sk sa sb sz L 1 M N := ⟨h, g⟩
/-- what is given -/
def MH (X : Ex) (C : Cs) (Bs : Nat → Bd) (o : Nat → Prop) (ba : Nat → Option Nat) (sk : Nat → Nat) (sa sb : Nat → Int32) (sz L : Nat → Nat) : Prop := CI X C Bs o ∧ (∀ f, f < 8 → (ba f = none ↔ ¬ o f)) ∧ rfB 8 Bs o sk sa sb sz ∧ (∀ f, f < 8 → o f → L f = (Bs f).2.2.2.2.2.2.2)
theorem kat_B (h : MH X C Bs o ba sk sa sb sz L) {f : Nat} (hf : f < 8) (of : o f) : kat sk sz f = kb (Bs f).1 (Bs f).2.2.2.2.2.2.1 := by
  obtain ⟨h1, h2⟩ := h.2.2.1.1 f hf of
  funext j
  unfold kat kb
  rw [← h1]
  by_cases e : j < sz f
  · rw [if_pos e, if_pos e]; exact (h2 j e).1
  · rw [if_neg e, if_neg e]
/-- a step inside a function -/
theorem step_eq (h : MH X C Bs o ba sk sa sb sz L) {f d pc : Nat} {r : Ev} {M N : MS} (hf : f < 8) (of : o f) (hA : At d f pc r M) (hpc : pc < (Bs f).2.2.2.2.2.2.1 + (Bs f).2.2.2.2.2.2.2) (hn : nxt X sk sa sb sz L M N) :
    ∃ a b, (pc < (Bs f).2.2.2.2.2.2.1 → a = cn ((Bs f).2.1 pc) ∧ b = cn ((Bs f).2.2.1 pc)) ∧ stq X d M.2.1 M.2.2.1 M.2.2.2.1 M.2.2.2.2.1 M.2.2.2.2.2.1 M.2.2.2.2.2.2.1 M.2.2.2.2.2.2.2 (kb (Bs f).1 (Bs f).2.2.2.2.2.2.1) (Bs f).2.2.2.2.2.2.1 pc a b N := by
  obtain ⟨a1, a2, a3, a4⟩ := hA
  obtain ⟨h1, h2⟩ := h.2.2.1.1 f hf of
  have hs := (hn d a1).1
  rw [a2, a3, h1, h.2.2.2 f hf of] at hs
  have hq := hs hpc
  unfold stp at hq
  rw [a2, a3, kat_B h hf of, h1] at hq
  exact ⟨_, _, fun z => by rw [(h2 pc (by omega)).2.1, (h2 pc (by omega)).2.2]; exact ⟨rfl, rfl⟩, hq⟩
/-- and when it is safe -/
theorem sfe_in (h : MH X C Bs o ba sk sa sb sz L) {f d pc : Nat} {r : Ev} {M : MS} (hf : f < 8) (of : o f) (hd : 5 * d + C.2.2.2.1 f ≤ 40) (hA : At d f pc r M) (hpc : pc < (Bs f).2.2.2.2.2.2.1 + (Bs f).2.2.2.2.2.2.2)
    (g1 : kb (Bs f).1 (Bs f).2.2.2.2.2.2.1 pc ≤ 2 → (M.2.2.2.1 d = -1 ∨ ∃ k0, k0 ≤ 80 ∧ M.2.2.2.1 d = nI k0) ∧ ∀ k, (evr X M.2.2.2.2.2.2.2 M.2.2.2.2.2.1 d (cn ((Bs f).2.2.1 pc)) M.2.2.2.1 M.2.2.2.2.2.2.1).1 = some k → d + 1 < 8)
    (g2 : (kb (Bs f).1 (Bs f).2.2.2.2.2.2.1 pc = 3 ∨ kb (Bs f).1 (Bs f).2.2.2.2.2.2.1 pc = 5) → ∃ x, wi (kb (Bs f).1 (Bs f).2.2.2.2.2.2.1) pc 0 = some x ∧ (kb (Bs f).1 (Bs f).2.2.2.2.2.2.1 pc = 5 → kb (Bs f).1 (Bs f).2.2.2.2.2.2.1 x = 4 → 1 ≤ M.2.2.2.2.1 (24 * d + x) ∧ M.2.2.2.2.1 (24 * d + x) ≤ 5)) : sfe X sk sb sz L M := by
  obtain ⟨a1, a2, a3, a4⟩ := hA
  obtain ⟨h1, h2⟩ := h.2.2.1.1 f hf of
  obtain ⟨hB, e0, -⟩ := h.1.2.2.1 f hf of
  have hT : 1 ≤ C.2.2.2.1 f := by rw [e0]; exact Nat.le_add_right _ _
  have h12 := hB.1.1
  have hD := (bdI_inv hB.1).2.1
  refine ⟨d, a1, by omega, by rw [a2]; exact hf, by rw [a3]; omega, fun _ => ?_, fun z => absurd (by rw [a2, a3, h1, h.2.2.2 f hf of]; exact hpc) z⟩
  unfold sfs
  rw [a2, a3, kat_B h hf of]
  refine ⟨fun z => (g1 z).1, fun z k hk => ?_, fun z => ?_, fun z x hx h4 => ?_⟩
  · have hlt : pc < (Bs f).2.2.2.2.2.2.1 := Classical.byContradiction fun y => by rw [kb_ge (by omega)] at z; omega
    rw [(h2 pc (by omega)).2.2] at hk
    exact (g1 z).2 k hk
  · obtain ⟨x, hx, -⟩ := g2 z; exact ⟨x, hx⟩
  · obtain ⟨y, hy, hy2⟩ := g2 (Or.inr z)
    rw [hx] at hy
    cases hy
    exact hy2 z h4
theorem wi_top {B : Bd} (hB : bdI B) {k t x : Nat} {P : List (Nat × Nat)} (h : ps (kb B.1 B.2.2.2.2.2.2.1) k = (t, x) :: P) : wi (kb B.1 B.2.2.2.2.2.2.1) k 0 = some x := by
  rw [wi_ps (kb_le hB.2.1), h]; rfl
/-- ELSE -/
theorem go_else (h : MH X C Bs o ba sk sa sb sz L) {f d pc x t : Nat} {r : Ev} {M : MS} {P : List (Nat × Nat)} (hf : f < 8) (of : o f) (hd : 5 * d + C.2.2.2.1 f ≤ 40) (hA : At d f pc r M) (hpc : pc < (Bs f).2.2.2.2.2.2.1 + (Bs f).2.2.2.2.2.2.2)
    (hk : kb (Bs f).1 (Bs f).2.2.2.2.2.2.1 pc = 3) (hps : ps (kb (Bs f).1 (Bs f).2.2.2.2.2.2.1) pc = (t, x) :: P) :
    Gs X sk sa sb sz L 1 M (M.1, M.2.1, va_up M.2.2.1 d (cls (kb (Bs f).1 (Bs f).2.2.2.2.2.2.1) (0 = 1) ((Bs f).2.2.2.2.2.2.1 + 12 - (x + 1)) (x + 1) 0), M.2.2.2) := by
  have hw := wi_top (h.1.2.2.1 f hf of).1.1 hps
  refine gs_1 (sfe_in h hf of hd hA hpc (fun z => by omega) (fun _ => ⟨x, hw, fun z => by omega⟩)) (fun N hn => ?_)
  obtain ⟨a, b, -, hq⟩ := step_eq h hf of hA hpc hn
  have := hq.2.1 hk x hw
  rw [this, hA.1]
/-- END of an IF -/
theorem go_end (h : MH X C Bs o ba sk sa sb sz L) {f d pc x t : Nat} {r : Ev} {M : MS} {P : List (Nat × Nat)} (hf : f < 8) (of : o f) (hd : 5 * d + C.2.2.2.1 f ≤ 40) (hA : At d f pc r M) (hpc : pc < (Bs f).2.2.2.2.2.2.1 + (Bs f).2.2.2.2.2.2.2)
    (hk : kb (Bs f).1 (Bs f).2.2.2.2.2.2.1 pc = 5) (hps : ps (kb (Bs f).1 (Bs f).2.2.2.2.2.2.1) pc = (t, x) :: P) (h4 : ¬ kb (Bs f).1 (Bs f).2.2.2.2.2.2.1 x = 4) :
    Gs X sk sa sb sz L 1 M (M.1, M.2.1, va_up M.2.2.1 d (pc + 1), M.2.2.2) := by
  have hw := wi_top (h.1.2.2.1 f hf of).1.1 hps
  refine gs_1 (sfe_in h hf of hd hA hpc (fun z => by omega) (fun _ => ⟨x, hw, fun _ z => absurd z h4⟩)) (fun N hn => ?_)
  obtain ⟨a, b, -, hq⟩ := step_eq h hf of hA hpc hn
  have := (hq.2.2.2 hk x hw).1 h4
  rw [this, hA.1]
/-- END of a REPEAT -/
theorem go_endr (h : MH X C Bs o ba sk sa sb sz L) {f d pc x t : Nat} {r : Ev} {M : MS} {P : List (Nat × Nat)} (hf : f < 8) (of : o f) (hd : 5 * d + C.2.2.2.1 f ≤ 40) (hA : At d f pc r M) (hpc : pc < (Bs f).2.2.2.2.2.2.1 + (Bs f).2.2.2.2.2.2.2)
    (hk : kb (Bs f).1 (Bs f).2.2.2.2.2.2.1 pc = 5) (hps : ps (kb (Bs f).1 (Bs f).2.2.2.2.2.2.1) pc = (t, x) :: P) (h4 : kb (Bs f).1 (Bs f).2.2.2.2.2.2.1 x = 4) (hl : 1 ≤ M.2.2.2.2.1 (24 * d + x) ∧ M.2.2.2.2.1 (24 * d + x) ≤ 5) :
    Gs X sk sa sb sz L 1 M (M.1, M.2.1, va_up M.2.2.1 d (if 0 < M.2.2.2.2.1 (24 * d + x) - 1 then x + 1 else pc + 1), M.2.2.2.1, va_up M.2.2.2.2.1 (24 * d + x) (M.2.2.2.2.1 (24 * d + x) - 1), M.2.2.2.2.2) := by
  have hw := wi_top (h.1.2.2.1 f hf of).1.1 hps
  refine gs_1 (sfe_in h hf of hd hA hpc (fun z => by omega) (fun _ => ⟨x, hw, fun _ _ => hl⟩)) (fun N hn => ?_)
  obtain ⟨a, b, -, hq⟩ := step_eq h hf of hA hpc hn
  have := (hq.2.2.2 hk x hw).2 h4
  rw [this, hA.1]
/-- REPEAT -/
theorem go_rep (h : MH X C Bs o ba sk sa sb sz L) {f d pc : Nat} {r : Ev} {M : MS} (hf : f < 8) (of : o f) (hd : 5 * d + C.2.2.2.1 f ≤ 40) (hA : At d f pc r M) (hs : pc < (Bs f).2.2.2.2.2.2.1)
    (hk : kb (Bs f).1 (Bs f).2.2.2.2.2.2.1 pc = 4) :
    Gs X sk sa sb sz L 1 M (M.1, M.2.1, va_up M.2.2.1 d (pc + 1), M.2.2.2.1, va_up M.2.2.2.2.1 (24 * d + pc) (cn ((Bs f).2.2.1 pc)), M.2.2.2.2.2) := by
  refine gs_1 (sfe_in h hf of hd hA (by omega) (fun z => by omega) (fun z => by omega)) (fun N hn => ?_)
  obtain ⟨a, b, hab, hq⟩ := step_eq h hf of hA (by omega) hn
  have := hq.2.2.1 hk
  rw [this, hA.1, (hab hs).2]
/-- a call: in, through, and out again -/
def RB (X : Ex) (C : Cs) (sk : Nat → Nat) (sa sb : Nat → Int32) (sz L : Nat → Nat) (f a b : Nat) (r r2 : Ev) : Prop := ∀ d M, 5 * d + C.2.2.2.1 f ≤ 40 → At d f a r M → M.2.2.2.1 d = -1 → ∃ u N, Gs X sk sa sb sz L u M N ∧ At d f b r2 N ∧ N.2.2.2.1 d = -1 ∧ Lo d M N ∧ ∀ k, k < a → N.2.2.2.2.1 (24 * d + k) = M.2.2.2.2.1 (24 * d + k)
theorem call_er {pt ce : Nat → Int64} {d q : Nat} : er (callc X pt ce d q) (d + 1) = dx_fr (rd pt (320 * d + 4 * cn (X.2.1 q))) (rd pt (320 * d + 4 * cn (X.2.2.1 q))) := by
  unfold callc
  rw [er_lp (by omega), er_lp (by omega), rd_jt, rd_jt]
  funext k
  unfold dx_fr va_up
  by_cases e1 : k = 1
  · rw [if_pos e1, if_neg (by omega), if_pos e1]
  · by_cases e0 : k = 0
    · rw [if_neg e1, if_pos e0, if_pos e0]
    · rw [if_neg e1, if_neg e0, if_neg e0, if_neg e1]
      unfold er
      split
      · unfold rd lp
        rw [if_pos (by omega), if_pos (by omega), if_pos (by omega), if_pos (by omega)]; rfl
      · rfl
theorem go_call (h : MH X C Bs o ba sk sa sb sz L) {f d pc : Nat} {r : Ev} {M : MS} (hf : f < 8) (of : o f) (hd : 5 * d + C.2.2.2.1 f ≤ 40) (hA : At d f pc r M) (hs : pc < (Bs f).2.2.2.2.2.2.1) (hk2 : (Bs f).1 pc ≤ 2) (hfa : M.2.2.2.1 d = -1 ∨ ∃ k0, k0 ≤ 80 ∧ M.2.2.2.1 d = nI k0)
    (hfn : ∀ g, g < 8 → o g → C.2.2.2.1 g + 5 ≤ C.2.2.2.1 f → ∀ r, RB X C sk sa sb sz L g 0 ((Bs g).2.2.2.2.2.2.1 + (Bs g).2.2.2.2.2.2.2) r ((dg X ba Bs 51).2 (Bs g) 0 (Bs g).2.2.2.2.2.2.1 r))
    (hnd : ∀ z, z < 80 → (ndE X M.2.2.2.2.2.2.2 M.2.2.2.1 d (cn ((Bs f).2.2.1 pc)) (80 * d + z) ↔ Rx X (fun y => y = cn ((Bs f).2.2.1 pc)) z)) (hndl : ∀ i, i < 80 * d → (ndE X M.2.2.2.2.2.2.2 M.2.2.2.1 d (cn ((Bs f).2.2.1 pc)) i ↔ M.2.2.2.2.2.2.2 i))
    {q : Nat} (hev : (evr X M.2.2.2.2.2.2.2 M.2.2.2.2.2.1 d (cn ((Bs f).2.2.1 pc)) M.2.2.2.1 M.2.2.2.2.2.2.1).1 = some q) (hRq : Rx X (fun y => y = cn ((Bs f).2.2.1 pc)) q) (hq11 : cn (X.1 q) = 11) (hEI : EI X (dg X ba Bs 51).1 r d (cn ((Bs f).2.2.1 pc)) q (evr X M.2.2.2.2.2.2.2 M.2.2.2.2.2.1 d (cn ((Bs f).2.2.1 pc)) M.2.2.2.1 M.2.2.2.2.2.2.1).2)
    (hlow : ∀ i, i < 320 * d → (evr X M.2.2.2.2.2.2.2 M.2.2.2.2.2.1 d (cn ((Bs f).2.2.1 pc)) M.2.2.2.1 M.2.2.2.2.2.2.1).2 i = M.2.2.2.2.2.2.1 i) :
    ∃ u N, Gs X sk sa sb sz L u M N ∧ At d f pc r N ∧ N.2.2.2.1 d = nI (q + 1) ∧ (∀ z, z < 80 → (N.2.2.2.2.2.2.2 (80 * d + z) ↔ Rx X (fun y => y = cn ((Bs f).2.2.1 pc)) z)) ∧ EI X (dg X ba Bs 51).1 r d (cn ((Bs f).2.2.1 pc)) (q + 1) N.2.2.2.2.2.2.1 ∧ Lo d M N ∧ ∀ k, k < 24 * (d + 1) → N.2.2.2.2.1 k = M.2.2.2.2.1 k := by
  obtain ⟨hX, hE, hO, hN, hW, hnm⟩ := id h.1
  obtain ⟨hB, e0, e40⟩ := hO f hf of
  have he := fn_op hX hB hs hk2
  have h80 := hX.1
  have hkK : kb (Bs f).1 (Bs f).2.2.2.2.2.2.1 pc = (Bs f).1 pc := kb_lt hs
  have hkv : kv C C.2.2.2.1 (cn ((Bs f).2.2.1 pc)) + 2 ≤ 40 := by
    have h1 := fV_mem (C := C) (p := C.2.2.2.1) (kd := (Bs f).1) (op := (Bs f).2.2.1) (m := (Bs f).2.2.2.2.2.2.1) pc hs
    have h2 : 1 * ow C C.2.2.2.1 (Bs f).1 (Bs f).2.2.1 pc ≤ tk (Bs f).1 (Bs f).2.2.1 pc * ow C C.2.2.2.1 (Bs f).1 (Bs f).2.2.1 pc := Nat.mul_le_mul_right _ (fn_tk hB (by omega))
    have h3 : ow C C.2.2.2.1 (Bs f).1 (Bs f).2.2.1 pc = 1 + kv C C.2.2.2.1 (cn ((Bs f).2.2.1 pc)) := if_pos hk2
    rw [← e0] at h1
    omega
  obtain ⟨hqn, hqe, hqk, hqm⟩ := Rx_kv hX hE (p := C.2.2.2.1) he (by omega) hRq
  have hcc := hX.2 q hqn
  obtain ⟨k, hk, hke, -, -, -, -, -, hv11⟩ := hcc
  obtain ⟨c, hc8, hec⟩ := hv11 (by rw [hke, cn_nI (by omega)] at hq11; exact hq11)
  have hcc : cn (X.2.2.2.1 q) = c := by rw [hec, cn_nI (by omega)]
  have hnc : 0 < C.2.1 (q * 8 + c) := by rw [(hE q hqn).2 c hc8, min_pos, if_pos ⟨hq11, hcc.symm⟩]; omega
  have oc := hnm q hqn c hc8 hnc
  have hlc := lv_ok h.1 hf of hs hk2 hd hc8 (hqm c hc8 hnc)
  have hTc : 1 ≤ C.2.2.2.1 c := by rw [(hO c hc8 oc).2.1]; exact Nat.le_add_right _ _
  have hfN : 0 < fN C (Bs f).1 (Bs f).2.2.1 (Bs f).2.2.2.2.2.2.1 c := by
    have h1 := sm_mem (g := fun k => tk (Bs f).1 (Bs f).2.2.1 k * nm C (Bs f).1 (Bs f).2.2.1 c k) (Bs f).2.2.2.2.2.2.1 pc hs
    refine Nat.lt_of_lt_of_le ?_ h1
    refine Nat.mul_pos (fn_tk hB (by omega)) ?_
    unfold nm; rw [if_pos hk2]; exact hqm c hc8 hnc
  have hT5 := (fN_own h.1 hf hc8 of hfN).2
  have hL2 : 2 ≤ cn (X.1 q) := by omega
  have hR2 : px_R (cn (X.1 q)) := by unfold px_R; omega
  have hqa := ex_L hX hqn hL2
  have hqb := ex_R hX hqn hR2
  generalize hpt : (evr X M.2.2.2.2.2.2.2 M.2.2.2.2.2.1 d (cn ((Bs f).2.2.1 pc)) M.2.2.2.1 M.2.2.2.2.2.2.1).2 = pt at hEI hlow
  have hra := hEI _ hqa (fun R a b c => b q hqn (hRq R a b c) hL2)
  have hrb := hEI _ hqb (fun R a b c' => c' q hqn (hRq R a b c') hR2)
  -- in
  have s1 : Gs X sk sa sb sz L 1 M (d + 1 + 1, va_up M.2.1 (d + 1) c, va_up M.2.2.1 (d + 1) 0, upd (upd M.2.2.2.1 d (nI (q + 1))) (d + 1) (-1), M.2.2.2.2.1, callc X pt M.2.2.2.2.2.1 d q, pt, ndE X M.2.2.2.2.2.2.2 M.2.2.2.1 d (cn ((Bs f).2.2.1 pc))) := by
    refine gs_1 (sfe_in h hf of hd hA (by omega) (fun _ => ⟨hfa, fun _ _ => by omega⟩) (fun z => by omega)) (fun N hn => ?_)
    obtain ⟨a, b, hab, hq⟩ := step_eq h hf of hA (by omega) hn
    rw [(hab hs).2] at hq
    have := (hq.1 (by omega)).1 q hev
    rw [this, hpt, hcc]
  -- through
  have hA1 : At (d + 1) c 0 (dx_fr ((dg X ba Bs 51).1 (cn (X.2.1 q)) r) ((dg X ba Bs 51).1 (cn (X.2.2.1 q)) r)) (d + 1 + 1, va_up M.2.1 (d + 1) c, va_up M.2.2.1 (d + 1) 0, upd (upd M.2.2.2.1 d (nI (q + 1))) (d + 1) (-1), M.2.2.2.2.1, callc X pt M.2.2.2.2.2.1 d q, pt, ndE X M.2.2.2.2.2.2.2 M.2.2.2.1 d (cn ((Bs f).2.2.1 pc))) :=
    ⟨rfl, va_up_self _ _ _, va_up_self _ _ _, by show er (callc X pt M.2.2.2.2.2.1 d q) (d + 1) = _; rw [call_er, hra, hrb]⟩
  obtain ⟨u, N, t1, t2, t3, t4, t5⟩ := hfn c hc8 oc hT5 _ (d + 1) _ hlc hA1 pk_us
  obtain ⟨l1, l2, l3, l4, l5, l6, l7⟩ := t4
  have hfaN : N.2.2.2.1 d = nI (q + 1) := by
    rw [l3 d (by omega)]
    show upd (upd M.2.2.2.1 d (nI (q + 1))) (d + 1) (-1) d = _
    rw [pk_un (by omega), pk_us]
  -- out
  obtain ⟨hBc, -, -⟩ := hO c hc8 oc
  have hDc := (bdI_inv hBc.1).2.1
  have h12c := hBc.1.1
  obtain ⟨n1, n2, n3, n4⟩ := t2
  have hszc := (h.2.2.1.1 c hc8 oc).1
  have hnp : ¬ N.2.2.1 (d + 1) < sz (N.2.1 (d + 1)) + L (N.2.1 (d + 1)) := by rw [n2, n3, hszc, h.2.2.2 c hc8 oc]; omega
  have s3 : Gs X sk sa sb sz L 1 N (d + 1, N.2.1, N.2.2.1, N.2.2.2.1, N.2.2.2.2.1, N.2.2.2.2.2.1, lp N.2.2.2.2.2.2.1 (320 * d + 4 * q) (fun j => N.2.2.2.2.2.1 (56 * (d + 1) + 4 * 0 + j)) 4, N.2.2.2.2.2.2.2) := by
    refine gs_1 ⟨d + 1, n1, by omega, by rw [n2]; exact hc8, by rw [n3]; omega, fun z => absurd z hnp, fun _ => Or.inr ⟨d, q, rfl, by omega, hfaN⟩⟩ (fun P hP => ?_)
    exact ((hP (d + 1) n1).2 hnp).2 d q rfl hfaN (by omega)
  have hce : ∀ i, i < 56 * (d + 1) → N.2.2.2.2.2.1 i = M.2.2.2.2.2.1 i := fun i hi => by
    rw [l5 i hi]
    show callc X pt M.2.2.2.2.2.1 d q i = _
    unfold callc
    rw [lp_o (by omega), lp_o (by omega), lp_o (by omega)]
  have hVq : rd (lp N.2.2.2.2.2.2.1 (320 * d + 4 * q) (fun j => N.2.2.2.2.2.1 (56 * (d + 1) + 4 * 0 + j)) 4) (320 * d + 4 * q) = (dg X ba Bs 51).1 q r := by
    rw [rd_lp, rd_jt, V_e h.1 hqn (by omega)]
    unfold dx_ev
    rw [if_neg (by omega), if_neg (by omega), if_neg (by omega), if_neg (by omega), if_pos hq11, hcc]
    unfold dx_ent dx_r1 dx_r2
    rw [if_neg (fun z => (h.2.1 c hc8).mp z oc), if_pos hL2, if_pos hR2, ← n4]
    unfold er
    rw [if_pos (by omega)]
  refine ⟨1 + u + 1, _, gs_add (gs_add s1 t1) s3, ⟨rfl, ?_, ?_, ?_⟩, hfaN, fun z hz => ?_, fun z hz hRz => ?_, ⟨fun i hi => ?_, fun i hi => ?_, fun i hi => ?_, fun i hi => ?_, fun i hi => hce i (by omega), fun i hi => ?_, fun i hi => ?_⟩, fun i hi => l4 i hi⟩
  · show N.2.1 d = f
    rw [l1 d (by omega)]
    show va_up M.2.1 (d + 1) c d = f
    rw [va_up_ne _ _ (by omega)]; exact hA.2.1
  · show N.2.2.1 d = pc
    rw [l2 d (by omega)]
    show va_up M.2.2.1 (d + 1) 0 d = pc
    rw [va_up_ne _ _ (by omega)]; exact hA.2.2.1
  · show er N.2.2.2.2.2.1 d = r
    rw [er_e (fun i _ hi => hce i hi)]; exact hA.2.2.2
  · show N.2.2.2.2.2.2.2 (80 * d + z) ↔ _
    rw [l7 _ (by omega)]; exact hnd z hz
  · show rd (lp N.2.2.2.2.2.2.1 (320 * d + 4 * q) (fun j => N.2.2.2.2.2.1 (56 * (d + 1) + 4 * 0 + j)) 4) (320 * d + 4 * z) = _
    by_cases ez : z = q
    · subst ez; exact hVq
    · rw [rd_lo (by omega), rd_e (g := pt) (fun j hj => l6 _ (by omega))]
      exact hEI z (by omega) hRz
  · show N.2.1 i = M.2.1 i
    rw [l1 i (by omega)]
    show va_up M.2.1 (d + 1) c i = _
    rw [va_up_ne _ _ (by omega)]
  · show N.2.2.1 i = M.2.2.1 i
    rw [l2 i (by omega)]
    show va_up M.2.2.1 (d + 1) 0 i = _
    rw [va_up_ne _ _ (by omega)]
  · show N.2.2.2.1 i = M.2.2.2.1 i
    rw [l3 i (by omega)]
    show upd (upd M.2.2.2.1 d (nI (q + 1))) (d + 1) (-1) i = _
    rw [pk_un (by omega), pk_un (by omega)]
  · exact l4 i (by omega)
  · show lp N.2.2.2.2.2.2.1 (320 * d + 4 * q) (fun j => N.2.2.2.2.2.1 (56 * (d + 1) + 4 * 0 + j)) 4 i = _
    rw [lp_o (by omega), l6 i (by omega)]; exact hlow i hi
  · show N.2.2.2.2.2.2.2 i ↔ _
    rw [l7 i (by omega)]; exact hndl i hi
end MCH
