section GI2
variable {F : Nat} {ro so di od : Nat → Nat} {C : Cs} {X : Ex} {pd : Nat → Option (Nat × (Nat → Nat))} {Bs : Nat → Bd} {of9 by9 : Nat → Int32} {sk : Nat → Nat} {sa sb : Nat → Int32} {sz : Nat → Nat}
/-- a function more -/
theorem GI_fun (h : GI F ro so di od C X pd Bs of9 by9 sk sa sb sz) (hF : F < 8) (oq : Nat × (Nat → Nat)) : GI (F + 1) (va_up ro F F) so di od (cs_fun C F) X (va_up pd F (some oq)) (va_up Bs F bd_0) (upd of9 F (-1)) by9 sk sa sb (va_up sz F 0) := by
  obtain ⟨g1, g2, g3, g4, g5, g6, g7, g8, g9, g10, g11, g12, g13, g14⟩ := h
  obtain ⟨hX, hE, h1, h2, h3, h4⟩ := g6
  have nF : ¬ ob F od F := fun z => absurd z.1 (by omega)
  have oF : ob (F + 1) od F := ⟨by omega, g14 F (Nat.le_refl _)⟩
  have oo : ∀ f, f ≠ F → (ob (F + 1) od f ↔ ob F od f) := fun f hf => ⟨fun z => ⟨by have := z.1; omega, z.2⟩, fun z => ⟨by have := z.1; omega, z.2⟩⟩
  have nmF : ∀ e, e < X.2.2.2.2 → C.2.1 (e * 8 + F) = 0 := fun e he => Nat.eq_zero_of_not_pos (fun z => nF (h4 e he F hF z))
  have hkv : ∀ e, e < X.2.2.2.2 → kv (cs_fun C F) (cs_fun C F).2.2.2.1 e = kv C C.2.2.2.1 e := fun e he => by
    show C.1 e + sm (fun i => C.2.1 (e * 8 + i) * va_up C.2.2.2.1 F 1 i) 8 = C.1 e + sm (fun i => C.2.1 (e * 8 + i) * C.2.2.2.1 i) 8
    congr 1
    refine sm_e 8 (fun i hi => ?_)
    by_cases e1 : i = F
    · subst e1; rw [nmF e he, Nat.zero_mul, Nat.zero_mul]
    · rw [va_up_ne _ _ e1]
  have hfN : ∀ f, f < 8 → ob F od f → fN C (Bs f).1 (Bs f).2.2.1 (Bs f).2.2.2.2.2.2.1 F = 0 := fun f hf of => by
    unfold fN
    refine sm_0 _ (fun k hk => ?_)
    unfold nm
    split
    · rename_i z; rw [nmF _ (fn_op hX (h1 f hf of).1 hk z), Nat.mul_zero]
    · exact Nat.mul_zero _
  refine ⟨by omega, g2, fun i => ?_, g4, g5, ⟨hX, hE, fun f hf of => ?_, fun f hf of => ?_, fun f hf of g hg => ?_, fun e he i hi hp => ?_⟩, ?_, fun f hf => ?_, fun f hf => ?_, fun f hf => ?_, g11, g12, fun i hi => ?_, fun f hf => g14 f (by omega)⟩
  · unfold va_up; split
    · exact hF
    · exact g3 i
  · by_cases e1 : f = F
    · subst e1
      rw [va_up_self]
      refine ⟨⟨bdI_0, ⟨by show 0 ≤ 12; omega, fun _ => Nat.zero_le _, fun i hi => absurd hi (Nat.not_lt_zero _)⟩, fun j hj => absurd hj (Nat.not_lt_zero _)⟩, ?_, ?_⟩
      · show va_up C.2.2.2.1 f 1 f = 1
        rw [va_up_self]
      · show va_up C.2.2.2.1 f 1 f ≤ 40
        rw [va_up_self]; omega
    · rw [va_up_ne _ _ e1]
      obtain ⟨hB, q1, q2⟩ := h1 f hf ((oo f e1).mp of)
      refine ⟨hB, ?_, ?_⟩
      · show va_up C.2.2.2.1 F 1 f = _
        rw [va_up_ne _ _ e1, q1]
        unfold fV
        congr 1
        refine sm_e _ (fun k hk => ?_)
        congr 1
        unfold ow
        split
        · rename_i z; rw [hkv _ (fn_op hX hB hk z)]
        · rfl
      · show va_up C.2.2.2.1 F 1 f ≤ 40
        rw [va_up_ne _ _ e1]; exact q2
  · have e1 : f ≠ F := fun z => of (by rw [z]; exact oF)
    obtain ⟨q1, q2⟩ := h2 f hf (fun z => of ((oo f e1).mpr z))
    refine ⟨?_, fun g hg => ?_⟩
    · show va_up C.2.2.2.1 F 1 f = 0
      rw [va_up_ne _ _ e1]; exact q1
    · show va_up C.2.2.1 (F * 8 + F) 1 (f * 8 + g) = 0
      rw [va_up_ne _ _ (by omega)]; exact q2 g hg
  · by_cases e1 : f = F
    · subst e1
      rw [va_up_self]
      show va_up C.2.2.1 (f * 8 + f) 1 (f * 8 + g) = (if f = g then 1 else 0) + sm (fun h => 0 * _) 8
      rw [sm_0 8 (fun i _ => Nat.zero_mul _), Nat.add_zero]
      by_cases e2 : f = g
      · subst e2; rw [va_up_self, if_pos rfl]
      · rw [va_up_ne _ _ (by omega), if_neg e2]; exact (h2 f hf nF).2 g hg
    · rw [va_up_ne _ _ e1]
      have of' := (oo f e1).mp of
      show va_up C.2.2.1 (F * 8 + F) 1 (f * 8 + g) = (if f = g then 1 else 0) + sm (fun h => fN C (Bs f).1 (Bs f).2.2.1 (Bs f).2.2.2.2.2.2.1 h * va_up C.2.2.1 (F * 8 + F) 1 (h * 8 + g)) 8
      rw [va_up_ne _ _ (by omega), h3 f hf of' g hg]
      congr 1
      refine sm_e 8 (fun i hi => ?_)
      by_cases e2 : i = F
      · subst e2; rw [hfN f hf of', Nat.zero_mul, Nat.zero_mul]
      · rw [va_up_ne _ _ (by omega)]
  · have := h4 e he i hi hp
    exact ⟨by have := this.1; omega, this.2⟩
  · refine ⟨fun f hf of => ?_, fun f hf => ?_, g7.2.2⟩
    · by_cases e1 : f = F
      · subst e1; rw [va_up_self, va_up_self]; exact ⟨rfl, fun k hk => absurd hk (by omega)⟩
      · rw [va_up_ne _ _ e1, va_up_ne _ _ e1]; exact g7.1 f hf ((oo f e1).mp of)
    · by_cases e1 : f = F
      · subst e1; rw [va_up_self]
      · rw [va_up_ne _ _ e1]; exact g7.2.1 f (fun z => hf ⟨z.1, (oo f e1).mpr z.2⟩)
  · by_cases e1 : f = F
    · subst e1; rw [va_up_self]; exact ⟨fun z => (by cases z), fun z => absurd oF z⟩
    · rw [va_up_ne _ _ e1, oo f e1]; exact g8 f hf
  · by_cases e1 : f = F
    · subst e1
      rw [pk_us, va_up_self]
      exact ⟨fun _ => ⟨rfl, rfl⟩, fun z => absurd (g14 f (Nat.le_refl _)) z⟩
    · have hfF : f < F := by omega
      rw [pk_un e1, va_up_ne _ _ e1]
      refine ⟨(g9 f hfF).1, fun z => ?_⟩
      obtain ⟨q1, q2, q3, q4, q5⟩ := (g9 f hfF).2 z
      rw [va_up_ne _ _ (by omega)]
      exact ⟨q1, q2, q3, q4, q5⟩
  · by_cases e1 : f = F
    · subst e1; rw [va_up_self]
    · rw [va_up_ne _ _ e1]; exact g10 f (fun z => hf ⟨z.1, (oo f e1).mpr z.2⟩)
  · show va_up C.2.2.1 (F * 8 + F) 1 i = 0
    rw [va_up_ne _ _ (by omega)]; exact g13 i hi
/-- a derived one more -/
theorem GI_der (h : GI F ro so di od C X pd Bs of9 by9 sk sa sb sz) (hF : F < 8) {x y : Int32} (hx : mk F x) (hy : mk 2 y) (hod : od (cn x) < 2) : GI (F + 1) (va_up ro F (ro (cn x))) (va_up so F (cn x)) (va_up di F (cn y)) (va_up od F (od (cn x) + 1)) C X pd Bs (upd of9 F x) (upd by9 F y) sk sa sb sz := by
  obtain ⟨j, hj, rfl⟩ := mk_nat (by omega) hx
  obtain ⟨b, hb, rfl⟩ := mk_nat (by omega) hy
  rw [cn_nI (by omega)] at hod
  rw [cn_nI (show j < 2 ^ 31 by omega), cn_nI (show b < 2 ^ 31 by omega)]
  obtain ⟨g1, g2, g3, g4, g5, g6, g7, g8, g9, g10, g11, g12, g13, g14⟩ := h
  have eo : ob (F + 1) (va_up od F (od j + 1)) = ob F od := by
    funext f
    refine propext ⟨fun z => ?_, fun z => ?_⟩
    · have e1 : f ≠ F := fun e => by have := z.2; rw [e, va_up_self] at this; omega
      have z2 := z.2
      rw [va_up_ne _ _ e1] at z2
      exact ⟨by have := z.1; omega, z2⟩
    · have e1 : f ≠ F := fun e => by have := z.1; omega
      exact ⟨by have := z.1; omega, by rw [va_up_ne _ _ e1]; exact z.2⟩
  have up : ∀ {m : Nat} {K : Nat → Nat} {v : Nat}, (∀ i, K i < m) → v < m → ∀ i, va_up K F v i < m := fun hK hv i => by
    unfold va_up; split
    · exact hv
    · exact hK i
  refine ⟨by omega, fun i => ?_, up g3 (g3 _), up g4 (by omega), up g5 hb, by rw [eo]; exact g6, by rw [eo]; exact g7, by rw [eo]; exact g8, fun f hf => ?_, by rw [eo]; exact g10, g11, g12, g13, fun f hf => by rw [va_up_ne _ _ (by omega)]; exact g14 f (by omega)⟩
  · unfold va_up; split
    · omega
    · exact g2 i
  · by_cases e1 : f = F
    · subst e1
      rw [va_up_self, va_up_self, va_up_self, va_up_self, pk_us, pk_us, va_up_ne _ _ (show j ≠ f by omega), va_up_ne _ _ (show j ≠ f by omega)]
      exact ⟨fun z => by omega, fun _ => ⟨hj, rfl, rfl, rfl, rfl⟩⟩
    · have hfF : f < F := by omega
      rw [va_up_ne _ _ e1, va_up_ne _ _ e1, va_up_ne _ _ e1, va_up_ne _ _ e1, pk_un e1, pk_un e1]
      refine ⟨(g9 f hfF).1, fun z => ?_⟩
      obtain ⟨q1, q2, q3, q4, q5⟩ := (g9 f hfF).2 z
      rw [va_up_ne _ _ (show so f ≠ F by omega), va_up_ne _ _ (show so f ≠ F by omega)]
      exact ⟨q1, q2, q3, q4, q5⟩
/-- what the reference's methods want -/
theorem gi_sz (h : GI F ro so di od C X pd Bs of9 by9 sk sa sb sz) (i : Nat) : sz i ≤ 12 := by
  by_cases z : i < 8 ∧ ob F od i
  · rw [(h.2.2.2.2.2.2.1.1 i z.1 z.2).1]; exact (h.2.2.2.2.2.1.2.2.1 i z.1 z.2).1.1.1
  · rw [h.2.2.2.2.2.2.1.2.1 i z]; omega
theorem gi_own (h : GI F ro so di od C X pd Bs of9 by9 sk sa sb sz) {f k : Nat} (hk : k < sz f) : f < 8 ∧ ob F od f := Classical.byContradiction fun z => by
  rw [h.2.2.2.2.2.2.1.2.1 f z] at hk; omega
theorem gi_st (h : GI F ro so di od C X pd Bs of9 by9 sk sa sb sz) {f k : Nat} (hk : k < sz f) : (sk (12 * f + k) ≤ 2 → ∃ e, e < X.2.2.2.2 ∧ sb (12 * f + k) = nI e) ∧ (sk (12 * f + k) = 4 → ∃ b, 1 ≤ b ∧ b ≤ 5 ∧ sb (12 * f + k) = nI b) ∧ (sk (12 * f + k) = 0 → ∃ v, v < 6 ∧ sa (12 * f + k) = nI v) ∧ (sk (12 * f + k) = 1 → ∃ v, v < 2 ∧ sa (12 * f + k) = nI v) := by
  obtain ⟨hf, of⟩ := gi_own h hk
  obtain ⟨h1, h2⟩ := h.2.2.2.2.2.2.1.1 f hf of
  obtain ⟨hB, -⟩ := h.2.2.2.2.2.1.2.2.1 f hf of
  obtain ⟨q1, q2, q3⟩ := h2 k hk
  obtain ⟨-, r0, r1, r2, r4⟩ := hB.2.1.2.2 k (by omega)
  rw [q1, q2, q3]
  refine ⟨r2, fun z => ?_, r0, r1⟩
  obtain ⟨j, hj, hje⟩ := r4 z
  have := hB.2.2 k (by omega) z
  rw [hje, cn_nI (by omega)] at this
  exact ⟨j, this.1, hj, hje⟩
theorem gi_bd (h : GI F ro so di od C X pd Bs of9 by9 sk sa sb sz) (f : Nat) : bd_inv (Bs f) := by
  by_cases z : f < 8 ∧ ob F od f
  · exact bdI_inv (h.2.2.2.2.2.1.2.2.1 f z.1 z.2).1.1
  · rw [h.2.2.2.2.2.2.2.2.2.1 f z]; exact bdI_inv bdI_0
theorem gi_sm (h : GI F ro so di od C X pd Bs of9 by9 sk sa sb sz) (f j : Nat) (b : Int32) (hf : f < 8) (hj : j ≤ 5) (hb : j ≤ 2 → ∃ e, e < X.2.2.2.2 ∧ b = nI e) : ch_sm C f (bd_tm (Bs f)) j b := by
  refine ch_bound h.2.2.2.2.2.1 hf ?_ hb
  by_cases z : ob F od f
  · exact tm_200 h.2.2.2.2.2.1 hf z
  · rw [h.2.2.2.2.2.2.2.2.2.1 f (fun y => z y.2)]; show 1 ≤ 200; omega
theorem gi_cb (h : GI F ro so di od C X pd Bs of9 by9 sk sa sb sz) (i : Nat) : C.2.2.1 i < 2 ^ 31 := by
  by_cases z : i < 64
  · have := W_40 h.2.2.2.2.2.1 (show i / 8 < 8 by omega) (show i % 8 < 8 by omega)
    rw [show i / 8 * 8 + i % 8 = i by omega] at this
    omega
  · rw [h.2.2.2.2.2.2.2.2.2.2.2.2.1 i (by omega)]; omega
theorem gi_MH (h : GI F ro so di od C X pd Bs of9 by9 sk sa sb sz) {ba : Nat → Option Nat} (hba : ∀ f, ba f = none ↔ pd f = none) : MH X C Bs (ob F od) ba sk sa sb sz (fun f => @ite _ (f < 8 ∧ ob F od f) (Classical.propDecidable _) (Bs f).2.2.2.2.2.2.2 0) :=
  ⟨h.2.2.2.2.2.1, fun f hf => (hba f).trans (h.2.2.2.2.2.2.2.1 f hf), h.2.2.2.2.2.2.1, fun f hf of => if_pos ⟨hf, of⟩⟩
theorem lk_loc {K K2 : Nat → Nat} : ∀ k, (∀ j, j < k → K2 j = K j) → lk K2 k = lk K k
  | 0, _ => rfl
  | k + 1, h => by rw [lk, lk, h k (by omega), lk_loc k (fun j hj => h j (by omega))]
theorem gi_lk (h : GI F ro so di od C X pd Bs of9 by9 sk sa sb sz) {f : Nat} (hf : f < 8) (of : ob F od f) : lk (fun k => sk (12 * f + k)) (sz f) = nI (Bs f).2.2.2.2.2.2.2 := by
  obtain ⟨h1, h2⟩ := h.2.2.2.2.2.2.1.1 f hf of
  obtain ⟨hB, -⟩ := h.2.2.2.2.2.1.2.2.1 f hf of
  rw [← bdI_lk hB.1, ← h1]
  exact lk_loc _ (fun j hj => by show sk (12 * f + j) = _; rw [(h2 j hj).1, kb_lt hj])
theorem gi_hlk (h : GI F ro so di od C X pd Bs of9 by9 sk sa sb sz) (f : Nat) (hf : f < 8) : lk (fun k => sk (12 * f + k)) (sz f) = nI (@ite _ (f < 8 ∧ ob F od f) (Classical.propDecidable _) (Bs f).2.2.2.2.2.2.2 0) ∧ @ite _ (f < 8 ∧ ob F od f) (Classical.propDecidable _) (Bs f).2.2.2.2.2.2.2 0 ≤ 12 := by
  by_cases z : f < 8 ∧ ob F od f
  · rw [if_pos z]
    have := (gi_bd h f)
    exact ⟨gi_lk h hf z.2, by have h1 := this.1; have h2 := this.2.1; omega⟩
  · rw [if_neg z, h.2.2.2.2.2.2.1.2.1 f z]; exact ⟨rfl, Nat.zero_le _⟩
/-- statements -/
theorem okT_pre (h : GI F ro so di od C X pd Bs of9 by9 sk sa sb sz) {x k a b : Int32} : okT F X.2.2.2.2 of9 sk sz x k a b ↔ stPre F od X.2.2.2.2 Bs x k a b := by
  have hF := h.1
  have hn := h.2.2.2.2.2.1.1.1
  unfold okT stPre own sndS
  by_cases hm : mk F x
  · obtain ⟨f, hf, rfl⟩ := mk_nat (by omega) hm
    have hc : cn (nI f) = f := cn_nI (by omega)
    rw [hc]
    have h2 := gi_of h hf
    by_cases e : od f = 0
    · have of : ob F od f := ⟨hf, e⟩
      obtain ⟨hs, hr⟩ := h.2.2.2.2.2.2.1.1 f (by omega) of
      obtain ⟨hB, -⟩ := h.2.2.2.2.2.1.2.2.1 f (by omega) of
      have hkat : kat sk sz f = kb (Bs f).1 (Bs f).2.2.2.2.2.2.1 := by
        funext j
        unfold kat kb
        rw [← hs]
        by_cases e : j < sz f
        · rw [if_pos e, if_pos e]; exact (hr j e).1
        · rw [if_neg e, if_neg e]
      have hroom := room_msp hB.1 (cn k)
      rw [hkat, hs, ← hroom]
      have h12 := hB.1.1
      constructor
      · intro ⟨⟨_, a1⟩, a2, a3, a4, a5, a6, a7, a8⟩
        obtain ⟨j, hj, rfl⟩ := mk_nat (by omega) a2
        have hcj : cn (nI j) = j := cn_nI (by omega)
        rw [hcj] at a5
        refine ⟨⟨hm, e⟩, ⟨fun z => ⟨a3 z, a5 ?_⟩, fun z => ⟨a4 z, a5 ?_⟩, fun z => a5 ?_, a6, fun z0 z1 z2 z4 => ?_⟩, by omega, a8⟩
        · have := (nI_eq (a := j) (b := 0) (by omega) (by omega)).mp z; omega
        · have := (nI_eq (a := j) (b := 1) (by omega) (by omega)).mp z; omega
        · have := (nI_eq (a := j) (b := 2) (by omega) (by omega)).mp z; omega
        · rcases (show j = 0 ∨ j = 1 ∨ j = 2 ∨ j = 3 ∨ j = 4 ∨ j = 5 by omega) with y | y | y | y | y | y
          · exact absurd (by rw [y]; rfl) z0
          · exact absurd (by rw [y]; rfl) z1
          · exact absurd (by rw [y]; rfl) z2
          · exact Or.inl (by rw [y]; rfl)
          · exact absurd (by rw [y]; rfl) z4
          · exact Or.inr (by rw [y]; rfl)
      · intro ⟨_, hs9, a7, a8⟩
        obtain ⟨j, hj, hkj, -⟩ := snds_nat hn hs9
        obtain ⟨b0, b1, b2, b4, b5⟩ := hs9
        subst hkj
        have hcj : cn (nI j) = j := cn_nI (by omega)
        rw [hcj]
        refine ⟨⟨hm, h2.mpr of⟩, mk_of (by omega) (by omega), fun z => (b0 z).1, fun z => (b1 z).1, fun z => ?_, b4, by omega, by rw [← hcj]; exact a8⟩
        rcases (show j = 0 ∨ j = 1 ∨ j = 2 by omega) with y | y | y
        · exact (b0 (by rw [y]; rfl)).2
        · exact (b1 (by rw [y]; rfl)).2
        · exact b2 (by rw [y]; rfl)
    · exact ⟨fun z => absurd (h2.mp z.1.2).2 e, fun z => absurd z.1.2 e⟩
  · exact ⟨fun z => absurd z.1.1 hm, fun z => absurd z.1.1 hm⟩
/-- a statement's operands -/
theorem pre_in (hn : X.2.2.2.2 ≤ 80) {x k a b : Int32} (h : stPre F od X.2.2.2.2 Bs x k a b) : ∃ j, j ≤ 5 ∧ k = nI j ∧ st_in X j a b := by
  obtain ⟨j, hj, hkj, h2, h4, h0, h1⟩ := snds_nat hn h.2.1
  exact ⟨j, hj, hkj, h0, h1, h2, h4⟩
/-- class and reference let it in alike -/
theorem st_acc (h : GI F ro so di od C X pd Bs of9 by9 sk sa sb sz) {f j : Nat} {a b : Int32} (hf : f < F) (hj : j ≤ 5) (hp : stPre F od X.2.2.2.2 Bs (nI f) (nI j) a b) {Q : Nat → Prop} (hQ : RD (Dr X (va_up sk (12 * f + sz f) j) (upd sb (12 * f + sz f) b) (va_up sz f (sz f + 1))) f 8 Q) {q : (Nat → Nat) × (Nat → Nat)} (hq : ∀ i, i < 8 → q.2 i = 0) :
    (¬ Q f ∧ ¬ ∃ g, g < F ∧ 40 < (mrs X of9 (va_up sk (12 * f + sz f) j) (upd sb (12 * f + sz f) b) (va_up sz f (sz f + 1)) F 9 q).2 g) ↔ ch_ok C f (bd_tm (Bs f)) j b := by
  have hF := h.1
  have hC := h.2.2.2.2.2.1
  obtain ⟨i, hi, hij, hin⟩ := pre_in hC.1.1 hp
  have eij : j = i := (nI_eq (by omega) (by omega)).mp hij
  subst eij
  obtain ⟨⟨-, ho⟩, -, hs, hr⟩ := hp
  rw [cn_nI (show f < 2 ^ 31 by omega)] at ho hs hr
  rw [cn_nI (show j < 2 ^ 31 by omega)] at hr
  have of : ob F od f := ⟨hf, ho⟩
  have hR := h.2.2.2.2.2.2.1
  have h12 : ∀ g, g < 8 → ob F od g → (Bs g).2.2.2.2.2.2.1 ≤ 12 := fun g hg og => (hC.2.2.1 g hg og).1.1.1
  have hR2 := rfB_add (a := a) (b := b) hR (show f < 8 by omega) of hs h12 hj
  have hEd : ∀ x z, x < 8 → ob F od x → (Dr X (va_up sk (12 * f + sz f) j) (upd sb (12 * f + sz f) b) (va_up sz f (sz f + 1)) x z ↔ z < 8 ∧ 0 < fN C (va_up Bs f (bd_add (Bs f) j a b) x).1 (va_up Bs f (bd_add (Bs f) j a b) x).2.2.1 (va_up Bs f (bd_add (Bs f) j a b) x).2.2.2.2.2.2.1 z) := fun x z hx ox => by
    have hB : fn_ok X (va_up Bs f (bd_add (Bs f) j a b) x) := by
      by_cases e : x = f
      · subst e; rw [va_up_self]; exact fn_add (hC.2.2.1 x hx ox).1 hs hj hr hin
      · rw [va_up_ne _ _ e]; exact (hC.2.2.1 x hx ox).1
    obtain ⟨q1, q2⟩ := hR2.1 x hx ox
    constructor
    · intro y
      have hz := dr_lt hC.1 y
      exact ⟨hz, (Dr_fN hC.1 hC.2.1 hB q1 (fun k hk => ⟨(q2 k hk).1, (q2 k hk).2.2⟩) hz).mp y⟩
    · intro ⟨hz, y⟩
      exact (Dr_fN hC.1 hC.2.1 hB q1 (fun k hk => ⟨(q2 k hk).1, (q2 k hk).2.2⟩) hz).mpr y
  have hrd := round_ad hC (show f < 8 by omega) of hs hj hr hin hEd hQ
  have hch := ch_iff (b := b) hC (show f < 8 by omega) of hj
  rw [hch]
  by_cases had : adc C (Bs f) j b f = 0
  · have hde := dear_iff hC hF (fun x hx => gi_of h hx) (fun x ox => ox.1) (show f < 8 by omega) of hs hj hr hin hR had hq
    rw [hde]
    constructor
    · intro ⟨_, z⟩; exact ⟨had, Classical.byContradiction z⟩
    · intro ⟨_, z⟩; exact ⟨fun y => by have := hrd.mp y; omega, fun y => y z⟩
  · constructor
    · intro ⟨z, _⟩; exact absurd (hrd.mpr (by omega)) z
    · intro ⟨z, _⟩; exact absurd z had
theorem chC_1 {f t j : Nat} {b : Int32} : (ch_C C f t j b).1 = C.1 ∧ (ch_C C f t j b).2.1 = C.2.1 ∧ ∀ i, 64 ≤ i → (ch_C C f t j b).2.2.1 i = C.2.2.1 i := by
  have hk : ∀ a, ∀ i, 64 ≤ i → kn_up C f a 64 i = C.2.2.1 i := fun a i hi => by unfold kn_up; rw [if_neg (by omega)]
  unfold ch_C
  by_cases h : ch_ok C f t j b
  · simp only [if_pos h]
    split
    · exact ⟨rfl, rfl, hk _⟩
    · split
      · exact ⟨rfl, rfl, hk _⟩
      · exact ⟨rfl, rfl, fun _ _ => rfl⟩
  · simp only [if_neg h]
    split
    · exact ⟨rfl, rfl, fun _ _ => rfl⟩
    · split
      · exact ⟨rfl, rfl, fun _ _ => rfl⟩
      · exact ⟨rfl, rfl, fun _ _ => rfl⟩
theorem GI_st (h : GI F ro so di od C X pd Bs of9 by9 sk sa sb sz) {f j : Nat} {a b : Int32} (hf : f < F) (hj : j ≤ 5) (hp : stPre F od X.2.2.2.2 Bs (nI f) (nI j) a b) (hok : ch_ok C f (bd_tm (Bs f)) j b) :
    GI F ro so di od (ch_C C f (bd_tm (Bs f)) j b) X pd (va_up Bs f (bd_add (Bs f) j a b)) of9 by9 (va_up sk (12 * f + sz f) j) (upd sa (12 * f + sz f) a) (upd sb (12 * f + sz f) b) (va_up sz f (sz f + 1)) := by
  obtain ⟨g1, g2, g3, g4, g5, g6, g7, g8, g9, g10, g11, g12, g13, g14⟩ := h
  obtain ⟨i, hi, hij, hin⟩ := pre_in g6.1.1 hp
  have eij : j = i := (nI_eq (by omega) (by omega)).mp hij
  subst eij
  obtain ⟨⟨-, ho⟩, -, hs, hr⟩ := hp
  rw [cn_nI (show f < 2 ^ 31 by omega)] at ho hs hr
  rw [cn_nI (show j < 2 ^ 31 by omega)] at hr
  have of : ob F od f := ⟨hf, ho⟩
  have h12 : ∀ g, g < 8 → ob F od g → (Bs g).2.2.2.2.2.2.1 ≤ 12 := fun g hg og => (g6.2.2.1 g hg og).1.1.1
  obtain ⟨c1, c2, c3⟩ := chC_1 (C := C) (f := f) (t := bd_tm (Bs f)) (j := j) (b := b)
  refine ⟨g1, g2, g3, g4, g5, ch_CI g6 (by omega) of hs hj hr hin hok, rfB_add g7 (by omega) of hs h12 hj, g8, g9, fun g hg => ?_, by rw [c1]; exact g11, by rw [c2]; exact g12, fun i hi => by rw [c3 i hi]; exact g13 i hi, g14⟩
  have e : g ≠ f := fun e => hg ⟨by omega, by rw [e]; exact of⟩
  rw [va_up_ne _ _ e]; exact g10 g hg
theorem GI_no (h : GI F ro so di od C X pd Bs of9 by9 sk sa sb sz) {f j : Nat} {b : Int32} (hok : ¬ ch_ok C f (bd_tm (Bs f)) j b) : GI F ro so di od (ch_C C f (bd_tm (Bs f)) j b) X pd Bs of9 by9 sk sa sb sz := by
  obtain ⟨g1, g2, g3, g4, g5, g6, g7, g8, g9, g10, g11, g12, g13, g14⟩ := h
  obtain ⟨c1, c2, c3⟩ := chC_1 (C := C) (f := f) (t := bd_tm (Bs f)) (j := j) (b := b)
  exact ⟨g1, g2, g3, g4, g5, ch_CI_no g6 hok, g7, g8, g9, g10, by rw [c1]; exact g11, by rw [c2]; exact g12, fun i hi => by rw [c3 i hi]; exact g13 i hi, g14⟩
/-- cost -/
theorem gi_cost (h : GI F ro so di od C X pd Bs of9 by9 sk sa sb sz) {q : (Nat → Nat) × (Nat → Nat)} (hq : ∀ i, i < 8 → q.2 i = 0) : (¬ ∃ g, g < F ∧ 40 < (mrs X of9 sk sb sz F 9 q).2 g) ∧ ∀ g, g < F → (mrs X of9 sk sb sz F 9 q).2 g = C.2.2.2.1 g := by
  have hF := h.1
  have key : ∀ g, g < F → (mrs X of9 sk sb sz F 9 q).2 g = C.2.2.2.1 g := fun g hg => cost_eq h.2.2.2.2.2.1 h.1 (fun x hx => gi_of h hx) (fun x ox => ox.1) h.2.2.2.2.2.2.1 hq hg
  refine ⟨fun ⟨g, hg, h40⟩ => ?_, key⟩
  rw [key g hg] at h40
  have := CI_T40 h.2.2.2.2.2.1 (show g < 8 by omega)
  omega
/-- calls -/
theorem gi_calls (h : GI F ro so di od C X pd Bs of9 by9 sk sa sb sz) {f g : Nat} (hf : f < F) (hg : g < F) {Q : Nat → Prop} (hQ : RD (Dr X sk sb sz) (ro f) 8 Q) : Q g ↔ (¬ ro f = g ∧ 0 < C.2.2.1 (ro f * 8 + g)) := by
  have hF := h.1
  have hC := h.2.2.2.2.2.1
  have or := gi_root h f f (Nat.le_refl _) hf
  have hr8 := h.2.2.1 f
  have hEd : ∀ x z, x < 8 → ob F od x → (Dr X sk sb sz x z ↔ z < 8 ∧ 0 < fN C (Bs x).1 (Bs x).2.2.1 (Bs x).2.2.2.2.2.2.1 z) := fun x z hx ox => by
    obtain ⟨q1, q2⟩ := h.2.2.2.2.2.2.1.1 x hx ox
    have hB := (hC.2.2.1 x hx ox).1
    constructor
    · intro y
      have hz := dr_lt hC.1 y
      exact ⟨hz, (Dr_fN hC.1 hC.2.1 hB q1 (fun k hk => ⟨(q2 k hk).1, (q2 k hk).2.2⟩) hz).mp y⟩
    · intro ⟨hz, y⟩
      exact (Dr_fN hC.1 hC.2.1 hB q1 (fun k hk => ⟨(q2 k hk).1, (q2 k hk).2.2⟩) hz).mpr y
  constructor
  · intro hq
    obtain ⟨m, hm⟩ := hQ.1 g ⟨hq, by omega⟩
    obtain ⟨_, h2, h3⟩ := pth_W hC (fun x z hx ox => (hEd x z hx ox).mp) (m + 1) (ro f) g hr8 or hm
    exact ⟨fun e => by rw [e] at h3; omega, h2⟩
  · intro ⟨hne, hw⟩
    obtain ⟨m, h2, h3⟩ := W_pth hC (fun x z hx hz ox hp => (hEd x z hx ox).mpr ⟨hz, hp⟩) (show g < 8 by omega) _ (ro f) hr8 (Nat.le_refl _) hw
    have := CI_T40 hC hr8
    cases m with
    | zero => exact absurd h2 hne
    | succ m => exact (hQ.2 m g (by omega) h2).1
/-- count -/
theorem gi_count (h : GI F ro so di od C X pd Bs of9 by9 sk sa sb sz) {ba : Nat → Option Nat} (hba : ∀ f, ba f = none ↔ pd f = none) {hh : Nat → Nat} {g : Nat → Int32} (hg : ∀ f, f < 8 → ob F od f → g f = nI (hh f)) : mcnt of9 g F = nI (sm_f ba hh 8) := by
  have hF := h.1
  have k1 : ∀ m, m ≤ F → mcnt of9 g m = nI (sm_f ba hh m) := fun m => by
    induction m with
    | zero => intro _; rfl
    | succ m ih =>
      intro hm
      rw [mcnt, sm_f, ih (by omega)]
      have h1 := gi_of h (show m < F by omega)
      have h2 := (hba m).trans (h.2.2.2.2.2.2.2.1 m (by omega))
      by_cases om : ob F od m
      · rw [if_pos (h1.mpr om), hg m (by omega) om]
        cases hb : ba m with
        | none => exact absurd om (h2.mp hb)
        | some v => exact nI_add _ _
      · rw [if_neg (fun z => om (h1.mp z)), h2.mpr om]; rfl
  have k2 : ∀ d, F + d ≤ 8 → sm_f ba hh (F + d) = sm_f ba hh F := fun d => by
    induction d with
    | zero => intro _; rfl
    | succ d ih =>
      intro hd
      show sm_f ba hh (F + d) + (match ba (F + d) with | none => 0 | some _ => hh (F + d)) = _
      have h2 := (hba (F + d)).trans (h.2.2.2.2.2.2.2.1 (F + d) (by omega))
      rw [h2.mpr (fun z => absurd z.1 (by omega)), ih (by omega)]; rfl
  have := k2 (8 - F) (by omega)
  rw [show F + (8 - F) = 8 by omega] at this
  rw [this]; exact k1 F (Nat.le_refl _)
end GI2
