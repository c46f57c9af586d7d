/-- an own function -/
def ob (F : Nat) (od : Nat → Nat) (f : Nat) : Prop := f < F ∧ od f = 0
/-- the states of class and reference belong together -/
def GI (F : Nat) (ro so di od : Nat → Nat) (C : Cs) (X : Ex) (pd : Nat → Option (Nat × (Nat → Nat))) (Bs : Nat → Bd) (of9 by9 : Nat → Int32) (sk : Nat → Nat) (sa sb : Nat → Int32) (sz : Nat → Nat) : Prop :=
  F ≤ 8 ∧ (∀ i, od i ≤ 2) ∧ (∀ i, ro i < 8) ∧ (∀ i, so i < 8) ∧ (∀ i, di i < 2) ∧ CI X C Bs (ob F od) ∧ rfB 8 Bs (ob F od) sk sa sb sz ∧ (∀ f, f < 8 → (pd f = none ↔ ¬ ob F od f)) ∧
  (∀ f, f < F → (od f = 0 → of9 f = -1 ∧ ro f = f) ∧ (od f ≠ 0 → so f < f ∧ of9 f = nI (so f) ∧ by9 f = nI (di f) ∧ od f = od (so f) + 1 ∧ ro f = ro (so f))) ∧
  (∀ f, ¬ (f < 8 ∧ ob F od f) → Bs f = bd_0) ∧ (∀ i, C.1 i ≤ 1000) ∧ (∀ i, C.2.1 i ≤ 1000) ∧ (∀ i, 64 ≤ i → C.2.2.1 i = 0) ∧ (∀ f, F ≤ f → od f = 0)
theorem GI_0 : GI 0 (fun _ => 0) (fun _ => 0) (fun _ => 0) (fun _ => 0) cs_0 ex_0 (fun _ => none) (fun _ => bd_0) (fun _ => 0) (fun _ => 0) (fun _ => 0) (fun _ => 0) (fun _ => 0) (fun _ => 0) := by
  have no : ∀ f, ¬ ob 0 (fun _ => 0) f := fun f h => absurd h.1 (by omega)
  refine ⟨by omega, fun _ => Nat.zero_le _, fun _ => Nat.succ_pos _, fun _ => Nat.succ_pos _, fun _ => Nat.succ_pos _, ?_, ?_, fun f _ => ⟨fun _ => no f, fun _ => rfl⟩, fun f hf => absurd hf (by omega), fun _ _ => rfl, fun _ => Nat.zero_le _, fun _ => Nat.zero_le _, fun _ _ => rfl, fun _ _ => rfl⟩
  · refine ⟨⟨by show 0 ≤ 80; omega, fun e he => absurd he (Nat.not_lt_zero _)⟩, fun e he => absurd he (Nat.not_lt_zero _), fun f _ of => absurd of (no f), fun f _ _ => ⟨rfl, fun _ _ => rfl⟩, fun f _ of => absurd of (no f), fun e he => absurd he (Nat.not_lt_zero _)⟩
  · exact ⟨fun f _ of => absurd of (no f), fun _ _ => rfl, fun _ => Nat.zero_le _⟩
section GI
variable {F : Nat} {ro so di od : Nat → Nat} {C : Cs} {X : Ex} {pd : Nat → Option (Nat × (Nat → Nat))} {Bs : Nat → Bd} {of9 by9 : Nat → Int32} {sk : Nat → Nat} {sa sb : Nat → Int32} {sz : Nat → Nat}
theorem gi_of (h : GI F ro so di od C X pd Bs of9 by9 sk sa sb sz) {f : Nat} (hf : f < F) : (of9 f < 0 ↔ ob F od f) := by
  obtain ⟨h1, h2⟩ := h.2.2.2.2.2.2.2.2.1 f hf
  by_cases e : od f = 0
  · rw [(h1 e).1]; exact ⟨fun _ => ⟨hf, e⟩, fun _ => by decide⟩
  · have := h.1
    obtain ⟨a, b, -⟩ := h2 e
    rw [b]; exact ⟨fun z => absurd z (nI_pos (by omega)), fun z => absurd z.2 e⟩
theorem gi_hof (h : GI F ro so di od C X pd Bs of9 by9 sk sa sb sz) : ∀ f, f < F → (of9 f = -1 ∧ od f = 0) ∨ ∃ g, g < f ∧ of9 f = nI g ∧ od f = od g + 1 := fun f hf => by
  obtain ⟨h1, h2⟩ := h.2.2.2.2.2.2.2.2.1 f hf
  by_cases e : od f = 0
  · exact Or.inl ⟨(h1 e).1, e⟩
  · exact Or.inr ⟨so f, (h2 e).1, (h2 e).2.1, (h2 e).2.2.2.1⟩
theorem gi_hro (h : GI F ro so di od C X pd Bs of9 by9 sk sa sb sz) : ∀ f, f < F → (of9 f = -1 ∧ ro f = f) ∨ ∃ g, g < f ∧ of9 f = nI g ∧ ro f = ro g := fun f hf => by
  obtain ⟨h1, h2⟩ := h.2.2.2.2.2.2.2.2.1 f hf
  by_cases e : od f = 0
  · exact Or.inl (h1 e)
  · exact Or.inr ⟨so f, (h2 e).1, (h2 e).2.1, (h2 e).2.2.2.2⟩
/-- a function goes back to an own one -/
theorem gi_root (h : GI F ro so di od C X pd Bs of9 by9 sk sa sb sz) : ∀ n f, f ≤ n → f < F → ob F od (ro f)
  | n, f, hn, hf => by
    obtain ⟨h1, h2⟩ := h.2.2.2.2.2.2.2.2.1 f hf
    by_cases e : od f = 0
    · rw [(h1 e).2]; exact ⟨hf, e⟩
    · obtain ⟨a, b, c, d, r⟩ := h2 e
      rw [r]
      cases n with
      | zero => omega
      | succ n => exact gi_root h n (so f) (by omega) (by omega)
theorem lit_lt {k : Int32} {j m : Nat} (hj : j < 2 ^ 31) (hm : m < 2 ^ 31) (hk : k = nI j) : (k = nI m ↔ j = m) := by rw [hk]; exact nI_eq hj hm
theorem mk12_11 {k : Int32} (h : mk 12 k) : k ≤ 11 := by
  obtain ⟨j, hj, rfl⟩ := mk_nat (by omega) h
  exact nI_le (b := 11) (by omega) (by omega)
theorem okM_snd (h : GI F ro so di od C X pd Bs of9 by9 sk sa sb sz) {k a b d : Int32} : okM F of9 X.2.2.2.2 k a b d ↔ (X.2.2.2.2 < 80 ∧ sndE F od X.2.2.2.2 k a b d) := by
  have hn := h.2.2.2.2.2.1.1.1
  have hF := h.1
  have hown : ¬ (¬ mk F d ∨ 0 ≤ of9 (cn d)) ↔ own F od d := by
    unfold own
    by_cases hm : mk F d
    · obtain ⟨j, hj, hdj⟩ := mk_nat (by omega) hm
      have hc : cn d = j := by rw [hdj, cn_nI (by omega)]
      have h2 := gi_of h hj
      rw [hc]
      constructor
      · intro z
        exact ⟨hm, (h2.mp (Int32.not_le.mp (fun y => z (Or.inr y)))).2⟩
      · intro z y
        rcases y with y | y
        · exact y hm
        · exact absurd (h2.mpr ⟨hj, z.2⟩) (Int32.not_lt.mpr y)
    · exact ⟨fun z => absurd (Or.inl hm) z, fun z => absurd z.1 hm⟩
  unfold okM sndE
  rw [hown]
  constructor
  · intro ⟨a1, a2, a3, a4, a5, a6, a7, a8⟩
    exact ⟨by omega, fun z => a3 z.1, a4, a2, a5, a6, a7, fun _ _ _ _ => a1⟩
  · intro ⟨hl, a3, a4, a2, a5, a6, a7, a1⟩
    have m12 : mk 12 k := by
      by_cases k1 : k = 1
      · rw [k1]; exact ⟨by decide, by decide⟩
      · by_cases k6 : k = 6
        · rw [k6]; exact ⟨by decide, by decide⟩
        · by_cases k10 : k = 10
          · rw [k10]; exact ⟨by decide, by decide⟩
          · by_cases k11 : k = 11
            · rw [k11]; exact ⟨by decide, by decide⟩
            · exact a1 k1 k6 k10 k11
    exact ⟨m12, a2, fun z => a3 ⟨z, mk12_11 m12⟩, a4, a5, a6, a7, by omega⟩
/-- an expression more -/
theorem ex_add_ok (hF : F ≤ 8) (hX : ex_ok X) (hn : X.2.2.2.2 < 80) {k a b d : Int32} (hs : sndE F od X.2.2.2.2 k a b d) : ex_ok (ex_add X k a b d) := by
  have key : ∃ j, j ≤ 11 ∧ k = nI j ∧ (2 ≤ j → ∃ v, v < X.2.2.2.2 ∧ a = nI v) ∧ (px_R j → ∃ v, v < X.2.2.2.2 ∧ b = nI v) ∧ (j = 1 → ∃ v, v < 6 ∧ a = nI v) ∧ (j = 6 → ∃ v, v ≤ 3 ∧ b = nI v) ∧ (j = 10 → ∃ v, v < 2 ∧ b = nI v) ∧ (j = 11 → ∃ c, c < 8 ∧ d = nI c) := by
    unfold px_R
    rcases snd_nat (by omega) hF hs with ⟨j, hj, e1, e2⟩ | ⟨j, v, hj, e1, e2, e3, e4⟩ | ⟨v, u, e1, e2, e3, e4, e5⟩ | ⟨j, v, u, hj, e1, e2, e3, e4, e5⟩ | ⟨v, u, z, e1, e2, e3, e4, e5, e6, e7, e8⟩
    · exact ⟨j, by clear e2; omega, e1, fun z => by clear e2; omega, fun z => by clear e2; omega, e2, fun z => by clear e2; omega, fun z => by clear e2; omega, fun z => by clear e2; omega⟩
    · exact ⟨j, by clear e4; omega, e1, fun _ => ⟨v, e2, e3⟩, fun z => by clear e4; omega, fun z => by clear e4; omega, fun z => by clear e4; omega, e4, fun z => by clear e4; omega⟩
    · exact ⟨6, by omega, e1, fun _ => ⟨v, e2, e3⟩, fun z => by omega, fun z => by omega, fun _ => ⟨u, e4, e5⟩, fun z => by omega, fun z => by omega⟩
    · exact ⟨j, by omega, e1, fun _ => ⟨v, e2, e3⟩, fun _ => ⟨u, e4, e5⟩, fun z => by omega, fun z => by omega, fun z => by omega, fun z => by omega⟩
    · exact ⟨11, by omega, e1, fun _ => ⟨v, e2, e3⟩, fun _ => ⟨u, e4, e5⟩, fun z => by omega, fun z => by omega, fun z => by omega, fun _ => ⟨z, by omega, e7⟩⟩
  refine ⟨hn, fun e he => ?_⟩
  show ∃ q, q ≤ 11 ∧ upd X.1 X.2.2.2.2 k e = nI q ∧ (2 ≤ q → ∃ v, v < e ∧ upd X.2.1 X.2.2.2.2 a e = nI v) ∧ (px_R q → ∃ v, v < e ∧ upd X.2.2.1 X.2.2.2.2 b e = nI v) ∧ (q = 1 → ∃ v, v < 6 ∧ upd X.2.1 X.2.2.2.2 a e = nI v) ∧ (q = 6 → ∃ v, v ≤ 3 ∧ upd X.2.2.1 X.2.2.2.2 b e = nI v) ∧ (q = 10 → ∃ v, v < 2 ∧ upd X.2.2.1 X.2.2.2.2 b e = nI v) ∧ (q = 11 → ∃ c, c < 8 ∧ upd X.2.2.2.1 X.2.2.2.2 d e = nI c)
  have he' : e < X.2.2.2.2 + 1 := he
  by_cases e1 : e = X.2.2.2.2
  · subst e1
    rw [pk_us, pk_us, pk_us, pk_us]
    exact key
  · rw [pk_un e1, pk_un e1, pk_un e1, pk_un e1]
    exact hX.2 e (by omega)
theorem cE_add (hX : ex_ok X) (hE : cEq X C) (k a b d : Int32) (hX2 : ex_ok (ex_add X k a b d)) : cEq (ex_add X k a b d) (cs_ne C X.2.2.2.2 k a b d) := by
  intro e he
  have he' : e < X.2.2.2.2 + 1 := he
  have hL := fun h => ex_L hX2 he h
  have hR := fun h => ex_R hX2 he h
  have c1 : ∀ x, x < X.2.2.2.2 → (cs_ne C X.2.2.2.2 k a b d).1 x = C.1 x := fun x hx => va_up_ne _ _ (by omega)
  have c2 : ∀ x i, x < X.2.2.2.2 → i < 8 → (cs_ne C X.2.2.2.2 k a b d).2.1 (x * 8 + i) = C.2.1 (x * 8 + i) := fun x i hx hi => if_neg (by omega)
  by_cases e1 : e = X.2.2.2.2
  · subst e1
    have k1 : (ex_add X k a b d).1 X.2.2.2.2 = k := pk_us
    have k2 : (ex_add X k a b d).2.1 X.2.2.2.2 = a := pk_us
    have k3 : (ex_add X k a b d).2.2.1 X.2.2.2.2 = b := pk_us
    have k4 : (ex_add X k a b d).2.2.2.1 X.2.2.2.2 = d := pk_us
    rw [k1, k2] at hL
    rw [k1, k3] at hR
    have m1 : (cs_ne C X.2.2.2.2 k a b d).1 X.2.2.2.2 = min 1000 (1 + fac (cn k) (cn b) * ((if 2 ≤ cn k then C.1 (cn a) else 0) + @ite _ (px_R (cn k)) (Classical.propDecidable _) (C.1 (cn b)) 0)) := va_up_self _ _ _
    have m2 : ∀ i, i < 8 → (cs_ne C X.2.2.2.2 k a b d).2.1 (X.2.2.2.2 * 8 + i) = min 1000 (fac (cn k) (cn b) * ((if 2 ≤ cn k then C.2.1 (cn a * 8 + i) else 0) + @ite _ (px_R (cn k)) (Classical.propDecidable _) (C.2.1 (cn b * 8 + i)) 0) + (if cn k = 11 ∧ i = cn d then 1 else 0)) := fun i hi => by
      unfold cs_ne cs_exp kf_up
      dsimp only
      rw [if_pos (by omega), show X.2.2.2.2 * 8 + i - X.2.2.2.2 * 8 = i by omega]; rfl
    unfold onL onR
    rw [k1, k2, k3, k4]
    refine ⟨?_, fun i hi => ?_⟩
    · rw [m1]
      by_cases h2 : 2 ≤ cn k <;> by_cases hr : px_R (cn k)
      · simp only [if_pos h2, if_pos hr]; rw [c1 _ (hL h2), c1 _ (hR hr)]
      · simp only [if_pos h2, if_neg hr]; rw [c1 _ (hL h2)]
      · simp only [if_neg h2, if_pos hr]; rw [c1 _ (hR hr)]
      · simp only [if_neg h2, if_neg hr]
    · rw [m2 i hi]
      by_cases h2 : 2 ≤ cn k <;> by_cases hr : px_R (cn k)
      · simp only [if_pos h2, if_pos hr]; rw [c2 _ i (hL h2) hi, c2 _ i (hR hr) hi]
      · simp only [if_pos h2, if_neg hr]; rw [c2 _ i (hL h2) hi]
      · simp only [if_neg h2, if_pos hr]; rw [c2 _ i (hR hr) hi]
      · simp only [if_neg h2, if_neg hr]
  · have hex : e < X.2.2.2.2 := by omega
    have k1 : (ex_add X k a b d).1 e = X.1 e := pk_un e1
    have k2 : (ex_add X k a b d).2.1 e = X.2.1 e := pk_un e1
    have k3 : (ex_add X k a b d).2.2.1 e = X.2.2.1 e := pk_un e1
    have k4 : (ex_add X k a b d).2.2.2.1 e = X.2.2.2.1 e := pk_un e1
    rw [k1, k2] at hL
    rw [k1, k3] at hR
    obtain ⟨q1, q2⟩ := hE e hex
    unfold onL onR at q1 q2 ⊢
    rw [k1, k2, k3, k4]
    refine ⟨?_, fun i hi => ?_⟩
    · rw [c1 e hex, q1]
      by_cases h2 : 2 ≤ cn (X.1 e) <;> by_cases hr : px_R (cn (X.1 e))
      · simp only [if_pos h2, if_pos hr]; have := hL h2; have := hR hr; rw [c1 _ (by omega), c1 _ (by omega)]
      · simp only [if_pos h2, if_neg hr]; have := hL h2; rw [c1 _ (by omega)]
      · simp only [if_neg h2, if_pos hr]; have := hR hr; rw [c1 _ (by omega)]
      · simp only [if_neg h2, if_neg hr]
    · rw [c2 e i hex hi, q2 i hi]
      by_cases h2 : 2 ≤ cn (X.1 e) <;> by_cases hr : px_R (cn (X.1 e))
      · simp only [if_pos h2, if_pos hr]; have := hL h2; have := hR hr; rw [c2 _ i (by omega) hi, c2 _ i (by omega) hi]
      · simp only [if_pos h2, if_neg hr]; have := hL h2; rw [c2 _ i (by omega) hi]
      · simp only [if_neg h2, if_pos hr]; have := hR hr; rw [c2 _ i (by omega) hi]
      · simp only [if_neg h2, if_neg hr]
theorem kv_cc {C2 : Cs} {p : Nat → Nat} {e : Nat} (h1 : C2.1 e = C.1 e) (h2 : ∀ i, i < 8 → C2.2.1 (e * 8 + i) = C.2.1 (e * 8 + i)) : kv C2 p e = kv C p e := by
  unfold kv; rw [h1, sm_e 8 (fun i hi => by rw [h2 i hi])]
theorem fV_cc {C2 : Cs} {p : Nat → Nat} {kd : Nat → Nat} {op : Nat → Int32} {m : Nat} (h : ∀ k, k < m → kd k ≤ 2 → C2.1 (cn (op k)) = C.1 (cn (op k)) ∧ ∀ i, i < 8 → C2.2.1 (cn (op k) * 8 + i) = C.2.1 (cn (op k) * 8 + i)) : fV C2 p kd op m = fV C p kd op m ∧ ∀ i, i < 8 → fN C2 kd op m i = fN C kd op m i := by
  unfold fV fN
  refine ⟨?_, fun i hi => ?_⟩
  · congr 1
    refine sm_e m (fun k hk => ?_)
    unfold ow
    by_cases h2 : kd k ≤ 2
    · rw [if_pos h2, if_pos h2, kv_cc (h k hk h2).1 (h k hk h2).2]
    · rw [if_neg h2, if_neg h2]
  · refine sm_e m (fun k hk => ?_)
    unfold nm
    by_cases h2 : kd k ≤ 2
    · rw [if_pos h2, if_pos h2, (h k hk h2).2 i hi]
    · rw [if_neg h2, if_neg h2]
theorem GI_exp (h : GI F ro so di od C X pd Bs of9 by9 sk sa sb sz) {k a b d : Int32} (hn : X.2.2.2.2 < 80) (hs : sndE F od X.2.2.2.2 k a b d) : GI F ro so di od (cs_ne C X.2.2.2.2 k a b d) (ex_add X k a b d) pd Bs of9 by9 sk sa sb sz := by
  obtain ⟨g1, g2, g3, g4, g5, g6, g7, g8, g9, g10, g11, g12, g13, g14⟩ := h
  obtain ⟨hX, hE, h1, h2, h3, h4⟩ := g6
  have hX2 := ex_add_ok g1 hX hn hs
  have hE2 := cE_add hX hE k a b d hX2
  have c1 : ∀ x, x < X.2.2.2.2 → (cs_ne C X.2.2.2.2 k a b d).1 x = C.1 x := fun x hx => va_up_ne _ _ (by omega)
  have c2 : ∀ x i, x < X.2.2.2.2 → i < 8 → (cs_ne C X.2.2.2.2 k a b d).2.1 (x * 8 + i) = C.2.1 (x * 8 + i) := fun x i hx hi => if_neg (by omega)
  have hfv : ∀ f, f < 8 → ob F od f → ∀ p, fV (cs_ne C X.2.2.2.2 k a b d) p (Bs f).1 (Bs f).2.2.1 (Bs f).2.2.2.2.2.2.1 = fV C p (Bs f).1 (Bs f).2.2.1 (Bs f).2.2.2.2.2.2.1 ∧ ∀ i, i < 8 → fN (cs_ne C X.2.2.2.2 k a b d) (Bs f).1 (Bs f).2.2.1 (Bs f).2.2.2.2.2.2.1 i = fN C (Bs f).1 (Bs f).2.2.1 (Bs f).2.2.2.2.2.2.1 i := fun f hf of p =>
    fV_cc (fun j hj h2 => by
      have := fn_op hX (h1 f hf of).1 hj h2
      exact ⟨c1 _ this, fun i hi => c2 _ i this hi⟩)
  refine ⟨g1, g2, g3, g4, g5, ⟨hX2, hE2, fun f hf of => ?_, h2, fun f hf of g hg => ?_, fun e he i hi hp => ?_⟩, g7, g8, g9, g10, fun i => ?_, fun i => ?_, g13, g14⟩
  · obtain ⟨hB, e1, e2⟩ := h1 f hf of
    refine ⟨⟨hB.1, ⟨hB.2.1.1, hB.2.1.2.1, fun i hi => ?_⟩, hB.2.2⟩, e1.trans ((hfv f hf of _).1).symm, e2⟩
    obtain ⟨q1, q2, q3, q4, q5⟩ := hB.2.1.2.2 i hi
    refine ⟨q1, q2, q3, fun z => ?_, q5⟩
    obtain ⟨e, he, hee⟩ := q4 z
    exact ⟨e, by show e < X.2.2.2.2 + 1; omega, hee⟩
  · have := h3 f hf of g hg
    refine this.trans ?_
    congr 1
    exact sm_e 8 (fun i hi => by rw [(hfv f hf of (fun _ => 0)).2 i hi]; rfl)
  · have he' : e < X.2.2.2.2 + 1 := he
    by_cases e1 : e = X.2.2.2.2
    · obtain ⟨z, z1, z2, z3, z4⟩ := (nm_Rx hX2 hE2 hi _ e he he).mp hp
      by_cases ez : z = X.2.2.2.2
      · subst ez
        have k1 : (ex_add X k a b d).1 X.2.2.2.2 = k := pk_us
        have k4 : (ex_add X k a b d).2.2.2.1 X.2.2.2.2 = d := pk_us
        rw [k1] at z3
        rw [k4] at z4
        rcases snd_nat (by omega) g1 hs with ⟨j, hj, q1, q2⟩ | ⟨j, v, hj, q1, q2, q3, q4⟩ | ⟨v, u, q1, q2, q3, q4, q5⟩ | ⟨j, v, u, hj, q1, q2, q3, q4, q5⟩ | ⟨v, u, z, q1, q2, q3, q4, q5, q6, q7, q8⟩
        · rw [q1, cn_nI (by omega)] at z3; omega
        · rw [q1, cn_nI (by omega)] at z3; omega
        · rw [q1, cn_nI (by omega)] at z3; omega
        · rw [q1, cn_nI (by omega)] at z3; omega
        · rw [q7, cn_nI (by omega)] at z4
          rw [← z4]; exact ⟨q6, q8⟩
      · have z1' : z < X.2.2.2.2 + 1 := z1
        have hz : z < X.2.2.2.2 := by omega
        have hz1 : 0 < C.2.1 (z * 8 + i) := by
          have : 0 < (cs_ne C X.2.2.2.2 k a b d).2.1 (z * 8 + i) := (nm_Rx hX2 hE2 hi _ z z1 z1).mpr ⟨z, z1, fun R a _ _ => a z rfl, z3, z4⟩
          rw [c2 z i hz hi] at this; exact this
        exact h4 z hz i hi hz1
    · rw [c2 e i (by omega) hi] at hp; exact h4 e (by omega) i hi hp
  · unfold cs_ne cs_exp va_up
    dsimp only
    split
    · omega
    · exact g11 i
  · unfold cs_ne cs_exp kf_up
    dsimp only
    split
    · omega
    · exact g12 i
end GI
