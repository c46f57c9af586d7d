def bp (R : Nat → Prop) (j : Nat) (P : Prop) : Nat → Prop := fun z => if z = j then P else R z
theorem gm_bp1 {R : Nat → Prop} {j : Nat} : upd (fun z => gb (R z)) j (vp_nar .boolean 1) = fun z => gb (bp R j True z) := by
  funext z
  unfold upd bp
  by_cases h : z = j
  · rw [if_pos h, if_pos h]; exact (show vp_nar .boolean 1 = 1 by decide).trans (gb_t trivial)
  · rw [if_neg h, if_neg h]
theorem gm_bp0 {R : Nat → Prop} {j : Nat} : upd (fun z => gb (R z)) j (vp_nar .boolean 0) = fun z => gb (bp R j False z) := by
  funext z
  unfold upd bp
  by_cases h : z = j
  · rw [if_pos h, if_pos h]; exact (show vp_nar .boolean 0 = 0 by decide).trans (gb_f (fun z => z))
  · rw [if_neg h, if_neg h]
theorem bp_t {R : Nat → Prop} {j z : Nat} : bp R j True z ↔ R z ∨ z = j := by
  unfold bp; split
  · exact ⟨fun _ => Or.inr ‹_›, fun _ => trivial⟩
  · exact ⟨Or.inl, fun h => h.elim id (fun h => absurd h ‹_›)⟩
theorem bp_f {R : Nat → Prop} {j z : Nat} : bp R j False z ↔ R z ∧ ¬ z = j := by
  unfold bp; split
  · exact ⟨False.elim, fun h => h.2 ‹_›⟩
  · exact ⟨fun h => ⟨h, ‹_›⟩, fun h => h.1⟩
theorem gm_R {k : Nat} (hk : k ≤ 11) : (nI k = 2 ∨ nI k = 3 ∨ nI k = 4 ∨ nI k = 8 ∨ nI k = 9 ∨ nI k = 11) ↔ px_R k := by
  unfold px_R
  have q : ∀ (c : Nat), c < 2 ^ 31 → (nI k = nI c ↔ k = c) := fun c hc => nI_eq (by omega) hc
  rw [show (nI k = 2 ↔ k = 2) from q 2 (by decide), show (nI k = 3 ↔ k = 3) from q 3 (by decide), show (nI k = 4 ↔ k = 4) from q 4 (by decide), show (nI k = 8 ↔ k = 8) from q 8 (by decide), show (nI k = 9 ↔ k = 9) from q 9 (by decide), show (nI k = 11 ↔ k = 11) from q 11 (by decide)]
/-- reached over operands -/
def Rx (X : Ex) (S : Nat → Prop) (e : Nat) : Prop := ∀ R : Nat → Prop, (∀ z, S z → R z) → (∀ z, z < X.2.2.2.2 → R z → 2 ≤ cn (X.1 z) → R (cn (X.2.1 z))) → (∀ z, z < X.2.2.2.2 → R z → px_R (cn (X.1 z)) → R (cn (X.2.2.1 z))) → R e
def Us (sk : Nat → Nat) (sb : Nat → Int32) (f s : Nat) (e : Nat) : Prop := ∃ k, k < s ∧ sk (12 * f + k) ≤ 2 ∧ cn (sb (12 * f + k)) = e
/-- calls directly -/
def Dr (X : Ex) (sk : Nat → Nat) (sb : Nat → Int32) (sz : Nat → Nat) (f z : Nat) : Prop := ∃ e, e < X.2.2.2.2 ∧ Rx X (Us sk sb f (sz f)) e ∧ cn (X.1 e) = 11 ∧ cn (X.2.2.2.1 e) = z
def DI (X : Ex) (S Q0 : Nat → Prop) (i : Nat) (R Q : Nat → Prop) : Prop := (∀ z, R z → Rx X S z) ∧ (∀ z, S z → R z) ∧ (∀ z, i ≤ z → z < X.2.2.2.2 → R z → (2 ≤ cn (X.1 z) → R (cn (X.2.1 z))) ∧ (px_R (cn (X.1 z)) → R (cn (X.2.2.1 z)))) ∧ ∀ z, Q z ↔ Q0 z ∨ ∃ e, i ≤ e ∧ e < X.2.2.2.2 ∧ R e ∧ cn (X.1 e) = 11 ∧ cn (X.2.2.2.1 e) = z
theorem px_R2 {k : Nat} (h : px_R k) : 2 ≤ k := by unfold px_R at h; omega
theorem di_skip {X : Ex} {S Q0 R Q : Nat → Prop} {j : Nat} (h : DI X S Q0 (j + 1) R Q) (hj : R j → cn (X.1 j) < 2) : DI X S Q0 j R Q := by
  obtain ⟨h1, h2, h3, h4⟩ := h
  refine ⟨h1, h2, fun z hz hn hr => ?_, fun z => ?_⟩
  · rcases Nat.eq_or_lt_of_le hz with rfl | hz
    · have := hj hr; exact ⟨fun y => absurd y (by omega), fun y => absurd (px_R2 y) (by omega)⟩
    · exact h3 z hz hn hr
  · rw [h4]
    constructor
    · rintro (h | ⟨e, a, b⟩)
      · exact Or.inl h
      · exact Or.inr ⟨e, by omega, b⟩
    · rintro (h | ⟨e, a, b, c, d⟩)
      · exact Or.inl h
      · rcases Nat.eq_or_lt_of_le a with rfl | a
        · have := hj c; exact absurd d.1 (by omega)
        · exact Or.inr ⟨e, a, b, c, d⟩
theorem di_step {X : Ex} {S Q0 R Q R' Q' : Nat → Prop} {j : Nat} (h : DI X S Q0 (j + 1) R Q) (hn : j < X.2.2.2.2) (hr : R j) (h2k : 2 ≤ cn (X.1 j)) (ha : cn (X.2.1 j) < j) (hb : px_R (cn (X.1 j)) → cn (X.2.2.1 j) < j)
    (hR : ∀ z, R' z ↔ R z ∨ z = cn (X.2.1 j) ∨ (px_R (cn (X.1 j)) ∧ z = cn (X.2.2.1 j))) (hQ : ∀ z, Q' z ↔ Q z ∨ (cn (X.1 j) = 11 ∧ z = cn (X.2.2.2.1 j))) : DI X S Q0 j R' Q' := by
  obtain ⟨h1, h2, h3, h4⟩ := h
  have hge : ∀ z, j ≤ z → (R' z ↔ R z) := fun z hz => by
    rw [hR]
    constructor
    · rintro (y | y | y)
      · exact y
      · omega
      · have := hb y.1; omega
    · exact Or.inl
  refine ⟨fun z hz => ?_, fun z hz => (hR z).mpr (Or.inl (h2 z hz)), fun z hz hzn hrz => ?_, fun z => ?_⟩
  · rcases (hR z).mp hz with y | y | y
    · exact h1 z y
    · intro T t1 t2 t3; rw [y]; exact t2 j hn (h1 j hr T t1 t2 t3) h2k
    · intro T t1 t2 t3; rw [y.2]; exact t3 j hn (h1 j hr T t1 t2 t3) y.1
  · rcases Nat.eq_or_lt_of_le hz with rfl | hz2
    · exact ⟨fun _ => (hR _).mpr (Or.inr (Or.inl rfl)), fun y => (hR _).mpr (Or.inr (Or.inr ⟨y, rfl⟩))⟩
    · have := h3 z hz2 hzn ((hge z hz).mp hrz)
      exact ⟨fun y => (hR _).mpr (Or.inl (this.1 y)), fun y => (hR _).mpr (Or.inl (this.2 y))⟩
  · rw [hQ, h4]
    constructor
    · rintro ((y | ⟨e, a, b, c, d⟩) | y)
      · exact Or.inl y
      · exact Or.inr ⟨e, by omega, b, (hge e (by omega)).mpr c, d⟩
      · exact Or.inr ⟨j, Nat.le_refl _, hn, (hge j (Nat.le_refl _)).mpr hr, y.1, y.2.symm⟩
    · rintro (y | ⟨e, a, b, c, d⟩)
      · exact Or.inl (Or.inl y)
      · rcases Nat.eq_or_lt_of_le a with rfl | a2
        · exact Or.inr ⟨d.1, d.2.symm⟩
        · exact Or.inl (Or.inr ⟨e, a2, b, (hge e a).mp c, d⟩)
theorem di_end {X : Ex} {S Q0 R Q : Nat → Prop} (h : DI X S Q0 0 R Q) : (fun z => gb (Q z)) = (fun z => gb (Q0 z ∨ ∃ e, e < X.2.2.2.2 ∧ Rx X S e ∧ cn (X.1 e) = 11 ∧ cn (X.2.2.2.1 e) = z)) := by
  obtain ⟨h1, h2, h3, h4⟩ := h
  funext z
  refine gb_e ((h4 z).trans ⟨?_, ?_⟩)
  · rintro (y | ⟨e, a, b, c, d⟩)
    · exact Or.inl y
    · exact Or.inr ⟨e, b, h1 e c, d⟩
  · rintro (y | ⟨e, b, c, d⟩)
    · exact Or.inl y
    · exact Or.inr ⟨e, Nat.zero_le _, b, c R h2 (fun z zn r y => (h3 z (Nat.zero_le _) zn r).1 y) (fun z zn r y => (h3 z (Nat.zero_le _) zn r).2 y), d⟩
theorem di_beg {X : Ex} {S Q0 R : Nat → Prop} (h : ∀ z, R z ↔ S z) : DI X S Q0 X.2.2.2.2 R Q0 := by
  refine ⟨fun z hz T t1 _ _ => t1 z ((h z).mp hz), fun z hz => (h z).mpr hz, fun z h1 h2 => absurd h2 (by omega), fun z => ⟨Or.inl, fun y => y.elim id (fun ⟨e, a, b, _⟩ => absurd b (by omega))⟩⟩
theorem us_lt {sk : Nat → Nat} {sb : Nat → Int32} {f s n : Nat} {z : Nat} (hn : n ≤ 80) (h : ∀ k, k < s → sk (12 * f + k) ≤ 2 → ∃ e, e < n ∧ sb (12 * f + k) = nI e) (hz : Us sk sb f s z) : z < 80 := by
  obtain ⟨k, h1, h2, h3⟩ := hz
  obtain ⟨e, he, h4⟩ := h k h1 h2
  rw [h4, cn_nI (by omega)] at h3
  omega
/-- marks at 80 and beyond don't count -/
def DJ (X : Ex) (S Q0 : Nat → Prop) (i : Nat) (R Q : Nat → Prop) : Prop := DI X S Q0 i (fun z => R z ∧ z < 80) Q
theorem di_beg2 {X : Ex} {S Q0 R : Nat → Prop} (hn : X.2.2.2.2 ≤ 80) (h : ∀ z, z < 80 → (R z ↔ S z)) (hS : ∀ z, S z → z < 80) : DJ X S Q0 X.2.2.2.2 R Q0 :=
  di_beg (fun z => ⟨fun y => (h z y.2).mp y.1, fun y => ⟨(h z (hS z y)).mpr y, hS z y⟩⟩)
theorem dj_skip {X : Ex} {S Q0 R Q : Nat → Prop} {j : Nat} (h : DJ X S Q0 (j + 1) R Q) (hj : R j → cn (X.1 j) < 2) : DJ X S Q0 j R Q := di_skip h (fun y => hj y.1)
theorem dj_step {X : Ex} {S Q0 R Q R' Q' : Nat → Prop} {j : Nat} (hX : X.2.2.2.2 ≤ 80) (h : DJ X S Q0 (j + 1) R Q) (hn : j < X.2.2.2.2) (hr : R j) (h2k : 2 ≤ cn (X.1 j)) (ha : cn (X.2.1 j) < j) (hb : px_R (cn (X.1 j)) → cn (X.2.2.1 j) < j)
    (hR : ∀ z, R' z ↔ R z ∨ z = cn (X.2.1 j) ∨ (px_R (cn (X.1 j)) ∧ z = cn (X.2.2.1 j))) (hQ : ∀ z, Q' z ↔ Q z ∨ (cn (X.1 j) = 11 ∧ z = cn (X.2.2.2.1 j))) : DJ X S Q0 j R' Q' := by
  refine di_step (R' := fun z => R' z ∧ z < 80) h hn ⟨hr, by omega⟩ h2k ha hb (fun z => ?_) hQ
  rw [hR]
  constructor
  · rintro ⟨y | y | y, yz⟩
    · exact Or.inl ⟨y, yz⟩
    · exact Or.inr (Or.inl y)
    · exact Or.inr (Or.inr y)
  · rintro (y | y | y)
    · exact ⟨Or.inl y.1, y.2⟩
    · exact ⟨Or.inr (Or.inl y), by omega⟩
    · have := hb y.1; exact ⟨Or.inr (Or.inr y), by omega⟩
set_option maxHeartbeats 4000000 in
set_option maxRecDepth 100000 in
theorem c_M_direct (l : Launch) (D : va_G) (cI cJ cB cZ : ClassId) (mo : Nat) (mq : Nat → Nat) (F dp : Nat) (X : Ex) (sk : Nat → Nat) (sb9 : Nat → Int32) (sz : Nat → Nat) (R0 Q0 : Nat → Prop) (f : Nat) (hf : f < 8) (hX : ex_ok X) (hsz : ∀ i, sz i ≤ 12) (hsk : ∀ i, sk i ≤ 5) (hsb : ∀ f k, f < 8 → k < sz f → sk (12 * f + k) ≤ 2 → ∃ e, e < X.2.2.2.2 ∧ sb9 (12 * f + k) = nI e) : ct_V l y_M_direct w_M_direct ({ frames := 1, cells := 0, slots := 0, locals := 20 }) D (gk_T cI cJ cB cZ) [.ref mo, .int (nI f)] [(mo, .inr (6, [.ref (mq 0), .ref (mq 1), .ref (mq 2), .ref (mq 3), .int (nI X.2.2.2.2), .ref (mq 5), .ref (mq 6), .int (nI F), .ref (mq 8), .ref (mq 9), .ref (mq 10), .ref (mq 11), .ref (mq 12), .ref (mq 13), .ref (mq 14), .ref (mq 15), .ref (mq 16), .ref (mq 17), .ref (mq 18), .ref (mq 19), .ref (mq 20), .ref (mq 21), .ref (mq 22), .int (nI dp)])), ((mq 8), .inl (cI, 96, .inl (fun z9 => nI (sk z9)))), ((mq 10), .inl (cI, 96, .inl sb9)), ((mq 11), .inl (cI, 8, .inl (fun z9 => nI (sz z9)))), ((mq 0), .inl (cI, 80, .inl X.1)), ((mq 1), .inl (cI, 80, .inl X.2.1)), ((mq 2), .inl (cI, 80, .inl X.2.2.1)), ((mq 3), .inl (cI, 80, .inl X.2.2.2.1)), ((mq 14), .inl (cZ, 80, .inl (fun z9 => gb (R0 z9)))), ((mq 15), .inl (cZ, 8, .inl (fun z9 => gb (Q0 z9))))] (0) (0) (fun w => ∃ R : Nat → Prop, w = [(mo, .inr (6, [.ref (mq 0), .ref (mq 1), .ref (mq 2), .ref (mq 3), .int (nI X.2.2.2.2), .ref (mq 5), .ref (mq 6), .int (nI F), .ref (mq 8), .ref (mq 9), .ref (mq 10), .ref (mq 11), .ref (mq 12), .ref (mq 13), .ref (mq 14), .ref (mq 15), .ref (mq 16), .ref (mq 17), .ref (mq 18), .ref (mq 19), .ref (mq 20), .ref (mq 21), .ref (mq 22), .int (nI dp)])), ((mq 8), .inl (cI, 96, .inl (fun z9 => nI (sk z9)))), ((mq 10), .inl (cI, 96, .inl sb9)), ((mq 11), .inl (cI, 8, .inl (fun z9 => nI (sz z9)))), ((mq 0), .inl (cI, 80, .inl X.1)), ((mq 1), .inl (cI, 80, .inl X.2.1)), ((mq 2), .inl (cI, 80, .inl X.2.2.1)), ((mq 3), .inl (cI, 80, .inl X.2.2.2.1)), ((mq 14), .inl (cZ, 80, .inl (fun z9 => gb (R z9)))), ((mq 15), .inl (cZ, 8, .inl (fun z9 => gb ((fun z => Q0 z ∨ Dr X sk sb9 sz f z) z9))))]) := by
  intro sz
  refine Met.ofW (cc := b_M_direct) (maxL := 3) (ret := none) (by decide) rfl ?_
  intro p ev9 s m args below meth c s₁ B9 hml hv
  obtain ⟨rfl, hsz, hP, hK, hN, hD0⟩ := hv
  have hx := B9.exec
  have hb := B9.bytes
  have hr := B9.returns
  have hts := atoms_spec (ws := w_M_direct) B9.pre
  have ht : ∀ w ∈ gk_big, w.before _ s = true := fun w h => hts w (List.mem_cons_of_mem _ h)
  have hown : s.vm.findClass R_M = some m.cls := findClass_of_methodNamed B9.named
  have hlocks := B9.notSynchronized
  subst hsz
  have hD := hD0.self (sz := s.heap.size)
  generalize hAe : va_A [(mo, .inr (6, [.ref (mq 0), .ref (mq 1), .ref (mq 2), .ref (mq 3), .int (nI X.2.2.2.2), .ref (mq 5), .ref (mq 6), .int (nI F), .ref (mq 8), .ref (mq 9), .ref (mq 10), .ref (mq 11), .ref (mq 12), .ref (mq 13), .ref (mq 14), .ref (mq 15), .ref (mq 16), .ref (mq 17), .ref (mq 18), .ref (mq 19), .ref (mq 20), .ref (mq 21), .ref (mq 22), .int (nI dp)])), ((mq 8), .inl (cI, 96, .inl (fun z9 => nI (sk z9)))), ((mq 10), .inl (cI, 96, .inl sb9)), ((mq 11), .inl (cI, 8, .inl (fun z9 => nI (sz z9)))), ((mq 0), .inl (cI, 80, .inl X.1)), ((mq 1), .inl (cI, 80, .inl X.2.1)), ((mq 2), .inl (cI, 80, .inl X.2.2.1)), ((mq 3), .inl (cI, 80, .inl X.2.2.2.1)), ((mq 14), .inl (cZ, 80, .inl (fun z9 => gb (R0 z9)))), ((mq 15), .inl (cZ, 8, .inl (fun z9 => gb (Q0 z9))))] s.heap.size = A at hD ⊢
  have hA : ∀ q : Nat, s.heap.size ≤ q → A q := fun q h => by rw [← hAe]; exact Or.inr h
  generalize hHe : s.heap = H at hP ⊢
  have hS : va_S A s.heap H [] := by rw [← hHe]; exact va_S.rf
  have hP : va_P D vwCl [(mo, .inr (6, [.ref (mq 0), .ref (mq 1), .ref (mq 2), .ref (mq 3), .int (nI X.2.2.2.2), .ref (mq 5), .ref (mq 6), .int (nI F), .ref (mq 8), .ref (mq 9), .ref (mq 10), .ref (mq 11), .ref (mq 12), .ref (mq 13), .ref (mq 14), .ref (mq 15), .ref (mq 16), .ref (mq 17), .ref (mq 18), .ref (mq 19), .ref (mq 20), .ref (mq 21), .ref (mq 22), .int (nI dp)])), ((mq 8), .inl (cI, 96, .inl (fun z9 => nI (sk z9)))), ((mq 10), .inl (cI, 96, .inl sb9)), ((mq 11), .inl (cI, 8, .inl (fun z9 => nI (sz z9)))), ((mq 0), .inl (cI, 80, .inl X.1)), ((mq 1), .inl (cI, 80, .inl X.2.1)), ((mq 2), .inl (cI, 80, .inl X.2.2.1)), ((mq 3), .inl (cI, 80, .inl X.2.2.2.1)), ((mq 14), .inl (cZ, 80, .inl (fun z9 => gb (R0 z9)))), ((mq 15), .inl (cZ, 8, .inl (fun z9 => gb (Q0 z9))))] H := hP
  have hD : va_D A [(mo, .inr (6, [.ref (mq 0), .ref (mq 1), .ref (mq 2), .ref (mq 3), .int (nI X.2.2.2.2), .ref (mq 5), .ref (mq 6), .int (nI F), .ref (mq 8), .ref (mq 9), .ref (mq 10), .ref (mq 11), .ref (mq 12), .ref (mq 13), .ref (mq 14), .ref (mq 15), .ref (mq 16), .ref (mq 17), .ref (mq 18), .ref (mq 19), .ref (mq 20), .ref (mq 21), .ref (mq 22), .int (nI dp)])), ((mq 8), .inl (cI, 96, .inl (fun z9 => nI (sk z9)))), ((mq 10), .inl (cI, 96, .inl sb9)), ((mq 11), .inl (cI, 8, .inl (fun z9 => nI (sz z9)))), ((mq 0), .inl (cI, 80, .inl X.1)), ((mq 1), .inl (cI, 80, .inl X.2.1)), ((mq 2), .inl (cI, 80, .inl X.2.2.1)), ((mq 3), .inl (cI, 80, .inl X.2.2.2.1)), ((mq 14), .inl (cZ, 80, .inl (fun z9 => gb (R0 z9)))), ((mq 15), .inl (cZ, 8, .inl (fun z9 => gb (Q0 z9))))] := hD
  have hl := lv_entry ([.ref mo, .int (nI f)]) (n := 3) (Nat.le_of_ble_eq_true rfl)
  rw [lg_entry_eq]
  generalize (lg_sl ([.ref mo, .int (nI f)]) ++ List.replicate (3 - (lg_sl ([.ref mo, .int (nI f)])).length) Slot.unset).toArray = ls at hl ⊢
  have hl : lv_has ls 3 [(0, .ref mo), (1, .int (nI f))] := hl
  have hszf := hsz f
  have hn80 := hX.1
  refine lv_iconst (v := 0) hx hb dM_direct_0 (by decide) ?_
  refine lv_istore_n (lv' := [(2, .int 0), (0, .ref mo), (1, .int (nI f))]) hx hb dM_direct_1 rfl hl (by decide) rfl (fun ls hl => ?_)
  have lp2 : ∀ (n2 : Nat) (i : Nat) (R : Nat → Prop), 80 - i + 1 ≤ n2 → (i ≤ 80) → (∀ z, z < i → ¬ R z) → ∀ (H : Heap) (locs : List Loc) (ls : Array Slot), va_P D vwCl [(mo, .inr (6, [.ref (mq 0), .ref (mq 1), .ref (mq 2), .ref (mq 3), .int (nI X.2.2.2.2), .ref (mq 5), .ref (mq 6), .int (nI F), .ref (mq 8), .ref (mq 9), .ref (mq 10), .ref (mq 11), .ref (mq 12), .ref (mq 13), .ref (mq 14), .ref (mq 15), .ref (mq 16), .ref (mq 17), .ref (mq 18), .ref (mq 19), .ref (mq 20), .ref (mq 21), .ref (mq 22), .int (nI dp)])), ((mq 8), .inl (cI, 96, .inl (fun z9 => nI (sk z9)))), ((mq 10), .inl (cI, 96, .inl sb9)), ((mq 11), .inl (cI, 8, .inl (fun z9 => nI (sz z9)))), ((mq 0), .inl (cI, 80, .inl X.1)), ((mq 1), .inl (cI, 80, .inl X.2.1)), ((mq 2), .inl (cI, 80, .inl X.2.2.1)), ((mq 3), .inl (cI, 80, .inl X.2.2.2.1)), ((mq 14), .inl (cZ, 80, .inl (fun z9 => gb (R z9)))), ((mq 15), .inl (cZ, 8, .inl (fun z9 => gb (Q0 z9))))] H → va_D A [(mo, .inr (6, [.ref (mq 0), .ref (mq 1), .ref (mq 2), .ref (mq 3), .int (nI X.2.2.2.2), .ref (mq 5), .ref (mq 6), .int (nI F), .ref (mq 8), .ref (mq 9), .ref (mq 10), .ref (mq 11), .ref (mq 12), .ref (mq 13), .ref (mq 14), .ref (mq 15), .ref (mq 16), .ref (mq 17), .ref (mq 18), .ref (mq 19), .ref (mq 20), .ref (mq 21), .ref (mq 22), .int (nI dp)])), ((mq 8), .inl (cI, 96, .inl (fun z9 => nI (sk z9)))), ((mq 10), .inl (cI, 96, .inl sb9)), ((mq 11), .inl (cI, 8, .inl (fun z9 => nI (sz z9)))), ((mq 0), .inl (cI, 80, .inl X.1)), ((mq 1), .inl (cI, 80, .inl X.2.1)), ((mq 2), .inl (cI, 80, .inl X.2.2.1)), ((mq 3), .inl (cI, 80, .inl X.2.2.2.1)), ((mq 14), .inl (cZ, 80, .inl (fun z9 => gb (R z9)))), ((mq 15), .inl (cZ, 8, .inl (fun z9 => gb (Q0 z9))))] → va_S A s.heap H locs → lv_has ls 3 [(2, .int (nI i)), (0, .ref mo), (1, .int (nI f))] → W p l ev9 (headSpec w_M_direct ({ frames := 1, cells := 0, slots := 0, locals := 20 })).room s m ([.ref mo, .int (nI f)] : List Value).toArray below meth c H locs 0 0 (MQ below (gq_V D A (fun w => ∃ R : Nat → Prop, w = [(mo, .inr (6, [.ref (mq 0), .ref (mq 1), .ref (mq 2), .ref (mq 3), .int (nI X.2.2.2.2), .ref (mq 5), .ref (mq 6), .int (nI F), .ref (mq 8), .ref (mq 9), .ref (mq 10), .ref (mq 11), .ref (mq 12), .ref (mq 13), .ref (mq 14), .ref (mq 15), .ref (mq 16), .ref (mq 17), .ref (mq 18), .ref (mq 19), .ref (mq 20), .ref (mq 21), .ref (mq 22), .int (nI dp)])), ((mq 8), .inl (cI, 96, .inl (fun z9 => nI (sk z9)))), ((mq 10), .inl (cI, 96, .inl sb9)), ((mq 11), .inl (cI, 8, .inl (fun z9 => nI (sz z9)))), ((mq 0), .inl (cI, 80, .inl X.1)), ((mq 1), .inl (cI, 80, .inl X.2.1)), ((mq 2), .inl (cI, 80, .inl X.2.2.1)), ((mq 3), .inl (cI, 80, .inl X.2.2.2.1)), ((mq 14), .inl (cZ, 80, .inl (fun z9 => gb (R z9)))), ((mq 15), .inl (cZ, 8, .inl (fun z9 => gb ((fun z => Q0 z ∨ Dr X sk sb9 sz f z) z9))))])) ([.ref mo, .int (nI f)] : List Value).toArray s (0) (0) A) (F0 m 2 ls []) := by
    intro n2
    induction n2 with
    | zero =>
      intro i R hm2
      exact absurd hm2 (by omega)
    | succ n2 ih2 =>
      intro i R hm2 hi hR H locs ls hP hD hS hl
      refine lv_iload_n hx hb dM_direct_2 rfl (lv_at hl 0 rfl) ?_
      refine lv_bipush (v := 80) hx hb dM_direct_3 (by decide) ?_
      refine lv_icmp_ge (tgt := 21) hx hb dM_direct_5 (by decide) (fun c5 => ?_) (fun c5 => ?_)
      · have g5 : 80 ≤ i := (gx_le (rfl : (80 : Int32) = nI 80) (rfl : (nI i) = (nI i)) (by decide) (by omega)).mp c5
        refine lv_iconst (v := 0) hx hb dM_direct_21 (by decide) ?_
        refine lv_istore_n (lv' := [(2, .int 0), (0, .ref mo), (1, .int (nI f))]) hx hb dM_direct_22 rfl hl (by decide) rfl (fun ls hl => ?_)
        have lp23 : ∀ (n23 : Nat) (k : Nat) (R2 : Nat → Prop), sz f - k + 1 ≤ n23 → (k ≤ sz f) → (∀ z, z < 80 → (R2 z ↔ Us sk sb9 f k z)) → ∀ (H : Heap) (locs : List Loc) (ls : Array Slot), va_P D vwCl [(mo, .inr (6, [.ref (mq 0), .ref (mq 1), .ref (mq 2), .ref (mq 3), .int (nI X.2.2.2.2), .ref (mq 5), .ref (mq 6), .int (nI F), .ref (mq 8), .ref (mq 9), .ref (mq 10), .ref (mq 11), .ref (mq 12), .ref (mq 13), .ref (mq 14), .ref (mq 15), .ref (mq 16), .ref (mq 17), .ref (mq 18), .ref (mq 19), .ref (mq 20), .ref (mq 21), .ref (mq 22), .int (nI dp)])), ((mq 8), .inl (cI, 96, .inl (fun z9 => nI (sk z9)))), ((mq 10), .inl (cI, 96, .inl sb9)), ((mq 11), .inl (cI, 8, .inl (fun z9 => nI (sz z9)))), ((mq 0), .inl (cI, 80, .inl X.1)), ((mq 1), .inl (cI, 80, .inl X.2.1)), ((mq 2), .inl (cI, 80, .inl X.2.2.1)), ((mq 3), .inl (cI, 80, .inl X.2.2.2.1)), ((mq 14), .inl (cZ, 80, .inl (fun z9 => gb (R2 z9)))), ((mq 15), .inl (cZ, 8, .inl (fun z9 => gb (Q0 z9))))] H → va_D A [(mo, .inr (6, [.ref (mq 0), .ref (mq 1), .ref (mq 2), .ref (mq 3), .int (nI X.2.2.2.2), .ref (mq 5), .ref (mq 6), .int (nI F), .ref (mq 8), .ref (mq 9), .ref (mq 10), .ref (mq 11), .ref (mq 12), .ref (mq 13), .ref (mq 14), .ref (mq 15), .ref (mq 16), .ref (mq 17), .ref (mq 18), .ref (mq 19), .ref (mq 20), .ref (mq 21), .ref (mq 22), .int (nI dp)])), ((mq 8), .inl (cI, 96, .inl (fun z9 => nI (sk z9)))), ((mq 10), .inl (cI, 96, .inl sb9)), ((mq 11), .inl (cI, 8, .inl (fun z9 => nI (sz z9)))), ((mq 0), .inl (cI, 80, .inl X.1)), ((mq 1), .inl (cI, 80, .inl X.2.1)), ((mq 2), .inl (cI, 80, .inl X.2.2.1)), ((mq 3), .inl (cI, 80, .inl X.2.2.2.1)), ((mq 14), .inl (cZ, 80, .inl (fun z9 => gb (R2 z9)))), ((mq 15), .inl (cZ, 8, .inl (fun z9 => gb (Q0 z9))))] → va_S A s.heap H locs → lv_has ls 3 [(2, .int (nI k)), (0, .ref mo), (1, .int (nI f))] → W p l ev9 (headSpec w_M_direct ({ frames := 1, cells := 0, slots := 0, locals := 20 })).room s m ([.ref mo, .int (nI f)] : List Value).toArray below meth c H locs 0 0 (MQ below (gq_V D A (fun w => ∃ R : Nat → Prop, w = [(mo, .inr (6, [.ref (mq 0), .ref (mq 1), .ref (mq 2), .ref (mq 3), .int (nI X.2.2.2.2), .ref (mq 5), .ref (mq 6), .int (nI F), .ref (mq 8), .ref (mq 9), .ref (mq 10), .ref (mq 11), .ref (mq 12), .ref (mq 13), .ref (mq 14), .ref (mq 15), .ref (mq 16), .ref (mq 17), .ref (mq 18), .ref (mq 19), .ref (mq 20), .ref (mq 21), .ref (mq 22), .int (nI dp)])), ((mq 8), .inl (cI, 96, .inl (fun z9 => nI (sk z9)))), ((mq 10), .inl (cI, 96, .inl sb9)), ((mq 11), .inl (cI, 8, .inl (fun z9 => nI (sz z9)))), ((mq 0), .inl (cI, 80, .inl X.1)), ((mq 1), .inl (cI, 80, .inl X.2.1)), ((mq 2), .inl (cI, 80, .inl X.2.2.1)), ((mq 3), .inl (cI, 80, .inl X.2.2.2.1)), ((mq 14), .inl (cZ, 80, .inl (fun z9 => gb (R z9)))), ((mq 15), .inl (cZ, 8, .inl (fun z9 => gb ((fun z => Q0 z ∨ Dr X sk sb9 sz f z) z9))))])) ([.ref mo, .int (nI f)] : List Value).toArray s (0) (0) A) (F0 m 23 ls []) := by
          intro n23
          induction n23 with
          | zero =>
            intro k R2 hm23
            exact absurd hm23 (by omega)
          | succ n23 ih23 =>
            intro k R2 hm23 hk hR2 H locs ls hP hD hS hl
            have hskk := hsk (12 * f + k)
            refine lv_iload_n hx hb dM_direct_23 rfl (lv_at hl 0 rfl) ?_
            refine lv_aload_n hx hb dM_direct_24 rfl (lv_at hl 1 rfl) ?_
            refine va_get (D := D) (ci := 6) (v := .ref (mq 11)) (C := R_M) (T := F_M) (N := 24) hx hb ht i_M hown hK hP 0 rfl rfl 11 (by decide) (ht _ m_465) (fun _ h9 => h9) rfl dM_direct_25 ?_
            refine lv_iload_n hx hb dM_direct_28 rfl (lv_at hl 2 rfl) ?_
            have i29 : vp_in (nI f) 8 := gx_in (rfl : (nI f) = (nI f)) (by omega) (by decide)
            have k29 : ((nI f) : Int32).toNatClampNeg = f := gx_cl (rfl : (nI f) = (nI f)) (by omega)
            refine va_iald hx hb hK hP 3 0 rfl rfl i29 dM_direct_29 ?_
            rw [k29]
            refine lv_topi (fun v29 e29 => ?_)
            have n29 : v29 = nI (sz f) := e29
            subst n29
            refine lv_icmp_ge (tgt := 73) hx hb dM_direct_30 (by decide) (fun c30 => ?_) (fun c30 => ?_)
            · have g30 : (sz f) ≤ k := (gx_le (rfl : (nI (sz f)) = (nI (sz f))) (rfl : (nI k) = (nI k)) (by omega) (by omega)).mp c30
              refine lv_aload_n hx hb dM_direct_73 rfl (lv_at hl 1 rfl) ?_
              refine va_get (D := D) (ci := 6) (v := .int (nI X.2.2.2.2)) (C := R_M) (T := F_M) (N := 24) hx hb ht i_M hown hK hP 0 rfl rfl 4 (by decide) (ht _ m_458) (fun _ h9 => h9) rfl dM_direct_74 ?_
              refine lv_iconst (v := 1) hx hb dM_direct_77 (by decide) ?_
              refine lv_isub hx hb dM_direct_78 ?_
              refine lv_topi (fun v78 e78 => ?_)
              refine lv_istore_n (lv' := [(2, .int v78), (0, .ref mo), (1, .int (nI f))]) hx hb dM_direct_79 rfl hl (by decide) rfl (fun ls hl => ?_)
              have lp80 : ∀ (n80 : Nat) (i : Nat) (v : Int32) (R3 : Nat → Prop) (Q3 : Nat → Prop), i + 1 ≤ n80 → (i ≤ X.2.2.2.2) → (v = nI i - 1) → (DJ X (Us sk sb9 f (sz f)) Q0 i R3 Q3) → ∀ (H : Heap) (locs : List Loc) (ls : Array Slot), va_P D vwCl [(mo, .inr (6, [.ref (mq 0), .ref (mq 1), .ref (mq 2), .ref (mq 3), .int (nI X.2.2.2.2), .ref (mq 5), .ref (mq 6), .int (nI F), .ref (mq 8), .ref (mq 9), .ref (mq 10), .ref (mq 11), .ref (mq 12), .ref (mq 13), .ref (mq 14), .ref (mq 15), .ref (mq 16), .ref (mq 17), .ref (mq 18), .ref (mq 19), .ref (mq 20), .ref (mq 21), .ref (mq 22), .int (nI dp)])), ((mq 8), .inl (cI, 96, .inl (fun z9 => nI (sk z9)))), ((mq 10), .inl (cI, 96, .inl sb9)), ((mq 11), .inl (cI, 8, .inl (fun z9 => nI (sz z9)))), ((mq 0), .inl (cI, 80, .inl X.1)), ((mq 1), .inl (cI, 80, .inl X.2.1)), ((mq 2), .inl (cI, 80, .inl X.2.2.1)), ((mq 3), .inl (cI, 80, .inl X.2.2.2.1)), ((mq 14), .inl (cZ, 80, .inl (fun z9 => gb (R3 z9)))), ((mq 15), .inl (cZ, 8, .inl (fun z9 => gb (Q3 z9))))] H → va_D A [(mo, .inr (6, [.ref (mq 0), .ref (mq 1), .ref (mq 2), .ref (mq 3), .int (nI X.2.2.2.2), .ref (mq 5), .ref (mq 6), .int (nI F), .ref (mq 8), .ref (mq 9), .ref (mq 10), .ref (mq 11), .ref (mq 12), .ref (mq 13), .ref (mq 14), .ref (mq 15), .ref (mq 16), .ref (mq 17), .ref (mq 18), .ref (mq 19), .ref (mq 20), .ref (mq 21), .ref (mq 22), .int (nI dp)])), ((mq 8), .inl (cI, 96, .inl (fun z9 => nI (sk z9)))), ((mq 10), .inl (cI, 96, .inl sb9)), ((mq 11), .inl (cI, 8, .inl (fun z9 => nI (sz z9)))), ((mq 0), .inl (cI, 80, .inl X.1)), ((mq 1), .inl (cI, 80, .inl X.2.1)), ((mq 2), .inl (cI, 80, .inl X.2.2.1)), ((mq 3), .inl (cI, 80, .inl X.2.2.2.1)), ((mq 14), .inl (cZ, 80, .inl (fun z9 => gb (R3 z9)))), ((mq 15), .inl (cZ, 8, .inl (fun z9 => gb (Q3 z9))))] → va_S A s.heap H locs → lv_has ls 3 [(2, .int v), (0, .ref mo), (1, .int (nI f))] → W p l ev9 (headSpec w_M_direct ({ frames := 1, cells := 0, slots := 0, locals := 20 })).room s m ([.ref mo, .int (nI f)] : List Value).toArray below meth c H locs 0 0 (MQ below (gq_V D A (fun w => ∃ R : Nat → Prop, w = [(mo, .inr (6, [.ref (mq 0), .ref (mq 1), .ref (mq 2), .ref (mq 3), .int (nI X.2.2.2.2), .ref (mq 5), .ref (mq 6), .int (nI F), .ref (mq 8), .ref (mq 9), .ref (mq 10), .ref (mq 11), .ref (mq 12), .ref (mq 13), .ref (mq 14), .ref (mq 15), .ref (mq 16), .ref (mq 17), .ref (mq 18), .ref (mq 19), .ref (mq 20), .ref (mq 21), .ref (mq 22), .int (nI dp)])), ((mq 8), .inl (cI, 96, .inl (fun z9 => nI (sk z9)))), ((mq 10), .inl (cI, 96, .inl sb9)), ((mq 11), .inl (cI, 8, .inl (fun z9 => nI (sz z9)))), ((mq 0), .inl (cI, 80, .inl X.1)), ((mq 1), .inl (cI, 80, .inl X.2.1)), ((mq 2), .inl (cI, 80, .inl X.2.2.1)), ((mq 3), .inl (cI, 80, .inl X.2.2.2.1)), ((mq 14), .inl (cZ, 80, .inl (fun z9 => gb (R z9)))), ((mq 15), .inl (cZ, 8, .inl (fun z9 => gb ((fun z => Q0 z ∨ Dr X sk sb9 sz f z) z9))))])) ([.ref mo, .int (nI f)] : List Value).toArray s (0) (0) A) (F0 m 80 ls []) := by
                intro n80
                induction n80 with
                | zero =>
                  intro i v R3 Q3 hm80
                  exact absurd hm80 (by omega)
                | succ n80 ih80 =>
                  intro i v R3 Q3 hm80 hi hv hDI H locs ls hP hD hS hl
                  refine lv_iload_n hx hb dM_direct_80 rfl (lv_at hl 0 rfl) ?_
                  refine lv_if_lt (tgt := 171) hx hb dM_direct_81 (by decide) (fun c81 => ?_) (fun c81 => ?_)
                  · have hi0 := gm_down0 hv (by have := hX.1; omega) c81
                    subst hi0
                    rw [di_end hDI] at hP hD
                    have hP : va_P D vwCl [(mo, .inr (6, [.ref (mq 0), .ref (mq 1), .ref (mq 2), .ref (mq 3), .int (nI X.2.2.2.2), .ref (mq 5), .ref (mq 6), .int (nI F), .ref (mq 8), .ref (mq 9), .ref (mq 10), .ref (mq 11), .ref (mq 12), .ref (mq 13), .ref (mq 14), .ref (mq 15), .ref (mq 16), .ref (mq 17), .ref (mq 18), .ref (mq 19), .ref (mq 20), .ref (mq 21), .ref (mq 22), .int (nI dp)])), ((mq 8), .inl (cI, 96, .inl (fun z9 => nI (sk z9)))), ((mq 10), .inl (cI, 96, .inl sb9)), ((mq 11), .inl (cI, 8, .inl (fun z9 => nI (sz z9)))), ((mq 0), .inl (cI, 80, .inl X.1)), ((mq 1), .inl (cI, 80, .inl X.2.1)), ((mq 2), .inl (cI, 80, .inl X.2.2.1)), ((mq 3), .inl (cI, 80, .inl X.2.2.2.1)), ((mq 14), .inl (cZ, 80, .inl (fun z9 => gb (R3 z9)))), ((mq 15), .inl (cZ, 8, .inl (fun z9 => gb ((fun z => Q0 z ∨ Dr X sk sb9 sz f z) z9))))] H := hP
                    have hD : va_D A [(mo, .inr (6, [.ref (mq 0), .ref (mq 1), .ref (mq 2), .ref (mq 3), .int (nI X.2.2.2.2), .ref (mq 5), .ref (mq 6), .int (nI F), .ref (mq 8), .ref (mq 9), .ref (mq 10), .ref (mq 11), .ref (mq 12), .ref (mq 13), .ref (mq 14), .ref (mq 15), .ref (mq 16), .ref (mq 17), .ref (mq 18), .ref (mq 19), .ref (mq 20), .ref (mq 21), .ref (mq 22), .int (nI dp)])), ((mq 8), .inl (cI, 96, .inl (fun z9 => nI (sk z9)))), ((mq 10), .inl (cI, 96, .inl sb9)), ((mq 11), .inl (cI, 8, .inl (fun z9 => nI (sz z9)))), ((mq 0), .inl (cI, 80, .inl X.1)), ((mq 1), .inl (cI, 80, .inl X.2.1)), ((mq 2), .inl (cI, 80, .inl X.2.2.1)), ((mq 3), .inl (cI, 80, .inl X.2.2.2.1)), ((mq 14), .inl (cZ, 80, .inl (fun z9 => gb (R3 z9)))), ((mq 15), .inl (cZ, 8, .inl (fun z9 => gb ((fun z => Q0 z ∨ Dr X sk sb9 sz f z) z9))))] := hD
                    exact W.vret hx hb hr (fun t9 ht9 hW => ⟨⟨_, rfl, ⟨R3, rfl⟩, by rw [ht9]; exact hP, hD⟩, hS.F ht9⟩) hS.2.2 dM_direct_171
                  · obtain ⟨j, rfl, rfl⟩ := gm_down hv (by have := hX.1; omega) c81
                    obtain ⟨kd, hkd, hk1, hka, hkb, -, -, -, hkc⟩ := hX.2 j (by omega)
                    refine lv_aload_n hx hb dM_direct_84 rfl (lv_at hl 1 rfl) ?_
                    refine va_get (D := D) (ci := 6) (v := .ref (mq 14)) (C := R_M) (T := F_M) (N := 24) hx hb ht i_M hown hK hP 0 rfl rfl 14 (by decide) (ht _ m_468) (fun _ h9 => h9) rfl dM_direct_85 ?_
                    refine lv_iload_n hx hb dM_direct_88 rfl (lv_at hl 0 rfl) ?_
                    have i89 : vp_in (nI j) 80 := gx_in (rfl : (nI j) = (nI j)) (by omega) (by decide)
                    have k89 : ((nI j) : Int32).toNatClampNeg = j := gx_cl (rfl : (nI j) = (nI j)) (by omega)
                    refine va_zald hx hb hK hP 8 3 rfl rfl i89 dM_direct_89 ?_
                    rw [k89]
                    refine lv_topi (fun v89 e89 => ?_)
                    have n89 : v89 = (gb (R3 j)) := e89
                    subst n89
                    refine lv_if_eq (tgt := 165) hx hb dM_direct_90 (by decide) (fun c90 => ?_) (fun c90 => ?_)
                    · obtain ⟨v165, e165⟩ : ∃ y : Int32, y = (nI j) + Int32.ofInt (-1) := ⟨_, rfl⟩
                      refine lv_iinc (v := v165) (lv' := [(2, .int v165), (0, .ref mo), (1, .int (nI f))]) hx hb dM_direct_165 hl (k := 0) rfl (e165.symm) (by decide) rfl (fun ls hl => ?_)
                      refine lv_goto (tgt := 80) hx hb dM_direct_168 (by decide) ?_
                      exact ih80 j v165 R3 Q3 (by omega) (by omega) (by rw [e165]; exact gm_m1 _) (dj_skip hDI (fun y => absurd y (gb_1.mp c90))) _ _ _ hP hD hS (lv_sub hl [0, 1, 2] rfl)
                    · refine lv_aload_n hx hb dM_direct_93 rfl (lv_at hl 1 rfl) ?_
                      refine va_get (D := D) (ci := 6) (v := .ref (mq 0)) (C := R_M) (T := F_M) (N := 24) hx hb ht i_M hown hK hP 0 rfl rfl 0 (by decide) (ht _ m_454) (fun _ h9 => h9) rfl dM_direct_94 ?_
                      refine lv_iload_n hx hb dM_direct_97 rfl (lv_at hl 0 rfl) ?_
                      have i98 : vp_in (nI j) 80 := gx_in (rfl : (nI j) = (nI j)) (by omega) (by decide)
                      have k98 : ((nI j) : Int32).toNatClampNeg = j := gx_cl (rfl : (nI j) = (nI j)) (by omega)
                      refine va_iald hx hb hK hP 4 0 rfl rfl i98 dM_direct_98 ?_
                      rw [k98]
                      refine lv_topi (fun v98 e98 => ?_)
                      rw [hk1] at e98
                      subst e98
                      refine lv_iconst (v := 2) hx hb dM_direct_99 (by decide) ?_
                      refine lv_icmp_ge (tgt := 106) hx hb dM_direct_100 (by decide) (fun c100 => ?_) (fun c100 => ?_)
                      · have g100 : 2 ≤ kd := (gx_le (rfl : (2 : Int32) = nI 2) (rfl : (nI kd) = (nI kd)) (by decide) (by omega)).mp c100
                        obtain ⟨a0, hal, hae⟩ := hka (by omega)
                        refine lv_aload_n hx hb dM_direct_106 rfl (lv_at hl 1 rfl) ?_
                        refine va_get (D := D) (ci := 6) (v := .ref (mq 14)) (C := R_M) (T := F_M) (N := 24) hx hb ht i_M hown hK hP 0 rfl rfl 14 (by decide) (ht _ m_468) (fun _ h9 => h9) rfl dM_direct_107 ?_
                        refine lv_aload_n hx hb dM_direct_110 rfl (lv_at hl 1 rfl) ?_
                        refine va_get (D := D) (ci := 6) (v := .ref (mq 1)) (C := R_M) (T := F_M) (N := 24) hx hb ht i_M hown hK hP 0 rfl rfl 1 (by decide) (ht _ m_455) (fun _ h9 => h9) rfl dM_direct_111 ?_
                        refine lv_iload_n hx hb dM_direct_114 rfl (lv_at hl 0 rfl) ?_
                        have i115 : vp_in (nI j) 80 := gx_in (rfl : (nI j) = (nI j)) (by omega) (by decide)
                        have k115 : ((nI j) : Int32).toNatClampNeg = j := gx_cl (rfl : (nI j) = (nI j)) (by omega)
                        refine va_iald hx hb hK hP 5 0 rfl rfl i115 dM_direct_115 ?_
                        rw [k115]
                        refine lv_topi (fun v115 e115 => ?_)
                        rw [hae] at e115
                        subst e115
                        refine lv_iconst (v := 1) hx hb dM_direct_116 (by decide) ?_
                        have i117 : vp_in (nI a0) 80 := gx_in (rfl : (nI a0) = (nI a0)) (by omega) (by decide)
                        have k117 : ((nI a0) : Int32).toNatClampNeg = a0 := gx_cl (rfl : (nI a0) = (nI a0)) (by omega)
                        refine va_zast hx hb hK hP hD hS 8 3 rfl rfl i117 dM_direct_117 (fun H locs hP hD hS => ?_)
                        rw [k117] at hP hD
                        have hP : va_P D vwCl [(mo, .inr (6, [.ref (mq 0), .ref (mq 1), .ref (mq 2), .ref (mq 3), .int (nI X.2.2.2.2), .ref (mq 5), .ref (mq 6), .int (nI F), .ref (mq 8), .ref (mq 9), .ref (mq 10), .ref (mq 11), .ref (mq 12), .ref (mq 13), .ref (mq 14), .ref (mq 15), .ref (mq 16), .ref (mq 17), .ref (mq 18), .ref (mq 19), .ref (mq 20), .ref (mq 21), .ref (mq 22), .int (nI dp)])), ((mq 8), .inl (cI, 96, .inl (fun z9 => nI (sk z9)))), ((mq 10), .inl (cI, 96, .inl sb9)), ((mq 11), .inl (cI, 8, .inl (fun z9 => nI (sz z9)))), ((mq 0), .inl (cI, 80, .inl X.1)), ((mq 1), .inl (cI, 80, .inl X.2.1)), ((mq 2), .inl (cI, 80, .inl X.2.2.1)), ((mq 3), .inl (cI, 80, .inl X.2.2.2.1)), ((mq 14), .inl (cZ, 80, .inl (upd (fun z9 => gb (R3 z9)) a0 (vp_nar .boolean 1)))), ((mq 15), .inl (cZ, 8, .inl (fun z9 => gb (Q3 z9))))] H := hP
                        have hD : va_D A [(mo, .inr (6, [.ref (mq 0), .ref (mq 1), .ref (mq 2), .ref (mq 3), .int (nI X.2.2.2.2), .ref (mq 5), .ref (mq 6), .int (nI F), .ref (mq 8), .ref (mq 9), .ref (mq 10), .ref (mq 11), .ref (mq 12), .ref (mq 13), .ref (mq 14), .ref (mq 15), .ref (mq 16), .ref (mq 17), .ref (mq 18), .ref (mq 19), .ref (mq 20), .ref (mq 21), .ref (mq 22), .int (nI dp)])), ((mq 8), .inl (cI, 96, .inl (fun z9 => nI (sk z9)))), ((mq 10), .inl (cI, 96, .inl sb9)), ((mq 11), .inl (cI, 8, .inl (fun z9 => nI (sz z9)))), ((mq 0), .inl (cI, 80, .inl X.1)), ((mq 1), .inl (cI, 80, .inl X.2.1)), ((mq 2), .inl (cI, 80, .inl X.2.2.1)), ((mq 3), .inl (cI, 80, .inl X.2.2.2.1)), ((mq 14), .inl (cZ, 80, .inl (upd (fun z9 => gb (R3 z9)) a0 (vp_nar .boolean 1)))), ((mq 15), .inl (cZ, 8, .inl (fun z9 => gb (Q3 z9))))] := hD
                        rw [gm_bp1] at hP hD
                        have hP : va_P D vwCl [(mo, .inr (6, [.ref (mq 0), .ref (mq 1), .ref (mq 2), .ref (mq 3), .int (nI X.2.2.2.2), .ref (mq 5), .ref (mq 6), .int (nI F), .ref (mq 8), .ref (mq 9), .ref (mq 10), .ref (mq 11), .ref (mq 12), .ref (mq 13), .ref (mq 14), .ref (mq 15), .ref (mq 16), .ref (mq 17), .ref (mq 18), .ref (mq 19), .ref (mq 20), .ref (mq 21), .ref (mq 22), .int (nI dp)])), ((mq 8), .inl (cI, 96, .inl (fun z9 => nI (sk z9)))), ((mq 10), .inl (cI, 96, .inl sb9)), ((mq 11), .inl (cI, 8, .inl (fun z9 => nI (sz z9)))), ((mq 0), .inl (cI, 80, .inl X.1)), ((mq 1), .inl (cI, 80, .inl X.2.1)), ((mq 2), .inl (cI, 80, .inl X.2.2.1)), ((mq 3), .inl (cI, 80, .inl X.2.2.2.1)), ((mq 14), .inl (cZ, 80, .inl (fun z9 => gb ((bp R3 a0 True) z9)))), ((mq 15), .inl (cZ, 8, .inl (fun z9 => gb (Q3 z9))))] H := hP
                        have hD : va_D A [(mo, .inr (6, [.ref (mq 0), .ref (mq 1), .ref (mq 2), .ref (mq 3), .int (nI X.2.2.2.2), .ref (mq 5), .ref (mq 6), .int (nI F), .ref (mq 8), .ref (mq 9), .ref (mq 10), .ref (mq 11), .ref (mq 12), .ref (mq 13), .ref (mq 14), .ref (mq 15), .ref (mq 16), .ref (mq 17), .ref (mq 18), .ref (mq 19), .ref (mq 20), .ref (mq 21), .ref (mq 22), .int (nI dp)])), ((mq 8), .inl (cI, 96, .inl (fun z9 => nI (sk z9)))), ((mq 10), .inl (cI, 96, .inl sb9)), ((mq 11), .inl (cI, 8, .inl (fun z9 => nI (sz z9)))), ((mq 0), .inl (cI, 80, .inl X.1)), ((mq 1), .inl (cI, 80, .inl X.2.1)), ((mq 2), .inl (cI, 80, .inl X.2.2.1)), ((mq 3), .inl (cI, 80, .inl X.2.2.2.1)), ((mq 14), .inl (cZ, 80, .inl (fun z9 => gb ((bp R3 a0 True) z9)))), ((mq 15), .inl (cZ, 8, .inl (fun z9 => gb (Q3 z9))))] := hD
                        refine lv_aload_n hx hb dM_direct_118 rfl (lv_at hl 1 rfl) ?_
                        refine va_get (D := D) (ci := 6) (v := .ref (mq 0)) (C := R_M) (T := F_M) (N := 24) hx hb ht i_M hown hK hP 0 rfl rfl 0 (by decide) (ht _ m_454) (fun _ h9 => h9) rfl dM_direct_119 ?_
                        refine lv_iload_n hx hb dM_direct_122 rfl (lv_at hl 0 rfl) ?_
                        have i123 : vp_in (nI j) 80 := gx_in (rfl : (nI j) = (nI j)) (by omega) (by decide)
                        have k123 : ((nI j) : Int32).toNatClampNeg = j := gx_cl (rfl : (nI j) = (nI j)) (by omega)
                        refine va_iald hx hb hK hP 4 0 rfl rfl i123 dM_direct_123 ?_
                        rw [k123]
                        refine lv_topi (fun v123 e123 => ?_)
                        rw [hk1] at e123
                        subst e123
                        refine gc_i (va_runS (As := [.int (nI kd)]) (rest := []) ⟨hx, hb, hml, hown, ht⟩ (c_M_hasSecond l D cI cJ cB cZ (nI kd) H.size) (va_cwS 1 ht (gw_S m_539 m_540 m_6 m_541) rfl rfl rfl (by decide +kernel) ⟨Nat.le_of_ble_eq_true rfl, Nat.le_of_ble_eq_true rfl⟩) (gp_S hK hN (hP.sub (ws' := ([] : va_W)) [] rfl) (hD.sub (ws' := ([] : va_W)) [] (by decide) rfl)) rfl rfl hl.1 rfl (lv_room (Nat.le_of_ble_eq_true rfl)) dM_direct_124 ⟨Nat.le_of_ble_eq_true rfl, Nat.le_of_ble_eq_true rfl⟩) hP hD hS hA [] rfl (by decide) (fun r w h => by obtain ⟨_, rfl⟩ := h; rfl) (fun r124 w124 H locs p124 hP hD hS => ?_)
                        obtain ⟨rfl, rfl⟩ := p124
                        have hP : va_P D vwCl [(mo, .inr (6, [.ref (mq 0), .ref (mq 1), .ref (mq 2), .ref (mq 3), .int (nI X.2.2.2.2), .ref (mq 5), .ref (mq 6), .int (nI F), .ref (mq 8), .ref (mq 9), .ref (mq 10), .ref (mq 11), .ref (mq 12), .ref (mq 13), .ref (mq 14), .ref (mq 15), .ref (mq 16), .ref (mq 17), .ref (mq 18), .ref (mq 19), .ref (mq 20), .ref (mq 21), .ref (mq 22), .int (nI dp)])), ((mq 8), .inl (cI, 96, .inl (fun z9 => nI (sk z9)))), ((mq 10), .inl (cI, 96, .inl sb9)), ((mq 11), .inl (cI, 8, .inl (fun z9 => nI (sz z9)))), ((mq 0), .inl (cI, 80, .inl X.1)), ((mq 1), .inl (cI, 80, .inl X.2.1)), ((mq 2), .inl (cI, 80, .inl X.2.2.1)), ((mq 3), .inl (cI, 80, .inl X.2.2.2.1)), ((mq 14), .inl (cZ, 80, .inl (fun z9 => gb ((bp R3 a0 True) z9)))), ((mq 15), .inl (cZ, 8, .inl (fun z9 => gb (Q3 z9))))] H := hP
                        have hD : va_D A [(mo, .inr (6, [.ref (mq 0), .ref (mq 1), .ref (mq 2), .ref (mq 3), .int (nI X.2.2.2.2), .ref (mq 5), .ref (mq 6), .int (nI F), .ref (mq 8), .ref (mq 9), .ref (mq 10), .ref (mq 11), .ref (mq 12), .ref (mq 13), .ref (mq 14), .ref (mq 15), .ref (mq 16), .ref (mq 17), .ref (mq 18), .ref (mq 19), .ref (mq 20), .ref (mq 21), .ref (mq 22), .int (nI dp)])), ((mq 8), .inl (cI, 96, .inl (fun z9 => nI (sk z9)))), ((mq 10), .inl (cI, 96, .inl sb9)), ((mq 11), .inl (cI, 8, .inl (fun z9 => nI (sz z9)))), ((mq 0), .inl (cI, 80, .inl X.1)), ((mq 1), .inl (cI, 80, .inl X.2.1)), ((mq 2), .inl (cI, 80, .inl X.2.2.1)), ((mq 3), .inl (cI, 80, .inl X.2.2.2.1)), ((mq 14), .inl (cZ, 80, .inl (fun z9 => gb ((bp R3 a0 True) z9)))), ((mq 15), .inl (cZ, 8, .inl (fun z9 => gb (Q3 z9))))] := hD
                        refine lv_if_eq (tgt := 142) hx hb dM_direct_127 (by decide) (fun c127 => ?_) (fun c127 => ?_)
                        · have hpx : ¬ px_R kd := fun z => gb_1.mp c127 ((gm_R hkd).mpr z)
                          refine lv_aload_n hx hb dM_direct_142 rfl (lv_at hl 1 rfl) ?_
                          refine va_get (D := D) (ci := 6) (v := .ref (mq 0)) (C := R_M) (T := F_M) (N := 24) hx hb ht i_M hown hK hP 0 rfl rfl 0 (by decide) (ht _ m_454) (fun _ h9 => h9) rfl dM_direct_143 ?_
                          refine lv_iload_n hx hb dM_direct_146 rfl (lv_at hl 0 rfl) ?_
                          have i147 : vp_in (nI j) 80 := gx_in (rfl : (nI j) = (nI j)) (by omega) (by decide)
                          have k147 : ((nI j) : Int32).toNatClampNeg = j := gx_cl (rfl : (nI j) = (nI j)) (by omega)
                          refine va_iald hx hb hK hP 4 0 rfl rfl i147 dM_direct_147 ?_
                          rw [k147]
                          refine lv_topi (fun v147 e147 => ?_)
                          rw [hk1] at e147
                          subst e147
                          refine lv_bipush (v := 11) hx hb dM_direct_148 (by decide) ?_
                          refine lv_icmp_ne (tgt := 165) hx hb dM_direct_150 (by decide) (fun c150 => ?_) (fun c150 => ?_)
                          · have g150 : ¬ (kd = 11) := fun z => c150 ((gx_eq (rfl : (nI kd) = (nI kd)) (rfl : (11 : Int32) = nI 11) (by omega) (by decide)).mpr z)
                            obtain ⟨v165, e165⟩ : ∃ y : Int32, y = (nI j) + Int32.ofInt (-1) := ⟨_, rfl⟩
                            refine lv_iinc (v := v165) (lv' := [(2, .int v165), (0, .ref mo), (1, .int (nI f))]) hx hb dM_direct_165 hl (k := 0) rfl (e165.symm) (by decide) rfl (fun ls hl => ?_)
                            refine lv_goto (tgt := 80) hx hb dM_direct_168 (by decide) ?_
                            exact ih80 j v165 (bp R3 a0 True) Q3 (by omega) (by omega) (by rw [e165]; exact gm_m1 _) (dj_step hX.1 hDI (by omega) (gb_0 c90) (by rw [hk1, cn_nI (by omega)]; omega) (by rw [hae, cn_nI (by omega)]; exact hal) (by rw [hk1, cn_nI (by omega)]; intro y; exact absurd y hpx) (fun z => by rw [bp_t, hk1, hae, cn_nI (by omega), cn_nI (by omega)]; exact or_congr Iff.rfl ⟨Or.inl, fun y => y.elim id (fun y => absurd y.1 hpx)⟩) (fun z => by rw [hk1, cn_nI (by omega)]; exact ⟨Or.inl, fun y => y.elim id (fun y => absurd y.1 g150)⟩)) _ _ _ hP hD hS (lv_sub hl [0, 1, 2] rfl)
                          · have g150 : kd = 11 := (gx_eq (rfl : (nI kd) = (nI kd)) (rfl : (11 : Int32) = nI 11) (by omega) (by decide)).mp c150
                            obtain ⟨c0, hcl, hce⟩ := hkc g150
                            refine lv_aload_n hx hb dM_direct_153 rfl (lv_at hl 1 rfl) ?_
                            refine va_get (D := D) (ci := 6) (v := .ref (mq 15)) (C := R_M) (T := F_M) (N := 24) hx hb ht i_M hown hK hP 0 rfl rfl 15 (by decide) (ht _ m_469) (fun _ h9 => h9) rfl dM_direct_154 ?_
                            refine lv_aload_n hx hb dM_direct_157 rfl (lv_at hl 1 rfl) ?_
                            refine va_get (D := D) (ci := 6) (v := .ref (mq 3)) (C := R_M) (T := F_M) (N := 24) hx hb ht i_M hown hK hP 0 rfl rfl 3 (by decide) (ht _ m_457) (fun _ h9 => h9) rfl dM_direct_158 ?_
                            refine lv_iload_n hx hb dM_direct_161 rfl (lv_at hl 0 rfl) ?_
                            have i162 : vp_in (nI j) 80 := gx_in (rfl : (nI j) = (nI j)) (by omega) (by decide)
                            have k162 : ((nI j) : Int32).toNatClampNeg = j := gx_cl (rfl : (nI j) = (nI j)) (by omega)
                            refine va_iald hx hb hK hP 7 0 rfl rfl i162 dM_direct_162 ?_
                            rw [k162]
                            refine lv_topi (fun v162 e162 => ?_)
                            rw [hce] at e162
                            subst e162
                            refine lv_iconst (v := 1) hx hb dM_direct_163 (by decide) ?_
                            have i164 : vp_in (nI c0) 8 := gx_in (rfl : (nI c0) = (nI c0)) (by omega) (by decide)
                            have k164 : ((nI c0) : Int32).toNatClampNeg = c0 := gx_cl (rfl : (nI c0) = (nI c0)) (by omega)
                            refine va_zast hx hb hK hP hD hS 9 3 rfl rfl i164 dM_direct_164 (fun H locs hP hD hS => ?_)
                            rw [k164] at hP hD
                            have hP : va_P D vwCl [(mo, .inr (6, [.ref (mq 0), .ref (mq 1), .ref (mq 2), .ref (mq 3), .int (nI X.2.2.2.2), .ref (mq 5), .ref (mq 6), .int (nI F), .ref (mq 8), .ref (mq 9), .ref (mq 10), .ref (mq 11), .ref (mq 12), .ref (mq 13), .ref (mq 14), .ref (mq 15), .ref (mq 16), .ref (mq 17), .ref (mq 18), .ref (mq 19), .ref (mq 20), .ref (mq 21), .ref (mq 22), .int (nI dp)])), ((mq 8), .inl (cI, 96, .inl (fun z9 => nI (sk z9)))), ((mq 10), .inl (cI, 96, .inl sb9)), ((mq 11), .inl (cI, 8, .inl (fun z9 => nI (sz z9)))), ((mq 0), .inl (cI, 80, .inl X.1)), ((mq 1), .inl (cI, 80, .inl X.2.1)), ((mq 2), .inl (cI, 80, .inl X.2.2.1)), ((mq 3), .inl (cI, 80, .inl X.2.2.2.1)), ((mq 14), .inl (cZ, 80, .inl (fun z9 => gb ((bp R3 a0 True) z9)))), ((mq 15), .inl (cZ, 8, .inl (upd (fun z9 => gb (Q3 z9)) c0 (vp_nar .boolean 1))))] H := hP
                            have hD : va_D A [(mo, .inr (6, [.ref (mq 0), .ref (mq 1), .ref (mq 2), .ref (mq 3), .int (nI X.2.2.2.2), .ref (mq 5), .ref (mq 6), .int (nI F), .ref (mq 8), .ref (mq 9), .ref (mq 10), .ref (mq 11), .ref (mq 12), .ref (mq 13), .ref (mq 14), .ref (mq 15), .ref (mq 16), .ref (mq 17), .ref (mq 18), .ref (mq 19), .ref (mq 20), .ref (mq 21), .ref (mq 22), .int (nI dp)])), ((mq 8), .inl (cI, 96, .inl (fun z9 => nI (sk z9)))), ((mq 10), .inl (cI, 96, .inl sb9)), ((mq 11), .inl (cI, 8, .inl (fun z9 => nI (sz z9)))), ((mq 0), .inl (cI, 80, .inl X.1)), ((mq 1), .inl (cI, 80, .inl X.2.1)), ((mq 2), .inl (cI, 80, .inl X.2.2.1)), ((mq 3), .inl (cI, 80, .inl X.2.2.2.1)), ((mq 14), .inl (cZ, 80, .inl (fun z9 => gb ((bp R3 a0 True) z9)))), ((mq 15), .inl (cZ, 8, .inl (upd (fun z9 => gb (Q3 z9)) c0 (vp_nar .boolean 1))))] := hD
                            rw [gm_bp1] at hP hD
                            have hP : va_P D vwCl [(mo, .inr (6, [.ref (mq 0), .ref (mq 1), .ref (mq 2), .ref (mq 3), .int (nI X.2.2.2.2), .ref (mq 5), .ref (mq 6), .int (nI F), .ref (mq 8), .ref (mq 9), .ref (mq 10), .ref (mq 11), .ref (mq 12), .ref (mq 13), .ref (mq 14), .ref (mq 15), .ref (mq 16), .ref (mq 17), .ref (mq 18), .ref (mq 19), .ref (mq 20), .ref (mq 21), .ref (mq 22), .int (nI dp)])), ((mq 8), .inl (cI, 96, .inl (fun z9 => nI (sk z9)))), ((mq 10), .inl (cI, 96, .inl sb9)), ((mq 11), .inl (cI, 8, .inl (fun z9 => nI (sz z9)))), ((mq 0), .inl (cI, 80, .inl X.1)), ((mq 1), .inl (cI, 80, .inl X.2.1)), ((mq 2), .inl (cI, 80, .inl X.2.2.1)), ((mq 3), .inl (cI, 80, .inl X.2.2.2.1)), ((mq 14), .inl (cZ, 80, .inl (fun z9 => gb ((bp R3 a0 True) z9)))), ((mq 15), .inl (cZ, 8, .inl (fun z9 => gb ((bp Q3 c0 True) z9))))] H := hP
                            have hD : va_D A [(mo, .inr (6, [.ref (mq 0), .ref (mq 1), .ref (mq 2), .ref (mq 3), .int (nI X.2.2.2.2), .ref (mq 5), .ref (mq 6), .int (nI F), .ref (mq 8), .ref (mq 9), .ref (mq 10), .ref (mq 11), .ref (mq 12), .ref (mq 13), .ref (mq 14), .ref (mq 15), .ref (mq 16), .ref (mq 17), .ref (mq 18), .ref (mq 19), .ref (mq 20), .ref (mq 21), .ref (mq 22), .int (nI dp)])), ((mq 8), .inl (cI, 96, .inl (fun z9 => nI (sk z9)))), ((mq 10), .inl (cI, 96, .inl sb9)), ((mq 11), .inl (cI, 8, .inl (fun z9 => nI (sz z9)))), ((mq 0), .inl (cI, 80, .inl X.1)), ((mq 1), .inl (cI, 80, .inl X.2.1)), ((mq 2), .inl (cI, 80, .inl X.2.2.1)), ((mq 3), .inl (cI, 80, .inl X.2.2.2.1)), ((mq 14), .inl (cZ, 80, .inl (fun z9 => gb ((bp R3 a0 True) z9)))), ((mq 15), .inl (cZ, 8, .inl (fun z9 => gb ((bp Q3 c0 True) z9))))] := hD
                            obtain ⟨v165, e165⟩ : ∃ y : Int32, y = (nI j) + Int32.ofInt (-1) := ⟨_, rfl⟩
                            refine lv_iinc (v := v165) (lv' := [(2, .int v165), (0, .ref mo), (1, .int (nI f))]) hx hb dM_direct_165 hl (k := 0) rfl (e165.symm) (by decide) rfl (fun ls hl => ?_)
                            refine lv_goto (tgt := 80) hx hb dM_direct_168 (by decide) ?_
                            exact ih80 j v165 (bp R3 a0 True) (bp Q3 c0 True) (by omega) (by omega) (by rw [e165]; exact gm_m1 _) (dj_step hX.1 hDI (by omega) (gb_0 c90) (by rw [hk1, cn_nI (by omega)]; omega) (by rw [hae, cn_nI (by omega)]; exact hal) (by rw [hk1, cn_nI (by omega)]; intro y; exact absurd y hpx) (fun z => by rw [bp_t, hk1, hae, cn_nI (by omega), cn_nI (by omega)]; exact or_congr Iff.rfl ⟨Or.inl, fun y => y.elim id (fun y => absurd y.1 hpx)⟩) (fun z => by rw [bp_t, hk1, hce, cn_nI (by omega), cn_nI (by omega)]; exact or_congr Iff.rfl ⟨fun y => ⟨g150, y⟩, fun y => y.2⟩)) _ _ _ hP hD hS (lv_sub hl [0, 1, 2] rfl)
                        · have hpx := (gm_R hkd).mp (gb_0 c127)
                          obtain ⟨b0, hbl, hbe⟩ := hkb hpx
                          refine lv_aload_n hx hb dM_direct_130 rfl (lv_at hl 1 rfl) ?_
                          refine va_get (D := D) (ci := 6) (v := .ref (mq 14)) (C := R_M) (T := F_M) (N := 24) hx hb ht i_M hown hK hP 0 rfl rfl 14 (by decide) (ht _ m_468) (fun _ h9 => h9) rfl dM_direct_131 ?_
                          refine lv_aload_n hx hb dM_direct_134 rfl (lv_at hl 1 rfl) ?_
                          refine va_get (D := D) (ci := 6) (v := .ref (mq 2)) (C := R_M) (T := F_M) (N := 24) hx hb ht i_M hown hK hP 0 rfl rfl 2 (by decide) (ht _ m_456) (fun _ h9 => h9) rfl dM_direct_135 ?_
                          refine lv_iload_n hx hb dM_direct_138 rfl (lv_at hl 0 rfl) ?_
                          have i139 : vp_in (nI j) 80 := gx_in (rfl : (nI j) = (nI j)) (by omega) (by decide)
                          have k139 : ((nI j) : Int32).toNatClampNeg = j := gx_cl (rfl : (nI j) = (nI j)) (by omega)
                          refine va_iald hx hb hK hP 6 0 rfl rfl i139 dM_direct_139 ?_
                          rw [k139]
                          refine lv_topi (fun v139 e139 => ?_)
                          rw [hbe] at e139
                          subst e139
                          refine lv_iconst (v := 1) hx hb dM_direct_140 (by decide) ?_
                          have i141 : vp_in (nI b0) 80 := gx_in (rfl : (nI b0) = (nI b0)) (by omega) (by decide)
                          have k141 : ((nI b0) : Int32).toNatClampNeg = b0 := gx_cl (rfl : (nI b0) = (nI b0)) (by omega)
                          refine va_zast hx hb hK hP hD hS 8 3 rfl rfl i141 dM_direct_141 (fun H locs hP hD hS => ?_)
                          rw [k141] at hP hD
                          have hP : va_P D vwCl [(mo, .inr (6, [.ref (mq 0), .ref (mq 1), .ref (mq 2), .ref (mq 3), .int (nI X.2.2.2.2), .ref (mq 5), .ref (mq 6), .int (nI F), .ref (mq 8), .ref (mq 9), .ref (mq 10), .ref (mq 11), .ref (mq 12), .ref (mq 13), .ref (mq 14), .ref (mq 15), .ref (mq 16), .ref (mq 17), .ref (mq 18), .ref (mq 19), .ref (mq 20), .ref (mq 21), .ref (mq 22), .int (nI dp)])), ((mq 8), .inl (cI, 96, .inl (fun z9 => nI (sk z9)))), ((mq 10), .inl (cI, 96, .inl sb9)), ((mq 11), .inl (cI, 8, .inl (fun z9 => nI (sz z9)))), ((mq 0), .inl (cI, 80, .inl X.1)), ((mq 1), .inl (cI, 80, .inl X.2.1)), ((mq 2), .inl (cI, 80, .inl X.2.2.1)), ((mq 3), .inl (cI, 80, .inl X.2.2.2.1)), ((mq 14), .inl (cZ, 80, .inl (upd (fun z9 => gb ((bp R3 a0 True) z9)) b0 (vp_nar .boolean 1)))), ((mq 15), .inl (cZ, 8, .inl (fun z9 => gb (Q3 z9))))] H := hP
                          have hD : va_D A [(mo, .inr (6, [.ref (mq 0), .ref (mq 1), .ref (mq 2), .ref (mq 3), .int (nI X.2.2.2.2), .ref (mq 5), .ref (mq 6), .int (nI F), .ref (mq 8), .ref (mq 9), .ref (mq 10), .ref (mq 11), .ref (mq 12), .ref (mq 13), .ref (mq 14), .ref (mq 15), .ref (mq 16), .ref (mq 17), .ref (mq 18), .ref (mq 19), .ref (mq 20), .ref (mq 21), .ref (mq 22), .int (nI dp)])), ((mq 8), .inl (cI, 96, .inl (fun z9 => nI (sk z9)))), ((mq 10), .inl (cI, 96, .inl sb9)), ((mq 11), .inl (cI, 8, .inl (fun z9 => nI (sz z9)))), ((mq 0), .inl (cI, 80, .inl X.1)), ((mq 1), .inl (cI, 80, .inl X.2.1)), ((mq 2), .inl (cI, 80, .inl X.2.2.1)), ((mq 3), .inl (cI, 80, .inl X.2.2.2.1)), ((mq 14), .inl (cZ, 80, .inl (upd (fun z9 => gb ((bp R3 a0 True) z9)) b0 (vp_nar .boolean 1)))), ((mq 15), .inl (cZ, 8, .inl (fun z9 => gb (Q3 z9))))] := hD
                          rw [gm_bp1] at hP hD
                          have hP : va_P D vwCl [(mo, .inr (6, [.ref (mq 0), .ref (mq 1), .ref (mq 2), .ref (mq 3), .int (nI X.2.2.2.2), .ref (mq 5), .ref (mq 6), .int (nI F), .ref (mq 8), .ref (mq 9), .ref (mq 10), .ref (mq 11), .ref (mq 12), .ref (mq 13), .ref (mq 14), .ref (mq 15), .ref (mq 16), .ref (mq 17), .ref (mq 18), .ref (mq 19), .ref (mq 20), .ref (mq 21), .ref (mq 22), .int (nI dp)])), ((mq 8), .inl (cI, 96, .inl (fun z9 => nI (sk z9)))), ((mq 10), .inl (cI, 96, .inl sb9)), ((mq 11), .inl (cI, 8, .inl (fun z9 => nI (sz z9)))), ((mq 0), .inl (cI, 80, .inl X.1)), ((mq 1), .inl (cI, 80, .inl X.2.1)), ((mq 2), .inl (cI, 80, .inl X.2.2.1)), ((mq 3), .inl (cI, 80, .inl X.2.2.2.1)), ((mq 14), .inl (cZ, 80, .inl (fun z9 => gb ((bp (bp R3 a0 True) b0 True) z9)))), ((mq 15), .inl (cZ, 8, .inl (fun z9 => gb (Q3 z9))))] H := hP
                          have hD : va_D A [(mo, .inr (6, [.ref (mq 0), .ref (mq 1), .ref (mq 2), .ref (mq 3), .int (nI X.2.2.2.2), .ref (mq 5), .ref (mq 6), .int (nI F), .ref (mq 8), .ref (mq 9), .ref (mq 10), .ref (mq 11), .ref (mq 12), .ref (mq 13), .ref (mq 14), .ref (mq 15), .ref (mq 16), .ref (mq 17), .ref (mq 18), .ref (mq 19), .ref (mq 20), .ref (mq 21), .ref (mq 22), .int (nI dp)])), ((mq 8), .inl (cI, 96, .inl (fun z9 => nI (sk z9)))), ((mq 10), .inl (cI, 96, .inl sb9)), ((mq 11), .inl (cI, 8, .inl (fun z9 => nI (sz z9)))), ((mq 0), .inl (cI, 80, .inl X.1)), ((mq 1), .inl (cI, 80, .inl X.2.1)), ((mq 2), .inl (cI, 80, .inl X.2.2.1)), ((mq 3), .inl (cI, 80, .inl X.2.2.2.1)), ((mq 14), .inl (cZ, 80, .inl (fun z9 => gb ((bp (bp R3 a0 True) b0 True) z9)))), ((mq 15), .inl (cZ, 8, .inl (fun z9 => gb (Q3 z9))))] := hD
                          refine lv_aload_n hx hb dM_direct_142 rfl (lv_at hl 1 rfl) ?_
                          refine va_get (D := D) (ci := 6) (v := .ref (mq 0)) (C := R_M) (T := F_M) (N := 24) hx hb ht i_M hown hK hP 0 rfl rfl 0 (by decide) (ht _ m_454) (fun _ h9 => h9) rfl dM_direct_143 ?_
                          refine lv_iload_n hx hb dM_direct_146 rfl (lv_at hl 0 rfl) ?_
                          have i147 : vp_in (nI j) 80 := gx_in (rfl : (nI j) = (nI j)) (by omega) (by decide)
                          have k147 : ((nI j) : Int32).toNatClampNeg = j := gx_cl (rfl : (nI j) = (nI j)) (by omega)
                          refine va_iald hx hb hK hP 4 0 rfl rfl i147 dM_direct_147 ?_
                          rw [k147]
                          refine lv_topi (fun v147 e147 => ?_)
                          rw [hk1] at e147
                          subst e147
                          refine lv_bipush (v := 11) hx hb dM_direct_148 (by decide) ?_
                          refine lv_icmp_ne (tgt := 165) hx hb dM_direct_150 (by decide) (fun c150 => ?_) (fun c150 => ?_)
                          · have g150 : ¬ (kd = 11) := fun z => c150 ((gx_eq (rfl : (nI kd) = (nI kd)) (rfl : (11 : Int32) = nI 11) (by omega) (by decide)).mpr z)
                            obtain ⟨v165, e165⟩ : ∃ y : Int32, y = (nI j) + Int32.ofInt (-1) := ⟨_, rfl⟩
                            refine lv_iinc (v := v165) (lv' := [(2, .int v165), (0, .ref mo), (1, .int (nI f))]) hx hb dM_direct_165 hl (k := 0) rfl (e165.symm) (by decide) rfl (fun ls hl => ?_)
                            refine lv_goto (tgt := 80) hx hb dM_direct_168 (by decide) ?_
                            exact ih80 j v165 (bp (bp R3 a0 True) b0 True) Q3 (by omega) (by omega) (by rw [e165]; exact gm_m1 _) (dj_step hX.1 hDI (by omega) (gb_0 c90) (by rw [hk1, cn_nI (by omega)]; omega) (by rw [hae, cn_nI (by omega)]; exact hal) (by rw [hk1, cn_nI (by omega)]; intro y; rw [hbe, cn_nI (by omega)]; exact hbl) (fun z => by rw [bp_t, bp_t, hk1, hae, cn_nI (by omega), cn_nI (by omega)]; rw [hbe, cn_nI (by omega), or_assoc]; exact or_congr Iff.rfl (or_congr Iff.rfl ⟨fun y => ⟨hpx, y⟩, fun y => y.2⟩)) (fun z => by rw [hk1, cn_nI (by omega)]; exact ⟨Or.inl, fun y => y.elim id (fun y => absurd y.1 g150)⟩)) _ _ _ hP hD hS (lv_sub hl [0, 1, 2] rfl)
                          · have g150 : kd = 11 := (gx_eq (rfl : (nI kd) = (nI kd)) (rfl : (11 : Int32) = nI 11) (by omega) (by decide)).mp c150
                            obtain ⟨c0, hcl, hce⟩ := hkc g150
                            refine lv_aload_n hx hb dM_direct_153 rfl (lv_at hl 1 rfl) ?_
                            refine va_get (D := D) (ci := 6) (v := .ref (mq 15)) (C := R_M) (T := F_M) (N := 24) hx hb ht i_M hown hK hP 0 rfl rfl 15 (by decide) (ht _ m_469) (fun _ h9 => h9) rfl dM_direct_154 ?_
                            refine lv_aload_n hx hb dM_direct_157 rfl (lv_at hl 1 rfl) ?_
                            refine va_get (D := D) (ci := 6) (v := .ref (mq 3)) (C := R_M) (T := F_M) (N := 24) hx hb ht i_M hown hK hP 0 rfl rfl 3 (by decide) (ht _ m_457) (fun _ h9 => h9) rfl dM_direct_158 ?_
                            refine lv_iload_n hx hb dM_direct_161 rfl (lv_at hl 0 rfl) ?_
                            have i162 : vp_in (nI j) 80 := gx_in (rfl : (nI j) = (nI j)) (by omega) (by decide)
                            have k162 : ((nI j) : Int32).toNatClampNeg = j := gx_cl (rfl : (nI j) = (nI j)) (by omega)
                            refine va_iald hx hb hK hP 7 0 rfl rfl i162 dM_direct_162 ?_
                            rw [k162]
                            refine lv_topi (fun v162 e162 => ?_)
                            rw [hce] at e162
                            subst e162
                            refine lv_iconst (v := 1) hx hb dM_direct_163 (by decide) ?_
                            have i164 : vp_in (nI c0) 8 := gx_in (rfl : (nI c0) = (nI c0)) (by omega) (by decide)
                            have k164 : ((nI c0) : Int32).toNatClampNeg = c0 := gx_cl (rfl : (nI c0) = (nI c0)) (by omega)
                            refine va_zast hx hb hK hP hD hS 9 3 rfl rfl i164 dM_direct_164 (fun H locs hP hD hS => ?_)
                            rw [k164] at hP hD
                            have hP : va_P D vwCl [(mo, .inr (6, [.ref (mq 0), .ref (mq 1), .ref (mq 2), .ref (mq 3), .int (nI X.2.2.2.2), .ref (mq 5), .ref (mq 6), .int (nI F), .ref (mq 8), .ref (mq 9), .ref (mq 10), .ref (mq 11), .ref (mq 12), .ref (mq 13), .ref (mq 14), .ref (mq 15), .ref (mq 16), .ref (mq 17), .ref (mq 18), .ref (mq 19), .ref (mq 20), .ref (mq 21), .ref (mq 22), .int (nI dp)])), ((mq 8), .inl (cI, 96, .inl (fun z9 => nI (sk z9)))), ((mq 10), .inl (cI, 96, .inl sb9)), ((mq 11), .inl (cI, 8, .inl (fun z9 => nI (sz z9)))), ((mq 0), .inl (cI, 80, .inl X.1)), ((mq 1), .inl (cI, 80, .inl X.2.1)), ((mq 2), .inl (cI, 80, .inl X.2.2.1)), ((mq 3), .inl (cI, 80, .inl X.2.2.2.1)), ((mq 14), .inl (cZ, 80, .inl (fun z9 => gb ((bp (bp R3 a0 True) b0 True) z9)))), ((mq 15), .inl (cZ, 8, .inl (upd (fun z9 => gb (Q3 z9)) c0 (vp_nar .boolean 1))))] H := hP
                            have hD : va_D A [(mo, .inr (6, [.ref (mq 0), .ref (mq 1), .ref (mq 2), .ref (mq 3), .int (nI X.2.2.2.2), .ref (mq 5), .ref (mq 6), .int (nI F), .ref (mq 8), .ref (mq 9), .ref (mq 10), .ref (mq 11), .ref (mq 12), .ref (mq 13), .ref (mq 14), .ref (mq 15), .ref (mq 16), .ref (mq 17), .ref (mq 18), .ref (mq 19), .ref (mq 20), .ref (mq 21), .ref (mq 22), .int (nI dp)])), ((mq 8), .inl (cI, 96, .inl (fun z9 => nI (sk z9)))), ((mq 10), .inl (cI, 96, .inl sb9)), ((mq 11), .inl (cI, 8, .inl (fun z9 => nI (sz z9)))), ((mq 0), .inl (cI, 80, .inl X.1)), ((mq 1), .inl (cI, 80, .inl X.2.1)), ((mq 2), .inl (cI, 80, .inl X.2.2.1)), ((mq 3), .inl (cI, 80, .inl X.2.2.2.1)), ((mq 14), .inl (cZ, 80, .inl (fun z9 => gb ((bp (bp R3 a0 True) b0 True) z9)))), ((mq 15), .inl (cZ, 8, .inl (upd (fun z9 => gb (Q3 z9)) c0 (vp_nar .boolean 1))))] := hD
                            rw [gm_bp1] at hP hD
                            have hP : va_P D vwCl [(mo, .inr (6, [.ref (mq 0), .ref (mq 1), .ref (mq 2), .ref (mq 3), .int (nI X.2.2.2.2), .ref (mq 5), .ref (mq 6), .int (nI F), .ref (mq 8), .ref (mq 9), .ref (mq 10), .ref (mq 11), .ref (mq 12), .ref (mq 13), .ref (mq 14), .ref (mq 15), .ref (mq 16), .ref (mq 17), .ref (mq 18), .ref (mq 19), .ref (mq 20), .ref (mq 21), .ref (mq 22), .int (nI dp)])), ((mq 8), .inl (cI, 96, .inl (fun z9 => nI (sk z9)))), ((mq 10), .inl (cI, 96, .inl sb9)), ((mq 11), .inl (cI, 8, .inl (fun z9 => nI (sz z9)))), ((mq 0), .inl (cI, 80, .inl X.1)), ((mq 1), .inl (cI, 80, .inl X.2.1)), ((mq 2), .inl (cI, 80, .inl X.2.2.1)), ((mq 3), .inl (cI, 80, .inl X.2.2.2.1)), ((mq 14), .inl (cZ, 80, .inl (fun z9 => gb ((bp (bp R3 a0 True) b0 True) z9)))), ((mq 15), .inl (cZ, 8, .inl (fun z9 => gb ((bp Q3 c0 True) z9))))] H := hP
                            have hD : va_D A [(mo, .inr (6, [.ref (mq 0), .ref (mq 1), .ref (mq 2), .ref (mq 3), .int (nI X.2.2.2.2), .ref (mq 5), .ref (mq 6), .int (nI F), .ref (mq 8), .ref (mq 9), .ref (mq 10), .ref (mq 11), .ref (mq 12), .ref (mq 13), .ref (mq 14), .ref (mq 15), .ref (mq 16), .ref (mq 17), .ref (mq 18), .ref (mq 19), .ref (mq 20), .ref (mq 21), .ref (mq 22), .int (nI dp)])), ((mq 8), .inl (cI, 96, .inl (fun z9 => nI (sk z9)))), ((mq 10), .inl (cI, 96, .inl sb9)), ((mq 11), .inl (cI, 8, .inl (fun z9 => nI (sz z9)))), ((mq 0), .inl (cI, 80, .inl X.1)), ((mq 1), .inl (cI, 80, .inl X.2.1)), ((mq 2), .inl (cI, 80, .inl X.2.2.1)), ((mq 3), .inl (cI, 80, .inl X.2.2.2.1)), ((mq 14), .inl (cZ, 80, .inl (fun z9 => gb ((bp (bp R3 a0 True) b0 True) z9)))), ((mq 15), .inl (cZ, 8, .inl (fun z9 => gb ((bp Q3 c0 True) z9))))] := hD
                            obtain ⟨v165, e165⟩ : ∃ y : Int32, y = (nI j) + Int32.ofInt (-1) := ⟨_, rfl⟩
                            refine lv_iinc (v := v165) (lv' := [(2, .int v165), (0, .ref mo), (1, .int (nI f))]) hx hb dM_direct_165 hl (k := 0) rfl (e165.symm) (by decide) rfl (fun ls hl => ?_)
                            refine lv_goto (tgt := 80) hx hb dM_direct_168 (by decide) ?_
                            exact ih80 j v165 (bp (bp R3 a0 True) b0 True) (bp Q3 c0 True) (by omega) (by omega) (by rw [e165]; exact gm_m1 _) (dj_step hX.1 hDI (by omega) (gb_0 c90) (by rw [hk1, cn_nI (by omega)]; omega) (by rw [hae, cn_nI (by omega)]; exact hal) (by rw [hk1, cn_nI (by omega)]; intro y; rw [hbe, cn_nI (by omega)]; exact hbl) (fun z => by rw [bp_t, bp_t, hk1, hae, cn_nI (by omega), cn_nI (by omega)]; rw [hbe, cn_nI (by omega), or_assoc]; exact or_congr Iff.rfl (or_congr Iff.rfl ⟨fun y => ⟨hpx, y⟩, fun y => y.2⟩)) (fun z => by rw [bp_t, hk1, hce, cn_nI (by omega), cn_nI (by omega)]; exact or_congr Iff.rfl ⟨fun y => ⟨g150, y⟩, fun y => y.2⟩)) _ _ _ hP hD hS (lv_sub hl [0, 1, 2] rfl)
                      · have g100 : ¬ (2 ≤ kd) := fun z => c100 ((gx_le (rfl : (2 : Int32) = nI 2) (rfl : (nI kd) = (nI kd)) (by decide) (by omega)).mpr z)
                        refine lv_goto (tgt := 165) hx hb dM_direct_103 (by decide) ?_
                        obtain ⟨v165, e165⟩ : ∃ y : Int32, y = (nI j) + Int32.ofInt (-1) := ⟨_, rfl⟩
                        refine lv_iinc (v := v165) (lv' := [(2, .int v165), (0, .ref mo), (1, .int (nI f))]) hx hb dM_direct_165 hl (k := 0) rfl (e165.symm) (by decide) rfl (fun ls hl => ?_)
                        refine lv_goto (tgt := 80) hx hb dM_direct_168 (by decide) ?_
                        exact ih80 j v165 R3 Q3 (by omega) (by omega) (by rw [e165]; exact gm_m1 _) (dj_skip hDI (fun _ => by rw [hk1, cn_nI (by omega)]; omega)) _ _ _ hP hD hS (lv_sub hl [0, 1, 2] rfl)
              exact lp80 ((X.2.2.2.2) + 1) X.2.2.2.2 v78 R2 Q0 (by omega) (Nat.le_refl _) e78 (di_beg2 hX.1 (fun z hz => by rw [hR2 z hz, show k = sz f by omega]) (fun z hz => us_lt hX.1 (fun k2 y1 y2 => hsb f k2 hf y1 y2) hz)) _ _ _ hP hD hS (lv_sub hl [0, 1, 2] rfl)
            · have g30 : ¬ ((sz f) ≤ k) := fun z => c30 ((gx_le (rfl : (nI (sz f)) = (nI (sz f))) (rfl : (nI k) = (nI k)) (by omega) (by omega)).mpr z)
              refine lv_aload_n hx hb dM_direct_33 rfl (lv_at hl 1 rfl) ?_
              refine va_get (D := D) (ci := 6) (v := .ref (mq 8)) (C := R_M) (T := F_M) (N := 24) hx hb ht i_M hown hK hP 0 rfl rfl 8 (by decide) (ht _ m_462) (fun _ h9 => h9) rfl dM_direct_34 ?_
              refine lv_bipush (v := 12) hx hb dM_direct_37 (by decide) ?_
              refine lv_iload_n hx hb dM_direct_39 rfl (lv_at hl 2 rfl) ?_
              refine lv_imul hx hb dM_direct_40 ?_
              refine lv_topi (fun v40 e40 => ?_)
              have n40 : v40 = nI (12 * f) := by rw [e40]; exact gx_mul (rfl : (12 : Int32) = nI 12) (rfl : (nI f) = (nI f))
              subst n40
              refine lv_iload_n hx hb dM_direct_41 rfl (lv_at hl 0 rfl) ?_
              refine lv_iadd hx hb dM_direct_42 ?_
              refine lv_topi (fun v42 e42 => ?_)
              have n42 : v42 = nI ((12 * f) + k) := by rw [e42]; exact gx_add (rfl : (nI (12 * f)) = (nI (12 * f))) (rfl : (nI k) = (nI k))
              subst n42
              have i43 : vp_in (nI ((12 * f) + k)) 96 := gx_in (rfl : (nI ((12 * f) + k)) = (nI ((12 * f) + k))) (by omega) (by decide)
              have k43 : ((nI ((12 * f) + k)) : Int32).toNatClampNeg = ((12 * f) + k) := gx_cl (rfl : (nI ((12 * f) + k)) = (nI ((12 * f) + k))) (by omega)
              refine va_iald hx hb hK hP 1 0 rfl rfl i43 dM_direct_43 ?_
              rw [k43]
              refine lv_topi (fun v43 e43 => ?_)
              have n43 : v43 = nI (sk ((12 * f) + k)) := e43
              subst n43
              refine gc_i (va_runS (As := [.int (nI (sk ((12 * f) + k)))]) (rest := []) ⟨hx, hb, hml, hown, ht⟩ (c_M_uses l D cI cJ cB cZ (sk ((12 * f) + k)) (by omega) H.size) (va_cwS 1 ht (gw_S m_563 m_564 m_6 m_565) rfl rfl rfl (by decide +kernel) ⟨Nat.le_of_ble_eq_true rfl, Nat.le_of_ble_eq_true rfl⟩) (gp_S hK hN (hP.sub (ws' := ([] : va_W)) [] rfl) (hD.sub (ws' := ([] : va_W)) [] (by decide) rfl)) rfl rfl hl.1 rfl (lv_room (Nat.le_of_ble_eq_true rfl)) dM_direct_44 ⟨Nat.le_of_ble_eq_true rfl, Nat.le_of_ble_eq_true rfl⟩) hP hD hS hA [] rfl (by decide) (fun r w h => by obtain ⟨_, rfl⟩ := h; rfl) (fun r44 w44 H locs p44 hP hD hS => ?_)
              obtain ⟨rfl, rfl⟩ := p44
              have hP : va_P D vwCl [(mo, .inr (6, [.ref (mq 0), .ref (mq 1), .ref (mq 2), .ref (mq 3), .int (nI X.2.2.2.2), .ref (mq 5), .ref (mq 6), .int (nI F), .ref (mq 8), .ref (mq 9), .ref (mq 10), .ref (mq 11), .ref (mq 12), .ref (mq 13), .ref (mq 14), .ref (mq 15), .ref (mq 16), .ref (mq 17), .ref (mq 18), .ref (mq 19), .ref (mq 20), .ref (mq 21), .ref (mq 22), .int (nI dp)])), ((mq 8), .inl (cI, 96, .inl (fun z9 => nI (sk z9)))), ((mq 10), .inl (cI, 96, .inl sb9)), ((mq 11), .inl (cI, 8, .inl (fun z9 => nI (sz z9)))), ((mq 0), .inl (cI, 80, .inl X.1)), ((mq 1), .inl (cI, 80, .inl X.2.1)), ((mq 2), .inl (cI, 80, .inl X.2.2.1)), ((mq 3), .inl (cI, 80, .inl X.2.2.2.1)), ((mq 14), .inl (cZ, 80, .inl (fun z9 => gb (R2 z9)))), ((mq 15), .inl (cZ, 8, .inl (fun z9 => gb (Q0 z9))))] H := hP
              have hD : va_D A [(mo, .inr (6, [.ref (mq 0), .ref (mq 1), .ref (mq 2), .ref (mq 3), .int (nI X.2.2.2.2), .ref (mq 5), .ref (mq 6), .int (nI F), .ref (mq 8), .ref (mq 9), .ref (mq 10), .ref (mq 11), .ref (mq 12), .ref (mq 13), .ref (mq 14), .ref (mq 15), .ref (mq 16), .ref (mq 17), .ref (mq 18), .ref (mq 19), .ref (mq 20), .ref (mq 21), .ref (mq 22), .int (nI dp)])), ((mq 8), .inl (cI, 96, .inl (fun z9 => nI (sk z9)))), ((mq 10), .inl (cI, 96, .inl sb9)), ((mq 11), .inl (cI, 8, .inl (fun z9 => nI (sz z9)))), ((mq 0), .inl (cI, 80, .inl X.1)), ((mq 1), .inl (cI, 80, .inl X.2.1)), ((mq 2), .inl (cI, 80, .inl X.2.2.1)), ((mq 3), .inl (cI, 80, .inl X.2.2.2.1)), ((mq 14), .inl (cZ, 80, .inl (fun z9 => gb (R2 z9)))), ((mq 15), .inl (cZ, 8, .inl (fun z9 => gb (Q0 z9))))] := hD
              refine lv_if_eq (tgt := 67) hx hb dM_direct_47 (by decide) (fun c47 => ?_) (fun c47 => ?_)
              · refine lv_iinc (v := (nI (k + 1))) (lv' := [(2, .int (nI (k + 1))), (0, .ref mo), (1, .int (nI f))]) hx hb dM_direct_67 hl (k := 0) rfl (gx_inc (rfl : (nI k) = (nI k))) (by decide) rfl (fun ls hl => ?_)
                refine lv_goto (tgt := 23) hx hb dM_direct_70 (by decide) ?_
                exact ih23 (k + 1) R2 (by omega) (by omega) (fun z hz => (hR2 z hz).trans ⟨fun ⟨k2, y1, y2⟩ => ⟨k2, by omega, y2⟩, fun ⟨k2, y1, y2, y3⟩ => by rcases Nat.eq_or_lt_of_le (Nat.le_of_lt_succ y1) with rfl | y1; exact absurd y2 (gb_1.mp c47); exact ⟨k2, y1, y2, y3⟩⟩) _ _ _ hP hD hS (lv_sub hl [0, 1, 2] rfl)
              · obtain ⟨e0, he1, he0⟩ := hsb f k (by omega) (by omega) (gb_0 c47)
                refine lv_aload_n hx hb dM_direct_50 rfl (lv_at hl 1 rfl) ?_
                refine va_get (D := D) (ci := 6) (v := .ref (mq 14)) (C := R_M) (T := F_M) (N := 24) hx hb ht i_M hown hK hP 0 rfl rfl 14 (by decide) (ht _ m_468) (fun _ h9 => h9) rfl dM_direct_51 ?_
                refine lv_aload_n hx hb dM_direct_54 rfl (lv_at hl 1 rfl) ?_
                refine va_get (D := D) (ci := 6) (v := .ref (mq 10)) (C := R_M) (T := F_M) (N := 24) hx hb ht i_M hown hK hP 0 rfl rfl 10 (by decide) (ht _ m_464) (fun _ h9 => h9) rfl dM_direct_55 ?_
                refine lv_bipush (v := 12) hx hb dM_direct_58 (by decide) ?_
                refine lv_iload_n hx hb dM_direct_60 rfl (lv_at hl 2 rfl) ?_
                refine lv_imul hx hb dM_direct_61 ?_
                refine lv_topi (fun v61 e61 => ?_)
                have n61 : v61 = nI (12 * f) := by rw [e61]; exact gx_mul (rfl : (12 : Int32) = nI 12) (rfl : (nI f) = (nI f))
                subst n61
                refine lv_iload_n hx hb dM_direct_62 rfl (lv_at hl 0 rfl) ?_
                refine lv_iadd hx hb dM_direct_63 ?_
                refine lv_topi (fun v63 e63 => ?_)
                have n63 : v63 = nI ((12 * f) + k) := by rw [e63]; exact gx_add (rfl : (nI (12 * f)) = (nI (12 * f))) (rfl : (nI k) = (nI k))
                subst n63
                have i64 : vp_in (nI ((12 * f) + k)) 96 := gx_in (rfl : (nI ((12 * f) + k)) = (nI ((12 * f) + k))) (by omega) (by decide)
                have k64 : ((nI ((12 * f) + k)) : Int32).toNatClampNeg = ((12 * f) + k) := gx_cl (rfl : (nI ((12 * f) + k)) = (nI ((12 * f) + k))) (by omega)
                refine va_iald hx hb hK hP 2 0 rfl rfl i64 dM_direct_64 ?_
                rw [k64]
                refine lv_topi (fun v64 e64 => ?_)
                rw [he0] at e64
                subst e64
                refine lv_iconst (v := 1) hx hb dM_direct_65 (by decide) ?_
                have i66 : vp_in (nI e0) 80 := gx_in (rfl : (nI e0) = (nI e0)) (by omega) (by decide)
                have k66 : ((nI e0) : Int32).toNatClampNeg = e0 := gx_cl (rfl : (nI e0) = (nI e0)) (by omega)
                refine va_zast hx hb hK hP hD hS 8 3 rfl rfl i66 dM_direct_66 (fun H locs hP hD hS => ?_)
                rw [k66] at hP hD
                have hP : va_P D vwCl [(mo, .inr (6, [.ref (mq 0), .ref (mq 1), .ref (mq 2), .ref (mq 3), .int (nI X.2.2.2.2), .ref (mq 5), .ref (mq 6), .int (nI F), .ref (mq 8), .ref (mq 9), .ref (mq 10), .ref (mq 11), .ref (mq 12), .ref (mq 13), .ref (mq 14), .ref (mq 15), .ref (mq 16), .ref (mq 17), .ref (mq 18), .ref (mq 19), .ref (mq 20), .ref (mq 21), .ref (mq 22), .int (nI dp)])), ((mq 8), .inl (cI, 96, .inl (fun z9 => nI (sk z9)))), ((mq 10), .inl (cI, 96, .inl sb9)), ((mq 11), .inl (cI, 8, .inl (fun z9 => nI (sz z9)))), ((mq 0), .inl (cI, 80, .inl X.1)), ((mq 1), .inl (cI, 80, .inl X.2.1)), ((mq 2), .inl (cI, 80, .inl X.2.2.1)), ((mq 3), .inl (cI, 80, .inl X.2.2.2.1)), ((mq 14), .inl (cZ, 80, .inl (upd (fun z9 => gb (R2 z9)) e0 (vp_nar .boolean 1)))), ((mq 15), .inl (cZ, 8, .inl (fun z9 => gb (Q0 z9))))] H := hP
                have hD : va_D A [(mo, .inr (6, [.ref (mq 0), .ref (mq 1), .ref (mq 2), .ref (mq 3), .int (nI X.2.2.2.2), .ref (mq 5), .ref (mq 6), .int (nI F), .ref (mq 8), .ref (mq 9), .ref (mq 10), .ref (mq 11), .ref (mq 12), .ref (mq 13), .ref (mq 14), .ref (mq 15), .ref (mq 16), .ref (mq 17), .ref (mq 18), .ref (mq 19), .ref (mq 20), .ref (mq 21), .ref (mq 22), .int (nI dp)])), ((mq 8), .inl (cI, 96, .inl (fun z9 => nI (sk z9)))), ((mq 10), .inl (cI, 96, .inl sb9)), ((mq 11), .inl (cI, 8, .inl (fun z9 => nI (sz z9)))), ((mq 0), .inl (cI, 80, .inl X.1)), ((mq 1), .inl (cI, 80, .inl X.2.1)), ((mq 2), .inl (cI, 80, .inl X.2.2.1)), ((mq 3), .inl (cI, 80, .inl X.2.2.2.1)), ((mq 14), .inl (cZ, 80, .inl (upd (fun z9 => gb (R2 z9)) e0 (vp_nar .boolean 1)))), ((mq 15), .inl (cZ, 8, .inl (fun z9 => gb (Q0 z9))))] := hD
                rw [gm_bp1] at hP hD
                have hP : va_P D vwCl [(mo, .inr (6, [.ref (mq 0), .ref (mq 1), .ref (mq 2), .ref (mq 3), .int (nI X.2.2.2.2), .ref (mq 5), .ref (mq 6), .int (nI F), .ref (mq 8), .ref (mq 9), .ref (mq 10), .ref (mq 11), .ref (mq 12), .ref (mq 13), .ref (mq 14), .ref (mq 15), .ref (mq 16), .ref (mq 17), .ref (mq 18), .ref (mq 19), .ref (mq 20), .ref (mq 21), .ref (mq 22), .int (nI dp)])), ((mq 8), .inl (cI, 96, .inl (fun z9 => nI (sk z9)))), ((mq 10), .inl (cI, 96, .inl sb9)), ((mq 11), .inl (cI, 8, .inl (fun z9 => nI (sz z9)))), ((mq 0), .inl (cI, 80, .inl X.1)), ((mq 1), .inl (cI, 80, .inl X.2.1)), ((mq 2), .inl (cI, 80, .inl X.2.2.1)), ((mq 3), .inl (cI, 80, .inl X.2.2.2.1)), ((mq 14), .inl (cZ, 80, .inl (fun z9 => gb ((bp R2 e0 True) z9)))), ((mq 15), .inl (cZ, 8, .inl (fun z9 => gb (Q0 z9))))] H := hP
                have hD : va_D A [(mo, .inr (6, [.ref (mq 0), .ref (mq 1), .ref (mq 2), .ref (mq 3), .int (nI X.2.2.2.2), .ref (mq 5), .ref (mq 6), .int (nI F), .ref (mq 8), .ref (mq 9), .ref (mq 10), .ref (mq 11), .ref (mq 12), .ref (mq 13), .ref (mq 14), .ref (mq 15), .ref (mq 16), .ref (mq 17), .ref (mq 18), .ref (mq 19), .ref (mq 20), .ref (mq 21), .ref (mq 22), .int (nI dp)])), ((mq 8), .inl (cI, 96, .inl (fun z9 => nI (sk z9)))), ((mq 10), .inl (cI, 96, .inl sb9)), ((mq 11), .inl (cI, 8, .inl (fun z9 => nI (sz z9)))), ((mq 0), .inl (cI, 80, .inl X.1)), ((mq 1), .inl (cI, 80, .inl X.2.1)), ((mq 2), .inl (cI, 80, .inl X.2.2.1)), ((mq 3), .inl (cI, 80, .inl X.2.2.2.1)), ((mq 14), .inl (cZ, 80, .inl (fun z9 => gb ((bp R2 e0 True) z9)))), ((mq 15), .inl (cZ, 8, .inl (fun z9 => gb (Q0 z9))))] := hD
                refine lv_iinc (v := (nI (k + 1))) (lv' := [(2, .int (nI (k + 1))), (0, .ref mo), (1, .int (nI f))]) hx hb dM_direct_67 hl (k := 0) rfl (gx_inc (rfl : (nI k) = (nI k))) (by decide) rfl (fun ls hl => ?_)
                refine lv_goto (tgt := 23) hx hb dM_direct_70 (by decide) ?_
                exact ih23 (k + 1) (bp R2 e0 True) (by omega) (by omega) (fun z hz => by rw [bp_t, hR2 z hz]; exact ⟨fun y => y.elim (fun ⟨k2, y1, y2⟩ => ⟨k2, by omega, y2⟩) (fun y => ⟨k, by omega, gb_0 c47, by rw [he0, y]; exact cn_nI (by omega)⟩), fun ⟨k2, y1, y2, y3⟩ => by rcases Nat.eq_or_lt_of_le (Nat.le_of_lt_succ y1) with rfl | y1; (rw [he0, cn_nI (by omega)] at y3; exact Or.inr y3.symm); exact Or.inl ⟨k2, y1, y2, y3⟩⟩) _ _ _ hP hD hS (lv_sub hl [0, 1, 2] rfl)
        exact lp23 (sz f - (0) + 1) 0 R (by omega) (by omega) (fun z hz => ⟨fun y => absurd y (hR z (by omega)), fun ⟨_, y, _⟩ => absurd y (by omega)⟩) _ _ _ hP hD hS (lv_sub hl [0, 1, 2] rfl)
      · have g5 : ¬ (80 ≤ i) := fun z => c5 ((gx_le (rfl : (80 : Int32) = nI 80) (rfl : (nI i) = (nI i)) (by decide) (by omega)).mpr z)
        refine lv_aload_n hx hb dM_direct_8 rfl (lv_at hl 1 rfl) ?_
        refine va_get (D := D) (ci := 6) (v := .ref (mq 14)) (C := R_M) (T := F_M) (N := 24) hx hb ht i_M hown hK hP 0 rfl rfl 14 (by decide) (ht _ m_468) (fun _ h9 => h9) rfl dM_direct_9 ?_
        refine lv_iload_n hx hb dM_direct_12 rfl (lv_at hl 0 rfl) ?_
        refine lv_iconst (v := 0) hx hb dM_direct_13 (by decide) ?_
        have i14 : vp_in (nI i) 80 := gx_in (rfl : (nI i) = (nI i)) (by omega) (by decide)
        have k14 : ((nI i) : Int32).toNatClampNeg = i := gx_cl (rfl : (nI i) = (nI i)) (by omega)
        refine va_zast hx hb hK hP hD hS 8 3 rfl rfl i14 dM_direct_14 (fun H locs hP hD hS => ?_)
        rw [k14] at hP hD
        have hP : va_P D vwCl [(mo, .inr (6, [.ref (mq 0), .ref (mq 1), .ref (mq 2), .ref (mq 3), .int (nI X.2.2.2.2), .ref (mq 5), .ref (mq 6), .int (nI F), .ref (mq 8), .ref (mq 9), .ref (mq 10), .ref (mq 11), .ref (mq 12), .ref (mq 13), .ref (mq 14), .ref (mq 15), .ref (mq 16), .ref (mq 17), .ref (mq 18), .ref (mq 19), .ref (mq 20), .ref (mq 21), .ref (mq 22), .int (nI dp)])), ((mq 8), .inl (cI, 96, .inl (fun z9 => nI (sk z9)))), ((mq 10), .inl (cI, 96, .inl sb9)), ((mq 11), .inl (cI, 8, .inl (fun z9 => nI (sz z9)))), ((mq 0), .inl (cI, 80, .inl X.1)), ((mq 1), .inl (cI, 80, .inl X.2.1)), ((mq 2), .inl (cI, 80, .inl X.2.2.1)), ((mq 3), .inl (cI, 80, .inl X.2.2.2.1)), ((mq 14), .inl (cZ, 80, .inl (upd (fun z9 => gb (R z9)) i (vp_nar .boolean 0)))), ((mq 15), .inl (cZ, 8, .inl (fun z9 => gb (Q0 z9))))] H := hP
        have hD : va_D A [(mo, .inr (6, [.ref (mq 0), .ref (mq 1), .ref (mq 2), .ref (mq 3), .int (nI X.2.2.2.2), .ref (mq 5), .ref (mq 6), .int (nI F), .ref (mq 8), .ref (mq 9), .ref (mq 10), .ref (mq 11), .ref (mq 12), .ref (mq 13), .ref (mq 14), .ref (mq 15), .ref (mq 16), .ref (mq 17), .ref (mq 18), .ref (mq 19), .ref (mq 20), .ref (mq 21), .ref (mq 22), .int (nI dp)])), ((mq 8), .inl (cI, 96, .inl (fun z9 => nI (sk z9)))), ((mq 10), .inl (cI, 96, .inl sb9)), ((mq 11), .inl (cI, 8, .inl (fun z9 => nI (sz z9)))), ((mq 0), .inl (cI, 80, .inl X.1)), ((mq 1), .inl (cI, 80, .inl X.2.1)), ((mq 2), .inl (cI, 80, .inl X.2.2.1)), ((mq 3), .inl (cI, 80, .inl X.2.2.2.1)), ((mq 14), .inl (cZ, 80, .inl (upd (fun z9 => gb (R z9)) i (vp_nar .boolean 0)))), ((mq 15), .inl (cZ, 8, .inl (fun z9 => gb (Q0 z9))))] := hD
        rw [gm_bp0] at hP hD
        have hP : va_P D vwCl [(mo, .inr (6, [.ref (mq 0), .ref (mq 1), .ref (mq 2), .ref (mq 3), .int (nI X.2.2.2.2), .ref (mq 5), .ref (mq 6), .int (nI F), .ref (mq 8), .ref (mq 9), .ref (mq 10), .ref (mq 11), .ref (mq 12), .ref (mq 13), .ref (mq 14), .ref (mq 15), .ref (mq 16), .ref (mq 17), .ref (mq 18), .ref (mq 19), .ref (mq 20), .ref (mq 21), .ref (mq 22), .int (nI dp)])), ((mq 8), .inl (cI, 96, .inl (fun z9 => nI (sk z9)))), ((mq 10), .inl (cI, 96, .inl sb9)), ((mq 11), .inl (cI, 8, .inl (fun z9 => nI (sz z9)))), ((mq 0), .inl (cI, 80, .inl X.1)), ((mq 1), .inl (cI, 80, .inl X.2.1)), ((mq 2), .inl (cI, 80, .inl X.2.2.1)), ((mq 3), .inl (cI, 80, .inl X.2.2.2.1)), ((mq 14), .inl (cZ, 80, .inl (fun z9 => gb ((bp R i False) z9)))), ((mq 15), .inl (cZ, 8, .inl (fun z9 => gb (Q0 z9))))] H := hP
        have hD : va_D A [(mo, .inr (6, [.ref (mq 0), .ref (mq 1), .ref (mq 2), .ref (mq 3), .int (nI X.2.2.2.2), .ref (mq 5), .ref (mq 6), .int (nI F), .ref (mq 8), .ref (mq 9), .ref (mq 10), .ref (mq 11), .ref (mq 12), .ref (mq 13), .ref (mq 14), .ref (mq 15), .ref (mq 16), .ref (mq 17), .ref (mq 18), .ref (mq 19), .ref (mq 20), .ref (mq 21), .ref (mq 22), .int (nI dp)])), ((mq 8), .inl (cI, 96, .inl (fun z9 => nI (sk z9)))), ((mq 10), .inl (cI, 96, .inl sb9)), ((mq 11), .inl (cI, 8, .inl (fun z9 => nI (sz z9)))), ((mq 0), .inl (cI, 80, .inl X.1)), ((mq 1), .inl (cI, 80, .inl X.2.1)), ((mq 2), .inl (cI, 80, .inl X.2.2.1)), ((mq 3), .inl (cI, 80, .inl X.2.2.2.1)), ((mq 14), .inl (cZ, 80, .inl (fun z9 => gb ((bp R i False) z9)))), ((mq 15), .inl (cZ, 8, .inl (fun z9 => gb (Q0 z9))))] := hD
        refine lv_iinc (v := (nI (i + 1))) (lv' := [(2, .int (nI (i + 1))), (0, .ref mo), (1, .int (nI f))]) hx hb dM_direct_15 hl (k := 0) rfl (gx_inc (rfl : (nI i) = (nI i))) (by decide) rfl (fun ls hl => ?_)
        refine lv_goto (tgt := 2) hx hb dM_direct_18 (by decide) ?_
        exact ih2 (i + 1) (bp R i False) (by omega) (by omega) (fun z hz y => by have y := bp_f.mp y; exact hR z (by omega) y.1) _ _ _ hP hD hS (lv_sub hl [0, 1, 2] rfl)
  exact lp2 (80 - (0) + 1) 0 R0 (by omega) (by omega) (fun z hz => absurd hz (by omega)) _ _ _ hP hD hS (lv_sub hl [0, 1, 2] rfl)

