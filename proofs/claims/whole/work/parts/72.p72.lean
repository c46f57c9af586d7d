/-- from a, on one level, b is the next ELSE or END -/
def blk (B : Bd) (a b : Nat) : Prop := cls (kb B.1 B.2.2.2.2.2.2.1) True (B.2.2.2.2.2.2.1 + 13 - a) a 0 = b ∧ b < B.2.2.2.2.2.2.1 + 13
section BLK
variable {B : Bd} {x b : Nat}
theorem blk_le (h : blk B x b) : x ≤ b := by rw [← h.1]; exact (cls_le _ _ _).1
theorem blk_K (h : blk B x b) : kb B.1 B.2.2.2.2.2.2.1 b = 5 ∨ kb B.1 B.2.2.2.2.2.2.1 b = 3 := cls_found _ _ _ _ h.1 (by have := h.2; have := blk_le h; omega)
theorem blk_ps (hB : bdI B) (h : blk B x b) : ps (kb B.1 B.2.2.2.2.2.2.1) b = ps (kb B.1 B.2.2.2.2.2.2.1) x := cls_drop (kb_le hB.2.1) _ _ _ _ h.1 (by have := h.2; have := blk_le h; omega)
theorem blk_end (h : blk B x b) (hk : kb B.1 B.2.2.2.2.2.2.1 x = 5 ∨ kb B.1 B.2.2.2.2.2.2.1 x = 3) : x = b := by
  have h1 := h.1
  have h2 := h.2
  have h3 := blk_le h
  rw [show B.2.2.2.2.2.2.1 + 13 - x = B.2.2.2.2.2.2.1 + 13 - (x + 1) + 1 by omega, cls_T, if_pos ⟨rfl, hk⟩] at h1
  exact h1
theorem blk_1 (h : blk B x b) (hk : kb B.1 B.2.2.2.2.2.2.1 x ≤ 1) : blk B (x + 1) b ∧ ps (kb B.1 B.2.2.2.2.2.2.1) (x + 1) = ps (kb B.1 B.2.2.2.2.2.2.1) x := by
  have h1 := h.1
  have h2 := h.2
  have h3 := blk_le h
  rw [show B.2.2.2.2.2.2.1 + 13 - x = B.2.2.2.2.2.2.1 + 13 - (x + 1) + 1 by omega, cls_T, if_neg (by omega), if_neg (by omega), if_neg (by omega)] at h1
  exact ⟨⟨h1, h2⟩, ps_no hk⟩
theorem Cl_blk {p N : Nat} (h : Cl (kb B.1 B.2.2.2.2.2.2.1) (B.2.2.2.2.2.2.1 + 13) p < B.2.2.2.2.2.2.1 + 13) : blk B (p + 1) (Cl (kb B.1 B.2.2.2.2.2.2.1) (B.2.2.2.2.2.2.1 + 13) p) := ⟨rfl, h⟩
/-- within an opener, and out of it -/
theorem blk_o (hB : bdI B) (h : blk B x b) (hx : x < B.2.2.2.2.2.2.1) (hk : kb B.1 B.2.2.2.2.2.2.1 x = 2 ∨ kb B.1 B.2.2.2.2.2.2.1 x = 4) {oe : Prop} (hoe : ¬ oe) {E : Nat} (hE : cls (kb B.1 B.2.2.2.2.2.2.1) oe (B.2.2.2.2.2.2.1 + 13 - (x + 1)) (x + 1) 0 = E) (hN : E < B.2.2.2.2.2.2.1 + 13) (hpE : ∃ t, ps (kb B.1 B.2.2.2.2.2.2.1) E = (t, x) :: ps (kb B.1 B.2.2.2.2.2.2.1) x) (h5 : kb B.1 B.2.2.2.2.2.2.1 E = 5) : blk B (E + 1) b ∧ ps (kb B.1 B.2.2.2.2.2.2.1) (E + 1) = ps (kb B.1 B.2.2.2.2.2.2.1) x := by
  have h1 := h.1
  have h2 := h.2
  rw [show B.2.2.2.2.2.2.1 + 13 - x = B.2.2.2.2.2.2.1 + 13 - (x + 1) + 1 by omega, cls_T, if_neg (by omega), if_pos hk] at h1
  have h4 := cls_comp hoe (B.2.2.2.2.2.2.1 + 13 - (x + 1)) (x + 1) 0 0 E hE (by omega)
  rw [show 0 + 1 + 0 = 0 + 1 from rfl] at h4
  rw [h4, show x + 1 + (B.2.2.2.2.2.2.1 + 13 - (x + 1)) - (E + 1) = B.2.2.2.2.2.2.1 + 13 - (E + 1) by omega] at h1
  refine ⟨⟨h1, h2⟩, ?_⟩
  obtain ⟨t, ht⟩ := hpE
  rw [ps_5 h5, ht]; rfl
/-- all that is to be known of an IF or REPEAT -/
theorem blk_op (hB : bdI B) (h : blk B x b) (hx : x < B.2.2.2.2.2.2.1) (hk : kb B.1 B.2.2.2.2.2.2.1 x = 2 ∨ kb B.1 B.2.2.2.2.2.2.1 x = 4) : ∃ c, blk B (x + 1) c ∧ x < c ∧ bd_close B x = min c B.2.2.2.2.2.2.1 ∧ ps (kb B.1 B.2.2.2.2.2.2.1) (x + 1) = (x, x) :: ps (kb B.1 B.2.2.2.2.2.2.1) x ∧ ps (kb B.1 B.2.2.2.2.2.2.1) c = (x, x) :: ps (kb B.1 B.2.2.2.2.2.2.1) x ∧
    ((kb B.1 B.2.2.2.2.2.2.1 c = 5 ∧ blk B (c + 1) b ∧ ps (kb B.1 B.2.2.2.2.2.2.1) (c + 1) = ps (kb B.1 B.2.2.2.2.2.2.1) x ∧ bd_end B x = min c B.2.2.2.2.2.2.1 ∧ cls (kb B.1 B.2.2.2.2.2.2.1) True (B.2.2.2.2.2.2.1 + 12 - (x + 1)) (x + 1) 0 = c) ∨
     (kb B.1 B.2.2.2.2.2.2.1 c = 3 ∧ kb B.1 B.2.2.2.2.2.2.1 x = 2 ∧ c < B.2.2.2.2.2.2.1 ∧ cls (kb B.1 B.2.2.2.2.2.2.1) True (B.2.2.2.2.2.2.1 + 12 - (x + 1)) (x + 1) 0 = c ∧ ∃ e, blk B (c + 1) e ∧ c < e ∧ kb B.1 B.2.2.2.2.2.2.1 e = 5 ∧ bd_end B x = min e B.2.2.2.2.2.2.1 ∧ ps (kb B.1 B.2.2.2.2.2.2.1) (c + 1) = (c, x) :: ps (kb B.1 B.2.2.2.2.2.2.1) x ∧ ps (kb B.1 B.2.2.2.2.2.2.1) e = (c, x) :: ps (kb B.1 B.2.2.2.2.2.2.1) x ∧ blk B (e + 1) b ∧ ps (kb B.1 B.2.2.2.2.2.2.1) (e + 1) = ps (kb B.1 B.2.2.2.2.2.2.1) x ∧ ∀ oe : Prop, ¬ oe → cls (kb B.1 B.2.2.2.2.2.2.1) oe (B.2.2.2.2.2.2.1 + 12 - (x + 1)) (x + 1) 0 = e)) := by
  have hK := kb_le (s := B.2.2.2.2.2.2.1) hB.2.1
  have hkd : kb B.1 B.2.2.2.2.2.2.1 x = B.1 x := kb_lt hx
  obtain ⟨d1, d2, d3, d4⟩ := bd_Cl hB (N := B.2.2.2.2.2.2.1 + 13) (by omega) hx (by omega) (by omega)
  obtain ⟨f1, f2, f3, f4⟩ := bd_Cl hB (N := B.2.2.2.2.2.2.1 + 12) (by omega) hx (by omega) (by omega)
  have hcl : ∀ {p : Nat} {oe : Prop}, p < B.2.2.2.2.2.2.1 → cls (kb B.1 B.2.2.2.2.2.2.1) oe (B.2.2.2.2.2.2.1 + 12 - (p + 1)) (p + 1) 0 < B.2.2.2.2.2.2.1 + 12 → cls (kb B.1 B.2.2.2.2.2.2.1) oe (B.2.2.2.2.2.2.1 + 13 - (p + 1)) (p + 1) 0 = cls (kb B.1 B.2.2.2.2.2.2.1) oe (B.2.2.2.2.2.2.1 + 12 - (p + 1)) (p + 1) 0 := fun {p oe} hp hlt => by
    have := cls_loc (K := kb B.1 B.2.2.2.2.2.2.1) (K2 := kb B.1 B.2.2.2.2.2.2.1) (s := B.2.2.2.2.2.2.1 + 12) (fun _ _ => rfl) (oe := oe) (B.2.2.2.2.2.2.1 + 12 - (p + 1)) 1 (p + 1) 0 (by omega) hlt
    rw [show B.2.2.2.2.2.2.1 + 12 - (p + 1) + 1 = B.2.2.2.2.2.2.1 + 13 - (p + 1) by omega] at this
    exact this
  have e12 : Cl (kb B.1 B.2.2.2.2.2.2.1) (B.2.2.2.2.2.2.1 + 13) x = Cl (kb B.1 B.2.2.2.2.2.2.1) (B.2.2.2.2.2.2.1 + 12) x := hcl hx f2
  have hps1 : ps (kb B.1 B.2.2.2.2.2.2.1) (x + 1) = (x, x) :: ps (kb B.1 B.2.2.2.2.2.2.1) x := ps_op hk
  have hbc : blk B (x + 1) (Cl (kb B.1 B.2.2.2.2.2.2.1) (B.2.2.2.2.2.2.1 + 13) x) := ⟨rfl, d2⟩
  have hpsc : ps (kb B.1 B.2.2.2.2.2.2.1) (Cl (kb B.1 B.2.2.2.2.2.2.1) (B.2.2.2.2.2.2.1 + 13) x) = (x, x) :: ps (kb B.1 B.2.2.2.2.2.2.1) x := by rw [blk_ps hB hbc, hps1]
  refine ⟨Cl (kb B.1 B.2.2.2.2.2.2.1) (B.2.2.2.2.2.2.1 + 13) x, hbc, d3, d1, hps1, hpsc, ?_⟩
  rcases d4 with d4 | ⟨d4, d5⟩
  · refine Or.inl ?_
    have hTF := cls_TF (K := kb B.1 B.2.2.2.2.2.2.1) (oe := False) (fun z => z) _ _ _ _ hbc.1 (by omega) d4
    obtain ⟨g1, g2⟩ := blk_o hB h hx hk (oe := False) (fun z => z) hTF d2 ⟨x, hpsc⟩ d4
    refine ⟨d4, g1, g2, ?_, e12.symm⟩
    unfold bd_end
    rw [if_neg, d1]
    rintro ⟨z1, z2⟩
    rw [d1] at z1 z2
    have z3 : min (Cl (kb B.1 B.2.2.2.2.2.2.1) (B.2.2.2.2.2.2.1 + 13) x) B.2.2.2.2.2.2.1 = Cl (kb B.1 B.2.2.2.2.2.2.1) (B.2.2.2.2.2.2.1 + 13) x := by
      have z1' : min (Cl (kb B.1 B.2.2.2.2.2.2.1) (B.2.2.2.2.2.2.1 + 13) x) B.2.2.2.2.2.2.1 < B.2.2.2.2.2.2.1 := z1
      omega
    have z1' : Cl (kb B.1 B.2.2.2.2.2.2.1) (B.2.2.2.2.2.2.1 + 13) x < B.2.2.2.2.2.2.1 := by rw [← z3]; exact z1
    have z2' : B.1 (min (Cl (kb B.1 B.2.2.2.2.2.2.1) (B.2.2.2.2.2.2.1 + 13) x) B.2.2.2.2.2.2.1) = 3 := z2
    have d4' : kb B.1 B.2.2.2.2.2.2.1 (Cl (kb B.1 B.2.2.2.2.2.2.1) (B.2.2.2.2.2.2.1 + 13) x) = 5 := d4
    rw [z3] at z2'
    rw [kb_lt z1'] at d4'
    omega
  · refine Or.inr ?_
    have d4' : kb B.1 B.2.2.2.2.2.2.1 (Cl (kb B.1 B.2.2.2.2.2.2.1) (B.2.2.2.2.2.2.1 + 13) x) = 3 := d4
    have hcs : Cl (kb B.1 B.2.2.2.2.2.2.1) (B.2.2.2.2.2.2.1 + 13) x < B.2.2.2.2.2.2.1 := Classical.byContradiction fun z => by rw [kb_ge (by omega)] at d4'; omega
    have hkc : B.1 (Cl (kb B.1 B.2.2.2.2.2.2.1) (B.2.2.2.2.2.2.1 + 13) x) = 3 := by rw [← d4']; exact (kb_lt hcs).symm
    obtain ⟨i1, i2, i3, i4⟩ := bd_Cl hB (N := B.2.2.2.2.2.2.1 + 13) (by omega) hcs (by omega) (by omega)
    obtain ⟨j1, j2, j3, j4⟩ := bd_Cl hB (N := B.2.2.2.2.2.2.1 + 12) (by omega) hcs (by omega) (by omega)
    have h5 : kb B.1 B.2.2.2.2.2.2.1 (Cl (kb B.1 B.2.2.2.2.2.2.1) (B.2.2.2.2.2.2.1 + 13) (Cl (kb B.1 B.2.2.2.2.2.2.1) (B.2.2.2.2.2.2.1 + 13) x)) = 5 := by
      rcases i4 with z | z
      · exact z
      · omega
    have hbe : blk B (Cl (kb B.1 B.2.2.2.2.2.2.1) (B.2.2.2.2.2.2.1 + 13) x + 1) (Cl (kb B.1 B.2.2.2.2.2.2.1) (B.2.2.2.2.2.2.1 + 13) (Cl (kb B.1 B.2.2.2.2.2.2.1) (B.2.2.2.2.2.2.1 + 13) x)) := ⟨rfl, i2⟩
    have hps2 : ps (kb B.1 B.2.2.2.2.2.2.1) (Cl (kb B.1 B.2.2.2.2.2.2.1) (B.2.2.2.2.2.2.1 + 13) x + 1) = (Cl (kb B.1 B.2.2.2.2.2.2.1) (B.2.2.2.2.2.2.1 + 13) x, x) :: ps (kb B.1 B.2.2.2.2.2.2.1) x := by rw [ps_3 d4', hpsc]; rfl
    have hpse : ps (kb B.1 B.2.2.2.2.2.2.1) (Cl (kb B.1 B.2.2.2.2.2.2.1) (B.2.2.2.2.2.2.1 + 13) (Cl (kb B.1 B.2.2.2.2.2.2.1) (B.2.2.2.2.2.2.1 + 13) x)) = (Cl (kb B.1 B.2.2.2.2.2.2.1) (B.2.2.2.2.2.2.1 + 13) x, x) :: ps (kb B.1 B.2.2.2.2.2.2.1) x := by rw [blk_ps hB hbe, hps2]
    have hE12 : ∀ oe : Prop, ¬ oe → ∀ N, B.2.2.2.2.2.2.1 + 12 ≤ N → Cl (kb B.1 B.2.2.2.2.2.2.1) N (Cl (kb B.1 B.2.2.2.2.2.2.1) (B.2.2.2.2.2.2.1 + 13) x) = Cl (kb B.1 B.2.2.2.2.2.2.1) (B.2.2.2.2.2.2.1 + 13) (Cl (kb B.1 B.2.2.2.2.2.2.1) (B.2.2.2.2.2.2.1 + 13) x) → Cl (kb B.1 B.2.2.2.2.2.2.1) (B.2.2.2.2.2.2.1 + 13) (Cl (kb B.1 B.2.2.2.2.2.2.1) (B.2.2.2.2.2.2.1 + 13) x) < N → cls (kb B.1 B.2.2.2.2.2.2.1) oe (N - (x + 1)) (x + 1) 0 = Cl (kb B.1 B.2.2.2.2.2.2.1) (B.2.2.2.2.2.2.1 + 13) (Cl (kb B.1 B.2.2.2.2.2.2.1) (B.2.2.2.2.2.2.1 + 13) x) := fun oe hoe N hN hcc hlN => by
      have q1 := cls_pf hK hoe (N := N) (Cl (kb B.1 B.2.2.2.2.2.2.1) (B.2.2.2.2.2.2.1 + 13) x) (by omega) (fun i hi => hB.2.2.1 i (by omega)) 0 (x, x) (by rw [hpsc]; rfl)
      have q2 : cls (kb B.1 B.2.2.2.2.2.2.1) oe (N - (x + 1)) (x + 1) 0 = cls (kb B.1 B.2.2.2.2.2.2.1) oe (N - Cl (kb B.1 B.2.2.2.2.2.2.1) (B.2.2.2.2.2.2.1 + 13) x) (Cl (kb B.1 B.2.2.2.2.2.2.1) (B.2.2.2.2.2.2.1 + 13) x) 0 := q1
      rw [q2, show N - Cl (kb B.1 B.2.2.2.2.2.2.1) (B.2.2.2.2.2.2.1 + 13) x = N - (Cl (kb B.1 B.2.2.2.2.2.2.1) (B.2.2.2.2.2.2.1 + 13) x + 1) + 1 by omega, cls_F hoe, if_neg (by omega), if_neg (by omega), if_neg (by omega)]
      exact cls_TF hoe _ _ _ _ hcc (by omega) h5
    have ec12 : Cl (kb B.1 B.2.2.2.2.2.2.1) (B.2.2.2.2.2.2.1 + 13) (Cl (kb B.1 B.2.2.2.2.2.2.1) (B.2.2.2.2.2.2.1 + 13) x) = Cl (kb B.1 B.2.2.2.2.2.2.1) (B.2.2.2.2.2.2.1 + 12) (Cl (kb B.1 B.2.2.2.2.2.2.1) (B.2.2.2.2.2.2.1 + 13) x) := hcl hcs j2
    obtain ⟨g1, g2⟩ := blk_o hB h hx hk (oe := False) (fun z => z) (hE12 False (fun z => z) (B.2.2.2.2.2.2.1 + 13) (by omega) rfl i2) i2 ⟨_, hpse⟩ h5
    refine ⟨d4', by omega, hcs, e12.symm, _, hbe, i3, h5, ?_, hps2, hpse, g1, g2, fun oe hoe => hE12 oe hoe (B.2.2.2.2.2.2.1 + 12) (by omega) ec12.symm (by rw [ec12]; exact j2)⟩
    unfold bd_end
    have z3 : bd_close B x = Cl (kb B.1 B.2.2.2.2.2.2.1) (B.2.2.2.2.2.2.1 + 13) x := by rw [d1]; omega
    rw [z3, if_pos ⟨hcs, hkc⟩, i1]
theorem blk_top (hB : bdI B) : blk B 0 (B.2.2.2.2.2.2.1 + B.2.2.2.2.2.2.2) := by
  refine ⟨bd_top hB (by omega), ?_⟩
  have h1 := hB.1
  have h2 : B.2.2.2.2.2.2.2 ≤ B.2.2.2.2.2.2.1 := (bdI_inv hB).2.1
  omega
end BLK
-- what a body's runs cost is what it is charged
section CB
variable {X : Ex} {C : Cs} {p : Nat → Nat} {B : Bd}
theorem tk_K (hB : bdI B) {x : Nat} (hx : x ≤ B.2.2.2.2.2.2.1) {P : List (Nat × Nat)} (hP : ps (kb B.1 B.2.2.2.2.2.2.1) x = P) : tk B.1 B.2.2.1 x = tp B.1 (fun j => cn (B.2.2.1 j)) P := by
  unfold tk; rw [← hP, ps_kb hx]
theorem cbl_skip {cs : Bd → Nat → Nat × Nat} : ∀ n a x, a + n ≤ x → cbl cs B n a x = 0
  | 0, a, x, _ => rfl
  | n + 1, a, x, h => by rw [cbl, if_neg (by omega)]; exact cbl_skip n (a + 1) x (by omega)
theorem cb_0 : ∀ n i j, j ≤ i → cb C p n B i j = 0
  | 0, i, j, _ => rfl
  | n + 1, i, j, h => by
    show cbl _ B (j - i) i i = 0
    rw [show j - i = 0 by omega]; rfl
theorem cb_loop (hB : fn_ok X B) {n : Nat} (ih : ∀ a b, blk B a b → a ≤ B.2.2.2.2.2.2.1 → tk B.1 B.2.2.1 a * cb C p n B a (min b B.2.2.2.2.2.2.1) + sm (fun k => tk B.1 B.2.2.1 k * ow C p B.1 B.2.2.1 k) a ≤ sm (fun k => tk B.1 B.2.2.1 k * ow C p B.1 B.2.2.1 k) (max a (min b B.2.2.2.2.2.2.1))) {b : Nat} :
    ∀ m a x, a + m = min b B.2.2.2.2.2.2.1 → a ≤ x → blk B x b → x ≤ min b B.2.2.2.2.2.2.1 → tk B.1 B.2.2.1 x * cbl (cst C p (cb C p n)) B m a x + sm (fun k => tk B.1 B.2.2.1 k * ow C p B.1 B.2.2.1 k) x ≤ sm (fun k => tk B.1 B.2.2.1 k * ow C p B.1 B.2.2.1 k) (min b B.2.2.2.2.2.2.1)
  | 0, a, x, ha, hax, hb, hx => by
    rw [cbl, Nat.mul_zero, Nat.zero_add]; exact sm_mono hx
  | m + 1, a, x, ha, hax, hb, hx => by
    rw [cbl]
    by_cases e : a = x
    · subst e
      rw [if_pos rfl]
      have haS : a < B.2.2.2.2.2.2.1 := by omega
      have hkd : kb B.1 B.2.2.2.2.2.2.1 a = B.1 a := kb_lt haS
      have h5 := hB.1.2.1 a
      have hnext : ∀ y, blk B y b → ps (kb B.1 B.2.2.2.2.2.2.1) y = ps (kb B.1 B.2.2.2.2.2.2.1) a → a < y → tk B.1 B.2.2.1 a * cbl (cst C p (cb C p n)) B m (a + 1) (min y (B.2.2.2.2.2.2.1 + 1)) + sm (fun k => tk B.1 B.2.2.1 k * ow C p B.1 B.2.2.1 k) (min y (min b B.2.2.2.2.2.2.1)) ≤ sm (fun k => tk B.1 B.2.2.1 k * ow C p B.1 B.2.2.1 k) (min b B.2.2.2.2.2.2.1) := fun y hy hp hay => by
        by_cases hyj : y ≤ min b B.2.2.2.2.2.2.1
        · have := cb_loop hB ih m (a + 1) y (by omega) (by omega) hy hyj
          rw [Nat.min_eq_left (show y ≤ B.2.2.2.2.2.2.1 + 1 by omega), Nat.min_eq_left hyj]
          rw [tk_K hB.1 (by omega) hp, ← tk_K hB.1 (by omega) rfl] at this
          exact this
        · have hby := blk_le hy
          rw [cbl_skip m (a + 1) _ (by omega), Nat.mul_zero, Nat.zero_add, Nat.min_eq_right (by omega)]
          exact Nat.le_refl _
      have hU : sm (fun k => tk B.1 B.2.2.1 k * ow C p B.1 B.2.2.1 k) (a + 1) = sm (fun k => tk B.1 B.2.2.1 k * ow C p B.1 B.2.2.1 k) a + tk B.1 B.2.2.1 a * ow C p B.1 B.2.2.1 a := rfl
      rw [Nat.mul_add]
      by_cases k1 : B.1 a ≤ 1
      · obtain ⟨g1, g2⟩ := blk_1 hb (by omega)
        have h6 := hnext (a + 1) g1 g2 (by omega)
        rw [Nat.min_eq_left (show a + 1 ≤ B.2.2.2.2.2.2.1 + 1 by omega), Nat.min_eq_left (show a + 1 ≤ min b B.2.2.2.2.2.2.1 by omega)] at h6
        rw [show cst C p (cb C p n) B a = (a + 1, kv C p (cn (B.2.2.1 a))) by unfold cst; rw [if_pos k1]]
        dsimp only
        have h7 : tk B.1 B.2.2.1 a * ow C p B.1 B.2.2.1 a = tk B.1 B.2.2.1 a + tk B.1 B.2.2.1 a * kv C p (cn (B.2.2.1 a)) := by
          unfold ow; rw [if_pos (by omega), Nat.mul_add, Nat.mul_one]
        omega
      · have hnot : ¬ (B.1 a = 3 ∨ B.1 a = 5) := fun z => by
          have := blk_end hb (by omega)
          omega
        obtain ⟨c, g1, g2, g3, g4, g5, g6⟩ := blk_op hB.1 hb haS (by omega)
        have htk1 : tk B.1 B.2.2.1 (a + 1) = tk B.1 B.2.2.1 a * (if B.1 a = 4 then cn (B.2.2.1 a) else 1) := by
          rw [tk_K hB.1 (by omega) g4, tp, ← tk_K hB.1 (by omega) rfl]
        have hcb1 := ih (a + 1) c g1 (by omega)
        have hcl := blk_le g1
        rw [htk1, ← g3, Nat.max_eq_right (by rw [g3]; omega)] at hcb1
        by_cases k2 : B.1 a = 2
        · have h7 : tk B.1 B.2.2.1 a * ow C p B.1 B.2.2.1 a = tk B.1 B.2.2.1 a + tk B.1 B.2.2.1 a * kv C p (cn (B.2.2.1 a)) := by
            unfold ow; rw [if_pos (by omega), Nat.mul_add, Nat.mul_one]
          rw [if_neg (by omega), Nat.mul_one] at hcb1
          rw [show cst C p (cb C p n) B a = (bd_end B a + 1, kv C p (cn (B.2.2.1 a)) + (cb C p n B (a + 1) (bd_close B a) + cb C p n B (bd_close B a + 1) (bd_end B a))) by unfold cst; rw [if_neg k1, if_pos k2]]
          dsimp only
          rw [Nat.mul_add, Nat.mul_add]
          rcases g6 with ⟨q1, q2, q3, q4, q5⟩ | ⟨q1, q2, q3, q4, e, r1, r2, r3, r4, r5, r6, r7, r8, r9⟩
          · rw [show bd_end B a = bd_close B a by rw [q4, g3], cb_0 n (bd_close B a + 1) (bd_close B a) (by omega), Nat.mul_zero, Nat.add_zero]
            have h6 := hnext (c + 1) q2 q3 (by omega)
            have hcb := blk_le q2
            rw [show min (c + 1) (B.2.2.2.2.2.2.1 + 1) = bd_close B a + 1 by rw [g3]; omega] at h6
            have h8 : sm (fun k => tk B.1 B.2.2.1 k * ow C p B.1 B.2.2.1 k) (bd_close B a) ≤ sm (fun k => tk B.1 B.2.2.1 k * ow C p B.1 B.2.2.1 k) (min (c + 1) (min b B.2.2.2.2.2.2.1)) := sm_mono (by rw [g3]; omega)
            omega
          · have hcb2 := ih (c + 1) e r1 (by omega)
            have hel := blk_le r1
            have heb := blk_le r7
            have hcc : bd_close B a = c := by rw [g3]; omega
            have htk2 : tk B.1 B.2.2.1 (c + 1) = tk B.1 B.2.2.1 a := by
              rw [tk_K hB.1 (by omega) r5, tp, ← tk_K hB.1 (show a ≤ B.2.2.2.2.2.2.1 by omega) rfl]
              show _ * (if B.1 a = 4 then _ else 1) = _
              rw [if_neg (by omega), Nat.mul_one]
            rw [htk2, ← r4] at hcb2
            rw [hcc] at hcb1 ⊢
            have h6 := hnext (e + 1) r7 r8 (by omega)
            rw [show min (e + 1) (B.2.2.2.2.2.2.1 + 1) = bd_end B a + 1 by rw [r4]; omega] at h6
            have h8 : sm (fun k => tk B.1 B.2.2.1 k * ow C p B.1 B.2.2.1 k) c ≤ sm (fun k => tk B.1 B.2.2.1 k * ow C p B.1 B.2.2.1 k) (c + 1) := sm_mono (by omega)
            have h9 : sm (fun k => tk B.1 B.2.2.1 k * ow C p B.1 B.2.2.1 k) (max (c + 1) (bd_end B a)) ≤ sm (fun k => tk B.1 B.2.2.1 k * ow C p B.1 B.2.2.1 k) (min (e + 1) (min b B.2.2.2.2.2.2.1)) := sm_mono (by rw [r4]; omega)
            omega
        · have k4 : B.1 a = 4 := by omega
          rw [if_pos k4] at hcb1
          rcases g6 with ⟨q1, q2, q3, q4, q5⟩ | ⟨q1, q2, q3⟩
          · rw [show cst C p (cb C p n) B a = (bd_close B a + 1, cn (B.2.2.1 a) * cb C p n B (a + 1) (bd_close B a)) by unfold cst; rw [if_neg k1, if_neg k2, if_pos k4]]
            dsimp only
            have h6 := hnext (c + 1) q2 q3 (by omega)
            have hcb := blk_le q2
            rw [show min (c + 1) (B.2.2.2.2.2.2.1 + 1) = bd_close B a + 1 by rw [g3]; omega] at h6
            have h8 : sm (fun k => tk B.1 B.2.2.1 k * ow C p B.1 B.2.2.1 k) (bd_close B a) ≤ sm (fun k => tk B.1 B.2.2.1 k * ow C p B.1 B.2.2.1 k) (min (c + 1) (min b B.2.2.2.2.2.2.1)) := sm_mono (by rw [g3]; omega)
            rw [Nat.mul_assoc] at hcb1
            omega
          · omega
    · rw [if_neg e]; exact cb_loop hB ih m (a + 1) x (by omega) (by omega) hb hx
theorem cb_fV (hB : fn_ok X B) : ∀ n a b, blk B a b → a ≤ B.2.2.2.2.2.2.1 → tk B.1 B.2.2.1 a * cb C p n B a (min b B.2.2.2.2.2.2.1) + sm (fun k => tk B.1 B.2.2.1 k * ow C p B.1 B.2.2.1 k) a ≤ sm (fun k => tk B.1 B.2.2.1 k * ow C p B.1 B.2.2.1 k) (max a (min b B.2.2.2.2.2.2.1))
  | 0, a, b, h, ha => by
    show _ * 0 + _ ≤ _
    rw [Nat.mul_zero, Nat.zero_add]; exact sm_mono (by omega)
  | n + 1, a, b, h, ha => by
    have hab := blk_le h
    show tk B.1 B.2.2.1 a * cbl (cst C p (cb C p n)) B (min b B.2.2.2.2.2.2.1 - a) a a + _ ≤ _
    have := cb_loop hB (cb_fV hB n) (min b B.2.2.2.2.2.2.1 - a) a a (by omega) (Nat.le_refl _) h (by omega)
    rw [Nat.max_eq_right (by omega)]
    exact this
theorem cb_T {Bs : Nat → Bd} {o : Nat → Prop} (hC : CI X C Bs o) (n f : Nat) (hf : f < 8) (of : o f) : cb C C.2.2.2.1 n (Bs f) 0 (Bs f).2.2.2.2.2.2.1 + 1 ≤ C.2.2.2.1 f := by
  obtain ⟨hB, h1, h2⟩ := hC.2.2.1 f hf of
  have h3 := cb_fV (C := C) (p := C.2.2.2.1) hB n 0 _ (blk_top hB.1) (Nat.zero_le _)
  rw [Nat.min_eq_right (by omega), Nat.max_eq_right (by omega)] at h3
  have h4 : tk (Bs f).1 (Bs f).2.2.1 0 = 1 := rfl
  rw [h4, Nat.one_mul, sm] at h3
  rw [h1]; unfold fV
  have h5 : cb C C.2.2.2.1 n (Bs f) 0 (Bs f).2.2.2.2.2.2.1 = cb C C.2.2.2.1 n (Bs f) 0 (Bs f).2.2.2.2.2.2.1 := rfl
  rw [h5] at h3
  have h6 : sm (fun k => tk (Bs f).1 (Bs f).2.2.1 k * ow C C.2.2.2.1 (Bs f).1 (Bs f).2.2.1 k) (Bs f).2.2.2.2.2.2.1 = sm (fun k => tk (Bs f).1 (Bs f).2.2.1 k * ow C C.2.2.2.1 (Bs f).1 (Bs f).2.2.1 k) (Bs f).2.2.2.2.2.2.1 := rfl
  omega
end CB
