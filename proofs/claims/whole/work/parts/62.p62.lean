theorem ps_len {K : Nat → Nat} (hK : ∀ j, K j ≤ 5) : ∀ k, (ps K k).length ≤ k
  | 0 => Nat.le_refl _
  | j + 1 => by
    have ih := ps_len hK j
    rcases k_cases (hK j) with h | h | h | h
    · rw [ps_no h]; omega
    · rw [ps_op h, List.length_cons]; omega
    · rw [ps_3 h]; cases hp : ps K j with
      | nil => exact Nat.zero_le _
      | cons a r => rw [hp] at ih; show (a :: r).length ≤ _; omega
    · rw [ps_5 h, List.length_tail]; omega
theorem bdI_inv {B : Bd} (h : bdI B) : bd_inv B := by
  obtain ⟨h1, h2, h3, h4, h5, h6, h7⟩ := h
  refine ⟨h1, ?_, fun hd => ?_, h2⟩
  · rw [h4]; exact ps_len (kb_le h2) _
  · have e0 : (ps (kb B.1 B.2.2.2.2.2.2.1) B.2.2.2.2.2.2.1)[0]? = some ((ps (kb B.1 B.2.2.2.2.2.2.1) B.2.2.2.2.2.2.1)[0]'(by omega)) := List.getElem?_eq_getElem _
    have e1 := h5 0 _ e0
    rw [Nat.sub_zero] at e1
    rw [e1]
    have := (ps_at (kb_le h2) h3 e0).1.2.1
    omega
theorem bdI_lk {B : Bd} (h : bdI B) : lk (kb B.1 B.2.2.2.2.2.2.1) B.2.2.2.2.2.2.1 = nI B.2.2.2.2.2.2.2 := by
  rw [lk_ps (kb_le h.2.1) _ h.2.2.1, ← h.2.2.2.1]
theorem room_msp {B : Bd} (h : bdI B) (k : Nat) : bd_room B k ↔ ¬ msp (kb B.1 B.2.2.2.2.2.2.1) B.2.2.2.2.2.2.1 k := by
  obtain ⟨kd, tg, op, cl, on, tm, s, D⟩ := B
  obtain ⟨h1, h2, h3, h4, h5, h6, h7⟩ := h
  dsimp only at h1 h2 h3 h4 h5 h6 h7 ⊢
  show ((k = 3 → 0 < D ∧ kd (on (D - 1)) = 2) ∧ (k = 5 → 0 < D)) ↔ _
  unfold msp
  rw [wi_ps (kb_le h2)]
  cases hp : ps (kb kd s) s with
  | nil =>
    rw [hp] at h4
    have : D = 0 := h4
    constructor
    · intro ⟨a, b⟩ ⟨c, _⟩
      rcases c with c | c
      · have := (a c).1; omega
      · have := b c; omega
    · intro z
      constructor
      · intro e; exact absurd ⟨Or.inl e, fun j hj => by cases hj⟩ z
      · intro e; exact absurd ⟨Or.inr e, fun j hj => by cases hj⟩ z
  | cons q r =>
    have hD : 0 < D := by rw [h4, hp]; exact Nat.succ_pos _
    have e0 : (ps (kb kd s) s)[0]? = some q := by rw [hp]; rfl
    have ho : on (D - 1) = q.1 := h5 0 q e0
    have hq := (ps_at (kb_le h2) h3 e0).1
    have hl := hq.2.1
    rw [ho]
    have hms : (∀ j, ((q :: r)[0]?).map Prod.snd = some j → k = 3 ∧ (¬ kb kd s j = 2 ∨ cls (kb kd s) True (s + 12 - (j + 1)) (j + 1) 0 < s)) ↔ (k = 3 ∧ ¬ kd q.1 = 2) := by
      have h20 : kb kd s q.2 = kd q.2 := kb_lt (by have := hq.1; omega)
      constructor
      · intro z
        obtain ⟨z1, z2⟩ := z q.2 rfl
        refine ⟨z1, fun e2 => ?_⟩
        have eq12 : q.1 = q.2 := by
          rcases hq.2.2.2 with y | y
          · exact y
          · rw [kb_lt hl] at y; omega
        rcases z2 with z2 | z2
        · rw [h20, ← eq12] at z2; exact z2 e2
        · rw [← eq12, cls_ps (kb_le h2) (N := s + 12) s (by omega) h3 0 q e0] at z2
          have := (cls_le (K := kb kd s) (oe := True) (s + 12 - s) s 0).1
          omega
      · intro ⟨z1, z2⟩ j hj
        cases hj
        refine ⟨z1, ?_⟩
        rcases hq.2.2.2 with y | ⟨y1, y2⟩
        · rw [h20, ← y]; exact Or.inl z2
        · refine Or.inr ?_
          have h31 := cls_ps (kb_le h2) (N := s + 12) q.1 (by omega) (fun i hi => h3 i (by omega)) 0 (q.2, q.2) (by rw [y2]; rfl)
          show cls (kb kd s) True (s + 12 - (q.2 + 1)) (q.2 + 1) 0 < s
          rw [h31, show s + 12 - q.1 = s + 12 - (q.1 + 1) + 1 by omega, cls_T, if_pos ⟨rfl, Or.inr y1⟩]
          exact hl
    rw [hms]
    constructor
    · intro ⟨a, b⟩ ⟨c, d, e⟩; exact e (a d).2
    · intro z
      refine ⟨fun e => ⟨hD, Classical.byContradiction fun y => z ⟨Or.inl e, e, y⟩⟩, fun _ => hD⟩
/-- where the ELSE or END of a block stands, those that lack counted -/
noncomputable def Cl (K : Nat → Nat) (N p : Nat) : Nat := cls K True (N - (p + 1)) (p + 1) 0
theorem cls_found {K : Nat → Nat} : ∀ n j d b, cls K True n j d = b → b < j + n → K b = 5 ∨ K b = 3
  | 0, j, d, b, h, hb => by rw [cls] at h; omega
  | n + 1, j, d, b, h, hb => by
    rw [cls_T] at h
    by_cases h1 : d = 0 ∧ (K j = 5 ∨ K j = 3)
    · rw [if_pos h1] at h; subst h; exact h1.2
    · rw [if_neg h1] at h; exact cls_found n (j + 1) _ b h (by omega)
theorem ps_e_drop (j : Nat) (l : List (Nat × Nat)) (d : Nat) : (ps_e j l).drop (d + 1) = l.drop (d + 1) := by cases l <;> rfl
theorem cls_drop {K : Nat → Nat} (hK : ∀ j, K j ≤ 5) : ∀ n j d b, cls K True n j d = b → b < j + n → ps K b = (ps K j).drop d
  | 0, j, d, b, h, hb => by rw [cls] at h; omega
  | n + 1, j, d, b, h, hb => by
    rw [cls_T] at h
    by_cases h1 : d = 0 ∧ (K j = 5 ∨ K j = 3)
    · rw [if_pos h1] at h; subst h; rw [h1.1]; rfl
    · rw [if_neg h1] at h
      have ih := cls_drop hK n (j + 1) _ b h (by omega)
      rw [ih]
      rcases k_cases (hK j) with hk | hk | hk | hk
      · rw [if_neg (by omega), if_neg (by omega), ps_no hk]
      · have hk' : K j = 2 ∨ K j = 4 := hk
        rw [if_pos hk', ps_op hk]; rfl
      · rw [if_neg (by omega), if_neg (by omega), ps_3 hk]
        cases d with
        | zero => exact absurd ⟨rfl, Or.inr hk⟩ h1
        | succ d => exact ps_e_drop _ _ _
      · rw [if_neg (by omega), if_pos hk, ps_5 hk]
        cases d with
        | zero => exact absurd ⟨rfl, Or.inl hk⟩ h1
        | succ d =>
          rw [Nat.add_sub_cancel]
          cases ps K j with
          | nil => rw [List.tail_nil, List.drop_nil, List.drop_nil]
          | cons a r => rfl
/-- an END that is found with ELSEs is found without -/
theorem cls_TF {K : Nat → Nat} {oe : Prop} (hoe : ¬ oe) : ∀ n j d b, cls K True n j d = b → b < j + n → K b = 5 → cls K oe n j d = b
  | 0, j, d, b, h, hb, _ => by rw [cls] at h; omega
  | n + 1, j, d, b, h, hb, h5 => by
    rw [cls_T] at h
    rw [cls_F hoe]
    by_cases h1 : d = 0 ∧ (K j = 5 ∨ K j = 3)
    · rw [if_pos h1] at h; subst h; rw [if_pos ⟨h1.1, h5⟩]
    · rw [if_neg h1] at h; rw [if_neg (fun z => h1 ⟨z.1, Or.inl z.2⟩)]; exact cls_TF hoe n (j + 1) _ b h (by omega) h5
/-- out of an inner block, on in the outer -/
theorem cls_comp {K : Nat → Nat} {oe : Prop} (hoe : ¬ oe) : ∀ n j d2 d E, cls K oe n j d2 = E → E < j + n → cls K True n j (d2 + 1 + d) = cls K True (j + n - (E + 1)) (E + 1) d
  | 0, j, d2, d, E, h, hb => by rw [cls] at h; omega
  | n + 1, j, d2, d, E, h, hb => by
    rw [cls_F hoe] at h
    by_cases h1 : d2 = 0 ∧ K j = 5
    · rw [if_pos h1] at h; subst h
      rw [cls_T, if_neg (by omega), if_neg (by omega), if_pos h1.2, h1.1, show 0 + 1 + d - 1 = d by omega, show j + (n + 1) - (j + 1) = n by omega]
    · rw [if_neg h1] at h
      rw [cls_T, if_neg (by omega)]
      by_cases h2 : K j = 2 ∨ K j = 4
      · rw [if_pos h2] at h ⊢
        have := cls_comp hoe n (j + 1) (d2 + 1) d E h (by omega)
        rw [show d2 + 1 + d + 1 = d2 + 1 + 1 + d by omega, this, show j + 1 + n = j + (n + 1) by omega]
      · rw [if_neg h2] at h ⊢
        by_cases h3 : K j = 5
        · rw [if_pos h3] at h ⊢
          have := cls_comp hoe n (j + 1) (d2 - 1) d E h (by omega)
          rw [show d2 + 1 + d - 1 = d2 - 1 + 1 + d by omega, this, show j + 1 + n = j + (n + 1) by omega]
        · rw [if_neg h3] at h ⊢
          have := cls_comp hoe n (j + 1) d2 d E h (by omega)
          rw [this, show j + 1 + n = j + (n + 1) by omega]
/-- the blocks of a body -/
theorem bd_Cl {B : Bd} (h : bdI B) {N : Nat} (hN : B.2.2.2.2.2.2.1 + 12 ≤ N) {p : Nat} (hp : p < B.2.2.2.2.2.2.1) (h2 : 2 ≤ B.1 p) (h4 : B.1 p ≤ 4) :
    bd_close B p = min (Cl (kb B.1 B.2.2.2.2.2.2.1) N p) B.2.2.2.2.2.2.1 ∧ Cl (kb B.1 B.2.2.2.2.2.2.1) N p < N ∧ p < Cl (kb B.1 B.2.2.2.2.2.2.1) N p ∧
    (kb B.1 B.2.2.2.2.2.2.1 (Cl (kb B.1 B.2.2.2.2.2.2.1) N p) = 5 ∨ (kb B.1 B.2.2.2.2.2.2.1 (Cl (kb B.1 B.2.2.2.2.2.2.1) N p) = 3 ∧ B.1 p = 2)) := by
  obtain ⟨kd, tg, op, cl, on, tm, s, D⟩ := B
  obtain ⟨h1, hK, h3, h4', h5, h6, h7⟩ := h
  dsimp only at h1 hK h3 h4' h5 h6 h7 hp h2 h4 hN ⊢
  show min (cl p) s = _ ∧ _
  have hgt : p < Cl (kb kd s) N p := (cls_le (K := kb kd s) (oe := True) (N - (p + 1)) (p + 1) 0).1
  rcases h6 p hp h2 h4 with ⟨c1, d, q, c2, c3⟩ | ⟨c1, c2, c3⟩
  · have hd : d < s := Nat.lt_of_lt_of_le (List.getElem?_eq_some_iff.mp c2).1 (ps_len (kb_le hK) s)
    have e : Cl (kb kd s) N p = s + d := by
      have := cls_ps (kb_le hK) (N := N) s (by omega) h3 d q c2
      unfold Cl
      rw [← c3, this, cls_v (s := s) (fun j hj => kb_ge hj) _ s d (Nat.le_refl _) (by omega)]
    rw [e, c1]
    refine ⟨by omega, by omega, by omega, Or.inl (kb_ge (by omega))⟩
  · have e : Cl (kb kd s) N p = cl p := c2 N (by omega)
    refine ⟨by rw [e], by omega, hgt, ?_⟩
    have hf := cls_found (N - (p + 1)) (p + 1) 0 _ e (by omega)
    rw [e]
    rcases hf with hf | hf
    · exact Or.inl hf
    · refine Or.inr ⟨hf, Classical.byContradiction fun z => ?_⟩
      rw [kb_lt c1, c3 z] at hf; omega
theorem bd_top {B : Bd} (h : bdI B) {N : Nat} (hN : B.2.2.2.2.2.2.1 + 12 ≤ N) : cls (kb B.1 B.2.2.2.2.2.2.1) True N 0 0 = B.2.2.2.2.2.2.1 + B.2.2.2.2.2.2.2 := by
  obtain ⟨kd, tg, op, cl, on, tm, s, D⟩ := B
  obtain ⟨h1, hK, h3, h4', h5, h6, h7⟩ := h
  dsimp only at h1 hK h3 h4' h5 h6 h7 hN ⊢
  have hd := ps_len (kb_le (s := s) hK) s
  rw [cls_p0 (kb_le hK) s (by omega) h3, cls_v (s := s) (fun j hj => kb_ge hj) _ s _ (Nat.le_refl _) (by omega), ← h4']
/-- how many times -/
theorem tp_pos {K g : Nat → Nat} (hg : ∀ j, K j = 4 → 1 ≤ g j) : ∀ l : List (Nat × Nat), 1 ≤ tp K g l
  | [] => Nat.le_refl _
  | q :: r => by
    rw [tp]
    refine Nat.mul_pos (tp_pos hg r) ?_
    split
    · rename_i h; exact hg _ h
    · decide
theorem tmz_tp {K g : Nat → Nat} (hK : ∀ j, K j ≤ 5) (hg : ∀ j, K j = 4 → 1 ≤ g j) : ∀ u k n, wfK K k → (ps K k).length ≤ u → n * tp K g (ps K k) ≤ 1000 → tmz K g u k n = n * tp K g (ps K k)
  | u, k, n, hw, hu, h => by
    cases hp : ps K k with
    | nil => rw [tmz_none (by rw [wi_ps hK, hp]; rfl)]; exact (Nat.mul_one n).symm
    | cons q r =>
      obtain ⟨hq, hr⟩ := ps_at hK hw (d := 0) (q := q) (by rw [hp]; rfl)
      rw [hp] at hr hu h
      have hr' : r = ps K q.2 := hr
      have hlt : q.2 < k := Nat.lt_of_le_of_lt hq.1 hq.2.1
      cases u with
      | zero => cases hu
      | succ u =>
        have hu' : r.length ≤ u := Nat.le_of_succ_le_succ hu
        rw [tmz_some (j := q.2) (by rw [wi_ps hK, hp]; rfl)]
        rw [tp] at h ⊢
        have hpos := tp_pos hg r
        have hc : (if K q.2 = 4 then min 1000 (n * g q.2) else n) = n * (if K q.2 = 4 then g q.2 else 1) := by
          by_cases e : K q.2 = 4
          · rw [if_pos e, if_pos e]
            rw [if_pos e] at h
            have h2 : n * g q.2 ≤ n * (tp K g r * g q.2) := Nat.mul_le_mul_left n (Nat.le_mul_of_pos_left _ hpos)
            exact Nat.min_eq_right (by omega)
          · rw [if_neg e, if_neg e, Nat.mul_one]
        have e3 : n * (if K q.2 = 4 then g q.2 else 1) * tp K g r = n * (tp K g r * (if K q.2 = 4 then g q.2 else 1)) := by rw [Nat.mul_assoc, Nat.mul_comm (tp K g r)]
        rw [hc, tmz_tp hK hg u q.2 _ (fun i hi => hw i (by omega)) (by rw [← hr']; exact hu') (by rw [← hr', e3]; exact h), ← hr', e3]
