def kb (kd : Nat → Nat) (s : Nat) : Nat → Nat := fun j => if j < s then kd j else 5
theorem kb_lt {kd : Nat → Nat} {s j : Nat} (h : j < s) : kb kd s j = kd j := if_pos h
theorem kb_ge {kd : Nat → Nat} {s j : Nat} (h : s ≤ j) : kb kd s j = 5 := if_neg (by omega)
theorem kb_le {kd : Nat → Nat} {s : Nat} (h : ∀ j, kd j ≤ 5) (j : Nat) : kb kd s j ≤ 5 := by
  unfold kb; split
  · exact h j
  · omega
/-- how many times what stands within these is done -/
def tp (K g : Nat → Nat) : List (Nat × Nat) → Nat
  | [] => 1
  | q :: r => tp K g r * (if K q.2 = 4 then g q.2 else 1)
theorem tp_loc {K K2 g g2 : Nat → Nat} : ∀ l : List (Nat × Nat), (∀ q, q ∈ l → K2 q.2 = K q.2 ∧ g2 q.2 = g q.2) → tp K2 g2 l = tp K g l
  | [], _ => rfl
  | q :: r, h => by
    rw [tp, tp, tp_loc r (fun z hz => h z (List.mem_cons_of_mem _ hz)), (h q List.mem_cons_self).1, (h q List.mem_cons_self).2]
def bdJ (kd : Nat → Nat) (op : Nat → Int32) (cl on tm : Nat → Nat) (s D : Nat) : Prop :=
  s ≤ 12 ∧ (∀ j, kd j ≤ 5) ∧ wfK (kb kd s) s ∧ D = (ps (kb kd s) s).length ∧ (∀ (d : Nat) (q : Nat × Nat), (ps (kb kd s) s)[d]? = some q → on (D - 1 - d) = q.1) ∧
  (∀ p, p < s → 2 ≤ kd p → kd p ≤ 4 → (cl p = 12 ∧ ∃ (d : Nat) (q : Nat × Nat), (ps (kb kd s) s)[d]? = some q ∧ q.1 = p) ∨ (cl p < s ∧ (∀ N, s ≤ N → cls (kb kd s) True (N - (p + 1)) (p + 1) 0 = cl p) ∧ (kd p ≠ 2 → kd (cl p) = 5))) ∧
  (∀ d, d ≤ D → tm (D - d) = tp (kb kd s) (fun j => cn (op j)) ((ps (kb kd s) s).drop d))
def bdI (B : Bd) : Prop := bdJ B.1 B.2.2.1 B.2.2.2.1 B.2.2.2.2.1 B.2.2.2.2.2.1 B.2.2.2.2.2.2.1 B.2.2.2.2.2.2.2
theorem bdI_0 : bdI bd_0 := by
  refine ⟨by decide, fun j => Nat.zero_le _, fun j hj => absurd hj (Nat.not_lt_zero _), rfl, fun d q h => ?_, fun p hp => absurd hp (Nat.not_lt_zero _), fun d hd => ?_⟩
  · cases d <;> cases h
  · have : d = 0 := Nat.le_zero.mp hd
    subst this; rfl
section BDA
variable {kd : Nat → Nat} {op : Nat → Int32} {cl on tm : Nat → Nat} {s D k : Nat}
theorem ps_lts (h : ∀ j, kd j ≤ 5) (hw : wfK (kb kd s) s) {q : Nat × Nat} (hq : q ∈ ps (kb kd s) s) : q.1 < s ∧ q.2 < s := by
  obtain ⟨d, hd⟩ := List.getElem?_of_mem hq
  have := (ps_at (kb_le h) hw hd).1
  exact ⟨this.2.1, Nat.lt_of_le_of_lt this.1 this.2.1⟩
theorem kb_new (j : Nat) (hj : j < s) : kb (va_up kd s k) (s + 1) j = kb kd s j := by
  unfold kb va_up; rw [if_pos (by omega), if_neg (by omega), if_pos hj]
theorem kb_at : kb (va_up kd s k) (s + 1) s = k := by unfold kb va_up; rw [if_pos (by omega), if_pos rfl]
theorem up_le5 (h : ∀ j, kd j ≤ 5) (hk : k ≤ 5) (j : Nat) : va_up kd s k j ≤ 5 := by
  unfold va_up; split
  · exact hk
  · exact h j
/-- the blocks above one are deeper in the row -/
theorem ps_dif {K : Nat → Nat} (hK : ∀ j, K j ≤ 5) {m d : Nat} {q0 q : Nat × Nat} (hw : wfK K m) (h0 : (ps K m)[0]? = some q0) (h : (ps K m)[d + 1]? = some q) : q.1 < q0.1 := by
  have h1 := ps_at hK hw h0
  have h2 : (ps K q0.2)[d]? = some q := by rw [← h1.2, List.getElem?_drop, show 0 + 1 + d = d + 1 by omega]; exact h
  have hm : q0.2 < m := Nat.lt_of_le_of_lt h1.1.1 h1.1.2.1
  have h3 := (ps_at hK (fun i hi => hw i (by omega)) h2).1.2.1
  have := h1.1.1
  omega
theorem closed_not (hK : ∀ j, kd j ≤ 5) (hw : wfK (kb kd s) s) {p c : Nat} (hc : c < s) (hN : ∀ N, s ≤ N → cls (kb kd s) True (N - (p + 1)) (p + 1) 0 = c) {d : Nat} {q : Nat × Nat} (h : (ps (kb kd s) s)[d]? = some q) : q.1 ≠ p := by
  intro e
  have h1 := cls_ps (kb_le hK) (N := s) s (Nat.le_refl _) hw d q h
  rw [e, hN s (Nat.le_refl _)] at h1
  have h2 := (cls_le (K := kb kd s) (oe := True) (s - s) s d).1
  omega
/-- what was closed stays closed -/
theorem closed_keep {p c : Nat} (hp : p < s) (hc : c < s) (hN : ∀ N, s ≤ N → cls (kb kd s) True (N - (p + 1)) (p + 1) 0 = c) (N : Nat) (h : s + 1 ≤ N) : cls (kb (va_up kd s k) (s + 1)) True (N - (p + 1)) (p + 1) 0 = c := by
  have h1 := cls_loc (K := kb kd s) (K2 := kb (va_up kd s k) (s + 1)) (s := s) (fun j hj => kb_new j hj) (oe := True) (s - (p + 1)) (N - s) (p + 1) 0 (by omega) (by rw [hN s (Nat.le_refl _)]; exact hc)
  rw [show s - (p + 1) + (N - s) = N - (p + 1) by omega, hN s (Nat.le_refl _)] at h1
  exact h1
theorem tp_new (h : ∀ j, kd j ≤ 5) (hw : wfK (kb kd s) s) {o : Int32} (d : Nat) : tp (kb (va_up kd s k) (s + 1)) (fun j => cn (upd op s o j)) ((ps (kb kd s) s).drop d) = tp (kb kd s) (fun j => cn (op j)) ((ps (kb kd s) s).drop d) := by
  refine tp_loc _ (fun q hq => ?_)
  have := (ps_lts h hw (List.mem_of_mem_drop hq)).2
  refine ⟨kb_new _ this, ?_⟩
  show cn (upd op s o q.2) = _
  rw [pk_un (by omega)]
theorem bdJ_a (h : bdJ kd op cl on tm s D) (hs : s < 12) (hk : k ≤ 1) (o : Int32) : bdJ (va_up kd s k) (upd op s o) (va_up cl s 12) on tm (s + 1) D := by
  obtain ⟨h1, h2, h3, h4, h5, h6, h7⟩ := h
  have hp : ps (kb (va_up kd s k) (s + 1)) (s + 1) = ps (kb kd s) s := by
    rw [ps_no (by rw [kb_at]; exact hk), ps_loc s (fun j hj => kb_new j hj)]
  refine ⟨hs, up_le5 h2 (by omega), fun j hj => ?_, by rw [hp]; exact h4, by rw [hp]; exact h5, fun p hps ha hb => ?_, fun d hd => ?_⟩
  · by_cases e : j = s
    · subst e; rw [kb_at]; exact ⟨fun z => by omega, fun z => by omega⟩
    · exact (wf_loc (kb_le h2) (fun j hj => kb_new (k := k) j hj) h3) j (by omega)
  · by_cases e : p = s
    · subst e; rw [va_up_self] at ha; omega
    · rw [va_up_ne _ _ e] at ha hb ⊢
      rw [va_up_ne _ _ e, hp]
      rcases h6 p (by omega) ha hb with ⟨c1, c2⟩ | ⟨c1, c2, c3⟩
      · exact Or.inl ⟨c1, c2⟩
      · refine Or.inr ⟨by omega, closed_keep (by omega) c1 c2, fun z => ?_⟩
        rw [va_up_ne _ _ (by omega)]; exact c3 z
  · rw [hp, tp_new h2 h3]; exact h7 d hd
theorem bdJ_b (h : bdJ kd op cl on tm s D) (hs : s < 12) (hk : k = 2 ∨ k = 4) (o : Int32) : bdJ (va_up kd s k) (upd op s o) (va_up cl s 12) (va_up on D s) (va_up tm (D + 1) (tm D * (if k = 4 then o.toNatClampNeg else 1))) (s + 1) (D + 1) := by
  obtain ⟨h1, h2, h3, h4, h5, h6, h7⟩ := h
  have hp : ps (kb (va_up kd s k) (s + 1)) (s + 1) = (s, s) :: ps (kb kd s) s := by
    rw [ps_op (by rw [kb_at]; exact hk), ps_loc s (fun j hj => kb_new j hj)]
  refine ⟨hs, up_le5 h2 (by omega), fun j hj => ?_, by rw [hp, List.length_cons, h4], fun d q hq => ?_, fun p hps ha hb => ?_, fun d hd => ?_⟩
  · by_cases e : j = s
    · subst e; rw [kb_at]; exact ⟨fun z => by omega, fun z => by omega⟩
    · exact (wf_loc (kb_le h2) (fun j hj => kb_new (k := k) j hj) h3) j (by omega)
  · rw [hp] at hq
    cases d with
    | zero => cases hq; rw [show D + 1 - 1 - 0 = D by omega, va_up_self]
    | succ d =>
      have hd : d < D := by rw [h4]; exact Nat.lt_of_succ_lt_succ (List.getElem?_eq_some_iff.mp hq).1
      rw [show D + 1 - 1 - (d + 1) = D - 1 - d by omega, va_up_ne _ _ (by omega)]; exact h5 d q hq
  · by_cases e : p = s
    · subst e; rw [va_up_self, hp]; exact Or.inl ⟨rfl, 0, (p, p), rfl, rfl⟩
    · rw [va_up_ne _ _ e] at ha hb ⊢
      rw [va_up_ne _ _ e, hp]
      rcases h6 p (by omega) ha hb with ⟨c1, d, q, c2⟩ | ⟨c1, c2, c3⟩
      · exact Or.inl ⟨c1, d + 1, q, c2⟩
      · refine Or.inr ⟨by omega, closed_keep (by omega) c1 c2, fun z => ?_⟩
        rw [va_up_ne _ _ (by omega)]; exact c3 z
  · rw [hp]
    cases d with
    | zero =>
      rw [show D + 1 - 0 = D + 1 by omega, va_up_self, List.drop_zero, tp, show tm D = _ from h7 0 (Nat.zero_le _)]
      have := tp_new (k := k) (op := op) (o := o) h2 h3 0
      rw [List.drop_zero] at this ⊢
      rw [this, kb_at]
      show _ = _ * (if k = 4 then cn (upd op s o s) else 1)
      rw [pk_us]; rfl
    | succ d =>
      rw [show D + 1 - (d + 1) = D - d by omega, va_up_ne _ _ (by omega), List.drop_succ_cons, tp_new h2 h3]; exact h7 d (by omega)
theorem bdJ_c (h : bdJ kd op cl on tm s D) (hs : s < 12) (hk : k = 3) (hD : 0 < D) (hr : kd (on (D - 1)) = 2) (o : Int32) : bdJ (va_up kd s k) (upd op s o) (va_up (va_up cl s 12) (on (D - 1)) s) (va_up on (D - 1) s) (va_up tm (D - 1 + 1) (tm (D - 1) * (if k = 4 then o.toNatClampNeg else 1))) (s + 1) (D - 1 + 1) := by
  obtain ⟨h1, h2, h3, h4, h5, h6, h7⟩ := h
  have e0 : (ps (kb kd s) s)[0]? = some ((ps (kb kd s) s)[0]'(by omega)) := List.getElem?_eq_getElem _
  generalize hq0 : (ps (kb kd s) s)[0]'(by omega) = q0 at e0
  have ho : on (D - 1) = q0.1 := h5 0 q0 e0
  have hq := (ps_at (kb_le h2) h3 e0)
  rw [ho] at hr ⊢
  have hl : q0.1 < s := hq.1.2.1
  have hq12 : q0.1 = q0.2 := by
    rcases hq.1.2.2.2 with z | z
    · exact z
    · rw [kb_lt hl] at z; omega
  have hP : ps (kb kd s) s = q0 :: (ps (kb kd s) s).drop 1 := by
    cases hh : ps (kb kd s) s with
    | nil => rw [hh] at e0; cases e0
    | cons a r => rw [hh] at e0; cases e0; rfl
  have hp : ps (kb (va_up kd s k) (s + 1)) (s + 1) = (s, q0.2) :: (ps (kb kd s) s).drop 1 := by
    rw [ps_3 (by rw [kb_at]; exact hk), ps_loc s (fun j hj => kb_new j hj), hP]; rfl
  have hwf : wfK (kb (va_up kd s k) (s + 1)) (s + 1) := fun j hj => by
    by_cases e : j = s
    · subst e; rw [kb_at]
      refine ⟨fun _ => ⟨q0.1, (ps (kb kd j) j).drop 1, ?_, by rw [kb_new _ hl, kb_lt hl]; exact hr⟩, fun z => by omega⟩
      rw [ps_loc j (fun i hi => kb_new i hi)]
      conv => lhs; rw [hP]
      rw [show (q0.1, q0.1) = q0 from Prod.ext rfl hq12]
    · exact (wf_loc (kb_le h2) (fun j hj => kb_new (k := k) j hj) h3) j (by omega)
  refine ⟨hs, up_le5 h2 (by omega), hwf, by rw [hp, List.length_cons, List.length_drop]; omega, fun d q hq1 => ?_, fun p hps ha hb => ?_, fun d hd => ?_⟩
  · rw [hp] at hq1
    cases d with
    | zero => cases hq1; rw [show D - 1 + 1 - 1 - 0 = D - 1 by omega, va_up_self]
    | succ d =>
      rw [List.getElem?_cons_succ, List.getElem?_drop, show 1 + d = d + 1 by omega] at hq1
      have hd : d + 1 < D := by rw [h4]; exact (List.getElem?_eq_some_iff.mp hq1).1
      rw [show D - 1 + 1 - 1 - (d + 1) = D - 1 - (d + 1) by omega, va_up_ne _ _ (by omega)]; exact h5 (d + 1) q hq1
  · by_cases e : p = s
    · subst e; rw [va_up_ne _ _ (by omega), va_up_self, hp]; exact Or.inl ⟨rfl, 0, (p, q0.2), rfl, rfl⟩
    · rw [va_up_ne kd _ e] at ha hb ⊢
      by_cases e2 : p = q0.1
      · subst e2
        rw [va_up_self]
        refine Or.inr ⟨by omega, fun N hN => ?_, fun z => absurd hr z⟩
        have := cls_ps (K := kb (va_up kd s k) (s + 1)) (kb_le (up_le5 (k := k) (s := s) h2 (by omega))) (N := N) s (by omega) (fun i hi => hwf i (by omega)) 0 q0 (by rw [ps_loc s (fun i hi => kb_new i hi)]; exact e0)
        rw [this, show N - s = N - (s + 1) + 1 by omega, cls_T, if_pos ⟨rfl, Or.inr (by rw [kb_at]; exact hk)⟩]
      · rw [va_up_ne _ _ e2, va_up_ne _ _ e, hp]
        rcases h6 p (by omega) ha hb with ⟨c1, d, q, c2, c4⟩ | ⟨c1, c2, c3⟩
        · refine Or.inl ⟨c1, d, q, ?_, c4⟩
          cases d with
          | zero => rw [e0] at c2; cases c2; exact absurd c4.symm e2
          | succ d => rw [List.getElem?_cons_succ, List.getElem?_drop, show 1 + d = d + 1 by omega]; exact c2
        · refine Or.inr ⟨by omega, closed_keep (by omega) c1 c2, fun z => ?_⟩
          rw [va_up_ne _ _ (by omega)]; exact c3 z
  · rw [hp]
    cases d with
    | zero =>
      rw [show D - 1 + 1 - 0 = D - 1 + 1 by omega, va_up_self, List.drop_zero, tp, tp_new h2 h3 1, ← h7 1 (by omega), if_neg (by omega), kb_new _ (by omega), kb_lt (by omega), ← hq12, hr]
      rfl
    | succ d =>
      rw [show D - 1 + 1 - (d + 1) = D - (d + 1) by omega, va_up_ne _ _ (by omega), List.drop_succ_cons, List.drop_drop, show 1 + d = d + 1 by omega, tp_new h2 h3]; exact h7 (d + 1) (by omega)
theorem bdJ_d (h : bdJ kd op cl on tm s D) (hs : s < 12) (hk : k = 5) (hD : 0 < D) (o : Int32) : bdJ (va_up kd s k) (upd op s o) (va_up (va_up cl s 12) (on (D - 1)) s) on tm (s + 1) (D - 1) := by
  obtain ⟨h1, h2, h3, h4, h5, h6, h7⟩ := h
  have e0 : (ps (kb kd s) s)[0]? = some ((ps (kb kd s) s)[0]'(by omega)) := List.getElem?_eq_getElem _
  generalize hq0 : (ps (kb kd s) s)[0]'(by omega) = q0 at e0
  have ho : on (D - 1) = q0.1 := h5 0 q0 e0
  have hq := (ps_at (kb_le h2) h3 e0)
  rw [ho]
  have hl : q0.1 < s := hq.1.2.1
  have hp : ps (kb (va_up kd s k) (s + 1)) (s + 1) = (ps (kb kd s) s).drop 1 := by
    rw [ps_5 (by rw [kb_at]; exact hk), ps_loc s (fun j hj => kb_new j hj), List.drop_one]
  have hwf : wfK (kb (va_up kd s k) (s + 1)) (s + 1) := fun j hj => by
    by_cases e : j = s
    · subst e; rw [kb_at]
      refine ⟨fun z => by omega, fun _ z => ?_⟩
      rw [ps_loc j (fun i hi => kb_new i hi)] at z
      rw [z] at e0; cases e0
    · exact (wf_loc (kb_le h2) (fun j hj => kb_new (k := k) j hj) h3) j (by omega)
  refine ⟨hs, up_le5 h2 (by omega), hwf, by rw [hp, List.length_drop]; omega, fun d q hq1 => ?_, fun p hps ha hb => ?_, fun d hd => ?_⟩
  · rw [hp, List.getElem?_drop, show 1 + d = d + 1 by omega] at hq1
    rw [show D - 1 - 1 - d = D - 1 - (d + 1) by omega]; exact h5 (d + 1) q hq1
  · by_cases e : p = s
    · subst e; rw [va_up_self] at hb; omega
    · rw [va_up_ne kd _ e] at ha hb ⊢
      by_cases e2 : p = q0.1
      · subst e2
        rw [va_up_self]
        refine Or.inr ⟨by omega, fun N hN => ?_, fun z => by rw [va_up_self]; exact hk⟩
        have := cls_ps (K := kb (va_up kd s k) (s + 1)) (kb_le (up_le5 (k := k) (s := s) h2 (by omega))) (N := N) s (by omega) (fun i hi => hwf i (by omega)) 0 q0 (by rw [ps_loc s (fun i hi => kb_new i hi)]; exact e0)
        rw [this, show N - s = N - (s + 1) + 1 by omega, cls_T, if_pos ⟨rfl, Or.inl (by rw [kb_at]; exact hk)⟩]
      · rw [va_up_ne _ _ e2, va_up_ne _ _ e, hp]
        rcases h6 p (by omega) ha hb with ⟨c1, d, q, c2, c4⟩ | ⟨c1, c2, c3⟩
        · cases d with
          | zero => rw [e0] at c2; cases c2; exact absurd c4.symm e2
          | succ d => exact Or.inl ⟨c1, d, q, by rw [List.getElem?_drop, show 1 + d = d + 1 by omega]; exact c2, c4⟩
        · refine Or.inr ⟨by omega, closed_keep (by omega) c1 c2, fun z => ?_⟩
          rw [va_up_ne _ _ (by omega)]; exact c3 z
  · rw [hp, show D - 1 - d = D - (d + 1) by omega, List.drop_drop, show 1 + d = d + 1 by omega, tp_new h2 h3]; exact h7 (d + 1) (by omega)
end BDA
theorem bdI_add {B : Bd} {k : Nat} {t o : Int32} (h : bdI B) (hs : B.2.2.2.2.2.2.1 < 12) (hk : k ≤ 5) (hr : bd_room B k) : bdI (bd_add B k t o) := by
  obtain ⟨kd, tg, op, cl, on, tm, s, D⟩ := B
  show bdJ (va_up kd s k) (upd op s o) (if k = 3 ∨ k = 5 then _ else _) (if k = 2 ∨ k = 3 ∨ k = 4 then _ else _) (if k = 2 ∨ k = 3 ∨ k = 4 then _ else _) (s + 1) (if k = 2 ∨ k = 3 ∨ k = 4 then _ else _)
  unfold bd_d1
  rcases (show k ≤ 1 ∨ (k = 2 ∨ k = 4) ∨ k = 3 ∨ k = 5 by omega) with e | e | e | e
  · rw [if_neg (show ¬ (k = 3 ∨ k = 5) by omega)]; rw [if_neg (show ¬ (k = 2 ∨ k = 3 ∨ k = 4) by omega), if_neg (show ¬ (k = 2 ∨ k = 3 ∨ k = 4) by omega)]; rw [if_neg (show ¬ (k = 2 ∨ k = 3 ∨ k = 4) by omega)]; rw [if_neg (show ¬ (k = 3 ∨ k = 5) by omega)]; exact bdJ_a h hs e o
  · rw [if_neg (show ¬ (k = 3 ∨ k = 5) by omega)]; rw [if_pos (show k = 2 ∨ k = 3 ∨ k = 4 by omega), if_pos (show k = 2 ∨ k = 3 ∨ k = 4 by omega), if_pos (show k = 2 ∨ k = 3 ∨ k = 4 by omega)]; rw [if_neg (show ¬ (k = 3 ∨ k = 5) by omega)]; exact bdJ_b h hs e o
  · rw [if_pos (show k = 3 ∨ k = 5 by omega)]; rw [if_pos (show k = 2 ∨ k = 3 ∨ k = 4 by omega), if_pos (show k = 2 ∨ k = 3 ∨ k = 4 by omega), if_pos (show k = 2 ∨ k = 3 ∨ k = 4 by omega)]; rw [if_pos (show k = 3 ∨ k = 5 by omega)]; exact bdJ_c h hs e (hr.1 e).1 (hr.1 e).2 o
  · rw [if_pos (show k = 3 ∨ k = 5 by omega)]; rw [if_neg (show ¬ (k = 2 ∨ k = 3 ∨ k = 4) by omega), if_neg (show ¬ (k = 2 ∨ k = 3 ∨ k = 4) by omega), if_neg (show ¬ (k = 2 ∨ k = 3 ∨ k = 4) by omega)]; rw [if_pos (show k = 3 ∨ k = 5 by omega)]; exact bdJ_d h hs e (hr.2 e) o
