/-- the blocks that are open at a place, the innermost first: the class's top (IF, ELSE or REPEAT), the opener -/
def ps_e (j : Nat) (l : List (Nat × Nat)) : List (Nat × Nat) := match l with | [] => [] | q :: r => (j, q.2) :: r
def ps (K : Nat → Nat) : Nat → List (Nat × Nat)
  | 0 => []
  | j + 1 => if K j = 2 ∨ K j = 4 then (j, j) :: ps K j else if K j = 3 then ps_e j (ps K j) else if K j = 5 then (ps K j).tail else ps K j
theorem ps_op {K : Nat → Nat} {j : Nat} (h : opn (K j)) : ps K (j + 1) = (j, j) :: ps K j := if_pos h
theorem ps_no {K : Nat → Nat} {j : Nat} (h : K j ≤ 1) : ps K (j + 1) = ps K j := by
  rw [ps, if_neg (by omega), if_neg (by omega), if_neg (by omega)]
theorem ps_3 {K : Nat → Nat} {j : Nat} (h : K j = 3) : ps K (j + 1) = ps_e j (ps K j) := by
  rw [ps, if_neg (by omega), if_pos h]
theorem ps_5 {K : Nat → Nat} {j : Nat} (h : K j = 5) : ps K (j + 1) = (ps K j).tail := by
  rw [ps, if_neg (by omega), if_neg (by omega), if_pos h]
theorem k_cases {k : Nat} (h : k ≤ 5) : k ≤ 1 ∨ opn k ∨ k = 3 ∨ k = 5 := by unfold opn; omega
theorem ps_e_snd (j : Nat) (l : List (Nat × Nat)) (d : Nat) : ((ps_e j l)[d]?).map Prod.snd = (l[d]?).map Prod.snd := by
  cases l with
  | nil => rfl
  | cons q r => cases d <;> rfl
theorem tail_at {α : Type} (l : List α) (d : Nat) : l.tail[d]? = l[d + 1]? := by cases l <;> rfl
theorem wi_ps {K : Nat → Nat} (hK : ∀ j, K j ≤ 5) : ∀ k d, wi K k d = ((ps K k)[d]?).map Prod.snd
  | 0, d => rfl
  | j + 1, d => by
    rcases k_cases (hK j) with h | h | h | h
    · rw [wi_no (by unfold opn; omega), if_neg (by omega), ps_no h]; exact wi_ps hK j d
    · rw [wi_op h, ps_op h]
      cases d with
      | zero => rfl
      | succ d => rw [if_neg (by omega)]; exact wi_ps hK j d
    · rw [wi_no (by unfold opn; omega), if_neg (by omega), ps_3 h, ps_e_snd]; exact wi_ps hK j d
    · rw [wi_no (by unfold opn; omega), if_pos h, ps_5 h, tail_at]; exact wi_ps hK j (d + 1)
/-- every open block: where its opener and its ELSE stand -/
def ps_q (K : Nat → Nat) (k : Nat) (q : Nat × Nat) : Prop := q.2 ≤ q.1 ∧ q.1 < k ∧ opn (K q.2) ∧ (q.1 = q.2 ∨ (K q.1 = 3 ∧ ps K q.1 = (q.2, q.2) :: ps K q.2))
def wfK (K : Nat → Nat) (s : Nat) : Prop := ∀ j, j < s → (K j = 3 → ∃ o r, ps K j = (o, o) :: r ∧ K o = 2) ∧ (K j = 5 → ps K j ≠ [])
theorem ps_all {K : Nat → Nat} (hK : ∀ j, K j ≤ 5) : ∀ k, wfK K k → ∀ l1 q l2, ps K k = l1 ++ q :: l2 → ps_q K k q ∧ l2 = ps K q.2
  | 0, _, l1, q, l2, h => by cases l1 <;> cases h
  | j + 1, hw, l1, q, l2, h => by
    have ih := ps_all hK j (fun i hi => hw i (by omega))
    have up : ∀ {q}, ps_q K j q → ps_q K (j + 1) q := fun z => ⟨z.1, by have := z.2.1; omega, z.2.2.1, z.2.2.2⟩
    rcases k_cases (hK j) with hk | hk | hk | hk
    · rw [ps_no hk] at h; exact ⟨up (ih _ _ _ h).1, (ih _ _ _ h).2⟩
    · rw [ps_op hk] at h
      cases l1 with
      | nil => cases h; exact ⟨⟨Nat.le_refl _, Nat.lt_succ_self _, hk, Or.inl rfl⟩, rfl⟩
      | cons a l1 => have h := (List.cons.inj h).2; exact ⟨up (ih _ _ _ h).1, (ih _ _ _ h).2⟩
    · obtain ⟨o, r, ho, h2⟩ := (hw j (Nat.lt_succ_self _)).1 hk
      rw [ps_3 hk, ho] at h
      have h0 := ih [] (o, o) r ho
      cases l1 with
      | nil =>
        cases h
        have h1 : o < j := h0.1.2.1
        exact ⟨⟨Nat.le_of_lt h1, Nat.lt_succ_self _, h0.1.2.2.1, Or.inr ⟨hk, by rw [ho, h0.2]⟩⟩, h0.2⟩
      | cons a l1 =>
        cases h
        have h3 := ih ((o, o) :: l1) q l2 (by rw [ho]; rfl)
        exact ⟨up h3.1, h3.2⟩
    · rw [ps_5 hk] at h
      have hne := (hw j (Nat.lt_succ_self _)).2 hk
      cases hp : ps K j with
      | nil => exact absurd hp hne
      | cons a r =>
        rw [hp] at h
        have h3 := ih (a :: l1) q l2 (by rw [hp, List.cons_append, ← h]; rfl)
        exact ⟨up h3.1, h3.2⟩
theorem ps_at {K : Nat → Nat} (hK : ∀ j, K j ≤ 5) {k : Nat} (hw : wfK K k) {d : Nat} {q : Nat × Nat} (h : (ps K k)[d]? = some q) : ps_q K k q ∧ (ps K k).drop (d + 1) = ps K q.2 := by
  obtain ⟨hd, hq⟩ := List.getElem?_eq_some_iff.mp h
  have h1 : ps K k = (ps K k).take d ++ q :: (ps K k).drop (d + 1) := by rw [← hq]; exact (List.take_append_drop d _).symm.trans (by rw [List.drop_eq_getElem_cons hd])
  exact ps_all hK k hw _ q _ h1
/-- cls with an ELSE that counts, at any kind -/
theorem cls_T {K : Nat → Nat} {n j d : Nat} : cls K True (n + 1) j d = if d = 0 ∧ (K j = 5 ∨ K j = 3) then j else cls K True n (j + 1) (if K j = 2 ∨ K j = 4 then d + 1 else if K j = 5 then d - 1 else d) := by
  rw [cls]
  by_cases h : d = 0 ∧ (K j = 5 ∨ K j = 3)
  · rw [if_pos h, if_pos ⟨h.1, h.2.elim Or.inl (fun z => Or.inr ⟨z, trivial⟩)⟩]
  · rw [if_neg h, if_neg (fun z => h ⟨z.1, z.2.elim Or.inl (fun y => Or.inr y.1)⟩)]
    congr 1
    by_cases h2 : K j = 2 ∨ K j = 4
    · rw [if_pos h2, if_pos (show opn (K j) from h2)]
    · rw [if_neg h2, if_neg (show ¬ opn (K j) from h2)]
theorem cls_F {K : Nat → Nat} {oe : Prop} (ho : ¬ oe) {n j d : Nat} : cls K oe (n + 1) j d = if d = 0 ∧ K j = 5 then j else cls K oe n (j + 1) (if K j = 2 ∨ K j = 4 then d + 1 else if K j = 5 then d - 1 else d) := by
  rw [cls]
  by_cases h : d = 0 ∧ K j = 5
  · rw [if_pos h, if_pos ⟨h.1, Or.inl h.2⟩]
  · rw [if_neg h, if_neg (fun z => h ⟨z.1, z.2.elim id (fun y => absurd y.2 ho)⟩)]
    congr 1
    by_cases h2 : K j = 2 ∨ K j = 4
    · rw [if_pos h2, if_pos (show opn (K j) from h2)]
    · rw [if_neg h2, if_neg (show ¬ opn (K j) from h2)]
/-- the search for a block's end, begun at its top, has come to its place in the row of open blocks -/
theorem cls_ps {K : Nat → Nat} (hK : ∀ j, K j ≤ 5) {N : Nat} : ∀ k, k ≤ N → wfK K k → ∀ d q, (ps K k)[d]? = some q → cls K True (N - (q.1 + 1)) (q.1 + 1) 0 = cls K True (N - k) k d
  | 0, _, _, d, q, h => by cases d <;> cases h
  | j + 1, hN, hw, d, q, h => by
    have ih := cls_ps hK (N := N) j (by omega) (fun i hi => hw i (by omega))
    have e1 : N - j = (N - (j + 1)) + 1 := by omega
    rcases k_cases (hK j) with hk | hk | hk | hk
    · rw [ps_no hk] at h
      rw [ih d q h, e1, cls_T, if_neg (by omega), if_neg (by omega), if_neg (by omega)]
    · rw [ps_op hk] at h
      cases d with
      | zero => cases h; rfl
      | succ d =>
        have hk' : K j = 2 ∨ K j = 4 := hk
        rw [ih d q h, e1, cls_T, if_neg (by omega), if_pos hk']
    · obtain ⟨o, r, ho, h2⟩ := (hw j (Nat.lt_succ_self _)).1 hk
      rw [ps_3 hk, ho] at h
      cases d with
      | zero => cases h; rfl
      | succ d =>
        rw [ih (d + 1) q (by rw [ho]; exact h), e1, cls_T, if_neg (by omega), if_neg (by omega), if_neg (by omega)]
    · rw [ps_5 hk, tail_at] at h
      rw [ih (d + 1) q h, e1, cls_T, if_neg (by omega), if_neg (by omega), if_pos hk]
      rfl
/-- the same from the opener, to the END -/
theorem cls_pf {K : Nat → Nat} (hK : ∀ j, K j ≤ 5) {oe : Prop} (hoe : ¬ oe) {N : Nat} : ∀ k, k ≤ N → wfK K k → ∀ d q, (ps K k)[d]? = some q → cls K oe (N - (q.2 + 1)) (q.2 + 1) 0 = cls K oe (N - k) k d
  | 0, _, _, d, q, h => by cases d <;> cases h
  | j + 1, hN, hw, d, q, h => by
    have ih := cls_pf hK hoe (N := N) j (by omega) (fun i hi => hw i (by omega))
    have e1 : N - j = (N - (j + 1)) + 1 := by omega
    rcases k_cases (hK j) with hk | hk | hk | hk
    · rw [ps_no hk] at h
      rw [ih d q h, e1, cls_F hoe, if_neg (by omega), if_neg (by omega), if_neg (by omega)]
    · rw [ps_op hk] at h
      cases d with
      | zero => cases h; rfl
      | succ d =>
        have hk' : K j = 2 ∨ K j = 4 := hk
        rw [ih d q h, e1, cls_F hoe, if_neg (by omega), if_pos hk']
    · obtain ⟨o, r, ho, h2⟩ := (hw j (Nat.lt_succ_self _)).1 hk
      rw [ps_3 hk, ho] at h
      cases d with
      | zero =>
        cases h
        rw [ih 0 (o, o) (by rw [ho]; rfl), e1, cls_F hoe, if_neg (by omega), if_neg (by omega), if_neg (by omega)]
      | succ d =>
        rw [ih (d + 1) q (by rw [ho]; exact h), e1, cls_F hoe, if_neg (by omega), if_neg (by omega), if_neg (by omega)]
    · rw [ps_5 hk, tail_at] at h
      rw [ih (d + 1) q h, e1, cls_F hoe, if_neg (by omega), if_neg (by omega), if_pos hk]
      rfl
/-- from the first statement -/
theorem cls_p0 {K : Nat → Nat} (hK : ∀ j, K j ≤ 5) {N : Nat} : ∀ k, k ≤ N → wfK K k → cls K True N 0 0 = cls K True (N - k) k (ps K k).length
  | 0, _, _ => rfl
  | j + 1, hN, hw => by
    have ih := cls_p0 hK (N := N) j (by omega) (fun i hi => hw i (by omega))
    have e1 : N - j = (N - (j + 1)) + 1 := by omega
    rcases k_cases (hK j) with hk | hk | hk | hk
    · rw [ih, ps_no hk, e1, cls_T, if_neg (by omega), if_neg (by omega), if_neg (by omega)]
    · have hk' : K j = 2 ∨ K j = 4 := hk
      rw [ih, ps_op hk, e1, cls_T, if_neg (by omega), if_pos hk']; rfl
    · obtain ⟨o, r, ho, h2⟩ := (hw j (Nat.lt_succ_self _)).1 hk
      rw [ih, ps_3 hk, ho, e1, cls_T, if_neg (fun z => absurd z.1 (by simp)), if_neg (by omega), if_neg (by omega)]; rfl
    · have hne := (hw j (Nat.lt_succ_self _)).2 hk
      cases hp : ps K j with
      | nil => exact absurd hp hne
      | cons a r =>
        rw [ih, ps_5 hk, hp, e1, cls_T, if_neg (fun z => absurd z.1 (by simp)), if_neg (by omega), if_pos hk]; rfl
/-- behind all statements there are ENDs alone -/
theorem cls_v {K : Nat → Nat} {s : Nat} (hv : ∀ j, s ≤ j → K j = 5) {oe : Prop} : ∀ n k d, s ≤ k → d ≤ n → cls K oe n k d = k + d
  | 0, k, d, _, h => by rw [cls]; omega
  | n + 1, k, d, hk, h => by
    have h5 := hv k hk
    rw [cls]
    cases d with
    | zero => rw [if_pos ⟨rfl, Or.inl h5⟩]; rfl
    | succ d => rw [if_neg (fun z => absurd z.1 (by omega)), if_neg (by unfold opn; omega), if_pos h5, Nat.add_sub_cancel, cls_v hv n (k + 1) d (by omega) (by omega)]; omega
/-- what is found below s does not hang on what stands at s and behind -/
theorem cls_loc {K K2 : Nat → Nat} {s : Nat} (he : ∀ j, j < s → K2 j = K j) {oe : Prop} : ∀ n m k d, k + n = s → cls K oe n k d < s → cls K2 oe (n + m) k d = cls K oe n k d
  | 0, m, k, d, hk, h => by rw [cls] at h; omega
  | n + 1, m, k, d, hk, h => by
    have ek := he k (by omega)
    rw [show n + 1 + m = n + m + 1 by omega, cls, cls, ek]
    rw [cls] at h
    by_cases h1 : d = 0 ∧ (K k = 5 ∨ (K k = 3 ∧ oe))
    · rw [if_pos h1, if_pos h1]
    · rw [if_neg h1, if_neg h1]
      rw [if_neg h1] at h
      exact cls_loc he n m (k + 1) _ (by omega) h
/-- the row of open blocks hangs on what stands before -/
theorem ps_loc {K K2 : Nat → Nat} : ∀ k, (∀ j, j < k → K2 j = K j) → ps K2 k = ps K k
  | 0, _ => rfl
  | k + 1, h => by rw [ps, ps, h k (by omega), ps_loc k (fun j hj => h j (by omega))]
theorem wi_loc {K K2 : Nat → Nat} : ∀ k d, (∀ j, j < k → K2 j = K j) → wi K2 k d = wi K k d
  | 0, _, _ => rfl
  | k + 1, d, h => by
    rw [wi, wi, h k (by omega)]
    rw [wi_loc k (d - 1) (fun j hj => h j (by omega)), wi_loc k _ (fun j hj => h j (by omega))]
theorem wf_loc {K K2 : Nat → Nat} {k : Nat} (hK : ∀ j, K j ≤ 5) (h : ∀ j, j < k → K2 j = K j) (hw : wfK K k) : wfK K2 k := by
  intro j hj
  rw [h j hj, ps_loc j (fun i hi => h i (by omega))]
  refine ⟨fun z => ?_, (hw j hj).2⟩
  obtain ⟨o, r, h1, h2⟩ := (hw j hj).1 z
  refine ⟨o, r, h1, ?_⟩
  have h3 : o < j := (ps_all hK j (fun i hi => hw i (by omega)) [] (o, o) r h1).1.2.1
  rw [h o (by omega)]; exact h2
theorem lk_ps {K : Nat → Nat} (hK : ∀ j, K j ≤ 5) : ∀ k, wfK K k → lk K k = nI (ps K k).length
  | 0, _ => rfl
  | j + 1, hw => by
    have ih := lk_ps hK j (fun i hi => hw i (by omega))
    rw [lk, ih]
    rcases k_cases (hK j) with hk | hk | hk | hk
    · rw [if_neg (by unfold opn; omega), if_neg (by omega), ps_no hk]; exact Int32.add_zero _
    · rw [if_pos hk, ps_op hk]; exact nI_1 _
    · obtain ⟨o, r, ho, h2⟩ := (hw j (Nat.lt_succ_self _)).1 hk
      rw [if_neg (by unfold opn; omega), if_neg (by omega), ps_3 hk, ho]; exact Int32.add_zero _
    · have hne := (hw j (Nat.lt_succ_self _)).2 hk
      cases hp : ps K j with
      | nil => exact absurd hp hne
      | cons a r => rw [if_neg (by unfold opn; omega), if_pos hk, ps_5 hk, hp]; exact pk_m1 _
