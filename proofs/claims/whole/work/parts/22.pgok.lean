theorem tr_mag_ok {T : Tr} {a : Nat} (hn : T.2.2.2.2 ≤ 64) (ha : a < 64) : (tr_mag T a).2 < 64 ∧ (tr_mag T a).1.2.2.2.2 ≤ 64 := by
  unfold tr_mag; split
  · exact ⟨(by decide : 0 < 64), hn⟩
  · split
    · exact ⟨tr_ix_lt _, tr_add_n hn⟩
    · exact ⟨ha, hn⟩
theorem tr_power_ok {T : Tr} {a x : Nat} (hn : T.2.2.2.2 ≤ 64) (ha : a < 64) : (tr_power T a x).2 < 64 ∧ (tr_power T a x).1.2.2.2.2 ≤ 64 := by
  unfold tr_power; split
  · exact ⟨tr_ix_lt _, tr_add_n hn⟩
  · exact ⟨tr_pw_lt _ _ _ ha, tr_pw_n _ _ _ hn⟩
theorem px_comb_ok {T : Tr} {k a b : Nat} (hn : T.2.2.2.2 ≤ 64) (ha : a < 64) (hb : b < 64) : (px_comb k a b T).1 < 64 ∧ (px_comb k a b T).2.2.2.2.2 ≤ 64 := by
  unfold px_comb; split
  · exact ⟨tr_ix_lt _, tr_add_n hn⟩
  split
  · exact ⟨tr_ix_lt _, tr_add_n hn⟩
  split
  · exact ⟨tr_ix_lt _, tr_add_n hn⟩
  split
  · exact ⟨tr_ix_lt _, tr_add_n hn⟩
  split
  · exact tr_mag_ok hn ha
  split
  · refine ⟨?_, hn⟩; show (if _ then a else b) < 64; split <;> assumption
  split
  · refine ⟨?_, hn⟩; show (if _ then a else b) < 64; split <;> assumption
  · exact ⟨(by decide : 0 < 64), hn⟩
def re_ok (X : Ex) (re : Nat → Nat → Sx → Nat × Sx) : Prop := ∀ e lv S, e < X.2.2.2.2 → lv < 8 → sx_ok S → (re e lv S).1 < 64 ∧ sx_ok (re e lv S).2
def en_ok (en : Nat → Nat → Nat → Nat → Sx → Nat × Sx) : Prop := ∀ f x y lv S, f < 8 → x < 64 → y < 64 → sx_ok S → (en f x y lv S).1 < 64 ∧ sx_ok (en f x y lv S).2
def rb_ok (X : Ex) (rb : Bd → Nat → Nat → Nat → Sx → Sx) : Prop := ∀ B i j lv S, bd_ok X B → j ≤ B.2.2.2.2.2.2.1 → lv < 8 → sx_ok S → sx_ok (rb B i j lv S)
section PGO
variable {X : Ex} {ba : Nat → Option Nat} {Bs : Nat → Bd} {re : Nat → Nat → Sx → Nat × Sx} {en : Nat → Nat → Nat → Nat → Sx → Nat × Sx} {rb : Bd → Nat → Nat → Nat → Sx → Sx}
theorem px_r1_ok (hX : ex_ok X) (hre : re_ok X re) {e lv : Nat} {S : Sx} (he : e < X.2.2.2.2) (hlv : lv < 8) (hS : sx_ok S) : (px_r1 X re e lv S).1 < 64 ∧ sx_ok (px_r1 X re e lv S).2 := by
  obtain ⟨k, hk, hke, hl, -⟩ := hX.2 e he
  have h80 := hX.1
  unfold px_r1
  split
  · rename_i h
    rw [hke, cn_nI (by omega)] at h
    obtain ⟨a, ha, hea⟩ := hl h
    rw [hea, cn_nI (by omega)]
    exact hre a lv S (by omega) hlv hS
  · exact ⟨(by decide : 0 < 64), hS⟩
theorem px_r2_ok (hX : ex_ok X) (hre : re_ok X re) {e lv : Nat} {S : Sx} (he : e < X.2.2.2.2) (hlv : lv < 8) (hS : sx_ok S) : (px_r2 X re e lv S).1 < 64 ∧ sx_ok (px_r2 X re e lv S).2 := by
  have h1 := px_r1_ok hX hre he hlv hS
  obtain ⟨k, hk, hke, -, hr, -⟩ := hX.2 e he
  have h80 := hX.1
  unfold px_r2
  split
  · rename_i h
    rw [hke, cn_nI (by omega)] at h
    obtain ⟨b, hb, heb⟩ := hr h
    rw [heb, cn_nI (by omega)]
    exact hre b lv _ (by omega) hlv h1.2
  · exact ⟨(by decide : 0 < 64), h1.2⟩
theorem px_ev_ok (hX : ex_ok X) (hre : re_ok X re) (hen : en_ok en) : re_ok X (px_ev X re en) := by
  intro e lv S he hlv hS
  have h1 := px_r1_ok hX hre he hlv hS
  have h2 := px_r2_ok hX hre he hlv hS
  obtain ⟨k, hk, hke, -, -, -, -, -, hc⟩ := hX.2 e he
  unfold px_ev
  split
  · exact ⟨tr_ix_lt _, tr_add_n hS.1, hS.2⟩
  split
  · exact ⟨hS.2 _, hS⟩
  split
  · exact ⟨(tr_power_ok h1.2.1 h1.1).1, (tr_power_ok h1.2.1 h1.1).2, h1.2.2⟩
  split
  · exact ⟨h1.2.2 _, h1.2⟩
  split
  · rename_i h
    rw [hke, cn_nI (by omega)] at h
    obtain ⟨c, hc8, hec⟩ := hc h
    rw [hec, cn_nI (by omega)]
    exact hen c _ _ _ _ hc8 h1.1 h2.1 h2.2
  · exact ⟨(px_comb_ok h2.2.1 h1.1 h2.1).1, (px_comb_ok h2.2.1 h1.1 h2.1).2, h2.2.2⟩
theorem px_fr_ok {cs : Nat → Nat} {lv x y : Nat} (hc : ∀ j, cs j < 64) (hx : x < 64) (hy : y < 64) : ∀ j, px_fr cs lv x y j < 64 := by
  intro j; unfold px_fr va_up gf_N
  split
  · exact hy
  split
  · exact hx
  split
  · decide
  · exact hc j
theorem px_ent_ok (hB : ∀ f, f < 8 → ba f ≠ none → bd_ok X (Bs f)) (hrb : rb_ok X rb) : en_ok (px_ent ba Bs rb) := by
  intro f x y lv S hf hx hy hS
  unfold px_ent
  split
  · exact ⟨(by decide : 0 < 64), hS⟩
  · rename_i h
    have h' : ba f ≠ none ∧ lv < 8 := ⟨fun z => h (Or.inl z), by omega⟩
    have h3 := hrb (Bs f) 0 _ lv (S.1, px_fr S.2 lv x y) (hB f hf h'.1) (Nat.le_refl _) h'.2 ⟨hS.1, px_fr_ok hS.2 hx hy⟩
    exact ⟨h3.2 _, h3⟩
theorem bd_close_le (B : Bd) (i : Nat) : bd_close B i ≤ B.2.2.2.2.2.2.1 := Nat.min_le_right _ _
theorem bd_end_le (B : Bd) (i : Nat) : bd_end B i ≤ B.2.2.2.2.2.2.1 := by unfold bd_end; split <;> exact bd_close_le _ _
theorem sx_up {S : Sx} {j v : Nat} (hS : sx_ok S) (hv : v < 64) : sx_ok (S.1, va_up S.2 j v) := ⟨hS.1, fun i => by
  show va_up S.2 j v i < 64; unfold va_up; split
  · exact hv
  · exact hS.2 i⟩
theorem px_rep_ok {F : Sx → Sx} (hF : ∀ S, sx_ok S → sx_ok (F S)) (n : Nat) {S : Sx} (hS : sx_ok S) : sx_ok (px_rep F n S) := by
  induction n with
  | zero => exact hS
  | succ n ih => exact hF _ ih
theorem px_st_ok (hX : ex_ok X) (hre : re_ok X re) (hrb : rb_ok X rb) {B : Bd} {i lv : Nat} {S : Sx} (hB : bd_ok X B) (hi : i < B.2.2.2.2.2.2.1) (hlv : lv < 8) (hS : sx_ok S) : sx_ok (px_st re rb B i lv S).2 := by
  obtain ⟨-, h0, h1, h2, h4⟩ := hB.2.2 i hi
  have h80 := hX.1
  have hev : B.1 i ≤ 2 → (re (cn (B.2.2.1 i)) lv S).1 < 64 ∧ sx_ok (re (cn (B.2.2.1 i)) lv S).2 := fun z => by
    obtain ⟨e, he, heq⟩ := h2 z
    rw [heq, cn_nI (by omega)]
    exact hre e lv S he hlv hS
  unfold px_st
  split
  · rename_i h; exact sx_up (hev (by omega)).2 (hev (by omega)).1
  split
  · rename_i h; exact sx_up (hev (by omega)).2 (hev (by omega)).1
  split
  · rename_i h
    show sx_ok (px_if re rb B i lv S)
    unfold px_if; split
    · exact hrb B _ _ lv _ hB (bd_close_le _ _) hlv (hev (by omega)).2
    · exact hrb B _ _ lv _ hB (bd_end_le _ _) hlv (hev (by omega)).2
  split
  · exact px_rep_ok (fun S hS => hrb B _ _ lv S hB (bd_close_le _ _) hlv hS) _ hS
  · exact hS
theorem px_bl_ok {rs : Bd → Nat → Nat → Sx → Nat × Sx} {B : Bd} {lv : Nat} (hrs : ∀ i S, i < B.2.2.2.2.2.2.1 → sx_ok S → sx_ok (rs B i lv S).2) : ∀ (n a x : Nat) (S : Sx), a + n ≤ B.2.2.2.2.2.2.1 → sx_ok S → sx_ok (px_bl rs B lv n a x S)
  | 0, a, x, S, _, hS => hS
  | n + 1, a, x, S, h, hS => by
    unfold px_bl; split
    · exact px_bl_ok hrs n _ _ _ (by omega) (hrs a S (by omega) hS)
    · exact px_bl_ok hrs n _ _ _ (by omega) hS
theorem px_bl_0 {rs : Bd → Nat → Nat → Sx → Nat × Sx} {B : Bd} {lv x : Nat} {S : Sx} (a : Nat) : px_bl rs B lv 0 a x S = S := rfl
theorem pg_ok (hX : ex_ok X) (hB : ∀ f, f < 8 → ba f ≠ none → bd_ok X (Bs f)) : ∀ n, re_ok X (pg X ba Bs n).1 ∧ rb_ok X (pg X ba Bs n).2
  | 0 => ⟨fun e lv S _ _ hS => ⟨(by decide : 0 < 64), hS⟩, fun B i j lv S _ _ _ hS => hS⟩
  | n + 1 => by
    obtain ⟨h1, h2⟩ := pg_ok hX hB n
    refine ⟨px_ev_ok hX h1 (px_ent_ok hB h2), fun B i j lv S hBd hj hlv hS => ?_⟩
    show sx_ok (px_bl (px_st (pg X ba Bs n).1 (pg X ba Bs n).2) B lv (j - i) i i S)
    by_cases hij : i ≤ j
    · exact px_bl_ok (fun k S hk hS => px_st_ok hX h1 h2 hBd hk hlv hS) _ _ _ _ (by omega) hS
    · rw [show j - i = 0 by omega]; exact hS
end PGO
