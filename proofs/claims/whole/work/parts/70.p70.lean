section SIMB
variable {X : Ex} {C : Cs} {Bs : Nat → Bd} {o : Nat → Prop} {ba : Nat → Option Nat} {p1 p2 : Nat}
/-- a statement does as it should -/
theorem sim_rep {lv c : Nat} {F : Sx → Sx} {G : Ev → Ev} (hF : ∀ S J, JT p1 p2 S.1 J → co S lv → S.1.2.2.2.2 + c ≤ 64 → Bk p1 p2 lv S J (F S) c (G (env J S lv))) {S : Sx} {J : Nat → Jt} (hJ : JT p1 p2 S.1 J) (hc : co S lv) : ∀ n, S.1.2.2.2.2 + n * c ≤ 64 → Bk p1 p2 lv S J (px_rep F n S) (n * c) (dx_rep G n (env J S lv))
  | 0, _ => bk_self hJ hc
  | n + 1, hn => by
    rw [Nat.succ_mul] at hn ⊢
    refine bk_trans (sim_rep hF hJ hc n (by omega)) (fun J2 a1 a2 a3 a4 => ?_)
    have := hF (px_rep F n S) J2 a1 a4 (by omega)
    rw [a2] at this
    exact this
theorem lv_ok (hC : CI X C Bs o) {f lv k : Nat} (hf : f < 8) (of : o f) (hk : k < (Bs f).2.2.2.2.2.2.1) (h2 : (Bs f).1 k ≤ 2) (hl : 5 * lv + C.2.2.2.1 f ≤ 40) {g : Nat} (hg : g < 8) (hp : 0 < C.2.1 (cn ((Bs f).2.2.1 k) * 8 + g)) : 5 * (lv + 1) + C.2.2.2.1 g ≤ 40 := by
  have hB := (hC.2.2.1 f hf of).1
  have hN : 0 < fN C (Bs f).1 (Bs f).2.2.1 (Bs f).2.2.2.2.2.2.1 g := by
    have h1 := sm_mem (g := fun k => tk (Bs f).1 (Bs f).2.2.1 k * nm C (Bs f).1 (Bs f).2.2.1 g k) (Bs f).2.2.2.2.2.2.1 k hk
    refine Nat.lt_of_lt_of_le ?_ h1
    refine Nat.mul_pos (fn_tk hB (by omega)) ?_
    unfold nm; rw [if_pos h2]; exact hp
  have := (fN_own hC hf hg of hN).2
  omega
theorem sim_st (hC : CI X C Bs o) {re : Nat → Nat → Sx → Nat × Sx} {de : Nat → Ev → Jt} {rb : Bd → Nat → Nat → Nat → Sx → Sx} {db : Bd → Nat → Nat → Ev → Ev} {cbn : Bd → Nat → Nat → Nat}
    (hre : EC X C p1 p2 re de) (hrb : BC C Bs o p1 p2 rb db cbn) {f i lv : Nat} {S : Sx} {J : Nat → Jt} (hf : f < 8) (of : o f) (hi : i < (Bs f).2.2.2.2.2.2.1) (hl : 5 * lv + C.2.2.2.1 f ≤ 40) (hJ : JT p1 p2 S.1 J) (hc : co S lv) (hb : S.1.2.2.2.2 + (cst C C.2.2.2.1 cbn (Bs f) i).2 ≤ 64) :
    (px_st re rb (Bs f) i lv S).1 = (cst C C.2.2.2.1 cbn (Bs f) i).1 ∧ (dx_st de db (Bs f) i (env J S lv)).1 = (cst C C.2.2.2.1 cbn (Bs f) i).1 ∧ Bk p1 p2 lv S J (px_st re rb (Bs f) i lv S).2 (cst C C.2.2.2.1 cbn (Bs f) i).2 (dx_st de db (Bs f) i (env J S lv)).2 := by
  have hB := (hC.2.2.1 f hf of).1
  have hX := hC.1
  have hT1 : 1 ≤ C.2.2.2.1 f := by rw [(hC.2.2.1 f hf of).2.1]; exact Nat.le_add_right _ _
  have hlv : lv < 8 := by omega
  obtain ⟨-, q0, q1, q2, q4⟩ := hB.2.1.2.2 i hi
  have ev : (Bs f).1 i ≤ 2 → S.1.2.2.2.2 + kv C C.2.2.2.1 (cn ((Bs f).2.2.1 i)) ≤ 64 → Rs p1 p2 S.1 J (re (cn ((Bs f).2.2.1 i)) lv S).1 (re (cn ((Bs f).2.2.1 i)) lv S).2.1 (kv C C.2.2.2.1 (cn ((Bs f).2.2.1 i))) (de (cn ((Bs f).2.2.1 i)) (env J S lv)) ∧ ∀ x, x < (lv + 1) * 14 → (re (cn ((Bs f).2.2.1 i)) lv S).2.2 x = S.2 x := fun h2 hb =>
    hre _ lv S J (fn_op hX hB hi h2) hlv hJ hc hb (fun g hg hp => lv_ok hC hf of hi h2 hl hg hp)
  have put : ∀ {k : Nat}, k < 14 → (Bs f).1 i ≤ 2 → S.1.2.2.2.2 + kv C C.2.2.2.1 (cn ((Bs f).2.2.1 i)) ≤ 64 → Bk p1 p2 lv S J ((re (cn ((Bs f).2.2.1 i)) lv S).2.1, va_up (re (cn ((Bs f).2.2.1 i)) lv S).2.2 (lv * 14 + k) (re (cn ((Bs f).2.2.1 i)) lv S).1) (kv C C.2.2.2.1 (cn ((Bs f).2.2.1 i))) (va_up (env J S lv) k (de (cn ((Bs f).2.2.1 i)) (env J S lv))) := fun {k} hk h2 hb => by
    obtain ⟨⟨J2, a1, a2, a3, a4, a5, a6⟩, a7⟩ := ev h2 hb
    refine ⟨J2, a1, ?_, a4, a5, a6, fun x hx => ?_, fun x hx => ?_⟩
    · rw [env_up hk, a3, env_keep hc a6 a7]
    · show va_up _ _ _ x = _
      rw [va_up_ne _ _ (by omega), a7 x (by omega)]
    · show va_up _ _ _ x < _
      unfold va_up
      split
      · exact a2
      · rw [a7 x hx]; have := hc x hx
        show _ < (re (cn ((Bs f).2.2.1 i)) lv S).2.1.2.2.2.2
        omega
  unfold px_st dx_st
  unfold cst at hb ⊢
  by_cases k0 : (Bs f).1 i = 0
  · simp only [if_pos k0, if_pos (show (Bs f).1 i ≤ 1 by omega)] at hb ⊢
    obtain ⟨v, hv, hev⟩ := q0 k0
    have hcv : cn ((Bs f).2.1 i) = v := by rw [hev, cn_nI (by omega)]
    rw [hcv]
    exact ⟨trivial, trivial, put (by omega) (by omega) hb⟩
  by_cases k1 : (Bs f).1 i = 1
  · simp only [if_neg k0, if_pos k1, if_pos (show (Bs f).1 i ≤ 1 by omega)] at hb ⊢
    obtain ⟨v, hv, hev⟩ := q1 k1
    have hcv : cn ((Bs f).2.1 i) = v := by rw [hev, cn_nI (by omega)]
    rw [hcv]
    have h5 : S.1.2.2.2.1 (S.2 (lv * 14 + 5)) = (env J S lv 5).1 := by
      rw [(hJ.2.2.2.2 _ (hc _ (by omega))).1]; unfold env; rw [if_pos (by omega)]
    unfold px_el
    rw [h5]
    have hpl := pl_lt (env J S lv 5).1
    have := put (k := 6 + v * 4 + pl (env J S lv 5).1) (by omega) (by omega) hb
    rw [show lv * 14 + (6 + v * 4 + pl (env J S lv 5).1) = lv * 14 + 6 + v * 4 + pl (env J S lv 5).1 by omega] at this
    exact ⟨trivial, trivial, this⟩
  by_cases k2 : (Bs f).1 i = 2
  · simp only [if_neg k0, if_neg k1, if_pos k2, if_neg (show ¬ (Bs f).1 i ≤ 1 by omega)] at hb ⊢
    refine ⟨trivial, trivial, ?_⟩
    obtain ⟨⟨J2, a1, a2, a3, a4, a5, a6⟩, a7⟩ := ev (by omega) (by omega)
    have hco : co (re (cn ((Bs f).2.2.1 i)) lv S).2 lv := fun x hx => by rw [a7 x hx]; have := hc x hx; omega
    have hv : (re (cn ((Bs f).2.2.1 i)) lv S).2.1.2.2.2.1 (re (cn ((Bs f).2.2.1 i)) lv S).1 = (de (cn ((Bs f).2.2.1 i)) (env J S lv)).1 := by rw [(a1.2.2.2.2 _ a2).1, a3]
    have hfirst : Bk p1 p2 lv S J (re (cn ((Bs f).2.2.1 i)) lv S).2 (kv C C.2.2.2.1 (cn ((Bs f).2.2.1 i))) (env J S lv) := ⟨J2, a1, env_keep hc a6 a7, a4, a5, a6, fun x hx => a7 x (by omega), hco⟩
    unfold px_if dx_if
    rw [hv]
    by_cases z : 0 < (de (cn ((Bs f).2.2.1 i)) (env J S lv)).1
    · simp only [if_pos z]
      refine bk_trans hfirst (fun J3 b1 b2 b3 b4 => bk_le (c := cbn (Bs f) (i + 1) (bd_close (Bs f) i)) ?_ (by omega))
      have := hrb f (i + 1) (bd_close (Bs f) i) lv _ J3 hf of (bd_close_le _ _) hl b1 b4 (by omega)
      rw [b2] at this; exact this
    · simp only [if_neg z]
      refine bk_trans hfirst (fun J3 b1 b2 b3 b4 => bk_le (c := cbn (Bs f) (bd_close (Bs f) i + 1) (bd_end (Bs f) i)) ?_ (by omega))
      have := hrb f (bd_close (Bs f) i + 1) (bd_end (Bs f) i) lv _ J3 hf of (bd_end_le _ _) hl b1 b4 (by omega)
      rw [b2] at this; exact this
  by_cases k4 : (Bs f).1 i = 4
  · simp only [if_neg k0, if_neg k1, if_neg k2, if_pos k4, if_neg (show ¬ (Bs f).1 i ≤ 1 by omega)] at hb ⊢
    exact ⟨trivial, trivial, sim_rep (fun S J h1 h2 h3 => hrb f (i + 1) (bd_close (Bs f) i) lv S J hf of (bd_close_le _ _) hl h1 h2 h3) hJ hc _ hb⟩
  · simp only [if_neg k0, if_neg k1, if_neg k2, if_neg k4, if_neg (show ¬ (Bs f).1 i ≤ 1 by omega)] at hb ⊢
    exact ⟨trivial, trivial, bk_self hJ hc⟩
theorem sim_bl (hC : CI X C Bs o) {re : Nat → Nat → Sx → Nat × Sx} {de : Nat → Ev → Jt} {rb : Bd → Nat → Nat → Nat → Sx → Sx} {db : Bd → Nat → Nat → Ev → Ev} {cbn : Bd → Nat → Nat → Nat}
    (hre : EC X C p1 p2 re de) (hrb : BC C Bs o p1 p2 rb db cbn) {f lv : Nat} (hf : f < 8) (of : o f) (hl : 5 * lv + C.2.2.2.1 f ≤ 40) : ∀ (n a x : Nat) (S : Sx) (J : Nat → Jt), a + n ≤ (Bs f).2.2.2.2.2.2.1 → JT p1 p2 S.1 J → co S lv → S.1.2.2.2.2 + cbl (cst C C.2.2.2.1 cbn) (Bs f) n a x ≤ 64 →
    Bk p1 p2 lv S J (px_bl (px_st re rb) (Bs f) lv n a x S) (cbl (cst C C.2.2.2.1 cbn) (Bs f) n a x) (dx_bl (dx_st de db) (Bs f) n a x (env J S lv))
  | 0, a, x, S, J, _, hJ, hc, _ => bk_self hJ hc
  | n + 1, a, x, S, J, ha, hJ, hc, hb => by
    unfold px_bl dx_bl
    unfold cbl at hb ⊢
    by_cases e : a = x
    · simp only [if_pos e] at hb ⊢
      obtain ⟨s1, s2, s3⟩ := sim_st hC hre hrb hf of (show a < (Bs f).2.2.2.2.2.2.1 by omega) hl hJ hc (by omega)
      rw [s1, s2]
      refine bk_trans s3 (fun J2 b1 b2 b3 b4 => ?_)
      have := sim_bl hC hre hrb hf of hl n (a + 1) (cst C C.2.2.2.1 cbn (Bs f) a).1 _ J2 (by omega) b1 b4 (by omega)
      rw [b2] at this; exact this
    · simp only [if_neg e] at hb ⊢
      exact sim_bl hC hre hrb hf of hl n (a + 1) x S J (by omega) hJ hc hb
/-- the class's runs, at any depth -/
theorem pg_sim (h1 : dir p1) (h2 : dir p2) (hC : CI X C Bs o) (hba : ∀ f, f < 8 → (ba f = none ↔ ¬ o f)) (hcb : ∀ n f, f < 8 → o f → cb C C.2.2.2.1 n (Bs f) 0 (Bs f).2.2.2.2.2.2.1 + 1 ≤ C.2.2.2.1 f) :
    ∀ n, EC X C p1 p2 (pg X ba Bs n).1 (dg X ba Bs n).1 ∧ BC C Bs o p1 p2 (pg X ba Bs n).2 (dg X ba Bs n).2 (cb C C.2.2.2.1 n)
  | 0 => ⟨fun e lv S J he hlv hJ hc hb hg => ⟨by
      show Rs p1 p2 S.1 J 0 S.1 _ j0
      rw [← hJ.2.2.1]; exact rs_self hJ (by have := hJ.1; omega), fun _ _ => rfl⟩, fun f i j lv S J hf of hj hl hJ hc hb => bk_self hJ hc⟩
  | n + 1 => by
    obtain ⟨ih1, ih2⟩ := pg_sim h1 h2 hC hba hcb n
    refine ⟨sim_ev h1 h2 hC hba ih1 ih2 (hcb n), fun f i j lv S J hf of hj hl hJ hc hb => ?_⟩
    show Bk p1 p2 lv S J (px_bl (px_st (pg X ba Bs n).1 (pg X ba Bs n).2) (Bs f) lv (j - i) i i S) (cbl (cst C C.2.2.2.1 (cb C C.2.2.2.1 n)) (Bs f) (j - i) i i) (dx_bl (dx_st (dg X ba Bs n).1 (dg X ba Bs n).2) (Bs f) (j - i) i i (env J S lv))
    by_cases hij : i ≤ j
    · exact sim_bl hC ih1 ih2 hf of hl _ _ _ _ _ (by omega) hJ hc hb
    · rw [show j - i = 0 by omega]; exact bk_self hJ hc
/-- the beginning of a trace -/
theorem jt_beg (h1 : dir p1) (h2 : dir p2) (T : Tr) (x y : Int64) : ∃ J, JT p1 p2 (tr_beg T x y) J ∧ (tr_beg T x y).2.2.2.2 = 3 ∧ J 1 = jlf p1 p2 1 x ∧ J 2 = jlf p1 p2 2 y := by
  refine ⟨fun i => if i = 0 then j0 else if i = 1 then jlf p1 p2 1 x else jlf p1 p2 2 y, ⟨by show 3 ≤ 3; omega, by show 3 ≤ 64; omega, rfl, fun i hi => ?_, fun i hi => ?_⟩, rfl, rfl, rfl⟩
  · show va_up (va_up (va_up T.1 0 0) 1 0) 2 0 i = 0
    unfold va_up
    rcases (show i = 0 ∨ i = 1 ∨ i = 2 by omega) with z | z | z <;> subst z <;> rfl
  · have hi3 : i < 3 := hi
    have d1 : (0 : Nat) ≠ 1 + p1 := by omega
    have d2 : (0 : Nat) ≠ 1 + p2 := by omega
    rcases (show i = 0 ∨ i = 1 ∨ i = 2 by omega) with z | z | z <;> subst z
    · refine ⟨rfl, by show 0 ≤ 3; omega, by show 0 < 64; omega, by show 0 < 64; omega, fun _ => ?_, fun z => absurd rfl z, fun z => absurd (show (0 : Nat) = 1 from z) (by decide), fun z => absurd (show (0 : Nat) = 2 from z) (by decide), fun z => absurd (show (0 : Nat) = 3 from z) (by decide)⟩
      show j0 = jlf p1 p2 0 0
      unfold jlf; rw [if_neg d1, if_neg d2]; rfl
    · exact ⟨rfl, by show 0 ≤ 3; omega, by show 0 < 64; omega, by show 0 < 64; omega, fun _ => rfl, fun z => absurd rfl z, fun z => absurd (show (0 : Nat) = 1 from z) (by decide), fun z => absurd (show (0 : Nat) = 2 from z) (by decide), fun z => absurd (show (0 : Nat) = 3 from z) (by decide)⟩
    · exact ⟨rfl, by show 0 ≤ 3; omega, by show 0 < 64; omega, by show 0 < 64; omega, fun _ => rfl, fun z => absurd rfl z, fun z => absurd (show (0 : Nat) = 1 from z) (by decide), fun z => absurd (show (0 : Nat) = 2 from z) (by decide), fun z => absurd (show (0 : Nat) = 3 from z) (by decide)⟩
/-- a whole run of the class -/
theorem go_sim (h1 : dir p1) (h2 : dir p2) (hC : CI X C Bs o) (hba : ∀ f, f < 8 → (ba f = none ↔ ¬ o f)) (hcb : ∀ n f, f < 8 → o f → cb C C.2.2.2.1 n (Bs f) 0 (Bs f).2.2.2.2.2.2.1 + 1 ≤ C.2.2.2.1 f) {f : Nat} (hf : f < 8) (x y : Int64) (S : Sx) :
    ∃ J, JT p1 p2 (px_go X ba Bs f x y S).2.1 J ∧ (px_go X ba Bs f x y S).1 < (px_go X ba Bs f x y S).2.1.2.2.2.2 ∧ J (px_go X ba Bs f x y S).1 = dx_ent ba Bs (dg X ba Bs 51).2 f (jlf p1 p2 1 x) (jlf p1 p2 2 y) := by
  obtain ⟨J, a1, a2, a3, a4⟩ := jt_beg h1 h2 S.1 x y
  unfold px_go px_ent dx_ent
  by_cases of : o f
  · have hbn2 : ¬ ba f = none := fun z => (hba f hf).mp z of
    have hbn : ¬ (ba f = none ∨ 8 ≤ 0) := fun z => z.elim hbn2 (fun y => by omega)
    simp only [if_neg hbn, if_neg hbn2]
    have hfr : ∀ z, px_fr S.2 0 1 2 z = if z = 0 * 14 + 1 then 2 else if z = 0 * 14 then 1 else if 0 * 14 ≤ z ∧ z < 0 * 14 + 14 then 0 else S.2 z := fun z => rfl
    have hco : co (tr_beg S.1 x y, px_fr S.2 0 1 2) 0 := fun z hz => by
      show px_fr S.2 0 1 2 z < (tr_beg S.1 x y).2.2.2.2
      rw [hfr, a2]
      split
      · omega
      split
      · omega
      split
      · omega
      · omega
    have henv : env J (tr_beg S.1 x y, px_fr S.2 0 1 2) 0 = dx_fr (jlf p1 p2 1 x) (jlf p1 p2 2 y) := by
      funext z
      unfold env dx_fr
      by_cases hz : z < 14
      · rw [if_pos hz]
        show J (px_fr S.2 0 1 2 _) = _
        rw [hfr]
        by_cases z0 : z = 0
        · rw [if_neg (by omega), if_pos (by omega), if_pos z0]; exact a3
        · by_cases z1 : z = 1
          · rw [if_pos (by omega), if_neg z0, if_pos z1]; exact a4
          · rw [if_neg (by omega), if_neg (by omega), if_pos (by omega), if_neg z0, if_neg z1]; exact a1.2.2.1
      · rw [if_neg hz, if_neg (by omega), if_neg (by omega)]
    have h40 := (hC.2.2.1 f hf of).2.2
    have hcc := hcb 51 f hf of
    obtain ⟨J3, b1, b2, b3, b4, b5, b6, b7⟩ := (pg_sim h1 h2 hC hba hcb 51).2 f 0 (Bs f).2.2.2.2.2.2.1 0 (tr_beg S.1 x y, px_fr S.2 0 1 2) J hf of (Nat.le_refl _) (by omega) a1 hco (by show (tr_beg S.1 x y).2.2.2.2 + _ ≤ 64; rw [a2]; omega)
    refine ⟨J3, b1, b7 _ (by omega), ?_⟩
    rw [henv] at b2
    rw [← b2]; unfold env; rw [if_pos (by omega)]
  · have hbn2 : ba f = none := (hba f hf).mpr of
    simp only [if_pos (show ba f = none ∨ 8 ≤ 0 from Or.inl hbn2), if_pos hbn2]
    exact ⟨J, a1, by rw [a2]; omega, a1.2.2.1⟩
end SIMB
