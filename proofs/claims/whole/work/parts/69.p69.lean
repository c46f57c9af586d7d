def env (J : Nat → Jt) (S : Sx) (lv : Nat) : Ev := fun k => if k < 14 then J (S.2 (lv * 14 + k)) else j0
/-- what a piece of a block costs at most, by the depth that is left -/
def cst (C : Cs) (p : Nat → Nat) (cb : Bd → Nat → Nat → Nat) (B : Bd) (i : Nat) : Nat × Nat :=
  if B.1 i ≤ 1 then (i + 1, kv C p (cn (B.2.2.1 i)))
  else if B.1 i = 2 then (bd_end B i + 1, kv C p (cn (B.2.2.1 i)) + (cb B (i + 1) (bd_close B i) + cb B (bd_close B i + 1) (bd_end B i)))
  else if B.1 i = 4 then (bd_close B i + 1, cn (B.2.2.1 i) * cb B (i + 1) (bd_close B i))
  else (i + 1, 0)
def cbl (cs : Bd → Nat → Nat × Nat) (B : Bd) : Nat → Nat → Nat → Nat
  | 0, _, _ => 0
  | n + 1, at_, nx => if at_ = nx then (cs B at_).2 + cbl cs B n (at_ + 1) (cs B at_).1 else cbl cs B n (at_ + 1) nx
def cb (C : Cs) (p : Nat → Nat) : Nat → Bd → Nat → Nat → Nat
  | 0 => fun _ _ _ => 0
  | n + 1 => fun B i j => cbl (cst C p (cb C p n)) B (j - i) i i
/-- what a piece of a block leaves behind -/
def Bk (p1 p2 lv : Nat) (S : Sx) (J : Nat → Jt) (S2 : Sx) (c : Nat) (r2 : Ev) : Prop := ∃ J2, JT p1 p2 S2.1 J2 ∧ env J2 S2 lv = r2 ∧ S.1.2.2.2.2 ≤ S2.1.2.2.2.2 ∧ S2.1.2.2.2.2 ≤ S.1.2.2.2.2 + c ∧ (∀ x, x < S.1.2.2.2.2 → J2 x = J x) ∧ (∀ x, x < lv * 14 → S2.2 x = S.2 x) ∧ (∀ x, x < (lv + 1) * 14 → S2.2 x < S2.1.2.2.2.2)
def co (S : Sx) (lv : Nat) : Prop := ∀ x, x < (lv + 1) * 14 → S.2 x < S.1.2.2.2.2
theorem bk_self {p1 p2 lv c : Nat} {S : Sx} {J : Nat → Jt} (h : JT p1 p2 S.1 J) (hc : co S lv) : Bk p1 p2 lv S J S c (env J S lv) := ⟨J, h, rfl, Nat.le_refl _, Nat.le_add_right _ _, fun _ _ => rfl, fun _ _ => rfl, hc⟩
theorem bk_trans {p1 p2 lv c c2 : Nat} {S S2 S3 : Sx} {J : Nat → Jt} {r2 r3 : Ev} (h : Bk p1 p2 lv S J S2 c r2) (h2 : ∀ J2, JT p1 p2 S2.1 J2 → env J2 S2 lv = r2 → S2.1.2.2.2.2 ≤ S.1.2.2.2.2 + c → co S2 lv → Bk p1 p2 lv S2 J2 S3 c2 r3) : Bk p1 p2 lv S J S3 (c + c2) r3 := by
  obtain ⟨J2, a1, a2, a3, a4, a5, a6, a7⟩ := h
  obtain ⟨J3, b1, b2, b3, b4, b5, b6, b7⟩ := h2 J2 a1 a2 a4 a7
  exact ⟨J3, b1, b2, by omega, by omega, fun x hx => by rw [b5 x (by omega), a5 x hx], fun x hx => by rw [b6 x hx, a6 x hx], b7⟩
theorem bk_le {p1 p2 lv c c2 : Nat} {S S2 : Sx} {J : Nat → Jt} {r2 : Ev} (h : Bk p1 p2 lv S J S2 c r2) (hc : c ≤ c2) : Bk p1 p2 lv S J S2 c2 r2 := by
  obtain ⟨J2, a1, a2, a3, a4, a5, a6, a7⟩ := h
  exact ⟨J2, a1, a2, a3, by omega, a5, a6, a7⟩
theorem env_keep {J J2 : Nat → Jt} {S S2 : Sx} {lv : Nat} (hc : co S lv) (hJ : ∀ x, x < S.1.2.2.2.2 → J2 x = J x) (hs : ∀ x, x < (lv + 1) * 14 → S2.2 x = S.2 x) : env J2 S2 lv = env J S lv := by
  funext k
  unfold env
  by_cases h : k < 14
  · rw [if_pos h, if_pos h, hs _ (by omega), hJ _ (hc _ (by omega))]
  · rw [if_neg h, if_neg h]
theorem env_up {J : Nat → Jt} {S : Sx} {lv k i : Nat} (hk : k < 14) : env J (S.1, va_up S.2 (lv * 14 + k) i) lv = va_up (env J S lv) k (J i) := by
  funext x
  unfold env
  by_cases h : x = k
  · subst h; rw [if_pos hk, va_up_self]; show J (va_up S.2 _ i _) = _; rw [va_up_self]
  · rw [va_up_ne _ _ h]
    by_cases h2 : x < 14
    · rw [if_pos h2, if_pos h2]; show J (va_up S.2 _ i _) = _; rw [va_up_ne _ _ (by omega)]
    · rw [if_neg h2, if_neg h2]
section SIM
variable {X : Ex} {C : Cs} {Bs : Nat → Bd} {o : Nat → Prop} {ba : Nat → Option Nat} {p1 p2 : Nat}
/-- an expression is worked out as it should -/
def EC (X : Ex) (C : Cs) (p1 p2 : Nat) (re : Nat → Nat → Sx → Nat × Sx) (de : Nat → Ev → Jt) : Prop := ∀ e lv S J, e < X.2.2.2.2 → lv < 8 → JT p1 p2 S.1 J → co S lv → S.1.2.2.2.2 + kv C C.2.2.2.1 e ≤ 64 → (∀ g, g < 8 → 0 < C.2.1 (e * 8 + g) → 5 * (lv + 1) + C.2.2.2.1 g ≤ 40) →
  Rs p1 p2 S.1 J (re e lv S).1 (re e lv S).2.1 (kv C C.2.2.2.1 e) (de e (env J S lv)) ∧ ∀ x, x < (lv + 1) * 14 → (re e lv S).2.2 x = S.2 x
def BC (C : Cs) (Bs : Nat → Bd) (o : Nat → Prop) (p1 p2 : Nat) (rb : Bd → Nat → Nat → Nat → Sx → Sx) (db : Bd → Nat → Nat → Ev → Ev) (cb : Bd → Nat → Nat → Nat) : Prop := ∀ f i j lv S J, f < 8 → o f → j ≤ (Bs f).2.2.2.2.2.2.1 → 5 * lv + C.2.2.2.1 f ≤ 40 → JT p1 p2 S.1 J → co S lv → S.1.2.2.2.2 + cb (Bs f) i j ≤ 64 →
  Bk p1 p2 lv S J (rb (Bs f) i j lv S) (cb (Bs f) i j) (db (Bs f) i j (env J S lv))
theorem nm_up (hX : ex_ok X) (hE : cEq X C) {e g : Nat} (he : e < X.2.2.2.2) (hg : g < 8) : (2 ≤ cn (X.1 e) → 0 < C.2.1 (cn (X.2.1 e) * 8 + g) → 0 < C.2.1 (e * 8 + g)) ∧ (px_R (cn (X.1 e)) → 0 < C.2.1 (cn (X.2.2.1 e) * 8 + g) → 0 < C.2.1 (e * 8 + g)) := by
  have hf := fac_pos (cn (X.1 e)) (cn (X.2.2.1 e))
  rw [(hE e he).2 g hg, min_pos]
  refine ⟨fun h1 h2 => ?_, fun h1 h2 => ?_⟩
  · have : 0 < fac (cn (X.1 e)) (cn (X.2.2.1 e)) * (onL X e (fun a => C.2.1 (a * 8 + g)) + onR X e (fun a => C.2.1 (a * 8 + g))) := Nat.mul_pos hf (by
      unfold onL; rw [if_pos h1]; exact Nat.lt_of_lt_of_le h2 (Nat.le_add_right _ _))
    omega
  · have : 0 < fac (cn (X.1 e)) (cn (X.2.2.1 e)) * (onL X e (fun a => C.2.1 (a * 8 + g)) + onR X e (fun a => C.2.1 (a * 8 + g))) := Nat.mul_pos hf (by
      unfold onR; rw [if_pos h1]; exact Nat.lt_of_lt_of_le h2 (Nat.le_add_left _ _))
    omega
theorem sim_r1 (hX : ex_ok X) (hE : cEq X C) {re : Nat → Nat → Sx → Nat × Sx} {de : Nat → Ev → Jt} (hre : EC X C p1 p2 re de) {e lv : Nat} {S : Sx} {J : Nat → Jt} (he : e < X.2.2.2.2) (hlv : lv < 8) (hJ : JT p1 p2 S.1 J) (hc : co S lv) (hb : S.1.2.2.2.2 + onL X e (kv C C.2.2.2.1) ≤ 64) (hg : ∀ g, g < 8 → 0 < C.2.1 (e * 8 + g) → 5 * (lv + 1) + C.2.2.2.1 g ≤ 40) :
    Rs p1 p2 S.1 J (px_r1 X re e lv S).1 (px_r1 X re e lv S).2.1 (onL X e (kv C C.2.2.2.1)) (dx_r1 X de e (env J S lv)) ∧ ∀ x, x < (lv + 1) * 14 → (px_r1 X re e lv S).2.2 x = S.2 x := by
  unfold px_r1 dx_r1
  unfold onL at hb ⊢
  by_cases h : 2 ≤ cn (X.1 e)
  · simp only [if_pos h] at hb ⊢
    have := ex_L hX he h
    exact hre _ lv S J (by omega) hlv hJ hc hb (fun g h8 hp => hg g h8 ((nm_up hX hE he h8).1 h hp))
  · simp only [if_neg h]
    refine ⟨?_, fun _ _ => by trivial⟩
    rw [← hJ.2.2.1]; exact rs_self hJ (by have := hJ.1; omega)
theorem sim_r2 (hX : ex_ok X) (hE : cEq X C) {re : Nat → Nat → Sx → Nat × Sx} {de : Nat → Ev → Jt} (hre : EC X C p1 p2 re de) {e lv : Nat} {S : Sx} {J : Nat → Jt} (he : e < X.2.2.2.2) (hlv : lv < 8) (hJ : JT p1 p2 S.1 J) (hc : co S lv) (hb : S.1.2.2.2.2 + (onL X e (kv C C.2.2.2.1) + onR X e (kv C C.2.2.2.1)) ≤ 64) (hg : ∀ g, g < 8 → 0 < C.2.1 (e * 8 + g) → 5 * (lv + 1) + C.2.2.2.1 g ≤ 40) :
    ∃ J2, JT p1 p2 (px_r2 X re e lv S).2.1 J2 ∧ (px_r1 X re e lv S).1 < (px_r2 X re e lv S).2.1.2.2.2.2 ∧ (px_r2 X re e lv S).1 < (px_r2 X re e lv S).2.1.2.2.2.2 ∧ J2 (px_r1 X re e lv S).1 = dx_r1 X de e (env J S lv) ∧ J2 (px_r2 X re e lv S).1 = dx_r2 X de e (env J S lv) ∧
      S.1.2.2.2.2 ≤ (px_r2 X re e lv S).2.1.2.2.2.2 ∧ (px_r2 X re e lv S).2.1.2.2.2.2 ≤ S.1.2.2.2.2 + (onL X e (kv C C.2.2.2.1) + onR X e (kv C C.2.2.2.1)) ∧ (∀ x, x < S.1.2.2.2.2 → J2 x = J x) ∧ ∀ x, x < (lv + 1) * 14 → (px_r2 X re e lv S).2.2 x = S.2 x := by
  obtain ⟨⟨J1, a1, a2, a3, a4, a5, a6⟩, a7⟩ := sim_r1 hX hE hre he hlv hJ hc (by omega) hg
  have hco : co (px_r1 X re e lv S).2 lv := fun x hx => by rw [a7 x hx]; have := hc x hx; omega
  unfold px_r2 dx_r2
  unfold onR at hb ⊢
  by_cases h : px_R (cn (X.1 e))
  · simp only [if_pos h] at hb ⊢
    have := ex_R hX he h
    obtain ⟨⟨J2, b1, b2, b3, b4, b5, b6⟩, b7⟩ := hre _ lv (px_r1 X re e lv S).2 J1 (by omega) hlv a1 hco (by omega) (fun g h8 hp => hg g h8 ((nm_up hX hE he h8).2 h hp))
    rw [env_keep hc a6 a7] at b3
    exact ⟨J2, b1, by omega, b2, by rw [b6 _ a2, a3], b3, by omega, by omega, fun x hx => by rw [b6 x (by omega), a6 x hx], fun x hx => by rw [b7 x hx, a7 x hx]⟩
  · simp only [if_neg h]
    exact ⟨J1, a1, a2, by have := a1.1; omega, a3, a1.2.2.1, a4, by omega, a6, a7⟩
theorem sim_ev (h1 : dir p1) (h2 : dir p2) (hC : CI X C Bs o) (hba : ∀ f, f < 8 → (ba f = none ↔ ¬ o f)) {re : Nat → Nat → Sx → Nat × Sx} {de : Nat → Ev → Jt} {rb : Bd → Nat → Nat → Nat → Sx → Sx} {db : Bd → Nat → Nat → Ev → Ev} {cbn : Bd → Nat → Nat → Nat}
    (hre : EC X C p1 p2 re de) (hrb : BC C Bs o p1 p2 rb db cbn) (hcb : ∀ f, f < 8 → o f → cbn (Bs f) 0 (Bs f).2.2.2.2.2.2.1 + 1 ≤ C.2.2.2.1 f) : EC X C p1 p2 (px_ev X re (px_ent ba Bs rb)) (dx_ev X de (dx_ent ba Bs db)) := by
  obtain ⟨hX, hE, hO, hN, hW, hnm⟩ := id hC
  intro e lv S J he hlv hJ hc hb hg
  have hkw := kv_lt hX hE (p := C.2.2.2.1) he (by have := hJ.1; omega)
  have hf := fac_pos (cn (X.1 e)) (cn (X.2.2.1 e))
  have hge : onL X e (kv C C.2.2.2.1) + onR X e (kv C C.2.2.2.1) ≤ fac (cn (X.1 e)) (cn (X.2.2.1 e)) * (onL X e (kv C C.2.2.2.1) + onR X e (kv C C.2.2.2.1)) := Nat.le_mul_of_pos_left _ hf
  have hk1 : 1 + (onL X e (kv C C.2.2.2.1) + onR X e (kv C C.2.2.2.1)) ≤ kv C C.2.2.2.1 e := by rw [hkw]; unfold kw; omega
  obtain ⟨k, hk, hke, -, -, hv1, hv6, hv10, hv11⟩ := hX.2 e he
  have hck : cn (X.1 e) = k := by rw [hke, cn_nI (by omega)]
  unfold px_ev dx_ev
  rw [hck]
  by_cases e0 : k = 0
  · simp only [if_pos e0]
    exact ⟨rs_le (rs_con h1 h2 hJ (by omega) _) (by omega), fun _ _ => trivial⟩
  by_cases e1 : k = 1
  · simp only [if_neg e0, if_pos e1]
    obtain ⟨a, ha, hea⟩ := hv1 e1
    have hca : cn (X.2.1 e) = a := by rw [hea, cn_nI (by omega)]
    rw [hca]
    refine ⟨?_, fun _ _ => trivial⟩
    have : env J S lv a = J (S.2 (lv * 14 + a)) := if_pos (by omega)
    rw [this]; exact rs_self hJ (hc _ (by omega))
  by_cases e6 : k = 6
  · simp only [if_neg e0, if_neg e1, if_pos e6]
    obtain ⟨b, hb3, heb⟩ := hv6 e6
    have hcb' : cn (X.2.2.1 e) = b := by rw [heb, cn_nI (by omega)]
    obtain ⟨⟨J1, a1, a2, a3, a4, a5, a6⟩, a7⟩ := sim_r1 hX hE hre he hlv hJ hc (by omega) hg
    have hst : onL X e (kv C C.2.2.2.1) + (if b = 0 then 1 else b - 1) ≤ kv C C.2.2.2.1 e := by
      have hpos : 1 ≤ onL X e (kv C C.2.2.2.1) := by
        unfold onL; rw [if_pos (by omega)]
        have := ex_L hX he (by omega)
        exact kv_pos hE (by omega)
      rw [hkw]; unfold kw fac
      rw [hck, if_pos e6, hcb', if_neg (show ¬ k = 11 by omega)]
      generalize onL X e (kv C C.2.2.2.1) = u at hpos
      generalize onR X e (kv C C.2.2.2.1) = w
      rcases (show b = 0 ∨ b = 1 ∨ b = 2 ∨ b = 3 by omega) with z | z | z | z <;> subst z <;> simp <;> omega
    rw [hcb']
    obtain ⟨J2, b1, b2, b3, b4, b5, b6⟩ := rs_power h1 h2 a1 a2 b (by generalize (if b = 0 then 1 else b - 1) = w at hst ⊢; omega)
    exact ⟨⟨J2, b1, b2, by rw [b3, a3], by omega, by generalize (if b = 0 then 1 else b - 1) = w at hst b5; omega, fun x hx => by rw [b6 x (by omega), a6 x hx]⟩, a7⟩
  by_cases e10 : k = 10
  · simp only [if_neg e0, if_neg e1, if_neg e6, if_pos e10]
    obtain ⟨b, hb2, heb⟩ := hv10 e10
    have hcb' : cn (X.2.2.1 e) = b := by rw [heb, cn_nI (by omega)]
    obtain ⟨⟨J1, a1, a2, a3, a4, a5, a6⟩, a7⟩ := sim_r1 hX hE hre he hlv hJ hc (by omega) hg
    have hv : (px_r1 X re e lv S).2.1.2.2.2.1 (px_r1 X re e lv S).1 = (dx_r1 X de e (env J S lv)).1 := by rw [(a1.2.2.2.2 _ a2).1, a3]
    unfold px_el
    rw [hcb', hv]
    have hpl := pl_lt (dx_r1 X de e (env J S lv)).1
    generalize pl (dx_r1 X de e (env J S lv)).1 = z at hpl
    have hi : lv * 14 + 6 + b * 4 + z < (lv + 1) * 14 := by omega
    refine ⟨⟨J1, a1, ?_, ?_, a4, by omega, a6⟩, a7⟩
    · rw [a7 _ hi]; have := hc _ hi; omega
    · rw [a7 _ hi, a6 _ (hc _ hi)]
      unfold env
      rw [if_pos (by omega), show lv * 14 + (6 + b * 4 + z) = lv * 14 + 6 + b * 4 + z by omega]
  by_cases e11 : k = 11
  · simp only [if_neg e0, if_neg e1, if_neg e6, if_neg e10, if_pos e11]
    obtain ⟨c, hc8, hec⟩ := hv11 e11
    have hcc : cn (X.2.2.2.1 e) = c := by rw [hec, cn_nI (by omega)]
    rw [hcc]
    have hnc : 0 < C.2.1 (e * 8 + c) := by rw [(hE e he).2 c hc8, min_pos, if_pos ⟨by rw [hck]; exact e11, hcc.symm⟩]; omega
    have oc := hnm e he c hc8 hnc
    have hlc := hg c hc8 hnc
    have hcc1 := hcb c hc8 oc
    have hk2 : kv C C.2.2.2.1 e = 1 + (onL X e (kv C C.2.2.2.1) + onR X e (kv C C.2.2.2.1)) + C.2.2.2.1 c := by
      conv => lhs; rw [hkw]
      unfold kw fac
      rw [hck, if_neg (by omega), if_neg (by omega), if_pos e11, hcc, Nat.one_mul]
    obtain ⟨J2, a1, a2, a3, a4, a5, a6, a7, a8, a9⟩ := sim_r2 hX hE hre he hlv hJ hc (by omega) hg
    have hbn : ¬ (ba c = none ∨ 8 ≤ lv + 1) := fun z => z.elim (fun y => (hba c hc8).mp y oc) (fun y => by omega)
    have hbn2 : ¬ ba c = none := fun z => hbn (Or.inl z)
    unfold px_ent dx_ent
    simp only [if_neg hbn, if_neg hbn2]
    have hfr : ∀ x, px_fr (px_r2 X re e lv S).2.2 (lv + 1) (px_r1 X re e lv S).1 (px_r2 X re e lv S).1 x = if x = (lv + 1) * 14 + 1 then (px_r2 X re e lv S).1 else if x = (lv + 1) * 14 then (px_r1 X re e lv S).1 else if (lv + 1) * 14 ≤ x ∧ x < (lv + 1) * 14 + 14 then 0 else (px_r2 X re e lv S).2.2 x := fun x => rfl
    have hco : co ((px_r2 X re e lv S).2.1, px_fr (px_r2 X re e lv S).2.2 (lv + 1) (px_r1 X re e lv S).1 (px_r2 X re e lv S).1) (lv + 1) := by
      intro x hx
      show px_fr (px_r2 X re e lv S).2.2 (lv + 1) (px_r1 X re e lv S).1 (px_r2 X re e lv S).1 x < (px_r2 X re e lv S).2.1.2.2.2.2
      rw [hfr]
      split
      · exact a3
      split
      · exact a2
      split
      · have := a1.1; omega
      · rename_i z
        have hx2 : x < (lv + 1) * 14 := by omega
        rw [a9 x hx2]; have := hc x hx2; omega
    have henv : env J2 ((px_r2 X re e lv S).2.1, px_fr (px_r2 X re e lv S).2.2 (lv + 1) (px_r1 X re e lv S).1 (px_r2 X re e lv S).1) (lv + 1) = dx_fr (dx_r1 X de e (env J S lv)) (dx_r2 X de e (env J S lv)) := by
      funext x
      unfold env dx_fr
      by_cases hx : x < 14
      · rw [if_pos hx]
        show J2 (px_fr _ _ _ _ _) = _
        rw [hfr]
        by_cases x0 : x = 0
        · rw [if_neg (by omega), if_pos (by omega), if_pos x0]; exact a4
        · by_cases x1 : x = 1
          · rw [if_pos (by omega), if_neg x0, if_pos x1]; exact a5
          · rw [if_neg (by omega), if_neg (by omega), if_pos (by omega), if_neg x0, if_neg x1]; exact a1.2.2.1
      · rw [if_neg hx, if_neg (by omega), if_neg (by omega)]
    obtain ⟨J3, b1, b2, b3, b4, b5, b6, b7⟩ := hrb c 0 (Bs c).2.2.2.2.2.2.1 (lv + 1) ((px_r2 X re e lv S).2.1, px_fr (px_r2 X re e lv S).2.2 (lv + 1) (px_r1 X re e lv S).1 (px_r2 X re e lv S).1) J2 hc8 oc (Nat.le_refl _) hlc a1 hco (by show (px_r2 X re e lv S).2.1.2.2.2.2 + _ ≤ 64; omega)
    rw [henv] at b2
    have b3' : (px_r2 X re e lv S).2.1.2.2.2.2 ≤ _ := b3
    have b4' : _ ≤ (px_r2 X re e lv S).2.1.2.2.2.2 + _ := b4
    refine ⟨⟨J3, b1, b7 _ (by omega), ?_, by omega, by omega, fun x hx => ?_⟩, fun x hx => ?_⟩
    · rw [← b2]; unfold env; rw [if_pos (by omega)]; rfl
    · rw [b5 x (show x < (px_r2 X re e lv S).2.1.2.2.2.2 by omega), a8 x hx]
    · rw [b6 x hx, ← a9 x hx]
      show px_fr _ _ _ _ x = _
      rw [hfr, if_neg (by omega), if_neg (by omega), if_neg (by omega)]
  · simp only [if_neg e0, if_neg e1, if_neg e6, if_neg e10, if_neg e11]
    obtain ⟨J2, a1, a2, a3, a4, a5, a6, a7, a8, a9⟩ := sim_r2 hX hE hre he hlv hJ hc (by omega) hg
    obtain ⟨J3, b1, b2, b3, b4, b5, b6⟩ := rs_comb h1 h2 a1 (by omega) a2 a3 k
    exact ⟨⟨J3, b1, b2, by rw [b3, a4, a5], by omega, by omega, fun x hx => by rw [b6 x (by omega), a8 x hx]⟩, a9⟩
end SIM
