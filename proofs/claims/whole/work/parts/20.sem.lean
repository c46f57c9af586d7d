abbrev Sx : Type := Tr × (Nat → Nat)
/-- the place that a value says -/
def pl (v : Int64) : Nat := v.toBitVec.toNat % 4
theorem pl_lt (v : Int64) : pl v < 4 := Nat.mod_lt _ (by decide)
theorem pl_and (v : Int64) : v &&& 3 = lN (pl v) := by
  apply Int64.toBitVec_inj.mp
  apply BitVec.eq_of_toNat_eq
  show (v.toBitVec &&& 3#64).toNat = (BitVec.ofNat 64 (v.toBitVec.toNat % 4)).toNat
  rw [BitVec.toNat_and, BitVec.toNat_ofNat]
  show v.toBitVec.toNat &&& 3 = _
  rw [show (3 : Nat) = 2 ^ 2 - 1 from rfl, Nat.and_two_pow_sub_one_eq_mod]
  have := Nat.mod_lt v.toBitVec.toNat (show 0 < 4 by decide)
  show v.toBitVec.toNat % 4 = v.toBitVec.toNat % 4 % 2 ^ 64
  omega
theorem pl_spec (v : Int64) : (v &&& 3).toInt32 = nI (pl v) := by rw [pl_and, lN_i]
/-- one number out of an Int32 that is one -/
def cn (x : Int32) : Nat := x.toNatClampNeg
theorem cn_nI {j : Nat} (h : j < 2 ^ 31) : cn (nI j) = j := nI_clamp h
def px_R (k : Nat) : Prop := k = 2 ∨ k = 3 ∨ k = 4 ∨ k = 8 ∨ k = 9 ∨ k = 11
/-- combine: the step, the trace -/
def px_comb (k a b : Nat) (T : Tr) : Nat × Tr := if k = 2 then (tr_ix T, tr_sum T a b) else if k = 3 then (tr_ix T, tr_dif T a b) else if k = 4 then (tr_ix T, tr_mul T a b) else if k = 5 then (tr_ix T, tr_dif T 0 a) else if k = 7 then ((tr_mag T a).2, (tr_mag T a).1)
  else if k = 8 then (if T.2.2.2.1 a ≤ T.2.2.2.1 b then a else b, T) else if k = 9 then (if T.2.2.2.1 b ≤ T.2.2.2.1 a then a else b, T) else (0, T)
def px_el (lv ar p : Nat) (T : Tr) : Nat := lv * 14 + 6 + ar * 4 + pl (T.2.2.2.1 p)
/-- the cells of a new frame -/
def px_fr (cs : Nat → Nat) (lv x y : Nat) : Nat → Nat := va_up (va_up (gf_N cs 0 (lv * 14) (lv * 14 + 14)) (lv * 14) x) (lv * 14 + 1) y
/-- what a call does: the bodies' array ba, the bodies Bs, the block runner rb -/
def px_ent (ba : Nat → Option Nat) (Bs : Nat → Bd) (rb : Bd → Nat → Nat → Nat → Sx → Sx) (f x y lv : Nat) (S : Sx) : Nat × Sx :=
  if ba f = none ∨ 8 ≤ lv then (0, S) else ((rb (Bs f) 0 (Bs f).2.2.2.2.2.2.1 lv (S.1, px_fr S.2 lv x y)).2 (lv * 14), rb (Bs f) 0 (Bs f).2.2.2.2.2.2.1 lv (S.1, px_fr S.2 lv x y))
noncomputable def px_r1 (X : Ex) (re : Nat → Nat → Sx → Nat × Sx) (e lv : Nat) (S : Sx) : Nat × Sx := if 2 ≤ cn (X.1 e) then re (cn (X.2.1 e)) lv S else (0, S)
noncomputable def px_r2 (X : Ex) (re : Nat → Nat → Sx → Nat × Sx) (e lv : Nat) (S : Sx) : Nat × Sx := @ite _ (px_R (cn (X.1 e))) (Classical.propDecidable _) (re (cn (X.2.2.1 e)) lv (px_r1 X re e lv S).2) (0, (px_r1 X re e lv S).2)
noncomputable def px_ev (X : Ex) (re : Nat → Nat → Sx → Nat × Sx) (en : Nat → Nat → Nat → Nat → Sx → Nat × Sx) (e lv : Nat) (S : Sx) : Nat × Sx :=
  if cn (X.1 e) = 0 then (tr_ix S.1, (tr_add S.1 0 0 0 (X.2.1 e).toInt64, S.2))
  else if cn (X.1 e) = 1 then (S.2 (lv * 14 + cn (X.2.1 e)), S)
  else if cn (X.1 e) = 6 then ((tr_power (px_r1 X re e lv S).2.1 (px_r1 X re e lv S).1 (cn (X.2.2.1 e))).2, ((tr_power (px_r1 X re e lv S).2.1 (px_r1 X re e lv S).1 (cn (X.2.2.1 e))).1, (px_r1 X re e lv S).2.2))
  else if cn (X.1 e) = 10 then ((px_r1 X re e lv S).2.2 (px_el lv (cn (X.2.2.1 e)) (px_r1 X re e lv S).1 (px_r1 X re e lv S).2.1), (px_r1 X re e lv S).2)
  else if cn (X.1 e) = 11 then en (cn (X.2.2.2.1 e)) (px_r1 X re e lv S).1 (px_r2 X re e lv S).1 (lv + 1) (px_r2 X re e lv S).2
  else ((px_comb (cn (X.1 e)) (px_r1 X re e lv S).1 (px_r2 X re e lv S).1 (px_r2 X re e lv S).2.1).1, ((px_comb (cn (X.1 e)) (px_r1 X re e lv S).1 (px_r2 X re e lv S).1 (px_r2 X re e lv S).2.1).2, (px_r2 X re e lv S).2.2))
/-- IF: where the next one stands, the state -/
def px_if (re : Nat → Nat → Sx → Nat × Sx) (rb : Bd → Nat → Nat → Nat → Sx → Sx) (B : Bd) (i lv : Nat) (S : Sx) : Sx :=
  if 0 < (re (cn (B.2.2.1 i)) lv S).2.1.2.2.2.1 (re (cn (B.2.2.1 i)) lv S).1 then rb B (i + 1) (bd_close B i) lv (re (cn (B.2.2.1 i)) lv S).2 else rb B (bd_close B i + 1) (bd_end B i) lv (re (cn (B.2.2.1 i)) lv S).2
def px_rep (rb : Sx → Sx) : Nat → Sx → Sx
  | 0, S => S
  | n + 1, S => rb (px_rep rb n S)
def px_st (re : Nat → Nat → Sx → Nat × Sx) (rb : Bd → Nat → Nat → Nat → Sx → Sx) (B : Bd) (i lv : Nat) (S : Sx) : Nat × Sx :=
  if B.1 i = 0 then (i + 1, ((re (cn (B.2.2.1 i)) lv S).2.1, va_up (re (cn (B.2.2.1 i)) lv S).2.2 (lv * 14 + cn (B.2.1 i)) (re (cn (B.2.2.1 i)) lv S).1))
  else if B.1 i = 1 then (i + 1, ((re (cn (B.2.2.1 i)) lv S).2.1, va_up (re (cn (B.2.2.1 i)) lv S).2.2 (px_el lv (cn (B.2.1 i)) (S.2 (lv * 14 + 5)) S.1) (re (cn (B.2.2.1 i)) lv S).1))
  else if B.1 i = 2 then (bd_end B i + 1, px_if re rb B i lv S)
  else if B.1 i = 4 then (bd_close B i + 1, px_rep (rb B (i + 1) (bd_close B i) lv) (cn (B.2.2.1 i)) S)
  else (i + 1, S)
/-- the statements from .. to - 1: at most n of them, the next one being nx -/
def px_bl (rs : Bd → Nat → Nat → Sx → Nat × Sx) (B : Bd) (lv : Nat) : Nat → Nat → Nat → Sx → Sx
  | 0, _, _, S => S
  | n + 1, at_, nx, S => if at_ = nx then px_bl rs B lv n (at_ + 1) (rs B at_ lv S).1 (rs B at_ lv S).2 else px_bl rs B lv n (at_ + 1) nx S
/-- all of it, by the depth that is left: expressions, blocks -/
noncomputable def pg (X : Ex) (ba : Nat → Option Nat) (Bs : Nat → Bd) : Nat → (Nat → Nat → Sx → Nat × Sx) × (Bd → Nat → Nat → Nat → Sx → Sx)
  | 0 => (fun _ _ S => (0, S), fun _ _ _ _ S => S)
  | n + 1 => (px_ev X (pg X ba Bs n).1 (px_ent ba Bs (pg X ba Bs n).2), fun B i j lv S => px_bl (px_st (pg X ba Bs n).1 (pg X ba Bs n).2) B lv (j - i) i i S)
