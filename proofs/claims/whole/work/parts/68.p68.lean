/-- a value with its slopes in two directions and the mixed one -/
abbrev Jt : Type := Int64 × Int64 × Int64 × Int64
def j0 : Jt := (0, 0, 0, 0)
def jcon (v : Int64) : Jt := (v, 0, 0, 0)
def jadd (a b : Jt) : Jt := (a.1 + b.1, a.2.1 + b.2.1, a.2.2.1 + b.2.2.1, a.2.2.2 + b.2.2.2)
def jsub (a b : Jt) : Jt := (a.1 - b.1, a.2.1 - b.2.1, a.2.2.1 - b.2.2.1, a.2.2.2 - b.2.2.2)
def jmul (a b : Jt) : Jt := (a.1 * b.1, a.1 * b.2.1 + a.2.1 * b.1, a.1 * b.2.2.1 + a.2.2.1 * b.1, a.1 * b.2.2.2 + a.2.1 * b.2.2.1 + a.2.2.1 * b.2.1 + a.2.2.2 * b.1)
def jpw (a : Jt) : Nat → Jt
  | 0 => a
  | n + 1 => jmul (jpw a n) a
def jpow (a : Jt) (n : Nat) : Jt := if n = 0 then jcon 1 else jpw a (n - 1)
def jmag (a : Jt) : Jt := if a.1 = 0 then j0 else if a.1 < 0 then jsub j0 a else a
def jcomb (k : Nat) (a b : Jt) : Jt := if k = 2 then jadd a b else if k = 3 then jsub a b else if k = 4 then jmul a b else if k = 5 then jsub j0 a else if k = 7 then jmag a
  else if k = 8 then (if a.1 ≤ b.1 then a else b) else if k = 9 then (if b.1 ≤ a.1 then a else b) else j0
/-- a frame's cells -/
abbrev Ev : Type := Nat → Jt
def dx_fr (x y : Jt) : Ev := fun k => if k = 0 then x else if k = 1 then y else j0
def dx_ent (ba : Nat → Option Nat) (Bs : Nat → Bd) (rb : Bd → Nat → Nat → Ev → Ev) (f : Nat) (x y : Jt) : Jt := if ba f = none then j0 else rb (Bs f) 0 (Bs f).2.2.2.2.2.2.1 (dx_fr x y) 0
noncomputable def dx_r1 (X : Ex) (re : Nat → Ev → Jt) (e : Nat) (r : Ev) : Jt := if 2 ≤ cn (X.1 e) then re (cn (X.2.1 e)) r else j0
noncomputable def dx_r2 (X : Ex) (re : Nat → Ev → Jt) (e : Nat) (r : Ev) : Jt := @ite _ (px_R (cn (X.1 e))) (Classical.propDecidable _) (re (cn (X.2.2.1 e)) r) j0
noncomputable def dx_ev (X : Ex) (re : Nat → Ev → Jt) (en : Nat → Jt → Jt → Jt) (e : Nat) (r : Ev) : Jt :=
  if cn (X.1 e) = 0 then jcon (X.2.1 e).toInt64
  else if cn (X.1 e) = 1 then r (cn (X.2.1 e))
  else if cn (X.1 e) = 6 then jpow (dx_r1 X re e r) (cn (X.2.2.1 e))
  else if cn (X.1 e) = 10 then r (6 + cn (X.2.2.1 e) * 4 + pl (dx_r1 X re e r).1)
  else if cn (X.1 e) = 11 then en (cn (X.2.2.2.1 e)) (dx_r1 X re e r) (dx_r2 X re e r)
  else jcomb (cn (X.1 e)) (dx_r1 X re e r) (dx_r2 X re e r)
def dx_if (re : Nat → Ev → Jt) (rb : Bd → Nat → Nat → Ev → Ev) (B : Bd) (i : Nat) (r : Ev) : Ev := if 0 < (re (cn (B.2.2.1 i)) r).1 then rb B (i + 1) (bd_close B i) r else rb B (bd_close B i + 1) (bd_end B i) r
def dx_rep (rb : Ev → Ev) : Nat → Ev → Ev
  | 0, r => r
  | n + 1, r => rb (dx_rep rb n r)
def dx_st (re : Nat → Ev → Jt) (rb : Bd → Nat → Nat → Ev → Ev) (B : Bd) (i : Nat) (r : Ev) : Nat × Ev :=
  if B.1 i = 0 then (i + 1, va_up r (cn (B.2.1 i)) (re (cn (B.2.2.1 i)) r))
  else if B.1 i = 1 then (i + 1, va_up r (6 + cn (B.2.1 i) * 4 + pl (r 5).1) (re (cn (B.2.2.1 i)) r))
  else if B.1 i = 2 then (bd_end B i + 1, dx_if re rb B i r)
  else if B.1 i = 4 then (bd_close B i + 1, dx_rep (rb B (i + 1) (bd_close B i)) (cn (B.2.2.1 i)) r)
  else (i + 1, r)
def dx_bl (rs : Bd → Nat → Ev → Nat × Ev) (B : Bd) : Nat → Nat → Nat → Ev → Ev
  | 0, _, _, r => r
  | n + 1, at_, nx, r => if at_ = nx then dx_bl rs B n (at_ + 1) (rs B at_ r).1 (rs B at_ r).2 else dx_bl rs B n (at_ + 1) nx r
noncomputable def dg (X : Ex) (ba : Nat → Option Nat) (Bs : Nat → Bd) : Nat → (Nat → Ev → Jt) × (Bd → Nat → Nat → Ev → Ev)
  | 0 => (fun _ _ => j0, fun _ _ _ r => r)
  | n + 1 => (dx_ev X (dg X ba Bs n).1 (dx_ent ba Bs (dg X ba Bs n).2), fun B i j r => dx_bl (dx_st (dg X ba Bs n).1 (dg X ba Bs n).2) B (j - i) i i r)
/-- the jets of a trace's steps: p1, p2 are the directions (100: none) -/
def jlf (p1 p2 i : Nat) (v : Int64) : Jt := (v, if i = 1 + p1 then 1 else 0, if i = 1 + p2 then 1 else 0, 0)
def JT (p1 p2 : Nat) (T : Tr) (J : Nat → Jt) : Prop := 3 ≤ T.2.2.2.2 ∧ T.2.2.2.2 ≤ 64 ∧ J 0 = j0 ∧ (∀ i, i < 3 → T.1 i = 0) ∧ ∀ i, i < T.2.2.2.2 → T.2.2.2.1 i = (J i).1 ∧ T.1 i ≤ 3 ∧ T.2.1 i < 64 ∧ T.2.2.1 i < 64 ∧
  (T.1 i = 0 → J i = jlf p1 p2 i (T.2.2.2.1 i)) ∧ (T.1 i ≠ 0 → T.2.1 i < i ∧ T.2.2.1 i < i) ∧ (T.1 i = 1 → J i = jadd (J (T.2.1 i)) (J (T.2.2.1 i))) ∧ (T.1 i = 2 → J i = jsub (J (T.2.1 i)) (J (T.2.2.1 i))) ∧ (T.1 i = 3 → J i = jmul (J (T.2.1 i)) (J (T.2.2.1 i)))
def dir (p : Nat) : Prop := p ≤ 1 ∨ p = 100
section JT
variable {p1 p2 : Nat} {T : Tr} {J : Nat → Jt}
/-- one step more -/
theorem jt_put (h1 : dir p1) (h2 : dir p2) (h : JT p1 p2 T J) (hn : T.2.2.2.2 < 64) {kd a b : Nat} {v : Int64} {j : Jt} (hk : kd ≤ 3) (ha : a < T.2.2.2.2) (hb : b < T.2.2.2.2) (hv : v = j.1) (hj0 : kd = 0 → j = jcon v) (hj1 : kd = 1 → j = jadd (J a) (J b)) (hj2 : kd = 2 → j = jsub (J a) (J b)) (hj3 : kd = 3 → j = jmul (J a) (J b)) :
    JT p1 p2 (tr_put T kd a b v) (va_up J T.2.2.2.2 j) := by
  obtain ⟨c1, c2, c3, c4, c5⟩ := h
  have hn1 : (tr_put T kd a b v).2.2.2.2 = T.2.2.2.2 + 1 := rfl
  refine ⟨by rw [hn1]; omega, by rw [hn1]; omega, by rw [va_up_ne _ _ (by omega)]; exact c3, fun i hi => ?_, fun i hi => ?_⟩
  · show va_up T.1 T.2.2.2.2 kd i = 0
    rw [va_up_ne _ _ (by omega)]; exact c4 i hi
  · rw [hn1] at hi
    show vp_updL T.2.2.2.1 T.2.2.2.2 v i = _ ∧ va_up T.1 T.2.2.2.2 kd i ≤ 3 ∧ va_up T.2.1 T.2.2.2.2 a i < 64 ∧ va_up T.2.2.1 T.2.2.2.2 b i < 64 ∧ (va_up T.1 T.2.2.2.2 kd i = 0 → va_up J T.2.2.2.2 j i = jlf p1 p2 i (vp_updL T.2.2.2.1 T.2.2.2.2 v i)) ∧
      (va_up T.1 T.2.2.2.2 kd i ≠ 0 → va_up T.2.1 T.2.2.2.2 a i < i ∧ va_up T.2.2.1 T.2.2.2.2 b i < i) ∧ (va_up T.1 T.2.2.2.2 kd i = 1 → va_up J T.2.2.2.2 j i = jadd (va_up J T.2.2.2.2 j (va_up T.2.1 T.2.2.2.2 a i)) (va_up J T.2.2.2.2 j (va_up T.2.2.1 T.2.2.2.2 b i))) ∧
      (va_up T.1 T.2.2.2.2 kd i = 2 → va_up J T.2.2.2.2 j i = jsub (va_up J T.2.2.2.2 j (va_up T.2.1 T.2.2.2.2 a i)) (va_up J T.2.2.2.2 j (va_up T.2.2.1 T.2.2.2.2 b i))) ∧ (va_up T.1 T.2.2.2.2 kd i = 3 → va_up J T.2.2.2.2 j i = jmul (va_up J T.2.2.2.2 j (va_up T.2.1 T.2.2.2.2 a i)) (va_up J T.2.2.2.2 j (va_up T.2.2.1 T.2.2.2.2 b i)))
    by_cases e : i = T.2.2.2.2
    · subst e
      rw [pk_uLs, va_up_self, va_up_self, va_up_self, va_up_self, va_up_ne J _ (by omega), va_up_ne J _ (by omega)]
      refine ⟨hv, hk, by omega, by omega, fun z => ?_, fun _ => ⟨ha, hb⟩, hj1, hj2, hj3⟩
      rw [hj0 z]
      unfold jlf jcon
      have e1 : ¬ T.2.2.2.2 = 1 + p1 := by unfold dir at h1; omega
      have e2 : ¬ T.2.2.2.2 = 1 + p2 := by unfold dir at h2; omega
      rw [if_neg e1, if_neg e2]
    · have hi' : i < T.2.2.2.2 := by omega
      obtain ⟨d1, d2, d3, d4, d5, d6, d7, d8, d9⟩ := c5 i hi'
      rw [pk_uLn e, va_up_ne _ _ e, va_up_ne _ _ e, va_up_ne _ _ e, va_up_ne _ _ e]
      refine ⟨d1, d2, d3, d4, d5, d6, fun z => ?_, fun z => ?_, fun z => ?_⟩
      · have := d6 (by omega); rw [va_up_ne _ _ (by omega), va_up_ne _ _ (by omega)]; exact d7 z
      · have := d6 (by omega); rw [va_up_ne _ _ (by omega), va_up_ne _ _ (by omega)]; exact d8 z
      · have := d6 (by omega); rw [va_up_ne _ _ (by omega), va_up_ne _ _ (by omega)]; exact d9 z
/-- what a piece of a run leaves behind: the result's jet, so many steps at most -/
def Rs (p1 p2 : Nat) (T : Tr) (J : Nat → Jt) (i : Nat) (T2 : Tr) (c : Nat) (j : Jt) : Prop := ∃ J2, JT p1 p2 T2 J2 ∧ i < T2.2.2.2.2 ∧ J2 i = j ∧ T.2.2.2.2 ≤ T2.2.2.2.2 ∧ T2.2.2.2.2 ≤ T.2.2.2.2 + c ∧ ∀ x, x < T.2.2.2.2 → J2 x = J x
theorem rs_add (h1 : dir p1) (h2 : dir p2) (h : JT p1 p2 T J) (hn : T.2.2.2.2 < 64) {kd a b : Nat} {v : Int64} {j : Jt} (hk : kd ≤ 3) (ha : a < T.2.2.2.2) (hb : b < T.2.2.2.2) (hv : v = j.1) (hj0 : kd = 0 → j = jcon v) (hj1 : kd = 1 → j = jadd (J a) (J b)) (hj2 : kd = 2 → j = jsub (J a) (J b)) (hj3 : kd = 3 → j = jmul (J a) (J b)) :
    Rs p1 p2 T J (tr_ix T) (tr_add T kd a b v) 1 j := by
  unfold tr_ix tr_add
  rw [if_pos hn, if_pos hn]
  exact ⟨va_up J T.2.2.2.2 j, jt_put h1 h2 h hn hk ha hb hv hj0 hj1 hj2 hj3, Nat.lt_succ_self _, va_up_self _ _ _, Nat.le_succ _, Nat.le_refl _, fun x hx => va_up_ne _ _ (by omega)⟩
theorem rs_self (h : JT p1 p2 T J) {i c : Nat} (hi : i < T.2.2.2.2) : Rs p1 p2 T J i T c (J i) := ⟨J, h, hi, rfl, Nat.le_refl _, Nat.le_add_right _ _, fun _ _ => rfl⟩
theorem rs_le {i c c2 : Nat} {T2 : Tr} {j : Jt} (h : Rs p1 p2 T J i T2 c j) (hc : c ≤ c2) : Rs p1 p2 T J i T2 c2 j := by
  obtain ⟨J2, a1, a2, a3, a4, a5, a6⟩ := h
  exact ⟨J2, a1, a2, a3, a4, by omega, a6⟩
theorem rs_con (h1 : dir p1) (h2 : dir p2) (h : JT p1 p2 T J) (hn : T.2.2.2.2 < 64) (v : Int64) : Rs p1 p2 T J (tr_ix T) (tr_add T 0 0 0 v) 1 (jcon v) :=
  rs_add h1 h2 h hn (by omega) (by have := h.1; omega) (by have := h.1; omega) rfl (fun _ => rfl) (fun z => absurd z (by omega)) (fun z => absurd z (by omega)) (fun z => absurd z (by omega))
theorem rs_pw (h1 : dir p1) (h2 : dir p2) (h : JT p1 p2 T J) {a : Nat} (ha : a < T.2.2.2.2) : ∀ n, T.2.2.2.2 + n ≤ 64 → Rs p1 p2 T J (tr_pw T a n).2 (tr_pw T a n).1 n (jpw (J a) n)
  | 0, _ => rs_self h ha
  | n + 1, hn => by
    obtain ⟨J2, b1, b2, b3, b4, b5, b6⟩ := rs_pw h1 h2 h ha n (by omega)
    obtain ⟨J3, c1, c2, c3, c4, c5, c6⟩ := rs_add h1 h2 b1 (kd := 3) (a := (tr_pw T a n).2) (b := a) (v := (tr_pw T a n).1.2.2.2.1 (tr_pw T a n).2 * (tr_pw T a n).1.2.2.2.1 a) (j := jmul (J2 (tr_pw T a n).2) (J2 a)) (by omega) (by omega) b2 (by omega)
      (by rw [(b1.2.2.2.2 _ b2).1, (b1.2.2.2.2 a (by omega)).1]; rfl) (fun z => absurd z (by omega)) (fun z => absurd z (by omega)) (fun z => absurd z (by omega)) (fun _ => rfl)
    refine ⟨J3, c1, c2, ?_, ?_, ?_, fun x hx => ?_⟩
    · have e : J3 (tr_pw T a (n + 1)).2 = _ := c3
      rw [e, b3, b6 a ha]; rfl
    · exact Nat.le_trans b4 c4
    · have e : (tr_pw T a (n + 1)).1.2.2.2.2 ≤ _ := c5
      omega
    · rw [c6 x (by omega), b6 x hx]
theorem rs_power (h1 : dir p1) (h2 : dir p2) (h : JT p1 p2 T J) {a : Nat} (ha : a < T.2.2.2.2) (n : Nat) (hn : T.2.2.2.2 + (if n = 0 then 1 else n - 1) ≤ 64) : Rs p1 p2 T J (tr_power T a n).2 (tr_power T a n).1 (if n = 0 then 1 else n - 1) (jpow (J a) n) := by
  unfold tr_power jpow
  by_cases e : n = 0
  · rw [if_pos e] at hn
    simp only [if_pos e]; exact rs_con h1 h2 h (by omega) 1
  · rw [if_neg e] at hn
    simp only [if_neg e]; exact rs_pw h1 h2 h ha _ hn
theorem rs_comb (h1 : dir p1) (h2 : dir p2) (h : JT p1 p2 T J) (hn : T.2.2.2.2 < 64) {a b : Nat} (ha : a < T.2.2.2.2) (hb : b < T.2.2.2.2) (k : Nat) : Rs p1 p2 T J (px_comb k a b T).1 (px_comb k a b T).2 1 (jcomb k (J a) (J b)) := by
  have va := (h.2.2.2.2 a ha).1
  have vb := (h.2.2.2.2 b hb).1
  have v0 : T.2.2.2.1 0 = 0 := by rw [(h.2.2.2.2 0 (by have := h.1; omega)).1, h.2.2.1]; rfl
  have hdif : ∀ x, x < T.2.2.2.2 → Rs p1 p2 T J (tr_ix T) (tr_dif T 0 x) 1 (jsub j0 (J x)) := fun x hx =>
    rs_add h1 h2 h hn (by omega) (by have := h.1; omega) hx (by rw [v0, (h.2.2.2.2 x hx).1]; rfl) (fun z => absurd z (by omega)) (fun z => absurd z (by omega)) (fun _ => by rw [h.2.2.1]) (fun z => absurd z (by omega))
  unfold px_comb jcomb
  by_cases e2 : k = 2
  · simp only [if_pos e2]
    exact rs_add h1 h2 h hn (by omega) ha hb (by rw [va, vb]; rfl) (fun z => absurd z (by omega)) (fun _ => rfl) (fun z => absurd z (by omega)) (fun z => absurd z (by omega))
  by_cases e3 : k = 3
  · simp only [if_neg e2, if_pos e3]
    exact rs_add h1 h2 h hn (by omega) ha hb (by rw [va, vb]; rfl) (fun z => absurd z (by omega)) (fun z => absurd z (by omega)) (fun _ => rfl) (fun z => absurd z (by omega))
  by_cases e4 : k = 4
  · simp only [if_neg e2, if_neg e3, if_pos e4]
    exact rs_add h1 h2 h hn (by omega) ha hb (by rw [va, vb]; rfl) (fun z => absurd z (by omega)) (fun z => absurd z (by omega)) (fun z => absurd z (by omega)) (fun _ => rfl)
  by_cases e5 : k = 5
  · simp only [if_neg e2, if_neg e3, if_neg e4, if_pos e5]
    exact hdif a ha
  by_cases e7 : k = 7
  · simp only [if_neg e2, if_neg e3, if_neg e4, if_neg e5, if_pos e7]
    unfold tr_mag jmag
    rw [va]
    by_cases z : (J a).1 = 0
    · simp only [if_pos z]; rw [← h.2.2.1]; exact rs_self h (by have := h.1; omega)
    · by_cases z2 : (J a).1 < 0
      · simp only [if_neg z, if_pos z2]; exact hdif a ha
      · simp only [if_neg z, if_neg z2]; exact rs_self h ha
  by_cases e8 : k = 8
  · simp only [if_neg e2, if_neg e3, if_neg e4, if_neg e5, if_neg e7, if_pos e8]
    rw [va, vb]
    by_cases z : (J a).1 ≤ (J b).1
    · simp only [if_pos z]; exact rs_self h ha
    · simp only [if_neg z]; exact rs_self h hb
  by_cases e9 : k = 9
  · simp only [if_neg e2, if_neg e3, if_neg e4, if_neg e5, if_neg e7, if_neg e8, if_pos e9]
    rw [va, vb]
    by_cases z : (J b).1 ≤ (J a).1
    · simp only [if_pos z]; exact rs_self h ha
    · simp only [if_neg z]; exact rs_self h hb
  simp only [if_neg e2, if_neg e3, if_neg e4, if_neg e5, if_neg e7, if_neg e8, if_neg e9]
  rw [← h.2.2.1]; exact rs_self h (by have := h.1; omega)
end JT
