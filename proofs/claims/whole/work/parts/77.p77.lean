/-- a direction, 100 if there is none -/
def dq (p : Int32) : Nat := if 0 ≤ p then cn p else 100
theorem dq_none : dq (-1) = 100 := by unfold dq; rw [if_neg (by decide)]
theorem dq_nI {b : Nat} (h : b < 2) : dq (nI b) = b := by unfold dq; rw [if_pos (nI_pos' (by omega)), cn_nI (by omega)]
theorem dq_dir {p : Int32} (h : p = -1 ∨ ∃ b, b < 2 ∧ p = nI b) : dir (dq p) := by
  rcases h with h | ⟨b, hb, h⟩
  · rw [h, dq_none]; exact Or.inr rfl
  · rw [h, dq_nI hb]; exact Or.inl (by omega)
def sv (a b : Nat) (x y : Int64) (i : Nat) : Int64 := if i = 4 * b + 2 then 1 else if i = 4 * a + 1 then 1 else if i = 4 then y else if i = 0 then x else 0
theorem st0_at {ce : Nat → Int64} {x y : Int64} {p1 p2 : Int32} (h1 : p1 = -1 ∨ ∃ b, b < 2 ∧ p1 = nI b) (h2 : p2 = -1 ∨ ∃ b, b < 2 ∧ p2 = nI b) {i : Nat} (hi : i < 56) : st0 ce x y p1 p2 i = sv (dq p1) (dq p2) x y i := by
  have hbase : (vp_updL (vp_updL (lp ce (56 * 0) (fun _ => 0) 56) 0 x) 4 y) i = if i = 4 then y else if i = 0 then x else 0 := by
    unfold vp_updL lp; rw [if_pos (show 56 * 0 ≤ i ∧ i < 56 * 0 + 56 by omega)]
  have hp1 : (if 0 ≤ p1 then fun c => vp_updL c (4 * cn p1 + 1) 1 else fun c => c) (vp_updL (vp_updL (lp ce (56 * 0) (fun _ => 0) 56) 0 x) 4 y) i = if i = 4 * dq p1 + 1 then 1 else if i = 4 then y else if i = 0 then x else 0 := by
    rcases h1 with h1 | ⟨b, hb, h1⟩
    · rw [h1, if_neg (show ¬ (0 : Int32) ≤ -1 by decide), dq_none, if_neg (show ¬ i = 4 * 100 + 1 by omega)]; exact hbase
    · rw [h1, if_pos (show 0 ≤ nI b from nI_pos' (by omega)), dq_nI hb, cn_nI (by omega), ← hbase]; rfl
  unfold st0 sv
  rcases h2 with h2 | ⟨b, hb, h2⟩
  · rw [h2, if_neg (show ¬ (0 : Int32) ≤ -1 by decide), dq_none, if_neg (show ¬ i = 4 * 100 + 2 by omega)]; exact hp1
  · rw [h2, if_pos (show 0 ≤ nI b from nI_pos' (by omega)), dq_nI hb, cn_nI (by omega), ← hp1]; rfl
theorem k14 {k : Nat} (h : k < 14) : k = 0 ∨ k = 1 ∨ k = 2 ∨ k = 3 ∨ k = 4 ∨ k = 5 ∨ k = 6 ∨ k = 7 ∨ k = 8 ∨ k = 9 ∨ k = 10 ∨ k = 11 ∨ k = 12 ∨ k = 13 := by omega
theorem sv_r {a b : Nat} (ha : dir a) (hb : dir b) (x y : Int64) {k : Nat} (hk : k < 14) : (sv a b x y (56 * 0 + 4 * k), sv a b x y (56 * 0 + 4 * k + 1), sv a b x y (56 * 0 + 4 * k + 2), sv a b x y (56 * 0 + 4 * k + 3)) = dx_fr (jlf a b 1 x) (jlf a b 2 y) k := by
  unfold dir at ha hb
  rcases (show a = 0 ∨ a = 1 ∨ a = 100 by omega) with e | e | e <;> rcases (show b = 0 ∨ b = 1 ∨ b = 100 by omega) with e2 | e2 | e2 <;> subst e <;> subst e2 <;> rcases k14 hk with z | z | z | z | z | z | z | z | z | z | z | z | z | z <;> subst z <;> rfl
theorem st0_er {ce : Nat → Int64} {x y : Int64} {p1 p2 : Int32} (h1 : p1 = -1 ∨ ∃ b, b < 2 ∧ p1 = nI b) (h2 : p2 = -1 ∨ ∃ b, b < 2 ∧ p2 = nI b) :
    er (st0 ce x y p1 p2) 0 = dx_fr (jlf (dq p1) (dq p2) 1 x) (jlf (dq p1) (dq p2) 2 y) := by
  funext k
  by_cases hk : k < 14
  · rw [← sv_r (dq_dir h1) (dq_dir h2) x y hk]
    unfold er
    rw [if_pos hk]
    unfold rd
    rw [st0_at h1 h2 (by omega), st0_at h1 h2 (by omega), st0_at h1 h2 (by omega), st0_at h1 h2 (by omega)]
  · unfold er dx_fr
    rw [if_neg hk, if_neg (by omega), if_neg (by omega)]
section FIN
variable {X : Ex} {C : Cs} {Bs : Nat → Bd} {o : Nat → Prop} {ba : Nat → Option Nat} {sk sz L : Nat → Nat} {sa sb : Nat → Int32}
theorem ref_run (h : MH X C Bs o ba sk sa sb sz L) {f : Nat} (hf : f < 8) (of : o f) (x y : Int64) {p1 p2 : Int32} (h1 : p1 = -1 ∨ ∃ b, b < 2 ∧ p1 = nI b) (h2 : p2 = -1 ∨ ∃ b, b < 2 ∧ p2 = nI b) (fF fP : Nat → Nat) (fA : Nat → Int32) (lf : Nat → Nat) (ce pt : Nat → Int64) (nd : Nat → Prop) :
    ∃ u Mf, Gs X sk sa sb sz L u (0 + 1, va_up fF 0 f, va_up fP 0 0, upd fA 0 (-1), lf, st0 ce x y p1 p2, pt, nd) Mf ∧ Mf.1 = 0 ∧ rd Mf.2.2.2.2.2.1 0 = dx_ent ba Bs (dg X ba Bs 51).2 f (jlf (dq p1) (dq p2) 1 x) (jlf (dq p1) (dq p2) 2 y) := by
  obtain ⟨hB, e0, e40⟩ := h.1.2.2.1 f hf of
  have hA : At 0 f 0 (dx_fr (jlf (dq p1) (dq p2) 1 x) (jlf (dq p1) (dq p2) 2 y)) (0 + 1, va_up fF 0 f, va_up fP 0 0, upd fA 0 (-1), lf, st0 ce x y p1 p2, pt, nd) := ⟨rfl, va_up_self fF 0 f, va_up_self fP 0 0, st0_er h1 h2⟩
  obtain ⟨u, N, a1, a2, a3, a4, a5⟩ := go_fn h 40 f hf of e40 _ 0 _ (by omega) hA (pk_us (f := fA) (k := 0) (x := -1))
  obtain ⟨n1, n2, n3, n4⟩ := a2
  have hsz := (h.2.2.1.1 f hf of).1
  have hD := (bdI_inv hB.1).2.1
  have h12 := hB.1.1
  have hnp : ¬ N.2.2.1 0 < sz (N.2.1 0) + L (N.2.1 0) := by rw [n2, n3, hsz, h.2.2.2 f hf of]; omega
  refine ⟨u + 1, (0, N.2), gs_add a1 (gs_1 ⟨0, n1, by omega, by rw [n2]; exact hf, by rw [n3]; omega, fun z => absurd z hnp, fun _ => Or.inl rfl⟩ (fun P hP => ((hP 0 n1).2 hnp).1 rfl)), rfl, ?_⟩
  unfold dx_ent
  rw [if_neg (fun z => (h.2.1 f hf).mp z of), ← n4]
  rfl
/-- class and reference answer alike -/
theorem run_same (h : MH X C Bs o ba sk sa sb sz L) {f : Nat} (hf : f < 8) (of : o f) (x y : Int64) {p1 p2 : Int32} (h1 : p1 = -1 ∨ ∃ b, b < 2 ∧ p1 = nI b) (h2 : p2 = -1 ∨ ∃ b, b < 2 ∧ p2 = nI b) (fF fP : Nat → Nat) (fA : Nat → Int32) (lf : Nat → Nat) (ce pt : Nat → Int64) (nd : Nat → Prop) (S : Sx) (f1 f2 f3 f4 : Nat → Int64) :
    ∃ u Mf, Gs X sk sa sb sz L u (0 + 1, va_up fF 0 f, va_up fP 0 0, upd fA 0 (-1), lf, st0 ce x y p1 p2, pt, nd) Mf ∧ Mf.1 = 0 ∧
      (px_go X ba Bs f x y S).2.1.2.2.2.1 (px_go X ba Bs f x y S).1 = Mf.2.2.2.2.2.1 0 ∧
      (∀ b, b < 2 → p1 = nI b → tr_sl (px_go X ba Bs f x y S).2.1 b f1 (px_go X ba Bs f x y S).2.1.2.2.2.2 (px_go X ba Bs f x y S).1 = Mf.2.2.2.2.2.1 1 ∧
        tr_bk (px_go X ba Bs f x y S).2.1 (px_go X ba Bs f x y S).2.1.2.2.2.2 (vp_updL (gf_L f4 0 64) (px_go X ba Bs f x y S).1 1) (1 + b) = Mf.2.2.2.2.2.1 1 ∧
        ∀ c, c < 2 → p2 = nI c → tr_mx (px_go X ba Bs f x y S).2.1 (tr_sl (px_go X ba Bs f x y S).2.1 b f1 (px_go X ba Bs f x y S).2.1.2.2.2.2) (tr_sl (px_go X ba Bs f x y S).2.1 c f2 (px_go X ba Bs f x y S).2.1.2.2.2.2) f3 (px_go X ba Bs f x y S).2.1.2.2.2.2 (px_go X ba Bs f x y S).1 = Mf.2.2.2.2.2.1 3) := by
  obtain ⟨u, Mf, a1, a2, a3⟩ := ref_run h hf of x y h1 h2 fF fP fA lf ce pt nd
  obtain ⟨J, b1, b2, b3⟩ := go_sim (dq_dir h1) (dq_dir h2) h.1 h.2.1 (fun n f hf of => cb_T h.1 n f hf of) hf x y S
  rw [← b3] at a3
  have c0 : Mf.2.2.2.2.2.1 0 = (J (px_go X ba Bs f x y S).1).1 := congrArg Prod.fst a3
  have c1 : Mf.2.2.2.2.2.1 1 = (J (px_go X ba Bs f x y S).1).2.1 := congrArg (fun z => z.2.1) a3
  have c3 : Mf.2.2.2.2.2.1 3 = (J (px_go X ba Bs f x y S).1).2.2.2 := congrArg (fun z => z.2.2.2) a3
  refine ⟨u, Mf, a1, a2, by rw [c0]; exact (b1.2.2.2.2 _ b2).1, fun b hb hp1 => ?_⟩
  have e1 : dq p1 = b := by rw [hp1, dq_nI hb]
  rw [e1] at b1
  refine ⟨by rw [c1]; exact sl_1 b1 (by omega) f1 b2, by rw [c1]; exact bk_J b1 (by omega) f4 b2, fun c hc hp2 => ?_⟩
  have e2 : dq p2 = c := by rw [hp2, dq_nI hc]
  rw [e2] at b1
  rw [c3]
  exact mx_J b1 (fun i hi => sl_1 b1 (by omega) f1 hi) (fun i hi => sl_2 b1 (by omega) f2 hi) f3 _ (Nat.le_refl _) _ b2
theorem go_tr (hC : CI X C Bs o) (hba : ∀ f, f < 8 → (ba f = none ↔ ¬ o f)) {f : Nat} (hf : f < 8) (x y : Int64) (S : Sx) : tr_ok (px_go X ba Bs f x y S).2.1 := by
  obtain ⟨J, b1, b2, b3⟩ := go_sim (p1 := 100) (p2 := 100) (Or.inr rfl) (Or.inr rfl) hC hba (fun n f hf of => cb_T hC n f hf of) hf x y S
  exact jt_tr b1
end FIN
