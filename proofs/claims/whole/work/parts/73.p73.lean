section FUEL
variable {X : Ex} {C : Cs} {Bs : Nat → Bd} {o : Nat → Prop} {ba : Nat → Option Nat}
theorem ow_fV (hC : CI X C Bs o) {f : Nat} (hf : f < 8) (of : o f) : 1 + sm (fun k => ow C C.2.2.2.1 (Bs f).1 (Bs f).2.2.1 k) (Bs f).2.2.2.2.2.2.1 ≤ C.2.2.2.1 f := by
  obtain ⟨hB, h1, h2⟩ := hC.2.2.1 f hf of
  rw [h1]; unfold fV
  have := sm_le (g := fun k => ow C C.2.2.2.1 (Bs f).1 (Bs f).2.2.1 k) (h := fun k => tk (Bs f).1 (Bs f).2.2.1 k * ow C C.2.2.2.1 (Bs f).1 (Bs f).2.2.1 k) (Bs f).2.2.2.2.2.2.1 (fun i hi => Nat.le_mul_of_pos_left _ (fn_tk hB (by omega)))
  omega
theorem r1_e {re re2 : Nat → Ev → Jt} {e : Nat} {r : Ev} (h : 2 ≤ cn (X.1 e) → re (cn (X.2.1 e)) r = re2 (cn (X.2.1 e)) r) : dx_r1 X re e r = dx_r1 X re2 e r := by
  unfold dx_r1; split
  · rename_i z; exact h z
  · rfl
theorem r2_e {re re2 : Nat → Ev → Jt} {e : Nat} {r : Ev} (h : px_R (cn (X.1 e)) → re (cn (X.2.2.1 e)) r = re2 (cn (X.2.2.1 e)) r) : dx_r2 X re e r = dx_r2 X re2 e r := by
  unfold dx_r2; split
  · rename_i z; exact h z
  · rfl
theorem rep_e {F G : Ev → Ev} (h : ∀ r, F r = G r) (n : Nat) (r : Ev) : dx_rep F n r = dx_rep G n r := by
  induction n with
  | zero => rfl
  | succ n ih => rw [dx_rep, dx_rep, ih, h]
theorem bl_e {rs rs2 : Bd → Nat → Ev → Nat × Ev} {B : Bd} : ∀ n a x r, (∀ y r, a ≤ y → y < a + n → rs B y r = rs2 B y r) → dx_bl rs B n a x r = dx_bl rs2 B n a x r
  | 0, a, x, r, _ => rfl
  | n + 1, a, x, r, h => by
    rw [dx_bl, dx_bl, h a r (by omega) (by omega)]
    rw [bl_e n (a + 1) _ _ (fun y r h1 h2 => h y r (by omega) (by omega)), bl_e n (a + 1) x r (fun y r h1 h2 => h y r (by omega) (by omega))]
theorem fuel (hC : CI X C Bs o) : ∀ n, n ≤ 60 → (∀ e r, e < X.2.2.2.2 → kv C C.2.2.2.1 e ≤ n → (dg X ba Bs (n + 1)).1 e r = (dg X ba Bs n).1 e r) ∧
    (∀ f i j r, f < 8 → o f → j ≤ (Bs f).2.2.2.2.2.2.1 → 1 + sm (fun k => ow C C.2.2.2.1 (Bs f).1 (Bs f).2.2.1 k) (Bs f).2.2.2.2.2.2.1 ≤ n + sm (fun k => ow C C.2.2.2.1 (Bs f).1 (Bs f).2.2.1 k) i → (dg X ba Bs (n + 1)).2 (Bs f) i j r = (dg X ba Bs n).2 (Bs f) i j r)
  | 0, _ => by
    refine ⟨fun e r he h => ?_, fun f i j r hf of hj h => ?_⟩
    · have := kv_pos hC.2.1 (p := C.2.2.2.1) he; omega
    · by_cases hij : i ≤ j
      · have := sm_mono (g := fun k => ow C C.2.2.2.1 (Bs f).1 (Bs f).2.2.1 k) (show i ≤ (Bs f).2.2.2.2.2.2.1 by omega)
        omega
      · show dx_bl _ (Bs f) (j - i) i i r = r
        rw [show j - i = 0 by omega]; rfl
  | n + 1, hn => by
    obtain ⟨ih1, ih2⟩ := fuel hC n (by omega)
    obtain ⟨hX, hE, hO, hN, hW, hnm⟩ := id hC
    refine ⟨fun e r he h => ?_, fun f i j r hf of hj h => ?_⟩
    · have hkw := kv_lt hX hE (p := C.2.2.2.1) he (by omega)
      have hf := fac_pos (cn (X.1 e)) (cn (X.2.2.1 e))
      have hge : onL X e (kv C C.2.2.2.1) + onR X e (kv C C.2.2.2.1) ≤ fac (cn (X.1 e)) (cn (X.2.2.1 e)) * (onL X e (kv C C.2.2.2.1) + onR X e (kv C C.2.2.2.1)) := Nat.le_mul_of_pos_left _ hf
      have hk1 : 1 + (onL X e (kv C C.2.2.2.1) + onR X e (kv C C.2.2.2.1)) + (if cn (X.1 e) = 11 then C.2.2.2.1 (cn (X.2.2.2.1 e)) else 0) ≤ n + 1 := by
        rw [hkw] at h; unfold kw at h; omega
      have e1 : dx_r1 X (dg X ba Bs (n + 1)).1 e r = dx_r1 X (dg X ba Bs n).1 e r := r1_e (fun z => by
        have := ex_L hX he z
        have hl : onL X e (kv C C.2.2.2.1) = kv C C.2.2.2.1 (cn (X.2.1 e)) := if_pos z
        exact ih1 _ r (by omega) (by omega))
      have e2 : dx_r2 X (dg X ba Bs (n + 1)).1 e r = dx_r2 X (dg X ba Bs n).1 e r := r2_e (fun z => by
        have := ex_R hX he z
        have hl : onR X e (kv C C.2.2.2.1) = kv C C.2.2.2.1 (cn (X.2.2.1 e)) := if_pos z
        exact ih1 _ r (by omega) (by omega))
      show dx_ev X (dg X ba Bs (n + 1)).1 (dx_ent ba Bs (dg X ba Bs (n + 1)).2) e r = dx_ev X (dg X ba Bs n).1 (dx_ent ba Bs (dg X ba Bs n).2) e r
      unfold dx_ev
      rw [e1, e2]
      by_cases h11 : cn (X.1 e) = 11
      · have e3 : ∀ x y, dx_ent ba Bs (dg X ba Bs (n + 1)).2 (cn (X.2.2.2.1 e)) x y = dx_ent ba Bs (dg X ba Bs n).2 (cn (X.2.2.2.1 e)) x y := fun x y => by
          unfold dx_ent
          split
          · rfl
          · obtain ⟨k, hk, hke, -, -, -, -, -, hv11⟩ := hX.2 e he
            obtain ⟨c, hc8, hec⟩ := hv11 (by rw [hke, cn_nI (by omega)] at h11; exact h11)
            have hcc : cn (X.2.2.2.1 e) = c := by rw [hec, cn_nI (by omega)]
            have hnc : 0 < C.2.1 (e * 8 + c) := by rw [(hE e he).2 c hc8, min_pos, if_pos ⟨h11, hcc.symm⟩]; omega
            have oc := hnm e he c hc8 hnc
            have h40 := ow_fV hC hc8 oc
            rw [if_pos h11, hcc] at hk1
            rw [hcc]
            rw [ih2 c 0 _ _ hc8 oc (Nat.le_refl _) (by rw [show sm (fun k => ow C C.2.2.2.1 (Bs c).1 (Bs c).2.2.1 k) 0 = 0 from rfl]; omega)]
        rw [e3]
      · by_cases k0 : cn (X.1 e) = 0
        · rw [if_pos k0, if_pos k0]
        · by_cases k1 : cn (X.1 e) = 1
          · rw [if_neg k0, if_neg k0, if_pos k1, if_pos k1]
          · by_cases k6 : cn (X.1 e) = 6
            · rw [if_neg k0, if_neg k0, if_neg k1, if_neg k1, if_pos k6, if_pos k6]
            · by_cases k10 : cn (X.1 e) = 10
              · rw [if_neg k0, if_neg k0, if_neg k1, if_neg k1, if_neg k6, if_neg k6, if_pos k10, if_pos k10]
              · rw [if_neg k0, if_neg k0, if_neg k1, if_neg k1, if_neg k6, if_neg k6, if_neg k10, if_neg k10, if_neg h11, if_neg h11]
    · obtain ⟨hB, -, -⟩ := hO f hf of
      show dx_bl (dx_st (dg X ba Bs (n + 1)).1 (dg X ba Bs (n + 1)).2) (Bs f) (j - i) i i r = dx_bl (dx_st (dg X ba Bs n).1 (dg X ba Bs n).2) (Bs f) (j - i) i i r
      refine bl_e _ _ _ _ (fun x r hx1 hx2 => ?_)
      have hxs : x < (Bs f).2.2.2.2.2.2.1 := by omega
      have m1 := sm_mono (g := fun k => ow C C.2.2.2.1 (Bs f).1 (Bs f).2.2.1 k) hx1
      have m2 : sm (fun k => ow C C.2.2.2.1 (Bs f).1 (Bs f).2.2.1 k) (x + 1) = sm (fun k => ow C C.2.2.2.1 (Bs f).1 (Bs f).2.2.1 k) x + ow C C.2.2.2.1 (Bs f).1 (Bs f).2.2.1 x := rfl
      have m3 := sm_mono (g := fun k => ow C C.2.2.2.1 (Bs f).1 (Bs f).2.2.1 k) (show x + 1 ≤ (Bs f).2.2.2.2.2.2.1 by omega)
      have hev : (Bs f).1 x ≤ 2 → ∀ r, (dg X ba Bs (n + 1)).1 (cn ((Bs f).2.2.1 x)) r = (dg X ba Bs n).1 (cn ((Bs f).2.2.1 x)) r := fun h2 r => by
        have how : ow C C.2.2.2.1 (Bs f).1 (Bs f).2.2.1 x = 1 + kv C C.2.2.2.1 (cn ((Bs f).2.2.1 x)) := if_pos h2
        exact ih1 _ r (fn_op hX hB hxs h2) (by omega)
      have hin : 1 ≤ ow C C.2.2.2.1 (Bs f).1 (Bs f).2.2.1 x → ∀ i2 j2 r, x + 1 ≤ i2 → j2 ≤ (Bs f).2.2.2.2.2.2.1 → (dg X ba Bs (n + 1)).2 (Bs f) i2 j2 r = (dg X ba Bs n).2 (Bs f) i2 j2 r := fun how i2 j2 r hi2 hj2 => by
        have m4 := sm_mono (g := fun k => ow C C.2.2.2.1 (Bs f).1 (Bs f).2.2.1 k) hi2
        exact ih2 f i2 j2 r hf of hj2 (by omega)
      unfold dx_st
      by_cases k0 : (Bs f).1 x = 0
      · rw [if_pos k0, if_pos k0, hev (by omega)]
      by_cases k1 : (Bs f).1 x = 1
      · rw [if_neg k0, if_neg k0, if_pos k1, if_pos k1, hev (by omega)]
      by_cases k2 : (Bs f).1 x = 2
      · rw [if_neg k0, if_neg k0, if_neg k1, if_neg k1, if_pos k2, if_pos k2]
        have how : 1 ≤ ow C C.2.2.2.1 (Bs f).1 (Bs f).2.2.1 x := by unfold ow; rw [if_pos (by omega)]; omega
        have hcl := (bd_Cl hB.1 (N := (Bs f).2.2.2.2.2.2.1 + 12) (Nat.le_refl _) hxs (by omega) (by omega))
        unfold dx_if
        rw [hev (by omega), hin how (x + 1) (bd_close (Bs f) x) r (by omega) (bd_close_le _ _), hin how (bd_close (Bs f) x + 1) (bd_end (Bs f) x) r (by rw [hcl.1]; have := hcl.2.2.1; omega) (bd_end_le _ _)]
      by_cases k4 : (Bs f).1 x = 4
      · rw [if_neg k0, if_neg k0, if_neg k1, if_neg k1, if_neg k2, if_neg k2, if_pos k4, if_pos k4]
        have how : 1 ≤ ow C C.2.2.2.1 (Bs f).1 (Bs f).2.2.1 x := by unfold ow; rw [if_neg (by omega), if_pos k4]; omega
        rw [rep_e (fun r => hin how (x + 1) (bd_close (Bs f) x) r (by omega) (bd_close_le _ _))]
      · rw [if_neg k0, if_neg k0, if_neg k1, if_neg k1, if_neg k2, if_neg k2, if_neg k4, if_neg k4]
/-- what the runs come to, without a depth -/
theorem V_e (hC : CI X C Bs o) {e : Nat} {r : Ev} (he : e < X.2.2.2.2) (h : kv C C.2.2.2.1 e ≤ 51) : (dg X ba Bs 51).1 e r = dx_ev X (dg X ba Bs 51).1 (dx_ent ba Bs (dg X ba Bs 51).2) e r :=
  ((fuel hC 51 (by omega)).1 e r he h).symm
theorem V_b (hC : CI X C Bs o) {f i j : Nat} {r : Ev} (hf : f < 8) (of : o f) (hj : j ≤ (Bs f).2.2.2.2.2.2.1) : (dg X ba Bs 51).2 (Bs f) i j r = dx_bl (dx_st (dg X ba Bs 51).1 (dg X ba Bs 51).2) (Bs f) (j - i) i i r := by
  have h1 := ow_fV hC hf of
  have h2 := (hC.2.2.1 f hf of).2.2
  exact ((fuel hC 51 (by omega)).2 f i j r hf of hj (by omega)).symm
end FUEL
