/-- what a statement's operands must be -/
def st_in (X : Ex) (k : Nat) (a b : Int32) : Prop := (k = 0 → ∃ v, v < 6 ∧ a = nI v) ∧ (k = 1 → ∃ v, v < 2 ∧ a = nI v) ∧ (k ≤ 2 → ∃ e, e < X.2.2.2.2 ∧ b = nI e) ∧ (k = 4 → ∃ j, 1 ≤ j ∧ j ≤ 5 ∧ b = nI j)
theorem fn_add {X : Ex} {B : Bd} {k : Nat} {a b : Int32} (hB : fn_ok X B) (hs : B.2.2.2.2.2.2.1 < 12) (hk : k ≤ 5) (hr : bd_room B k) (hi : st_in X k a b) : fn_ok X (bd_add B k a b) := by
  refine ⟨bdI_add hB.1 hs hk hr, ?_, ?_⟩
  · obtain ⟨kd, tg, op, cl, on, tm, s, D⟩ := B
    obtain ⟨-, h2, h3⟩ := hB.2.1
    dsimp only at hs h2 h3
    refine ⟨hs, up_le5 h2 hk, fun i hi2 => ?_⟩
    show (if k = 3 ∨ k = 5 then va_up (va_up cl s 12) (on (D - 1)) s else va_up cl s 12) i ≤ 12 ∧ (va_up kd s k i = 0 → ∃ v, v < 6 ∧ upd tg s a i = nI v) ∧ (va_up kd s k i = 1 → ∃ v, v < 2 ∧ upd tg s a i = nI v) ∧ (va_up kd s k i ≤ 2 → ∃ e, e < X.2.2.2.2 ∧ upd op s b i = nI e) ∧ (va_up kd s k i = 4 → ∃ j, j ≤ 5 ∧ upd op s b i = nI j)
    have hi3 : i < s + 1 := hi2
    by_cases e : i = s
    · subst e
      rw [va_up_self, pk_us, pk_us]
      refine ⟨?_, hi.1, hi.2.1, hi.2.2.1, fun z => ?_⟩
      · split
        · unfold va_up; split
          · omega
          · rw [if_pos rfl]; omega
        · rw [va_up_self]; omega
      · obtain ⟨j, h1, h2, h3⟩ := hi.2.2.2 z
        exact ⟨j, h2, h3⟩
    · rw [va_up_ne _ _ e, pk_un e, pk_un e]
      have h4 := h3 i (by omega)
      refine ⟨?_, h4.2⟩
      split
      · unfold va_up; split
        · omega
        · first | exact h4.1 | (rw [if_neg e]; exact h4.1)
      · first | exact h4.1 | (rw [va_up_ne _ _ e]; exact h4.1)
  · obtain ⟨kd, tg, op, cl, on, tm, s, D⟩ := B
    have h5 := hB.2.2
    dsimp only at h5
    intro j hj h4
    show 1 ≤ cn (upd op s b j) ∧ cn (upd op s b j) ≤ 5
    have h4' : va_up kd s k j = 4 := h4
    have hj' : j < s + 1 := hj
    by_cases e : j = s
    · subst e
      rw [va_up_self] at h4'
      obtain ⟨i, h1, h2, h3⟩ := hi.2.2.2 h4'
      rw [pk_us, h3, cn_nI (by omega)]; exact ⟨h1, h2⟩
    · rw [va_up_ne _ _ e] at h4'
      rw [pk_un e]; exact h5 j (by omega) h4'
section APP
variable {C : Cs} {p : Nat → Nat} {kd : Nat → Nat} {op : Nat → Int32} {s k : Nat} {b : Int32}
theorem tk_app (hK : ∀ j, kd j ≤ 5) (hw : wfK kd s) {j : Nat} (hj : j ≤ s) : tk (va_up kd s k) (upd op s b) j = tk kd op j := by
  unfold tk
  rw [ps_loc j (fun i hi => va_up_ne kd k (show i ≠ s by omega))]
  refine tp_loc _ (fun q hq => ?_)
  have := ps_lt2 hK (fun i hi => hw i (by omega)) hq
  exact ⟨va_up_ne _ _ (by omega), by rw [pk_un (by omega)]⟩
theorem fV_app (hK : ∀ j, kd j ≤ 5) (hw : wfK kd s) : fV C p (va_up kd s k) (upd op s b) (s + 1) = fV C p kd op s + tk kd op s * ow C p (va_up kd s k) (upd op s b) s := by
  unfold fV
  rw [sm, tk_app hK hw (Nat.le_refl _), ← Nat.add_assoc]
  congr 2
  refine sm_e s (fun i hi => ?_)
  rw [tk_app hK hw (by omega)]
  unfold ow
  rw [va_up_ne _ _ (by omega), pk_un (by omega)]
theorem fN_app (hK : ∀ j, kd j ≤ 5) (hw : wfK kd s) (i : Nat) : fN C (va_up kd s k) (upd op s b) (s + 1) i = fN C kd op s i + tk kd op s * nm C (va_up kd s k) (upd op s b) i s := by
  unfold fN
  rw [sm, tk_app hK hw (Nat.le_refl _)]
  congr 1
  refine sm_e s (fun j hj => ?_)
  rw [tk_app hK hw (by omega)]
  unfold nm
  rw [va_up_ne _ _ (by omega), pk_un (by omega)]
end APP
/-- the price of a new statement, and how often it counts each function -/
def prc (C : Cs) (B : Bd) (k : Nat) (b : Int32) : Nat := tk B.1 B.2.2.1 B.2.2.2.2.2.2.1 * ow C C.2.2.2.1 (va_up B.1 B.2.2.2.2.2.2.1 k) (upd B.2.2.1 B.2.2.2.2.2.2.1 b) B.2.2.2.2.2.2.1
def adc (C : Cs) (B : Bd) (k : Nat) (b : Int32) (g : Nat) : Nat := sm (fun h => tk B.1 B.2.2.1 B.2.2.2.2.2.2.1 * nm C (va_up B.1 B.2.2.2.2.2.2.1 k) (upd B.2.2.1 B.2.2.2.2.2.2.1 b) h B.2.2.2.2.2.2.1 * C.2.2.1 (h * 8 + g)) 8
section PUT
variable {X : Ex} {C : Cs} {Bs : Nat → Bd} {o : Nat → Prop} {f k : Nat} {a b : Int32} {W2 T2 ad : Nat → Nat}
theorem put_T (hC : CI X C Bs o) (hf : f < 8) (of : o f) (hT : ∀ x, x < 8 → T2 x = C.2.2.2.1 x + C.2.2.1 (x * 8 + f) * prc C (Bs f) k b) (haf : adc C (Bs f) k b f = 0) {x : Nat} (hx : x < 8) (ox : o x) :
    T2 x = fV C T2 (va_up Bs f (bd_add (Bs f) k a b) x).1 (va_up Bs f (bd_add (Bs f) k a b) x).2.2.1 (va_up Bs f (bd_add (Bs f) k a b) x).2.2.2.2.2.2.1 := by
  have hT2 : ∀ x, x < 8 → T2 x = C.2.2.2.1 x + prc C (Bs f) k b * C.2.2.1 (x * 8 + f) := fun x hx => by rw [hT x hx, Nat.mul_comm]
  have hW := hC.2.2.2.2.1 x hx ox f hf
  by_cases e : x = f
  · subst e
    rw [va_up_self]
    have hB := (hC.2.2.1 x hx ox).1
    have hw := wf_kb hB.1.2.1 hB.1.2.2.1
    show _ = fV C T2 (va_up (Bs x).1 (Bs x).2.2.2.2.2.2.1 k) (upd (Bs x).2.2.1 (Bs x).2.2.2.2.2.2.1 b) ((Bs x).2.2.2.2.2.2.1 + 1)
    rw [fV_e hT2, fV_lin, fV_app hB.1.2.1 hw, hT2 x hx]
    have e1 : tk (Bs x).1 (Bs x).2.2.1 (Bs x).2.2.2.2.2.2.1 * ow C C.2.2.2.1 (va_up (Bs x).1 (Bs x).2.2.2.2.2.2.1 k) (upd (Bs x).2.2.1 (Bs x).2.2.2.2.2.2.1 b) (Bs x).2.2.2.2.2.2.1 = prc C (Bs x) k b := rfl
    rw [e1]
    have e2 : sm (fun h => fN C (va_up (Bs x).1 (Bs x).2.2.2.2.2.2.1 k) (upd (Bs x).2.2.1 (Bs x).2.2.2.2.2.2.1 b) ((Bs x).2.2.2.2.2.2.1 + 1) h * C.2.2.1 (h * 8 + x)) 8 = sm (fun h => fN C (Bs x).1 (Bs x).2.2.1 (Bs x).2.2.2.2.2.2.1 h * C.2.2.1 (h * 8 + x)) 8 + adc C (Bs x) k b x := by
      unfold adc
      rw [← sm_add]
      exact sm_e 8 (fun i _ => by rw [fN_app hB.1.2.1 hw, Nat.add_mul])
    rw [e2, haf, ← (hC.2.2.1 x hx ox).2.1]
    rw [if_pos rfl] at hW
    rw [hW, Nat.add_zero, Nat.mul_add, Nat.mul_one]
    omega
  · rw [va_up_ne _ _ e, fV_e hT2, fV_lin, ← (hC.2.2.1 x hx ox).2.1, hT2 x hx]
    rw [if_neg e, Nat.zero_add] at hW
    rw [← hW]
theorem put_W (hC : CI X C Bs o) (hf : f < 8) (of : o f) (hW2 : ∀ x g, x < 8 → g < 8 → W2 (x * 8 + g) = C.2.2.1 (x * 8 + g) + C.2.2.1 (x * 8 + f) * adc C (Bs f) k b g) (haf : adc C (Bs f) k b f = 0) {x g : Nat} (hx : x < 8) (hg : g < 8) (ox : o x) :
    W2 (x * 8 + g) = (if x = g then 1 else 0) + sm (fun h => fN C (va_up Bs f (bd_add (Bs f) k a b) x).1 (va_up Bs f (bd_add (Bs f) k a b) x).2.2.1 (va_up Bs f (bd_add (Bs f) k a b) x).2.2.2.2.2.2.1 h * W2 (h * 8 + g)) 8 := by
  have hW := hC.2.2.2.2.1 x hx ox f hf
  have hWg := hC.2.2.2.2.1 x hx ox g hg
  have key : ∀ N : Nat → Nat, sm (fun h => N h * W2 (h * 8 + g)) 8 = sm (fun h => N h * C.2.2.1 (h * 8 + g)) 8 + adc C (Bs f) k b g * sm (fun h => N h * C.2.2.1 (h * 8 + f)) 8 := fun N => by
    rw [← sm_mul, ← sm_add]
    exact sm_e 8 (fun i hi => by rw [hW2 i g hi hg, Nat.mul_add, Nat.mul_comm (C.2.2.1 (i * 8 + f)), Nat.mul_left_comm])
  by_cases e : x = f
  · subst e
    rw [va_up_self]
    have hB := (hC.2.2.1 x hx ox).1
    have hw := wf_kb hB.1.2.1 hB.1.2.2.1
    show _ = _ + sm (fun h => fN C (va_up (Bs x).1 (Bs x).2.2.2.2.2.2.1 k) (upd (Bs x).2.2.1 (Bs x).2.2.2.2.2.2.1 b) ((Bs x).2.2.2.2.2.2.1 + 1) h * W2 (h * 8 + g)) 8
    rw [key]
    have e2 : ∀ g, sm (fun h => fN C (va_up (Bs x).1 (Bs x).2.2.2.2.2.2.1 k) (upd (Bs x).2.2.1 (Bs x).2.2.2.2.2.2.1 b) ((Bs x).2.2.2.2.2.2.1 + 1) h * C.2.2.1 (h * 8 + g)) 8 = sm (fun h => fN C (Bs x).1 (Bs x).2.2.1 (Bs x).2.2.2.2.2.2.1 h * C.2.2.1 (h * 8 + g)) 8 + adc C (Bs x) k b g := fun g => by
      unfold adc
      rw [← sm_add]
      exact sm_e 8 (fun i _ => by rw [fN_app hB.1.2.1 hw, Nat.add_mul])
    rw [e2, e2, haf, hW2 x g hx hg, hWg]
    rw [if_pos rfl] at hW
    rw [hW, Nat.add_zero, Nat.add_mul, Nat.one_mul, Nat.mul_comm (adc C (Bs x) k b g)]
    omega
  · rw [va_up_ne _ _ e, key, hW2 x g hx hg, hWg]
    rw [if_neg e, Nat.zero_add] at hW
    rw [← hW, Nat.mul_comm (adc C (Bs f) k b g)]
    omega
/-- a statement that is let in -/
theorem put_CI (hC : CI X C Bs o) (hf : f < 8) (of : o f) (hs : (Bs f).2.2.2.2.2.2.1 < 12) (hk : k ≤ 5) (hr : bd_room (Bs f) k) (hi : st_in X k a b)
    (hT : ∀ x, x < 8 → T2 x = C.2.2.2.1 x + C.2.2.1 (x * 8 + f) * prc C (Bs f) k b) (hW2 : ∀ x g, x < 8 → g < 8 → W2 (x * 8 + g) = C.2.2.1 (x * 8 + g) + C.2.2.1 (x * 8 + f) * adc C (Bs f) k b g)
    (haf : adc C (Bs f) k b f = 0) (h40 : ∀ x, x < 8 → C.2.2.2.1 x + C.2.2.1 (x * 8 + f) * prc C (Bs f) k b ≤ 40) : CI X (C.1, C.2.1, W2, T2, ad) (va_up Bs f (bd_add (Bs f) k a b)) o := by
  obtain ⟨hX, hE, h1, h2, h3, h4⟩ := id hC
  refine ⟨hX, hE, fun x hx ox => ⟨?_, put_T hC hf of hT haf hx ox, ?_⟩, fun x hx nx => ⟨?_, fun g hg => ?_⟩, fun x hx ox g hg => put_W hC hf of hW2 haf hx hg ox, h4⟩
  · by_cases e : x = f
    · subst e; rw [va_up_self]; exact fn_add (h1 x hx ox).1 hs hk hr hi
    · rw [va_up_ne _ _ e]; exact (h1 x hx ox).1
  · show T2 x ≤ 40
    rw [hT x hx]; exact h40 x hx
  · show T2 x = 0
    rw [hT x hx, (h2 x hx nx).1, (h2 x hx nx).2 f hf, Nat.zero_mul]
  · show W2 (x * 8 + g) = 0
    rw [hW2 x g hx hg, (h2 x hx nx).2 g hg, (h2 x hx nx).2 f hf, Nat.zero_mul]
/-- a circle of calls is found -/
theorem round_ad (hC : CI X C Bs o) (hf : f < 8) (of : o f) (hs : (Bs f).2.2.2.2.2.2.1 < 12) (hk : k ≤ 5) (hr : bd_room (Bs f) k) (hi : st_in X k a b) {E : Nat → Nat → Prop}
    (hEd : ∀ x z, x < 8 → o x → (E x z ↔ z < 8 ∧ 0 < fN C (va_up Bs f (bd_add (Bs f) k a b) x).1 (va_up Bs f (bd_add (Bs f) k a b) x).2.2.1 (va_up Bs f (bd_add (Bs f) k a b) x).2.2.2.2.2.2.1 z))
    {Q : Nat → Prop} (hQ : RD E f 8 Q) : Q f ↔ 0 < adc C (Bs f) k b f := by
  obtain ⟨hX, hE, h1, h2, h3, h4⟩ := id hC
  have hB := (h1 f hf of).1
  have hw := wf_kb hB.1.2.1 hB.1.2.2.1
  have hWff : 0 < C.2.2.1 (f * 8 + f) := by rw [h3 f hf of f hf, if_pos rfl]; omega
  have hold : ∀ x z, x < 8 → z < 8 → o x → 0 < fN C (Bs x).1 (Bs x).2.2.1 (Bs x).2.2.2.2.2.2.1 z → E x z := fun x z hx hz ox hp => by
    refine (hEd x z hx ox).mpr ⟨hz, ?_⟩
    by_cases e : x = f
    · subst e; rw [va_up_self]
      show 0 < fN C (va_up (Bs x).1 (Bs x).2.2.2.2.2.2.1 k) (upd (Bs x).2.2.1 (Bs x).2.2.2.2.2.2.1 b) ((Bs x).2.2.2.2.2.2.1 + 1) z
      rw [fN_app hB.1.2.1 hw]; omega
    · rw [va_up_ne _ _ e]; exact hp
  have hnew : ∀ z, E f z → z < 8 ∧ (0 < fN C (Bs f).1 (Bs f).2.2.1 (Bs f).2.2.2.2.2.2.1 z ∨ 0 < tk (Bs f).1 (Bs f).2.2.1 (Bs f).2.2.2.2.2.2.1 * nm C (va_up (Bs f).1 (Bs f).2.2.2.2.2.2.1 k) (upd (Bs f).2.2.1 (Bs f).2.2.2.2.2.2.1 b) z (Bs f).2.2.2.2.2.2.1) := fun z hz => by
    obtain ⟨h5, h6⟩ := (hEd f z hf of).mp hz
    rw [va_up_self] at h6
    have h7 : 0 < fN C (va_up (Bs f).1 (Bs f).2.2.2.2.2.2.1 k) (upd (Bs f).2.2.1 (Bs f).2.2.2.2.2.2.1 b) ((Bs f).2.2.2.2.2.2.1 + 1) z := h6
    rw [fN_app hB.1.2.1 hw] at h7
    exact ⟨h5, by omega⟩
  constructor
  · intro hq
    obtain ⟨m, hm⟩ := hQ.1 f ⟨hq, hf⟩
    refine Nat.pos_of_ne_zero (fun had => ?_)
    have hz : ∀ h, h < 8 → 0 < tk (Bs f).1 (Bs f).2.2.1 (Bs f).2.2.2.2.2.2.1 * nm C (va_up (Bs f).1 (Bs f).2.2.2.2.2.2.1 k) (upd (Bs f).2.2.1 (Bs f).2.2.2.2.2.2.1 b) h (Bs f).2.2.2.2.2.2.1 → C.2.2.1 (h * 8 + f) = 0 := fun h h8 hp => by
      have h5 := sm_mem (g := fun h => tk (Bs f).1 (Bs f).2.2.1 (Bs f).2.2.2.2.2.2.1 * nm C (va_up (Bs f).1 (Bs f).2.2.2.2.2.2.1 k) (upd (Bs f).2.2.1 (Bs f).2.2.2.2.2.2.1 b) h (Bs f).2.2.2.2.2.2.1 * C.2.2.1 (h * 8 + f)) 8 h h8
      unfold adc at had
      rw [had] at h5
      rcases Nat.eq_zero_or_pos (C.2.2.1 (h * 8 + f)) with y | y
      · exact y
      · have := Nat.mul_pos hp y
        have h6 : tk (Bs f).1 (Bs f).2.2.1 (Bs f).2.2.2.2.2.2.1 * nm C (va_up (Bs f).1 (Bs f).2.2.2.2.2.2.1 k) (upd (Bs f).2.2.1 (Bs f).2.2.2.2.2.2.1 b) h (Bs f).2.2.2.2.2.2.1 * C.2.2.1 (h * 8 + f) ≤ 0 := h5
        omega
    have key : ∀ m z, pth E (m + 1) f z → z < 8 ∧ (o z) ∧ C.2.2.1 (z * 8 + f) = 0 := fun m => by
      induction m with
      | zero =>
        intro z ⟨y, h5, h6⟩
        have h5' : f = y := h5
        subst h5'
        obtain ⟨h7, h8⟩ := hnew z h6
        rcases h8 with h8 | h8
        · obtain ⟨h9, h10⟩ := fN_own hC hf h7 of h8
          refine ⟨h7, h9, ?_⟩
          rcases Nat.eq_zero_or_pos (C.2.2.1 (z * 8 + f)) with y | y
          · exact y
          · obtain ⟨m, _, h11⟩ := W_pth hC hold hf _ z h7 (Nat.le_refl _) y
            omega
        · refine ⟨h7, ?_, hz z h7 h8⟩
          unfold nm at h8
          rw [va_up_self, pk_us] at h8
          by_cases h2k : k ≤ 2
          · rw [if_pos h2k] at h8
            obtain ⟨e, he, hbe⟩ := hi.2.2.1 h2k
            have := hX.1
            rw [hbe, cn_nI (by omega)] at h8
            exact h4 e he z h7 (Nat.pos_of_ne_zero (fun y => by rw [y, Nat.mul_zero] at h8; omega))
          · rw [if_neg h2k, Nat.mul_zero] at h8; omega
      | succ m ih =>
        intro z ⟨y, h5, h6⟩
        obtain ⟨h7, h8, h9⟩ := ih y h5
        have hyf : y ≠ f := fun e => by rw [e] at h9; omega
        obtain ⟨h10, h11⟩ := (hEd y z h7 h8).mp h6
        rw [va_up_ne _ _ hyf] at h11
        refine ⟨h10, (fN_own hC h7 h10 h8 h11).1, ?_⟩
        rw [h3 y h7 h8 f hf, if_neg hyf, Nat.zero_add] at h9
        have h12 := sm_mem (g := fun h => fN C (Bs y).1 (Bs y).2.2.1 (Bs y).2.2.2.2.2.2.1 h * C.2.2.1 (h * 8 + f)) 8 z h10
        rw [h9] at h12
        rcases Nat.eq_zero_or_pos (C.2.2.1 (z * 8 + f)) with w | w
        · exact w
        · have := Nat.mul_pos h11 w
          have h13 : fN C (Bs y).1 (Bs y).2.2.1 (Bs y).2.2.2.2.2.2.1 z * C.2.2.1 (z * 8 + f) ≤ 0 := h12
          omega
    have := (key m f hm).2.2
    omega
  · intro hp
    obtain ⟨h, h8, hh⟩ := sm_pos _ hp
    have q1 : 0 < tk (Bs f).1 (Bs f).2.2.1 (Bs f).2.2.2.2.2.2.1 * nm C (va_up (Bs f).1 (Bs f).2.2.2.2.2.2.1 k) (upd (Bs f).2.2.1 (Bs f).2.2.2.2.2.2.1 b) h (Bs f).2.2.2.2.2.2.1 := Nat.pos_of_ne_zero (fun y => by rw [y, Nat.zero_mul] at hh; omega)
    have q2 : 0 < C.2.2.1 (h * 8 + f) := Nat.pos_of_ne_zero (fun y => by rw [y, Nat.mul_zero] at hh; omega)
    obtain ⟨m, h5, h6⟩ := W_pth hC hold hf _ h h8 (Nat.le_refl _) q2
    have h7 : C.2.2.2.1 h ≤ 40 := by
      by_cases oh : o h
      · exact (h1 h h8 oh).2.2
      · rw [(h2 h h8 oh).1]; omega
    have h9 : E f h := by
      refine (hEd f h hf of).mpr ⟨h8, ?_⟩
      rw [va_up_self]
      show 0 < fN C (va_up (Bs f).1 (Bs f).2.2.2.2.2.2.1 k) (upd (Bs f).2.2.1 (Bs f).2.2.2.2.2.2.1 b) ((Bs f).2.2.2.2.2.2.1 + 1) h
      rw [fN_app hB.1.2.1 hw]; omega
    exact (hQ.2 m f (by omega) ((pth_front m f f).mpr ⟨h, h9, h5⟩)).1
end PUT
