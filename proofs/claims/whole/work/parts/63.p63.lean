/-- sums -/
def sm (g : Nat → Nat) : Nat → Nat
  | 0 => 0
  | n + 1 => sm g n + g n
theorem sm_e {g h : Nat → Nat} : ∀ n, (∀ i, i < n → g i = h i) → sm g n = sm h n
  | 0, _ => rfl
  | n + 1, z => by rw [sm, sm, sm_e n (fun i hi => z i (by omega)), z n (by omega)]
theorem sm_add {g h : Nat → Nat} : ∀ n, sm (fun i => g i + h i) n = sm g n + sm h n
  | 0 => rfl
  | n + 1 => by rw [sm, sm, sm, sm_add n]; omega
theorem sm_mul {g : Nat → Nat} {c : Nat} : ∀ n, sm (fun i => c * g i) n = c * sm g n
  | 0 => rfl
  | n + 1 => by rw [sm, sm, sm_mul n, Nat.mul_add]
theorem sm_0 {g : Nat → Nat} : ∀ n, (∀ i, i < n → g i = 0) → sm g n = 0
  | 0, _ => rfl
  | n + 1, z => by rw [sm, sm_0 n (fun i hi => z i (by omega)), z n (by omega)]
theorem sm_one {g : Nat → Nat} {c : Nat} : ∀ n, c < n → (∀ i, i < n → i ≠ c → g i = 0) → sm g n = g c
  | 0, h, _ => absurd h (by omega)
  | n + 1, h, z => by
    rw [sm]
    by_cases e : c = n
    · subst e; rw [sm_0 c (fun i hi => z i (by omega) (by omega))]; omega
    · rw [sm_one n (by omega) (fun i hi hc => z i (by omega) hc), z n (by omega) (fun y => e y.symm)]; rfl
theorem sm_le {g h : Nat → Nat} : ∀ n, (∀ i, i < n → g i ≤ h i) → sm g n ≤ sm h n
  | 0, _ => Nat.le_refl _
  | n + 1, z => by rw [sm, sm]; have := sm_le n (fun i hi => z i (by omega)); have := z n (by omega); omega
theorem sm_mem {g : Nat → Nat} : ∀ n i, i < n → g i ≤ sm g n
  | 0, i, h => absurd h (by omega)
  | n + 1, i, h => by
    rw [sm]
    by_cases e : i = n
    · subst e; omega
    · have := sm_mem (g := g) n i (by omega); omega
theorem sm_pos {g : Nat → Nat} : ∀ n, 0 < sm g n → ∃ i, i < n ∧ 0 < g i
  | 0, h => absurd h (by rw [sm]; omega)
  | n + 1, h => by
    rw [sm] at h
    by_cases e : 0 < g n
    · exact ⟨n, by omega, e⟩
    · obtain ⟨i, hi, h2⟩ := sm_pos (g := g) n (by omega)
      exact ⟨i, by omega, h2⟩
theorem sm_mono {g : Nat → Nat} {n m : Nat} (h : n ≤ m) : sm g n ≤ sm g m := by
  induction m with
  | zero => rw [Nat.le_zero.mp h]; exact Nat.le_refl _
  | succ m ih =>
    by_cases e : n = m + 1
    · rw [e]; exact Nat.le_refl _
    · rw [sm]; have := ih (by omega); omega
/-- sums of sums -/
theorem sm_swap {g : Nat → Nat → Nat} (m : Nat) : ∀ n, sm (fun i => sm (fun j => g i j) m) n = sm (fun j => sm (fun i => g i j) n) m
  | 0 => (sm_0 m (fun _ _ => rfl)).symm
  | n + 1 => by
    rw [sm, sm_swap m n, ← sm_add]
    rfl
theorem cap_a {x y N p : Nat} (h : min 1000 x = min 1000 y) : min 1000 (x + min 1000 N * p) = min 1000 (y + N * p) := by
  cases p with
  | zero => rw [Nat.mul_zero, Nat.mul_zero]; exact h
  | succ p =>
    by_cases e : N ≤ 1000
    · rw [Nat.min_eq_right e]; omega
    · rw [show min 1000 N = 1000 by omega]
      have h1 : 1000 * 1 ≤ 1000 * (p + 1) := Nat.mul_le_mul_left _ (by omega)
      have h2 : N * 1 ≤ N * (p + 1) := Nat.mul_le_mul_left _ (by omega)
      omega
theorem cap_s {P : Nat} {N p : Nat → Nat} : ∀ n, min 1000 (min 1000 P + sm (fun i => min 1000 (N i) * p i) n) = min 1000 (P + sm (fun i => N i * p i) n)
  | 0 => by rw [sm, sm]; omega
  | n + 1 => by rw [sm, sm, ← Nat.add_assoc, ← Nat.add_assoc]; exact cap_a (cap_s n)
theorem cap_m {x f : Nat} (hf : 1 ≤ f) (c : Nat) : min 1000 (c + f * min 1000 x) = min 1000 (c + f * x) := by
  by_cases e : x ≤ 1000
  · rw [Nat.min_eq_right e]
  · rw [show min 1000 x = 1000 by omega]
    have h1 : 1 * 1000 ≤ f * 1000 := Nat.mul_le_mul_right _ hf
    have h2 : 1 * x ≤ f * x := Nat.mul_le_mul_right _ hf
    omega
/-- what an expression's kind does with the cost of its parts -/
def fac (k b : Nat) : Nat := if k = 6 then max 1 b else if 7 ≤ k ∧ k ≤ 9 then 2 else 1
theorem fac_pos (k b : Nat) : 1 ≤ fac k b := by unfold fac; split; omega; split <;> omega
noncomputable def onL (X : Ex) (e : Nat) (v : Nat → Nat) : Nat := if 2 ≤ cn (X.1 e) then v (cn (X.2.1 e)) else 0
noncomputable def onR (X : Ex) (e : Nat) (v : Nat → Nat) : Nat := @ite _ (px_R (cn (X.1 e))) (Classical.propDecidable _) (v (cn (X.2.2.1 e))) 0
/-- the costs of expressions are worked out from those of their parts -/
def cEq (X : Ex) (C : Cs) : Prop := ∀ e, e < X.2.2.2.2 → C.1 e = min 1000 (1 + fac (cn (X.1 e)) (cn (X.2.2.1 e)) * (onL X e C.1 + onR X e C.1)) ∧
  ∀ i, i < 8 → C.2.1 (e * 8 + i) = min 1000 (fac (cn (X.1 e)) (cn (X.2.2.1 e)) * (onL X e (fun a => C.2.1 (a * 8 + i)) + onR X e (fun a => C.2.1 (a * 8 + i))) + if cn (X.1 e) = 11 ∧ i = cn (X.2.2.2.1 e) then 1 else 0)
def kv (C : Cs) (p : Nat → Nat) (e : Nat) : Nat := C.1 e + sm (fun i => C.2.1 (e * 8 + i) * p i) 8
theorem kc_kv (C : Cs) (e : Nat) : kc_cost C e 8 = kv C C.2.2.2.1 e := by
  unfold kv
  have : ∀ n, kc_cost C e n = C.1 e + sm (fun i => C.2.1 (e * 8 + i) * C.2.2.2.1 i) n := fun n => by
    induction n with
    | zero => rfl
    | succ n ih => rw [kc_cost, ih, sm]; omega
  exact this 8
noncomputable def kw (X : Ex) (C : Cs) (p : Nat → Nat) (e : Nat) : Nat := 1 + fac (cn (X.1 e)) (cn (X.2.2.1 e)) * (onL X e (kv C p) + onR X e (kv C p)) + if cn (X.1 e) = 11 then p (cn (X.2.2.2.1 e)) else 0
theorem onL_kv {X : Ex} {C : Cs} {p : Nat → Nat} {e : Nat} : onL X e (kv C p) = onL X e C.1 + sm (fun i => onL X e (fun a => C.2.1 (a * 8 + i)) * p i) 8 := by
  unfold onL
  split
  · rfl
  · rw [sm_0 _ (fun i _ => Nat.zero_mul _)]
theorem onR_kv {X : Ex} {C : Cs} {p : Nat → Nat} {e : Nat} : onR X e (kv C p) = onR X e C.1 + sm (fun i => onR X e (fun a => C.2.1 (a * 8 + i)) * p i) 8 := by
  unfold onR
  split
  · rfl
  · rw [sm_0 _ (fun i _ => Nat.zero_mul _)]
theorem kv_kw {X : Ex} {C : Cs} (hX : ex_ok X) (h : cEq X C) {p : Nat → Nat} {e : Nat} (he : e < X.2.2.2.2) : min 1000 (kv C p e) = min 1000 (kw X C p e) := by
  obtain ⟨h1, h2⟩ := h e he
  obtain ⟨k, hk, hke, -, -, -, -, -, hc⟩ := hX.2 e he
  unfold kv
  rw [h1, sm_e 8 (fun i hi => by rw [h2 i hi]), cap_s]
  congr 1
  unfold kw
  rw [onL_kv, onR_kv]
  generalize fac (cn (X.1 e)) (cn (X.2.2.1 e)) = f
  have e1 : sm (fun i => (f * (onL X e (fun a => C.2.1 (a * 8 + i)) + onR X e (fun a => C.2.1 (a * 8 + i))) + if cn (X.1 e) = 11 ∧ i = cn (X.2.2.2.1 e) then 1 else 0) * p i) 8
      = f * (sm (fun i => onL X e (fun a => C.2.1 (a * 8 + i)) * p i) 8 + sm (fun i => onR X e (fun a => C.2.1 (a * 8 + i)) * p i) 8) + sm (fun i => (if cn (X.1 e) = 11 ∧ i = cn (X.2.2.2.1 e) then 1 else 0) * p i) 8 := by
    rw [← sm_add, ← sm_mul, ← sm_add]
    exact sm_e 8 (fun i _ => by rw [Nat.add_mul, Nat.mul_assoc, Nat.add_mul])
  have e2 : sm (fun i => (if cn (X.1 e) = 11 ∧ i = cn (X.2.2.2.1 e) then 1 else 0) * p i) 8 = if cn (X.1 e) = 11 then p (cn (X.2.2.2.1 e)) else 0 := by
    by_cases h11 : cn (X.1 e) = 11
    · rw [if_pos h11]
      have h11' := h11
      rw [hke, cn_nI (by omega)] at h11'
      obtain ⟨c, hc8, hce⟩ := hc h11'
      have hcc : cn (X.2.2.2.1 e) = c := by rw [hce, cn_nI (by omega)]
      rw [hcc, sm_one (c := c) 8 hc8 (fun i _ hi => by rw [if_neg (fun z => hi z.2), Nat.zero_mul]), if_pos ⟨h11, rfl⟩, Nat.one_mul]
    · rw [if_neg h11]
      exact sm_0 8 (fun i _ => by rw [if_neg (fun z => h11 z.1), Nat.zero_mul])
  rw [e1, e2]
  simp only [Nat.mul_add]
  omega
theorem kv_lt {X : Ex} {C : Cs} (hX : ex_ok X) (h : cEq X C) {p : Nat → Nat} {e : Nat} (he : e < X.2.2.2.2) (hl : kv C p e < 1000) : kv C p e = kw X C p e := by
  have := kv_kw hX h (p := p) he
  omega
theorem cE_pos {X : Ex} {C : Cs} (h : cEq X C) {e : Nat} (he : e < X.2.2.2.2) : 1 ≤ C.1 e := by
  rw [(h e he).1]; omega
theorem kv_pos {X : Ex} {C : Cs} (h : cEq X C) {p : Nat → Nat} {e : Nat} (he : e < X.2.2.2.2) : 1 ≤ kv C p e := by
  have := cE_pos h he; unfold kv; omega
theorem ex_L {X : Ex} (hX : ex_ok X) {e : Nat} (he : e < X.2.2.2.2) (h : 2 ≤ cn (X.1 e)) : cn (X.2.1 e) < e := by
  obtain ⟨k, hk, hke, hl, -⟩ := hX.2 e he
  rw [hke, cn_nI (by omega)] at h
  obtain ⟨a, ha, hea⟩ := hl h
  have := hX.1
  rw [hea, cn_nI (by omega)]; exact ha
theorem ex_R {X : Ex} (hX : ex_ok X) {e : Nat} (he : e < X.2.2.2.2) (h : px_R (cn (X.1 e))) : cn (X.2.2.1 e) < e := by
  obtain ⟨k, hk, hke, -, hr, -⟩ := hX.2 e he
  rw [hke, cn_nI (by omega)] at h
  obtain ⟨b, hb, heb⟩ := hr h
  have := hX.1
  rw [heb, cn_nI (by omega)]; exact hb
theorem ex_k {X : Ex} (hX : ex_ok X) {e : Nat} (he : e < X.2.2.2.2) : cn (X.1 e) ≤ 11 := by
  obtain ⟨k, hk, hke, -⟩ := hX.2 e he
  rw [hke, cn_nI (by omega)]; exact hk
/-- the reference's cost of an expression, from those of its parts -/
theorem mcost_kw {X : Ex} {eC p : Nat → Nat} {e : Nat} (hk : cn (X.1 e) ≤ 11) : mcost X eC p e = min 1000 (1 + fac (cn (X.1 e)) (cn (X.2.2.1 e)) * (onL X e eC + onR X e eC) + if cn (X.1 e) = 11 then p (cn (X.2.2.2.1 e)) else 0) := by
  unfold mcost fac onL onR
  by_cases h1 : cn (X.1 e) < 2
  · rw [if_pos h1, if_neg (show ¬ cn (X.1 e) = 6 by omega), if_neg (show ¬ (7 ≤ cn (X.1 e) ∧ cn (X.1 e) ≤ 9) by omega), if_neg (show ¬ 2 ≤ cn (X.1 e) by omega), if_neg (show ¬ cn (X.1 e) = 11 by omega), if_neg (show ¬ px_R (cn (X.1 e)) by unfold px_R; omega)]; rfl
  · rw [if_neg h1]
    by_cases h6 : cn (X.1 e) = 6
    · rw [if_pos h6, if_pos h6, if_pos (show 2 ≤ cn (X.1 e) by omega), if_neg (show ¬ cn (X.1 e) = 11 by omega), if_neg (show ¬ px_R (cn (X.1 e)) by unfold px_R; omega)]
      by_cases hb : 1 < cn (X.2.2.1 e)
      · rw [if_pos hb, Nat.max_eq_right (by omega)]; rfl
      · rw [if_neg hb, Nat.max_eq_left (by omega)]; congr 1; omega
    · rw [if_neg h6, if_neg h6, if_pos (show 2 ≤ cn (X.1 e) by omega)]
      by_cases h7 : 7 ≤ cn (X.1 e) ∧ cn (X.1 e) ≤ 9
      · rw [if_pos h7, if_pos h7, if_neg (show ¬ cn (X.1 e) = 11 by omega)]; rfl
      · rw [if_neg h7, if_neg h7]; congr 1; omega
theorem mrE_at {X : Ex} {p c : Nat → Nat} {e : Nat} : ∀ m, e < m → mrE X p m c e = mcost X (mrE X p e c) p e
  | 0, h => absurd h (by omega)
  | m + 1, h => by
    rw [mrE]
    by_cases h2 : e = m
    · subst h2; rw [va_up_self]
    · rw [va_up_ne _ _ h2]; exact mrE_at m (by omega)
theorem cap_2 {x y x2 y2 f c : Nat} (hf : 1 ≤ f) (hx : x = min 1000 x2) (hy : y = min 1000 y2) : min 1000 (1 + f * (x + y) + c) = min 1000 (1 + f * (x2 + y2) + c) := by
  have h1 := cap_m hf (x := x + y) (1 + c)
  have h2 := cap_m hf (x := x2 + y2) (1 + c)
  rw [show min 1000 (x + y) = min 1000 (x2 + y2) by omega] at h1
  rw [show 1 + f * (x + y) + c = 1 + c + f * (x + y) by omega, show 1 + f * (x2 + y2) + c = 1 + c + f * (x2 + y2) by omega, ← h1, h2]
theorem mrE_kv {X : Ex} {C : Cs} (hX : ex_ok X) (h : cEq X C) {p c : Nat → Nat} : ∀ n, ∀ e, e < n → e < X.2.2.2.2 → ∀ m, e < m → mrE X p m c e = min 1000 (kv C p e)
  | 0, e, h0, _, _, _ => absurd h0 (by omega)
  | n + 1, e, h0, he, m, hm => by
    have ih := mrE_kv hX h (p := p) (c := c) n
    rw [mrE_at m hm, mcost_kw (ex_k hX he), kv_kw hX h he]
    unfold kw
    refine cap_2 (fac_pos _ _) ?_ ?_
    · unfold onL; split
      · rename_i h2; have := ex_L hX he h2; exact ih _ (by omega) (by omega) e this
      · rfl
    · unfold onR; split
      · rename_i h2; have := ex_R hX he h2; exact ih _ (by omega) (by omega) e this
      · rfl
/-- who calls costs 3 -/
theorem nm_3 {X : Ex} {C : Cs} (hX : ex_ok X) (h : cEq X C) {i : Nat} (hi : i < 8) : ∀ n e, e < n → e < X.2.2.2.2 → 0 < C.2.1 (e * 8 + i) → 3 ≤ C.1 e
  | 0, e, h0, _, _ => absurd h0 (by omega)
  | n + 1, e, h0, he, hp => by
    have ih := nm_3 hX h hi n
    obtain ⟨h1, h2⟩ := h e he
    rw [h2 i hi] at hp
    rw [h1]
    have hf := fac_pos (cn (X.1 e)) (cn (X.2.2.1 e))
    generalize fac (cn (X.1 e)) (cn (X.2.2.1 e)) = f at hp hf ⊢
    have key : 2 ≤ onL X e C.1 + onR X e C.1 := by
      by_cases h11 : cn (X.1 e) = 11
      · have hL : 2 ≤ cn (X.1 e) := by omega
        have hR : px_R (cn (X.1 e)) := by unfold px_R; omega
        unfold onL onR
        rw [if_pos hL, if_pos hR]
        have a := ex_L hX he hL
        have b := ex_R hX he hR
        have := cE_pos h (e := cn (X.2.1 e)) (by omega)
        have := cE_pos h (e := cn (X.2.2.1 e)) (by omega)
        omega
      · rw [if_neg (fun z => h11 z.1)] at hp
        have hq : 0 < onL X e (fun a => C.2.1 (a * 8 + i)) + onR X e (fun a => C.2.1 (a * 8 + i)) := by
          rcases Nat.eq_zero_or_pos (onL X e (fun a => C.2.1 (a * 8 + i)) + onR X e (fun a => C.2.1 (a * 8 + i))) with z | z
          · rw [z, Nat.mul_zero] at hp; omega
          · exact z
        rcases (show 0 < onL X e (fun a => C.2.1 (a * 8 + i)) ∨ 0 < onR X e (fun a => C.2.1 (a * 8 + i)) by omega) with z | z
        · unfold onL at z ⊢
          by_cases hL : 2 ≤ cn (X.1 e)
          · rw [if_pos hL] at z ⊢
            have a := ex_L hX he hL
            have := ih _ (by omega) (by omega) z
            omega
          · rw [if_neg hL] at z; omega
        · unfold onR at z ⊢
          by_cases hR : px_R (cn (X.1 e))
          · rw [if_pos hR] at z ⊢
            have a := ex_R hX he hR
            have := ih _ (by omega) (by omega) z
            omega
          · rw [if_neg hR] at z; omega
    have : 1 * 2 ≤ f * (onL X e C.1 + onR X e C.1) := Nat.mul_le_mul hf key
    omega
