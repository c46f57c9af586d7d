theorem ka_sm {C : Cs} {e t : Nat} {a0 : Nat → Nat} {j : Nat} (hj : j < 8) : ∀ n, ka_out C e t (gf_N a0 0 0 8) n j = sm (fun h => t * C.2.1 (e * 8 + h) * C.2.2.1 (h * 8 + j)) n
  | 0 => by rw [ka_out, sm]; unfold gf_N; rw [if_pos ⟨Nat.zero_le _, hj⟩]
  | n + 1 => by
    rw [ka_out, sm, ← ka_sm hj n]
    unfold ka_in
    rw [if_pos hj]
theorem bd_tk {B : Bd} (h : bdI B) : bd_tm B = tk B.1 B.2.2.1 B.2.2.2.2.2.2.1 := by
  obtain ⟨kd, tg, op, cl, on, tm, s, D⟩ := B
  obtain ⟨h1, h2, h3, h4, h5, h6, h7⟩ := h
  dsimp only at h1 h2 h3 h4 h5 h6 h7 ⊢
  show tm D = tp kd (fun j => cn (op j)) (ps kd s)
  have := h7 0 (Nat.zero_le _)
  rw [Nat.sub_zero, List.drop_zero] at this
  rw [this, ps_kb (Nat.le_refl _)]
  refine tp_loc _ (fun q hq => ⟨kb_lt (ps_lt2 h2 (wf_kb h2 h3) hq), rfl⟩)
section ACC
variable {X : Ex} {C : Cs} {Bs : Nat → Bd} {o : Nat → Prop} {f k : Nat} {a b : Int32}
theorem prc_2 {B : Bd} (h : k ≤ 2) : prc C B k b = tk B.1 B.2.2.1 B.2.2.2.2.2.2.1 + tk B.1 B.2.2.1 B.2.2.2.2.2.2.1 * kc_cost C (cn b) 8 := by
  unfold prc ow
  rw [va_up_self, pk_us, if_pos h, Nat.mul_add, Nat.mul_one, kc_kv]
theorem prc_4 {B : Bd} (h : k = 4) : prc C B k b = tk B.1 B.2.2.1 B.2.2.2.2.2.2.1 := by
  unfold prc ow
  rw [va_up_self, if_neg (by omega), if_pos h, Nat.mul_one]
theorem prc_0 {B : Bd} (h : k = 3 ∨ k = 5) : prc C B k b = 0 := by
  unfold prc ow
  rw [va_up_self, if_neg (by omega), if_neg (by omega), Nat.mul_zero]
theorem adc_2 {B : Bd} (h : k ≤ 2) {a0 : Nat → Nat} {g : Nat} (hg : g < 8) : adc C B k b g = ka_out C (cn b) (tk B.1 B.2.2.1 B.2.2.2.2.2.2.1) (gf_N a0 0 0 8) 8 g := by
  unfold adc nm
  rw [ka_sm hg]
  exact sm_e 8 (fun i _ => by rw [va_up_self, pk_us, if_pos h])
theorem adc_0 {B : Bd} (h : ¬ k ≤ 2) {g : Nat} : adc C B k b g = 0 := by
  unfold adc nm
  exact sm_0 8 (fun i _ => by rw [va_up_self, if_neg h, Nat.mul_zero, Nat.zero_mul])
theorem gfN_0 {K : Nat → Nat} {j : Nat} (h : j < 8) : gf_N K 0 0 8 j = 0 := by unfold gf_N; rw [if_pos ⟨Nat.zero_le _, h⟩]
theorem CI_T40 (hC : CI X C Bs o) {x : Nat} (hx : x < 8) : C.2.2.2.1 x ≤ 40 := by
  by_cases ox : o x
  · exact (hC.2.2.1 x hx ox).2.2
  · rw [(hC.2.2.2.1 x hx ox).1]; omega
/-- when the class lets a statement in -/
theorem ch_iff (hC : CI X C Bs o) (hf : f < 8) (of : o f) (hk : k ≤ 5) : ch_ok C f (bd_tm (Bs f)) k b ↔ (adc C (Bs f) k b f = 0 ∧ ∀ x, x < 8 → C.2.2.2.1 x + C.2.2.1 (x * 8 + f) * prc C (Bs f) k b ≤ 40) := by
  have hB := (hC.2.2.1 f hf of).1
  rw [bd_tk hB.1]
  unfold ch_ok cs_ok
  rcases (show k ≤ 2 ∨ k = 4 ∨ (k = 3 ∨ k = 5) by omega) with h | h | h
  · rw [prc_2 h, adc_2 (a0 := C.2.2.2.2) h hf]
    exact ⟨fun z => z.2 h, fun z => ⟨fun y => absurd y (by omega), fun _ => z⟩⟩
  · rw [prc_4 h, adc_0 (by omega)]
    exact ⟨fun z => ⟨rfl, (z.1 h).2⟩, fun z => ⟨fun _ => ⟨gfN_0 hf, z.2⟩, fun y => absurd y (by omega)⟩⟩
  · rw [prc_0 h, adc_0 (by omega)]
    exact ⟨fun _ => ⟨rfl, fun x hx => by rw [Nat.mul_zero]; exact CI_T40 hC hx⟩, fun z => ⟨fun y => absurd y (by omega), fun y => absurd y (by omega)⟩⟩
theorem kn_at {a : Nat → Nat} {x g : Nat} (hx : x < 8) (hg : g < 8) : kn_up C f a 64 (x * 8 + g) = C.2.2.1 (x * 8 + g) + C.2.2.1 (x * 8 + f) * a g := by
  unfold kn_up
  rw [if_pos (by omega), show (x * 8 + g) / 8 = x by omega, show (x * 8 + g) % 8 = g by omega]
theorem ch_CI (hC : CI X C Bs o) (hf : f < 8) (of : o f) (hs : (Bs f).2.2.2.2.2.2.1 < 12) (hk : k ≤ 5) (hr : bd_room (Bs f) k) (hi : st_in X k a b) (hok : ch_ok C f (bd_tm (Bs f)) k b) :
    CI X (ch_C C f (bd_tm (Bs f)) k b) (va_up Bs f (bd_add (Bs f) k a b)) o := by
  have hB := (hC.2.2.1 f hf of).1
  obtain ⟨h1, h2⟩ := (ch_iff hC hf of hk).mp hok
  unfold ch_C
  rcases (show k ≤ 2 ∨ k = 4 ∨ (k = 3 ∨ k = 5) by omega) with h | h | h
  · rw [if_pos h, if_pos hok]
    refine put_CI hC hf of hs hk hr hi (fun x hx => ?_) (fun x g hx hg => ?_) h1 h2
    · unfold kt_up; rw [if_pos hx, prc_2 h, bd_tk hB.1]
    · rw [kn_at hx hg, adc_2 (a0 := C.2.2.2.2) h hg, bd_tk hB.1]
  · rw [if_neg (by omega), if_pos h, if_pos hok]
    refine put_CI hC hf of hs hk hr hi (fun x hx => ?_) (fun x g hx hg => ?_) h1 h2
    · unfold kt_up; rw [if_pos hx, prc_4 h, bd_tk hB.1]
    · rw [kn_at hx hg, adc_0 (by omega), gfN_0 hg]
  · rw [if_neg (by omega), if_neg (by omega)]
    obtain ⟨c1, c2, c3, c4, c5⟩ := C
    refine put_CI hC hf of hs hk hr hi (fun x hx => ?_) (fun x g hx hg => ?_) h1 h2
    · rw [prc_0 h]; rfl
    · rw [adc_0 (by omega)]; rfl
theorem CI_ad (hC : CI X C Bs o) (a : Nat → Nat) : CI X (cs_ad C a) Bs o := hC
theorem ch_CI_no (hC : CI X C Bs o) {t : Nat} (hok : ¬ ch_ok C f t k b) : CI X (ch_C C f t k b) Bs o := by
  unfold ch_C
  split
  · first | exact CI_ad hC _ | (rw [if_neg hok]; exact CI_ad hC _)
  · split
    · first | exact CI_ad hC _ | (rw [if_neg hok]; exact CI_ad hC _)
    · exact hC
/-- a bound -/
theorem W_40 (hC : CI X C Bs o) {x g : Nat} (hx : x < 8) (hg : g < 8) : C.2.2.1 (x * 8 + g) ≤ 40 := Nat.le_trans (W_le hC hg _ x hx (Nat.le_refl _)) (CI_T40 hC hx)
theorem sm_bd {g : Nat → Nat} {c : Nat} : ∀ n, (∀ i, i < n → g i ≤ c) → sm g n ≤ n * c
  | 0, _ => by rw [sm]; omega
  | n + 1, h => by rw [sm, Nat.succ_mul]; have := sm_bd n (fun i hi => h i (by omega)); have := h n (by omega); omega
theorem cE_le (hE : cEq X C) {e i : Nat} (he : e < X.2.2.2.2) (hi : i < 8) : C.1 e ≤ 1000 ∧ C.2.1 (e * 8 + i) ≤ 1000 := by
  rw [(hE e he).1, (hE e he).2 i hi]; omega
theorem kc_le (hC : CI X C Bs o) {e : Nat} (he : e < X.2.2.2.2) : kc_cost C e 8 ≤ 321000 := by
  rw [kc_kv]
  unfold kv
  have h1 := (cE_le hC.2.1 he (show 0 < 8 by decide)).1
  have h2 := sm_bd (g := fun i => C.2.1 (e * 8 + i) * C.2.2.2.1 i) (c := 1000 * 40) 8 (fun i hi => Nat.mul_le_mul (cE_le hC.2.1 he hi).2 (CI_T40 hC hi))
  omega
theorem ad_le (hC : CI X C Bs o) {e t g : Nat} {a0 : Nat → Nat} (he : e < X.2.2.2.2) (hg : g < 8) (ht : t ≤ 200) : ka_out C e t (gf_N a0 0 0 8) 8 g ≤ 64000000 := by
  rw [ka_sm hg]
  have h2 := sm_bd (g := fun h => t * C.2.1 (e * 8 + h) * C.2.2.1 (h * 8 + g)) (c := 200 * 1000 * 40) 8 (fun i hi => Nat.mul_le_mul (Nat.mul_le_mul ht (cE_le hC.2.1 he hi).2) (W_40 hC hi hg))
  omega
theorem tm_200 (hC : CI X C Bs o) (hf : f < 8) (of : o f) : bd_tm (Bs f) ≤ 200 := by
  obtain ⟨hB, h1, h2⟩ := hC.2.2.1 f hf of
  rw [bd_tk hB.1]
  exact tk_200 hB.1.2.1 (wf_kb hB.1.2.1 hB.1.2.2.1) hB.2.2 (by rw [← h1]; exact h2) (Nat.le_refl _)
theorem ch_bound (hC : CI X C Bs o) (hf : f < 8) (ht : bd_tm (Bs f) ≤ 200) (hb : k ≤ 2 → ∃ e, e < X.2.2.2.2 ∧ b = nI e) : ch_sm C f (bd_tm (Bs f)) k b := by
  have hT : ∀ x, x < 8 → C.2.2.2.1 x ≤ 40 ∧ C.2.2.1 (x * 8 + f) ≤ 40 := fun x hx => ⟨CI_T40 hC hx, W_40 hC hx hf⟩
  refine ⟨by omega, fun h => ⟨by rw [gfN_0 hf]; omega, fun x hx => ?_⟩, fun h => ?_⟩
  · obtain ⟨h1, h2⟩ := hT x hx
    have := Nat.mul_le_mul h2 ht
    exact ⟨by omega, by omega, by omega⟩
  · obtain ⟨e, he, hbe⟩ := hb h
    have hce : cn b = e := by rw [hbe]; exact cn_nI (by have := hC.1.1; omega)
    rw [hce]
    have h3 := kc_le hC he
    refine ⟨by omega, by have := ad_le hC (a0 := C.2.2.2.2) he hf ht; omega, fun x hx => ?_⟩
    obtain ⟨h1, h2⟩ := hT x hx
    have h4 : bd_tm (Bs f) * kc_cost C e 8 ≤ 200 * 321000 := Nat.mul_le_mul ht h3
    have h5 : C.2.2.1 (x * 8 + f) * (bd_tm (Bs f) + bd_tm (Bs f) * kc_cost C e 8) ≤ 40 * (200 + 200 * 321000) := Nat.mul_le_mul h2 (by omega)
    exact ⟨by omega, by omega, by omega⟩
end ACC
/-- the reference's rows of statements are the bodies' -/
def rfB (F : Nat) (Bs : Nat → Bd) (o : Nat → Prop) (sk : Nat → Nat) (sa sb : Nat → Int32) (sz : Nat → Nat) : Prop :=
  (∀ f, f < 8 → o f → sz f = (Bs f).2.2.2.2.2.2.1 ∧ ∀ k, k < sz f → sk (12 * f + k) = (Bs f).1 k ∧ sa (12 * f + k) = (Bs f).2.1 k ∧ sb (12 * f + k) = (Bs f).2.2.1 k) ∧ (∀ f, ¬ (f < 8 ∧ o f) → sz f = 0) ∧ (∀ i, sk i ≤ 5)
theorem rfB_add {F : Nat} {Bs : Nat → Bd} {o : Nat → Prop} {sk sz : Nat → Nat} {sa sb : Nat → Int32} {f k : Nat} {a b : Int32} (h : rfB F Bs o sk sa sb sz) (hf : f < 8) (of : o f) (hs : (Bs f).2.2.2.2.2.2.1 < 12) (h12 : ∀ g, g < 8 → o g → (Bs g).2.2.2.2.2.2.1 ≤ 12) (hk : k ≤ 5) :
    rfB F (va_up Bs f (bd_add (Bs f) k a b)) o (va_up sk (12 * f + sz f) k) (upd sa (12 * f + sz f) a) (upd sb (12 * f + sz f) b) (va_up sz f (sz f + 1)) := by
  obtain ⟨h1, h2, h3⟩ := h
  obtain ⟨hsf, hrf⟩ := h1 f hf of
  refine ⟨fun g hg og => ?_, fun g hg => ?_, up_le5 h3 hk⟩
  · obtain ⟨hsg, hrg⟩ := h1 g hg og
    by_cases e : g = f
    · subst e
      rw [va_up_self, va_up_self]
      refine ⟨by rw [hsg]; rfl, fun j hj => ?_⟩
      show va_up sk (12 * g + sz g) k (12 * g + j) = va_up (Bs g).1 (Bs g).2.2.2.2.2.2.1 k j ∧ upd sa (12 * g + sz g) a (12 * g + j) = upd (Bs g).2.1 (Bs g).2.2.2.2.2.2.1 a j ∧ upd sb (12 * g + sz g) b (12 * g + j) = upd (Bs g).2.2.1 (Bs g).2.2.2.2.2.2.1 b j
      rw [← hsg]
      by_cases e2 : j = sz g
      · subst e2; rw [va_up_self, va_up_self, pk_us, pk_us, pk_us, pk_us]; exact ⟨rfl, rfl, rfl⟩
      · rw [va_up_ne _ _ (by omega), va_up_ne _ _ e2, pk_un (by omega), pk_un e2, pk_un (by omega), pk_un e2]
        exact hrg j (by omega)
    · rw [va_up_ne _ _ e, va_up_ne _ _ e]
      refine ⟨hsg, fun j hj => ?_⟩
      have := h12 g hg og
      have hne : 12 * g + j ≠ 12 * f + sz f := by omega
      rw [va_up_ne _ _ hne, pk_un hne, pk_un hne]
      exact hrg j hj
  · have e : g ≠ f := fun e => hg ⟨by omega, by rw [e]; exact of⟩
    rw [va_up_ne _ _ e]; exact h2 g hg
/-- the reference finds it too dear when the class does -/
theorem dear_iff {X : Ex} {C : Cs} {Bs : Nat → Bd} {o : Nat → Prop} {f k F : Nat} {a b : Int32} {of9 : Nat → Int32} {sk sz : Nat → Nat} {sa sb : Nat → Int32} (hC : CI X C Bs o) (hF : F ≤ 8) (hof : ∀ x, x < F → (of9 x < 0 ↔ o x)) (hoF : ∀ x, o x → x < F)
    (hf : f < 8) (of : o f) (hs : (Bs f).2.2.2.2.2.2.1 < 12) (hk : k ≤ 5) (hr : bd_room (Bs f) k) (hi : st_in X k a b) (hR : rfB F Bs o sk sa sb sz) (haf : adc C (Bs f) k b f = 0) {q : (Nat → Nat) × (Nat → Nat)} (hq : ∀ i, i < 8 → q.2 i = 0) :
    (∃ g, g < F ∧ 40 < (mrs X of9 (va_up sk (12 * f + sz f) k) (upd sb (12 * f + sz f) b) (va_up sz f (sz f + 1)) F 9 q).2 g) ↔ ¬ ∀ x, x < 8 → C.2.2.2.1 x + C.2.2.1 (x * 8 + f) * prc C (Bs f) k b ≤ 40 := by
  have h12 : ∀ g, g < 8 → o g → (Bs g).2.2.2.2.2.2.1 ≤ 12 := fun g hg og => (hC.2.2.1 g hg og).1.1.1
  have hR2 := rfB_add (a := a) (b := b) hR hf of hs h12 hk
  have hfn2 : ∀ x, x < 8 → o x → fn_ok X (va_up Bs f (bd_add (Bs f) k a b) x) := fun x hx ox => by
    by_cases e : x = f
    · subst e; rw [va_up_self]; exact fn_add (hC.2.2.1 x hx ox).1 hs hk hr hi
    · rw [va_up_ne _ _ e]; exact (hC.2.2.1 x hx ox).1
  have key := mrs_in (X := X) (C := C) (of9 := of9) (sk := va_up sk (12 * f + sz f) k) (sb := upd sb (12 * f + sz f) b) (sz := va_up sz f (sz f + 1)) (F := F)
    (kd := fun x => (va_up Bs f (bd_add (Bs f) k a b) x).1) (op := fun x => (va_up Bs f (bd_add (Bs f) k a b) x).2.2.1)
    (T := fun x => if x < 8 then C.2.2.2.1 x + C.2.2.1 (x * 8 + f) * prc C (Bs f) k b else 0) hC.1 hC.2.1 hF ?_ ?_ ?_ ?_ hq 9 (by omega)
  · constructor
    · intro ⟨g, hg, h40⟩ hall
      have h1 := (key g (by omega)).1
      have h2 := hall g (by omega)
      rw [if_pos (show g < 8 by omega)] at h1
      omega
    · intro hn
      refine Classical.byContradiction fun hno => hn fun x hx => ?_
      by_cases ox : o x
      · have h1 := (key x hx).2
        rw [if_pos hx] at h1
        have h2 : ¬ 40 < (mrs X of9 (va_up sk (12 * f + sz f) k) (upd sb (12 * f + sz f) b) (va_up sz f (sz f + 1)) F 9 q).2 x := fun y => hno ⟨x, hoF x ox, y⟩
        omega
      · rw [(hC.2.2.2.1 x hx ox).1, (hC.2.2.2.1 x hx ox).2 f hf]; omega
  · intro x hx hox
    have ox := (hof x hx).mp hox
    obtain ⟨hsx, hrx⟩ := hR2.1 x (by omega) ox
    have hB := hfn2 x (by omega) ox
    rw [hsx]
    refine ⟨hB.1.1, hB.1.2.1, wf_kb hB.1.2.1 hB.1.2.2.1, hB.2.2, fun j hj => ⟨(hrx j (by omega)).1, (hrx j (by omega)).2.2⟩, fun j hj h2 => fn_op hC.1 hB hj h2, fun j hj => ?_⟩
    obtain ⟨hB0, e0, e1⟩ := hC.2.2.1 x (by omega) ox
    have h200 : ∀ j, j ≤ (Bs x).2.2.2.2.2.2.1 → tk (Bs x).1 (Bs x).2.2.1 j ≤ 200 := fun j hj => tk_200 hB0.1.2.1 (wf_kb hB0.1.2.1 hB0.1.2.2.1) hB0.2.2 (by rw [← e0]; exact e1) hj
    show tk (va_up Bs f (bd_add (Bs f) k a b) x).1 (va_up Bs f (bd_add (Bs f) k a b) x).2.2.1 j ≤ 1000
    by_cases e : x = f
    · subst e
      rw [va_up_self] at hj ⊢
      have hj' : j < (Bs x).2.2.2.2.2.2.1 + 1 := hj
      show tk (va_up (Bs x).1 (Bs x).2.2.2.2.2.2.1 k) (upd (Bs x).2.2.1 (Bs x).2.2.2.2.2.2.1 b) j ≤ 1000
      rw [tk_app hB0.1.2.1 (wf_kb hB0.1.2.1 hB0.1.2.2.1) (by omega)]
      have := h200 j (by omega); omega
    · rw [va_up_ne _ _ e] at hj ⊢
      have := h200 j (by omega); omega
  · intro x hx hox
    have ox := (hof x hx).mp hox
    rw [(hR2.1 x (by omega) ox).1]
    exact put_T (T2 := fun x => if x < 8 then C.2.2.2.1 x + C.2.2.1 (x * 8 + f) * prc C (Bs f) k b else 0) hC hf of (fun y hy => if_pos hy) haf (by omega) ox
  · intro x hx hox
    have ox : ¬ o x := fun y => hox ((hof x hx).mpr y)
    rw [if_pos (by omega), (hC.2.2.2.1 x (by omega) ox).1, (hC.2.2.2.1 x (by omega) ox).2 f hf, Nat.zero_mul]
  · intro x hx
    by_cases h8 : x < 8
    · have ox : ¬ o x := fun y => by have := hoF x y; omega
      rw [if_pos h8, (hC.2.2.2.1 x h8 ox).1, (hC.2.2.2.1 x h8 ox).2 f hf, Nat.zero_mul]
    · rw [if_neg h8]
/-- and its costs are the class's -/
theorem cost_eq {X : Ex} {C : Cs} {Bs : Nat → Bd} {o : Nat → Prop} {F : Nat} {of9 : Nat → Int32} {sk sz : Nat → Nat} {sa sb : Nat → Int32} (hC : CI X C Bs o) (hF : F ≤ 8) (hof : ∀ x, x < F → (of9 x < 0 ↔ o x)) (hoF : ∀ x, o x → x < F)
    (hR : rfB F Bs o sk sa sb sz) {q : (Nat → Nat) × (Nat → Nat)} (hq : ∀ i, i < 8 → q.2 i = 0) {g : Nat} (hg : g < F) : (mrs X of9 sk sb sz F 9 q).2 g = C.2.2.2.1 g := by
  have key := mrs_in (X := X) (C := C) (of9 := of9) (sk := sk) (sb := sb) (sz := sz) (F := F)
    (kd := fun x => (Bs x).1) (op := fun x => (Bs x).2.2.1) (T := fun x => if x < 8 then C.2.2.2.1 x else 0) hC.1 hC.2.1 hF ?_ ?_ ?_ ?_ hq 9 (by omega) g (by omega)
  · have h1 := CI_T40 hC (show g < 8 by omega)
    rw [if_pos (show g < 8 by omega)] at key
    omega
  · intro x hx hox
    have ox := (hof x hx).mp hox
    obtain ⟨hsx, hrx⟩ := hR.1 x (by omega) ox
    obtain ⟨hB, e0, e1⟩ := hC.2.2.1 x (by omega) ox
    rw [hsx]
    refine ⟨hB.1.1, hB.1.2.1, wf_kb hB.1.2.1 hB.1.2.2.1, hB.2.2, fun j hj => ⟨(hrx j (by omega)).1, (hrx j (by omega)).2.2⟩, fun j hj h2 => fn_op hC.1 hB hj h2, fun j hj => ?_⟩
    have := tk_200 (C := C) (p := C.2.2.2.1) hB.1.2.1 (wf_kb hB.1.2.1 hB.1.2.2.1) hB.2.2 (by rw [← e0]; exact e1) (show j ≤ (Bs x).2.2.2.2.2.2.1 by omega)
    show tk (Bs x).1 (Bs x).2.2.1 j ≤ 1000
    omega
  · intro x hx hox
    have ox := (hof x hx).mp hox
    rw [(hR.1 x (by omega) ox).1]
    rw [if_pos (by omega)]
    exact (hC.2.2.1 x (by omega) ox).2.1.trans (fV_e (fun i hi => (if_pos hi).symm))
  · intro x hx hox
    have ox : ¬ o x := fun y => hox ((hof x hx).mpr y)
    rw [if_pos (by omega), (hC.2.2.2.1 x (by omega) ox).1]
  · intro x hx
    by_cases h8 : x < 8
    · have ox : ¬ o x := fun y => by have := hoF x y; omega
      rw [if_pos h8, (hC.2.2.2.1 x h8 ox).1]
    · rw [if_neg h8]
