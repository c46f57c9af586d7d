def jt (s : Nat → Int64) : Jt := (s 0, s 1, s 2, s 3)
def rd (f : Nat → Int64) (b : Nat) : Jt := (f b, f (b + 1), f (b + 2), f (b + 3))
def er (ce : Nat → Int64) (d : Nat) : Ev := fun k => if k < 14 then rd ce (56 * d + 4 * k) else j0
theorem rd_jt (f : Nat → Int64) (b : Nat) : jt (fun j => f (b + j)) = rd f b := rfl
theorem rd_lp {f : Nat → Int64} {b : Nat} {s : Nat → Int64} : rd (lp f b s 4) b = jt s := by
  unfold rd jt
  rw [lp_i (j := 1) (by omega), lp_i (j := 2) (by omega), lp_i (j := 3) (by omega)]
  have := lp_i (f := f) (b := b) (s := s) (k := 4) (j := 0) (by omega)
  rw [Nat.add_zero] at this
  rw [this]
theorem rd_lo {f : Nat → Int64} {b c n : Nat} {s : Nat → Int64} (h : c + 4 ≤ b ∨ b + n ≤ c) : rd (lp f b s n) c = rd f c := by
  unfold rd
  rw [lp_o (by omega), lp_o (by omega), lp_o (by omega), lp_o (by omega)]
theorem rd_e {f g : Nat → Int64} {b : Nat} (h : ∀ j, j < 4 → f (b + j) = g (b + j)) : rd f b = rd g b := by
  unfold rd
  rw [h 1 (by omega), h 2 (by omega), h 3 (by omega)]
  have := h 0 (by omega)
  rw [Nat.add_zero] at this
  rw [this]
theorem er_lp {ce : Nat → Int64} {d k : Nat} {s : Nat → Int64} (hk : k < 14) : er (lp ce (56 * d + 4 * k) s 4) d = va_up (er ce d) k (jt s) := by
  funext x
  unfold er
  by_cases e : x = k
  · subst e; rw [if_pos hk, va_up_self, rd_lp]
  · rw [va_up_ne _ _ e]
    by_cases h : x < 14
    · rw [if_pos h, if_pos h, rd_lo (by omega)]
    · rw [if_neg h, if_neg h]
theorem er_e {ce ce2 : Nat → Int64} {d : Nat} (h : ∀ i, 56 * d ≤ i → i < 56 * (d + 1) → ce2 i = ce i) : er ce2 d = er ce d := by
  funext x
  unfold er
  by_cases hx : x < 14
  · rw [if_pos hx, if_pos hx]; exact rd_e (fun j hj => h _ (by omega) (by omega))
  · rw [if_neg hx, if_neg hx]
theorem jmul_1 (a : Jt) : jmul (jcon 1) a = a := by
  obtain ⟨a1, a2, a3, a4⟩ := a
  unfold jmul jcon
  refine Prod.ext ?_ (Prod.ext ?_ (Prod.ext ?_ ?_))
  · show 1 * a1 = a1; grind
  · show 1 * a2 + 0 * a1 = a2; grind
  · show 1 * a3 + 0 * a1 = a3; grind
  · show 1 * a4 + 0 * a3 + 0 * a2 + 0 * a1 = a4; grind
theorem jp_pow (s : Nat → Int64) : ∀ n, jt (jp s n) = jpow (jt s) n
  | 0 => rfl
  | 1 => by show jmul (jcon 1) (jt s) = _; rw [jmul_1]; rfl
  | n + 2 => by
    show jmul (jt (jp s (n + 1))) (jt s) = _
    rw [jp_pow s (n + 1)]; rfl
theorem q_cases {q : Nat} (h : q ≤ 11) (h2 : ¬ q = 11) : q = 0 ∨ q = 1 ∨ q = 2 ∨ q = 3 ∨ q = 4 ∨ q = 5 ∨ q = 6 ∨ q = 7 ∨ q = 8 ∨ q = 9 ∨ q = 10 := by omega
/-- an expression's parts out of those of its operands -/
theorem wk_dx {X : Ex} (hX : ex_ok X) {V : Nat → Ev → Jt} {en : Nat → Jt → Jt → Jt} {pt ce : Nat → Int64} {d k : Nat} (hk : k < X.2.2.2.2) (h11 : ¬ cn (X.1 k) = 11)
    (hL : 2 ≤ cn (X.1 k) → rd pt (320 * d + 4 * cn (X.2.1 k)) = V (cn (X.2.1 k)) (er ce d)) (hR : px_R (cn (X.1 k)) → rd pt (320 * d + 4 * cn (X.2.2.1 k)) = V (cn (X.2.2.1 k)) (er ce d)) : jt (wk X pt ce d k) = dx_ev X V en k (er ce d) := by
  obtain ⟨q, hq, hqe, -, -, hv1, hv6, hv10, -⟩ := hX.2 k hk
  have hcq : cn (X.1 k) = q := by rw [hqe, cn_nI (by omega)]
  unfold wk wkk dx_ev
  have r1 : 2 ≤ q → dx_r1 X V k (er ce d) = rd pt (320 * d + 4 * cn (X.2.1 k)) := fun z => by
    unfold dx_r1; rw [if_pos (by omega), hL (by omega)]
  have r2 : px_R q → dx_r2 X V k (er ce d) = rd pt (320 * d + 4 * cn (X.2.2.1 k)) := fun z => by
    unfold dx_r2; rw [if_pos (by rw [hcq]; exact z), hR (by rw [hcq]; exact z)]
  rw [hcq] at h11 ⊢
  have hpr : ∀ j, (px_R j ↔ (j = 2 ∨ j = 3 ∨ j = 4 ∨ j = 8 ∨ j = 9 ∨ j = 11)) := fun j => Iff.rfl
  rcases q_cases hq h11 with z | z | z | z | z | z | z | z | z | z | z <;> subst z
  · rfl
  · obtain ⟨a, ha, hea⟩ := hv1 rfl
    have hca : cn (X.2.1 k) = a := by rw [hea, cn_nI (by omega)]
    rw [hca]
    show rd ce (56 * d + 4 * a) = er ce d a
    unfold er; rw [if_pos (by omega)]
  · show jt (fun j => pt (320 * d + 4 * cn (X.2.1 k) + j) + 1 * pt (320 * d + 4 * cn (X.2.2.1 k) + j)) = jadd (dx_r1 X V k (er ce d)) (dx_r2 X V k (er ce d))
    rw [r1 (by omega), r2 (by rw [hpr]; omega)]
    unfold jt jadd rd
    simp only [Int64.one_mul, Nat.add_zero]
  · show jt (fun j => pt (320 * d + 4 * cn (X.2.1 k) + j) + (-1) * pt (320 * d + 4 * cn (X.2.2.1 k) + j)) = jsub (dx_r1 X V k (er ce d)) (dx_r2 X V k (er ce d))
    rw [r1 (by omega), r2 (by rw [hpr]; omega)]
    unfold jt jsub rd
    have hm : ∀ a b : Int64, a + (-1) * b = a - b := fun a b => by grind
    simp only [hm, Nat.add_zero]
  · show jmul (rd pt (320 * d + 4 * cn (X.2.1 k))) (rd pt (320 * d + 4 * cn (X.2.2.1 k))) = jmul (dx_r1 X V k (er ce d)) (dx_r2 X V k (er ce d))
    rw [r1 (by omega), r2 (by rw [hpr]; omega)]
  · show jt (fun j => pt (320 * d + 4 * cn (X.2.1 k) + j) * (-1)) = jsub j0 (dx_r1 X V k (er ce d))
    rw [r1 (by omega)]
    unfold jt jsub rd j0
    have hm : ∀ a : Int64, a * (-1) = 0 - a := fun a => by grind
    simp only [hm, Nat.add_zero]
  · show jt (jp (fun j => pt (320 * d + 4 * cn (X.2.1 k) + j)) (cn (X.2.2.1 k))) = jpow (dx_r1 X V k (er ce d)) (cn (X.2.2.1 k))
    rw [jp_pow, rd_jt, r1 (by omega)]
  · show jt (fun j => pt (320 * d + 4 * cn (X.2.1 k) + j) * (if pt (320 * d + 4 * cn (X.2.1 k)) < 0 then -1 else if pt (320 * d + 4 * cn (X.2.1 k)) = 0 then 0 else 1)) = jmag (dx_r1 X V k (er ce d))
    rw [r1 (by omega)]
    unfold jmag
    show _ = if pt (320 * d + 4 * cn (X.2.1 k)) = 0 then j0 else if pt (320 * d + 4 * cn (X.2.1 k)) < 0 then _ else _
    by_cases n0 : pt (320 * d + 4 * cn (X.2.1 k)) < 0
    · rw [if_pos n0, if_neg (fun z => by rw [z] at n0; exact absurd n0 (by decide)), if_pos n0]
      unfold jt jsub rd j0
      have hm : ∀ a : Int64, a * (-1) = 0 - a := fun a => by grind
      simp only [hm, Nat.add_zero]
    · by_cases n1 : pt (320 * d + 4 * cn (X.2.1 k)) = 0
      · rw [if_neg n0, if_pos n1, if_pos n1]
        unfold jt j0
        simp only [Int64.mul_zero]
      · rw [if_neg n0, if_neg n1, if_neg n1, if_neg n0]
        unfold jt rd
        simp only [Int64.mul_one, Nat.add_zero]
  · show jt (fun j => pt ((if pt (320 * d + 4 * cn (X.2.1 k)) ≤ pt (320 * d + 4 * cn (X.2.2.1 k)) then 320 * d + 4 * cn (X.2.1 k) else 320 * d + 4 * cn (X.2.2.1 k)) + j)) = (if (dx_r1 X V k (er ce d)).1 ≤ (dx_r2 X V k (er ce d)).1 then dx_r1 X V k (er ce d) else dx_r2 X V k (er ce d))
    rw [r1 (by omega), r2 (by rw [hpr]; omega)]
    show _ = if pt (320 * d + 4 * cn (X.2.1 k)) ≤ pt (320 * d + 4 * cn (X.2.2.1 k)) then _ else _
    by_cases n0 : pt (320 * d + 4 * cn (X.2.1 k)) ≤ pt (320 * d + 4 * cn (X.2.2.1 k))
    · rw [if_pos n0, if_pos n0]; rfl
    · rw [if_neg n0, if_neg n0]; rfl
  · show jt (fun j => pt ((if pt (320 * d + 4 * cn (X.2.2.1 k)) ≤ pt (320 * d + 4 * cn (X.2.1 k)) then 320 * d + 4 * cn (X.2.1 k) else 320 * d + 4 * cn (X.2.2.1 k)) + j)) = (if (dx_r2 X V k (er ce d)).1 ≤ (dx_r1 X V k (er ce d)).1 then dx_r1 X V k (er ce d) else dx_r2 X V k (er ce d))
    rw [r1 (by omega), r2 (by rw [hpr]; omega)]
    show _ = if pt (320 * d + 4 * cn (X.2.2.1 k)) ≤ pt (320 * d + 4 * cn (X.2.1 k)) then _ else _
    by_cases n0 : pt (320 * d + 4 * cn (X.2.2.1 k)) ≤ pt (320 * d + 4 * cn (X.2.1 k))
    · rw [if_pos n0, if_pos n0]; rfl
    · rw [if_neg n0, if_neg n0]; rfl
  · obtain ⟨b, hb2, heb⟩ := hv10 rfl
    have hcb : cn (X.2.2.1 k) = b := by rw [heb, cn_nI (by omega)]
    rw [hcb]
    show rd ce (56 * d + 4 * (6 + 4 * b + pl (pt (320 * d + 4 * cn (X.2.1 k))))) = er ce d (6 + b * 4 + pl (dx_r1 X V k (er ce d)).1)
    rw [r1 (by omega)]
    show _ = er ce d (6 + b * 4 + pl (pt (320 * d + 4 * cn (X.2.1 k))))
    have hpl := pl_lt (pt (320 * d + 4 * cn (X.2.1 k)))
    unfold er
    rw [if_pos (by omega), show 6 + 4 * b + pl (pt (320 * d + 4 * cn (X.2.1 k))) = 6 + b * 4 + pl (pt (320 * d + 4 * cn (X.2.1 k))) by omega]
/-- what an expression needs -/
theorem Rx_kv {X : Ex} {C : Cs} (hX : ex_ok X) (hE : cEq X C) {p : Nat → Nat} {e : Nat} (he : e < X.2.2.2.2) (hk : kv C p e < 1000) {z : Nat} (h : Rx X (fun y => y = e) z) : z < X.2.2.2.2 ∧ z ≤ e ∧ kv C p z ≤ kv C p e ∧ ∀ g, g < 8 → 0 < C.2.1 (z * 8 + g) → 0 < C.2.1 (e * 8 + g) := by
  have sub : ∀ y, y < X.2.2.2.2 → kv C p y < 1000 → onL X y (kv C p) ≤ kv C p y ∧ onR X y (kv C p) ≤ kv C p y := fun y hy hky => by
    rw [kv_lt hX hE hy hky]; unfold kw
    have hge : onL X y (kv C p) + onR X y (kv C p) ≤ fac (cn (X.1 y)) (cn (X.2.2.1 y)) * (onL X y (kv C p) + onR X y (kv C p)) := Nat.le_mul_of_pos_left _ (fac_pos _ _)
    omega
  refine h (fun z => z < X.2.2.2.2 ∧ z ≤ e ∧ kv C p z ≤ kv C p e ∧ ∀ g, g < 8 → 0 < C.2.1 (z * 8 + g) → 0 < C.2.1 (e * 8 + g)) (fun y hy => by rw [hy]; exact ⟨he, Nat.le_refl _, Nat.le_refl _, fun _ _ => id⟩) ?_ ?_
  · intro y hy ⟨_, h1, h2, h3⟩ hL
    have := ex_L hX hy hL
    have h4 := (sub y hy (by omega)).1
    unfold onL at h4
    rw [if_pos hL] at h4
    exact ⟨by omega, by omega, by omega, fun g hg hp => h3 g hg ((nm_up hX hE hy hg).1 hL hp)⟩
  · intro y hy ⟨_, h1, h2, h3⟩ hR
    have := ex_R hX hy hR
    have h4 := (sub y hy (by omega)).2
    unfold onR at h4
    rw [if_pos hR] at h4
    exact ⟨by omega, by omega, by omega, fun g hg hp => h3 g hg ((nm_up hX hE hy hg).2 hR hp)⟩
/-- what is worked out below k -/
def EI (X : Ex) (V : Nat → Ev → Jt) (r : Ev) (d e k : Nat) (pt : Nat → Int64) : Prop := ∀ z, z < k → Rx X (fun y => y = e) z → rd pt (320 * d + 4 * z) = V z r
theorem evl_run {X : Ex} (hX : ex_ok X) {V : Nat → Ev → Jt} {en : Nat → Jt → Jt → Jt} {nd : Nat → Prop} {ce : Nat → Int64} {d e : Nat} (he : e < X.2.2.2.2) (hnd : ∀ z, z < 80 → (nd (80 * d + z) ↔ Rx X (fun y => y = e) z)) (hV : ∀ z, Rx X (fun y => y = e) z → z < X.2.2.2.2 ∧ V z (er ce d) = dx_ev X V en z (er ce d)) :
    ∀ u k pt, k + u = e + 1 → EI X V (er ce d) d e k pt → (∀ i, i < 320 * d → (evl X nd ce d e u k pt).2 i = pt i) ∧
      (((evl X nd ce d e u k pt).1 = none ∧ EI X V (er ce d) d e (e + 1) (evl X nd ce d e u k pt).2) ∨ ∃ q, (evl X nd ce d e u k pt).1 = some q ∧ k ≤ q ∧ q ≤ e ∧ Rx X (fun y => y = e) q ∧ cn (X.1 q) = 11 ∧ EI X V (er ce d) d e q (evl X nd ce d e u k pt).2)
  | 0, k, pt, hk, hI => by
    rw [evl]
    refine ⟨fun _ _ => rfl, Or.inl ⟨rfl, ?_⟩⟩
    rw [show e + 1 = k by omega]; exact hI
  | u + 1, k, pt, hk, hI => by
    have h80 := hX.1
    rw [evl]
    by_cases hn : nd (80 * d + k)
    · rw [if_pos hn]
      have hR := (hnd k (by omega)).mp hn
      by_cases h11 : cn (X.1 k) = 11
      · rw [if_pos h11]
        exact ⟨fun _ _ => rfl, Or.inr ⟨k, rfl, Nat.le_refl _, by omega, hR, h11, hI⟩⟩
      · rw [if_neg h11]
        obtain ⟨hkn, hVk⟩ := hV k hR
        have hj : jt (wk X pt ce d k) = V k (er ce d) := by
          rw [hVk]
          refine wk_dx hX hkn h11 (fun hL => ?_) (fun hR2 => ?_)
          · have := ex_L hX hkn hL
            exact hI _ this (fun R a b c => b k hkn (hR R a b c) hL)
          · have := ex_R hX hkn hR2
            exact hI _ this (fun R a b c => c k hkn (hR R a b c) hR2)
        have hI2 : EI X V (er ce d) d e (k + 1) (lp pt (320 * d + 4 * k) (wk X pt ce d k) 4) := fun z hz hRz => by
          by_cases ez : z = k
          · subst ez; rw [rd_lp]; exact hj
          · rw [rd_lo (by omega)]; exact hI z (by omega) hRz
        obtain ⟨g1, g2⟩ := evl_run hX (nd := nd) he hnd hV u (k + 1) _ (by omega) hI2
        refine ⟨fun i hi => ?_, ?_⟩
        · rw [g1 i hi, lp_o (by omega)]
        · rcases g2 with g2 | ⟨q, g3, g4, g5⟩
          · exact Or.inl g2
          · exact Or.inr ⟨q, g3, by omega, g5⟩
    · rw [if_neg hn]
      have hI2 : EI X V (er ce d) d e (k + 1) pt := fun z hz hRz => by
        by_cases ez : z = k
        · subst ez; exact absurd ((hnd z (by omega)).mpr hRz) hn
        · exact hI z (by omega) hRz
      obtain ⟨g1, g2⟩ := evl_run hX (nd := nd) he hnd hV u (k + 1) pt (by omega) hI2
      refine ⟨g1, ?_⟩
      rcases g2 with g2 | ⟨q, g3, g4, g5⟩
      · exact Or.inl g2
      · exact Or.inr ⟨q, g3, by omega, g5⟩
