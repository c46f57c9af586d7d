section SLP
variable {p1 p2 : Nat} {T : Tr} {J : Nat → Jt}
theorem sl_J (h : JT p1 p2 T J) {b : Nat} (hb : b ≤ 1) (d : Jt → Int64) (f : Nat → Int64)
    (d0 : ∀ i v, d (jlf p1 p2 i v) = if i = 1 + b then 1 else 0) (da : ∀ x y, d (jadd x y) = d x + d y) (ds : ∀ x y, d (jsub x y) = d x - d y) (dm : ∀ x y, d (jmul x y) = x.1 * d y + d x * y.1) :
    ∀ m, m ≤ T.2.2.2.2 → ∀ i, i < m → tr_sl T b f m i = d (J i)
  | 0, _, i, hi => absurd hi (by omega)
  | m + 1, hm, i, hi => by
    have ih := sl_J h hb d f d0 da ds dm m (by omega)
    rw [tr_sl]
    by_cases e : i = m
    · subst e
      rw [pk_uLs]
      obtain ⟨a1, a2, a3, a4, a5, a6, a7, a8, a9⟩ := h.2.2.2.2 i (by omega)
      unfold tr_part
      by_cases k0 : T.1 i = 0
      · rw [a5 k0, d0, if_neg (show ¬ T.1 i = 1 by omega), if_neg (show ¬ T.1 i = 2 by omega), if_neg (show ¬ T.1 i = 3 by omega)]
      · have hi3 : ¬ i < 3 := fun z => k0 (h.2.2.2.1 i z)
        rw [if_neg (show ¬ i = 1 + b by omega)]
        obtain ⟨l1, l2⟩ := a6 k0
        rw [ih _ l1, ih _ l2, (h.2.2.2.2 _ (show T.2.1 i < T.2.2.2.2 by omega)).1, (h.2.2.2.2 _ (show T.2.2.1 i < T.2.2.2.2 by omega)).1]
        by_cases k1 : T.1 i = 1
        · rw [if_pos k1, a7 k1, da]
        · by_cases k2 : T.1 i = 2
          · rw [if_neg k1, if_pos k2, a8 k2, ds]
          · have k3 : T.1 i = 3 := by omega
            rw [if_neg k1, if_neg k2, if_pos k3, a9 k3, dm, Int64.add_comm]
    · rw [pk_uLn e]; exact ih i (by omega)
theorem sl_1 (h : JT p1 p2 T J) (hb : p1 ≤ 1) (f : Nat → Int64) {i : Nat} (hi : i < T.2.2.2.2) : tr_sl T p1 f T.2.2.2.2 i = (J i).2.1 :=
  sl_J h hb (fun j => j.2.1) f (fun _ _ => rfl) (fun _ _ => rfl) (fun _ _ => rfl) (fun _ _ => rfl) _ (Nat.le_refl _) i hi
theorem sl_2 (h : JT p1 p2 T J) (hb : p2 ≤ 1) (f : Nat → Int64) {i : Nat} (hi : i < T.2.2.2.2) : tr_sl T p2 f T.2.2.2.2 i = (J i).2.2.1 :=
  sl_J h hb (fun j => j.2.2.1) f (fun _ _ => rfl) (fun _ _ => rfl) (fun _ _ => rfl) (fun _ _ => rfl) _ (Nat.le_refl _) i hi
theorem mx_J (h : JT p1 p2 T J) {g1 g2 : Nat → Int64} (h1 : ∀ i, i < T.2.2.2.2 → g1 i = (J i).2.1) (h2 : ∀ i, i < T.2.2.2.2 → g2 i = (J i).2.2.1) (f : Nat → Int64) : ∀ m, m ≤ T.2.2.2.2 → ∀ i, i < m → tr_mx T g1 g2 f m i = (J i).2.2.2
  | 0, _, i, hi => absurd hi (by omega)
  | m + 1, hm, i, hi => by
    have ih := mx_J h h1 h2 f m (by omega)
    rw [tr_mx]
    by_cases e : i = m
    · subst e
      rw [pk_uLs]
      obtain ⟨a1, a2, a3, a4, a5, a6, a7, a8, a9⟩ := h.2.2.2.2 i (by omega)
      unfold tr_part
      by_cases k0 : T.1 i = 0
      · rw [a5 k0, if_neg (show ¬ T.1 i = 3 by omega), if_neg (show ¬ T.1 i = 1 by omega), if_neg (show ¬ T.1 i = 2 by omega), if_neg (show ¬ T.1 i = 3 by omega)]; rfl
      · obtain ⟨l1, l2⟩ := a6 k0
        rw [ih _ l1, ih _ l2, (h.2.2.2.2 _ (show T.2.1 i < T.2.2.2.2 by omega)).1, (h.2.2.2.2 _ (show T.2.2.1 i < T.2.2.2.2 by omega)).1, h1 _ (show T.2.1 i < T.2.2.2.2 by omega), h1 _ (show T.2.2.1 i < T.2.2.2.2 by omega), h2 _ (show T.2.1 i < T.2.2.2.2 by omega), h2 _ (show T.2.2.1 i < T.2.2.2.2 by omega)]
        by_cases k1 : T.1 i = 1
        · rw [if_neg (show ¬ T.1 i = 3 by omega), if_pos k1, a7 k1]; rfl
        · by_cases k2 : T.1 i = 2
          · rw [if_neg (show ¬ T.1 i = 3 by omega), if_neg k1, if_pos k2, a8 k2]; rfl
          · have k3 : T.1 i = 3 := by omega
            rw [if_pos k3, if_neg k1, if_neg k2, if_pos k3, a9 k3]
            show _ = _ * _ + _ * _ + _ * _ + _ * _
            generalize (J (T.2.1 i)).1 = q1
            generalize (J (T.2.1 i)).2.1 = q2
            generalize (J (T.2.1 i)).2.2.1 = q3
            generalize (J (T.2.1 i)).2.2.2 = q4
            generalize (J (T.2.2.1 i)).1 = r1
            generalize (J (T.2.2.1 i)).2.1 = r2
            generalize (J (T.2.2.1 i)).2.2.1 = r3
            generalize (J (T.2.2.1 i)).2.2.2 = r4
            grind
    · rw [pk_uLn e]; exact ih i (by omega)
/-- sums of shares -/
def sL (h D : Nat → Int64) : Nat → Int64
  | 0 => 0
  | n + 1 => sL h D n + h n * D n
theorem sL_up {h D : Nat → Int64} {l : Nat} {v : Int64} : ∀ n, sL (vp_updL h l v) D n = sL h D n + if l < n then (v - h l) * D l else 0
  | 0 => by rw [sL, sL, if_neg (by omega)]; rfl
  | n + 1 => by
    rw [sL, sL, sL_up n]
    by_cases e : n = l
    · subst e; rw [pk_uLs, if_neg (by omega), if_pos (by omega)]
      generalize sL h D n = a
      generalize h n = b
      generalize D n = c
      grind
    · rw [pk_uLn e]
      by_cases e2 : l < n
      · rw [if_pos e2, if_pos (by omega)]
        generalize sL h D n = a
        generalize (v - h l) * D l = b
        generalize h n * D n = c
        grind
      · rw [if_neg e2, if_neg (by omega)]
        generalize sL h D n = a
        generalize h n * D n = c
        grind
theorem sL_0 {h D : Nat → Int64} : ∀ n, (∀ i, i < n → h i = 0) → sL h D n = 0
  | 0, _ => rfl
  | n + 1, z => by rw [sL, sL_0 n (fun i hi => z i (by omega)), z n (by omega), Int64.zero_mul]; rfl
theorem b1_sL (h : JT p1 p2 T J) (hb : p1 ≤ 1) {j : Nat} (hj : j < T.2.2.2.2) (s : Nat → Int64) :
    sL (tr_b1 T j s) (fun i => (J i).2.1) j + (if j ≤ 1 + p1 then tr_b1 T j s (1 + p1) else 0) = sL s (fun i => (J i).2.1) (j + 1) + (if j + 1 ≤ 1 + p1 then s (1 + p1) else 0) := by
  obtain ⟨a1, a2, a3, a4, a5, a6, a7, a8, a9⟩ := h.2.2.2.2 j hj
  rw [sL]
  by_cases k0 : T.1 j = 0
  · have hb1 : tr_b1 T j s = s := by unfold tr_b1; rw [if_neg (by omega), if_neg (by omega), if_neg (by omega)]
    rw [hb1]
    have hD : (J j).2.1 = if j = 1 + p1 then 1 else 0 := by rw [a5 k0]; rfl
    rw [hD]
    rcases (show j < 1 + p1 ∨ j = 1 + p1 ∨ 1 + p1 < j by omega) with z | z | z
    · rw [if_pos (show j ≤ 1 + p1 by omega), if_pos (show j + 1 ≤ 1 + p1 by omega), if_neg (show ¬ j = 1 + p1 by omega), Int64.mul_zero, Int64.add_zero]
    · subst z; rw [if_pos (show 1 + p1 ≤ 1 + p1 by omega), if_pos (show 1 + p1 = 1 + p1 from rfl), if_neg (show ¬ 1 + p1 + 1 ≤ 1 + p1 by omega), Int64.mul_one, Int64.add_zero]
    · rw [if_neg (show ¬ j ≤ 1 + p1 by omega), if_neg (show ¬ j = 1 + p1 by omega), if_neg (show ¬ j + 1 ≤ 1 + p1 by omega), Int64.mul_zero, Int64.add_zero, Int64.add_zero]
  · have hj3 : ¬ j < 3 := fun z => k0 (h.2.2.2.1 j z)
    obtain ⟨l1, l2⟩ := a6 k0
    rw [if_neg (show ¬ j ≤ 1 + p1 by omega), if_neg (show ¬ j + 1 ≤ 1 + p1 by omega), Int64.add_zero, Int64.add_zero]
    have hvl := (h.2.2.2.2 _ (show T.2.1 j < T.2.2.2.2 by omega)).1
    have hvr := (h.2.2.2.2 _ (show T.2.2.1 j < T.2.2.2.2 by omega)).1
    unfold tr_b1
    by_cases k1 : T.1 j = 1
    · rw [if_pos k1, sL_up, sL_up, if_pos l1, if_pos l2, a7 k1, pk_uLn (show j ≠ T.2.1 j by omega)]
      show _ = _ + s j * ((J (T.2.1 j)).2.1 + (J (T.2.2.1 j)).2.1)
      generalize sL s (fun i => (J i).2.1) j = q
      generalize vp_updL s (T.2.1 j) (s (T.2.1 j) + s j) (T.2.2.1 j) = u
      generalize (J (T.2.1 j)).2.1 = dl
      generalize (J (T.2.2.1 j)).2.1 = dr
      generalize s (T.2.1 j) = sl
      generalize s j = sj
      grind
    · by_cases k2 : T.1 j = 2
      · rw [if_neg k1, if_pos k2, sL_up, sL_up, if_pos l1, if_pos l2, a8 k2, pk_uLn (show j ≠ T.2.1 j by omega)]
        show _ = _ + s j * ((J (T.2.1 j)).2.1 - (J (T.2.2.1 j)).2.1)
        generalize sL s (fun i => (J i).2.1) j = q
        generalize vp_updL s (T.2.1 j) (s (T.2.1 j) + s j) (T.2.2.1 j) = u
        generalize (J (T.2.1 j)).2.1 = dl
        generalize (J (T.2.2.1 j)).2.1 = dr
        generalize s (T.2.1 j) = sl
        generalize s j = sj
        grind
      · have k3 : T.1 j = 3 := by omega
        rw [if_neg k1, if_neg k2, if_pos k3, sL_up, sL_up, if_pos l1, if_pos l2, a9 k3, pk_uLn (show j ≠ T.2.1 j by omega), hvl, hvr]
        show _ = _ + s j * ((J (T.2.1 j)).1 * (J (T.2.2.1 j)).2.1 + (J (T.2.1 j)).2.1 * (J (T.2.2.1 j)).1)
        generalize sL s (fun i => (J i).2.1) j = q
        generalize vp_updL s (T.2.1 j) (s (T.2.1 j) + s j * (J (T.2.2.1 j)).1) (T.2.2.1 j) = u
        generalize (J (T.2.1 j)).2.1 = dl
        generalize (J (T.2.2.1 j)).2.1 = dr
        generalize (J (T.2.1 j)).1 = vl
        generalize (J (T.2.2.1 j)).1 = vr
        generalize s (T.2.1 j) = sl
        generalize s j = sj
        grind
theorem bk_sL (h : JT p1 p2 T J) (hb : p1 ≤ 1) : ∀ m, m ≤ T.2.2.2.2 → ∀ s, tr_bk T m s (1 + p1) = sL s (fun i => (J i).2.1) m + (if m ≤ 1 + p1 then s (1 + p1) else 0)
  | 0, _, s => by rw [tr_bk, sL, if_pos (by omega), Int64.zero_add]
  | m + 1, hm, s => by rw [tr_bk, bk_sL h hb m (by omega), b1_sL h hb (by omega)]
/-- backwards is forwards -/
theorem bk_J (h : JT p1 p2 T J) (hb : p1 ≤ 1) (f4 : Nat → Int64) {i : Nat} (hi : i < T.2.2.2.2) : tr_bk T T.2.2.2.2 (vp_updL (gf_L f4 0 64) i 1) (1 + p1) = (J i).2.1 := by
  have hn := h.2.1
  have h3 := h.1
  have hz : ∀ j, j < 64 → gf_L f4 0 64 j = 0 := fun j hj => by unfold gf_L; rw [if_pos hj]
  rw [bk_sL h hb _ (Nat.le_refl _), if_neg (by omega), Int64.add_zero, sL_up, if_pos hi, sL_0 _ (fun j hj => hz j (by omega)), hz i (by omega)]
  show 0 + (1 - 0) * (J i).2.1 = _
  rw [show ((1 : Int64) - 0) = 1 from rfl, Int64.one_mul, Int64.zero_add]
theorem jt_tr (h : JT p1 p2 T J) : tr_ok T := ⟨h.2.1, h.1, fun i hi => ⟨(h.2.2.2.2 i hi).2.1, (h.2.2.2.2 i hi).2.2.1, (h.2.2.2.2 i hi).2.2.2.1⟩⟩
end SLP
