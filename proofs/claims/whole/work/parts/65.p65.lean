theorem wf_kb {kd : Nat → Nat} {s : Nat} (hK : ∀ j, kd j ≤ 5) : wfK (kb kd s) s → wfK kd s := wf_loc (kb_le hK) (fun j hj => (kb_lt hj).symm)
theorem ps_kb {kd : Nat → Nat} {s k : Nat} (hk : k ≤ s) : ps (kb kd s) k = ps kd k := ps_loc k (fun j hj => kb_lt (by omega))
theorem fV_e {C : Cs} {p p2 : Nat → Nat} {kd : Nat → Nat} {op : Nat → Int32} {m : Nat} (h : ∀ i, i < 8 → p i = p2 i) : fV C p kd op m = fV C p2 kd op m :=
  Nat.le_antisymm (fV_mono (fun i hi => Nat.le_of_eq (h i hi)) m) (fV_mono (fun i hi => Nat.le_of_eq (h i hi).symm) m)
/-- a function that is put to good use: its body -/
def fn_ok (X : Ex) (B : Bd) : Prop := bdI B ∧ bd_ok X B ∧ rpt5 B.1 B.2.2.1 B.2.2.2.2.2.2.1
/-- the costs agree with the bodies -/
def CI (X : Ex) (C : Cs) (Bs : Nat → Bd) (o : Nat → Prop) : Prop := ex_ok X ∧ cEq X C ∧
  (∀ f, f < 8 → o f → fn_ok X (Bs f) ∧ C.2.2.2.1 f = fV C C.2.2.2.1 (Bs f).1 (Bs f).2.2.1 (Bs f).2.2.2.2.2.2.1 ∧ C.2.2.2.1 f ≤ 40) ∧
  (∀ f, f < 8 → ¬ o f → C.2.2.2.1 f = 0 ∧ ∀ g, g < 8 → C.2.2.1 (f * 8 + g) = 0) ∧
  (∀ f, f < 8 → o f → ∀ g, g < 8 → C.2.2.1 (f * 8 + g) = (if f = g then 1 else 0) + sm (fun h => fN C (Bs f).1 (Bs f).2.2.1 (Bs f).2.2.2.2.2.2.1 h * C.2.2.1 (h * 8 + g)) 8) ∧
  (∀ e, e < X.2.2.2.2 → ∀ i, i < 8 → 0 < C.2.1 (e * 8 + i) → o i)
section CI
variable {X : Ex} {C : Cs} {Bs : Nat → Bd} {o : Nat → Prop}
theorem fn_op {B : Bd} (hX : ex_ok X) (hB : fn_ok X B) {k : Nat} (hk : k < B.2.2.2.2.2.2.1) (h2 : B.1 k ≤ 2) : cn (B.2.2.1 k) < X.2.2.2.2 := by
  obtain ⟨e, he, hee⟩ := (hB.2.1.2.2 k hk).2.2.2.1 h2
  have := hX.1
  rw [hee, cn_nI (by omega)]; exact he
theorem fn_tk {B : Bd} (hB : fn_ok X B) {k : Nat} (hk : k ≤ B.2.2.2.2.2.2.1) : 1 ≤ tk B.1 B.2.2.1 k :=
  tk_pos hB.1.2.1 (wf_kb hB.1.2.1 hB.1.2.2.1) hB.2.2 hk
/-- who is called costs 5 less -/
theorem fN_5 (hX : ex_ok X) (hE : cEq X C) {B : Bd} (hB : fn_ok X B) {h : Nat} (h8 : h < 8) {p : Nat → Nat} (hp : 0 < fN C B.1 B.2.2.1 B.2.2.2.2.2.2.1 h) : p h + 5 ≤ fV C p B.1 B.2.2.1 B.2.2.2.2.2.2.1 := by
  obtain ⟨k, hk, h1⟩ := sm_pos _ hp
  have h2 : B.1 k ≤ 2 ∧ 0 < C.2.1 (cn (B.2.2.1 k) * 8 + h) := by
    by_cases h2 : B.1 k ≤ 2
    · refine ⟨h2, ?_⟩
      rcases Nat.eq_zero_or_pos (C.2.1 (cn (B.2.2.1 k) * 8 + h)) with z | z
      · unfold nm at h1; rw [if_pos h2, z, Nat.mul_zero] at h1; omega
      · exact z
    · unfold nm at h1; rw [if_neg h2, Nat.mul_zero] at h1; omega
  have he := fn_op hX hB hk h2.1
  have h3 := nm_3 hX hE h8 _ _ he he h2.2
  have h4 := kv_mem (C := C) (p := p) h8 h2.2
  have h5 := fV_mem (C := C) (p := p) (kd := B.1) (op := B.2.2.1) (m := B.2.2.2.2.2.2.1) k hk
  have h6 : 1 * ow C p B.1 B.2.2.1 k ≤ tk B.1 B.2.2.1 k * ow C p B.1 B.2.2.1 k := Nat.mul_le_mul_right _ (fn_tk hB (by omega))
  have h7 : ow C p B.1 B.2.2.1 k = 1 + kv C p (cn (B.2.2.1 k)) := if_pos h2.1
  omega
theorem fN_own (hC : CI X C Bs o) {f h : Nat} (hf : f < 8) (h8 : h < 8) (of : o f) (hp : 0 < fN C (Bs f).1 (Bs f).2.2.1 (Bs f).2.2.2.2.2.2.1 h) : o h ∧ C.2.2.2.1 h + 5 ≤ C.2.2.2.1 f := by
  obtain ⟨hX, hE, h1, h2, h3, h4⟩ := hC
  have hB := (h1 f hf of).1
  refine ⟨?_, by rw [(h1 f hf of).2.1]; exact fN_5 hX hE hB h8 hp⟩
  obtain ⟨k, hk, hk1⟩ := sm_pos _ hp
  unfold nm at hk1
  by_cases hk2 : (Bs f).1 k ≤ 2
  · rw [if_pos hk2] at hk1
    rcases Nat.eq_zero_or_pos (C.2.1 (cn ((Bs f).2.2.1 k) * 8 + h)) with z | z
    · rw [z, Nat.mul_zero] at hk1; omega
    · exact h4 _ (fn_op hX hB hk hk2) h h8 z
  · rw [if_neg hk2, Nat.mul_zero] at hk1; omega
theorem W_le (hC : CI X C Bs o) {g : Nat} (hg : g < 8) : ∀ n f, f < 8 → C.2.2.2.1 f ≤ n → C.2.2.1 (f * 8 + g) ≤ C.2.2.2.1 f
  | n, f, hf, hn => by
    by_cases of : o f
    · have h1 := (hC.2.2.1 f hf of).2.1
      have h2 := hC.2.2.2.2.1 f hf of g hg
      have h3 : fV C C.2.2.2.1 (Bs f).1 (Bs f).2.2.1 (Bs f).2.2.2.2.2.2.1 = fV C (fun _ => 0) (Bs f).1 (Bs f).2.2.1 (Bs f).2.2.2.2.2.2.1 + sm (fun h => fN C (Bs f).1 (Bs f).2.2.1 (Bs f).2.2.2.2.2.2.1 h * C.2.2.2.1 h) 8 := by
        have := fV_lin (C := C) (p := fun _ => 0) (w := C.2.2.2.1) (kd := (Bs f).1) (op := (Bs f).2.2.1) (c := 1) (Bs f).2.2.2.2.2.2.1
        rw [Nat.one_mul] at this
        rw [← this]
        exact fV_e (fun i _ => by omega)
      have h4 : 1 ≤ fV C (fun _ => 0) (Bs f).1 (Bs f).2.2.1 (Bs f).2.2.2.2.2.2.1 := Nat.le_add_right _ _
      have h5 : sm (fun h => fN C (Bs f).1 (Bs f).2.2.1 (Bs f).2.2.2.2.2.2.1 h * C.2.2.1 (h * 8 + g)) 8 ≤ sm (fun h => fN C (Bs f).1 (Bs f).2.2.1 (Bs f).2.2.2.2.2.2.1 h * C.2.2.2.1 h) 8 := by
        refine sm_le 8 (fun h h8 => ?_)
        rcases Nat.eq_zero_or_pos (fN C (Bs f).1 (Bs f).2.2.1 (Bs f).2.2.2.2.2.2.1 h) with z | z
        · show _ * _ ≤ _ * _
          rw [z, Nat.zero_mul, Nat.zero_mul]; exact Nat.le_refl _
        · have h6 := (fN_own hC hf h8 of z).2
          cases n with
          | zero => omega
          | succ n => exact Nat.mul_le_mul_left _ (W_le hC hg n h h8 (by omega))
      have h7 : (if f = g then 1 else 0) ≤ 1 := by split <;> omega
      omega
    · rw [(hC.2.2.2.1 f hf of).2 g hg]; exact Nat.zero_le _
theorem pth_front {E : Nat → Nat → Prop} : ∀ m f z, pth E (m + 1) f z ↔ ∃ y, E f y ∧ pth E m y z
  | 0, f, z => ⟨fun ⟨y, h1, h2⟩ => ⟨z, by rw [show f = y from h1]; exact h2, rfl⟩, fun ⟨y, h1, h2⟩ => ⟨f, rfl, by rw [← show y = z from h2]; exact h1⟩⟩
  | m + 1, f, z => by
    constructor
    · intro ⟨y, h1, h2⟩
      obtain ⟨x, h3, h4⟩ := (pth_front m f y).mp h1
      exact ⟨x, h3, y, h4, h2⟩
    · intro ⟨y, h1, x, h2, h3⟩
      exact ⟨x, (pth_front m f x).mpr ⟨y, h1, h2⟩, h3⟩
theorem W_pth (hC : CI X C Bs o) {E : Nat → Nat → Prop} (hE : ∀ f z, f < 8 → z < 8 → o f → 0 < fN C (Bs f).1 (Bs f).2.2.1 (Bs f).2.2.2.2.2.2.1 z → E f z) {g : Nat} (hg : g < 8) : ∀ n f, f < 8 → C.2.2.2.1 f ≤ n → 0 < C.2.2.1 (f * 8 + g) → ∃ m, pth E m f g ∧ 5 * m + C.2.2.2.1 g ≤ C.2.2.2.1 f
  | n, f, hf, hn, hp => by
    by_cases of : o f
    · by_cases e : f = g
      · exact ⟨0, e, by rw [e]; omega⟩
      · rw [hC.2.2.2.2.1 f hf of g hg, if_neg e, Nat.zero_add] at hp
        obtain ⟨h, h8, hh⟩ := sm_pos _ hp
        have z : 0 < fN C (Bs f).1 (Bs f).2.2.1 (Bs f).2.2.2.2.2.2.1 h := Nat.pos_of_ne_zero (fun y => by rw [y, Nat.zero_mul] at hh; omega)
        have z2 : 0 < C.2.2.1 (h * 8 + g) := Nat.pos_of_ne_zero (fun y => by rw [y, Nat.mul_zero] at hh; omega)
        have h6 := (fN_own hC hf h8 of z).2
        cases n with
        | zero => omega
        | succ n =>
          obtain ⟨m, h7, h9⟩ := W_pth hC hE hg n h h8 (by omega) z2
          exact ⟨m + 1, (pth_front m f g).mpr ⟨h, hE f h hf h8 of z, h7⟩, by omega⟩
    · rw [(hC.2.2.2.1 f hf of).2 g hg] at hp; omega
theorem pth_W (hC : CI X C Bs o) {E : Nat → Nat → Prop} (hE : ∀ f z, f < 8 → o f → E f z → z < 8 ∧ 0 < fN C (Bs f).1 (Bs f).2.2.1 (Bs f).2.2.2.2.2.2.1 z) : ∀ m f g, f < 8 → o f → pth E m f g → g < 8 ∧ 0 < C.2.2.1 (f * 8 + g) ∧ 5 * m + C.2.2.2.1 g ≤ C.2.2.2.1 f
  | 0, f, g, hf, of, hp => by
    have hp' : f = g := hp
    subst hp'
    rw [hC.2.2.2.2.1 f hf of f hf, if_pos rfl]; omega
  | m + 1, f, g, hf, of, hp => by
    obtain ⟨y, h1, h2⟩ := (pth_front m f g).mp hp
    obtain ⟨h3, h4⟩ := hE f y hf of h1
    obtain ⟨h5, h6⟩ := fN_own hC hf h3 of h4
    obtain ⟨h7, h8, h9⟩ := pth_W hC hE m y g h3 h5 h2
    refine ⟨h7, ?_, by omega⟩
    rw [hC.2.2.2.2.1 f hf of g h7]
    have := sm_mem (g := fun h => fN C (Bs f).1 (Bs f).2.2.1 (Bs f).2.2.2.2.2.2.1 h * C.2.2.1 (h * 8 + g)) 8 y h3
    have h10 : 0 < fN C (Bs f).1 (Bs f).2.2.1 (Bs f).2.2.2.2.2.2.1 y * C.2.2.1 (y * 8 + g) := Nat.mul_pos h4 h8
    have h11 : fN C (Bs f).1 (Bs f).2.2.1 (Bs f).2.2.2.2.2.2.1 y * C.2.2.1 (y * 8 + g) ≤ sm (fun h => fN C (Bs f).1 (Bs f).2.2.1 (Bs f).2.2.2.2.2.2.1 h * C.2.2.1 (h * 8 + g)) 8 := this
    omega
/-- which functions an expression calls -/
theorem Rx_1 {S : Nat → Prop} {e : Nat} : Rx X S e ↔ ∃ z, S z ∧ Rx X (fun y => y = z) e := by
  constructor
  · intro h
    refine h (fun x => ∃ z, S z ∧ Rx X (fun y => y = z) x) (fun z hz => ⟨z, hz, fun R h1 _ _ => h1 z rfl⟩) ?_ ?_
    · intro z hz ⟨y, h1, h2⟩ h3
      exact ⟨y, h1, fun R a b c => b z hz (h2 R a b c) h3⟩
    · intro z hz ⟨y, h1, h2⟩ h3
      exact ⟨y, h1, fun R a b c => c z hz (h2 R a b c) h3⟩
  · intro ⟨z, h1, h2⟩ R a b c
    exact h2 R (fun y hy => by rw [hy]; exact a z h1) b c
theorem min_pos {a : Nat} : 0 < min 1000 a ↔ 0 < a := by omega
theorem nm_Rx (hX : ex_ok X) (hE : cEq X C) {i : Nat} (hi : i < 8) : ∀ n e, e < n → e < X.2.2.2.2 → (0 < C.2.1 (e * 8 + i) ↔ ∃ z, z < X.2.2.2.2 ∧ Rx X (fun y => y = e) z ∧ cn (X.1 z) = 11 ∧ cn (X.2.2.2.1 z) = i)
  | 0, e, h0, _ => absurd h0 (by omega)
  | n + 1, e, h0, he => by
    have ih := nm_Rx hX hE hi n
    constructor
    · intro hp
      rw [(hE e he).2 i hi, min_pos] at hp
      by_cases h11 : cn (X.1 e) = 11 ∧ i = cn (X.2.2.2.1 e)
      · exact ⟨e, he, fun R a _ _ => a e rfl, h11.1, h11.2.symm⟩
      · rw [if_neg h11, Nat.add_zero] at hp
        have hq : 0 < onL X e (fun a => C.2.1 (a * 8 + i)) + onR X e (fun a => C.2.1 (a * 8 + i)) := Nat.pos_of_ne_zero (fun z => by rw [z, Nat.mul_zero] at hp; omega)
        rcases (show 0 < onL X e (fun a => C.2.1 (a * 8 + i)) ∨ 0 < onR X e (fun a => C.2.1 (a * 8 + i)) by omega) with z | z
        · unfold onL at z
          by_cases hL : 2 ≤ cn (X.1 e)
          · rw [if_pos hL] at z
            have a := ex_L hX he hL
            obtain ⟨y, y1, y2, y3⟩ := (ih _ (by omega) (by omega)).mp z
            exact ⟨y, y1, fun R a b c => y2 R (fun x hx => by rw [hx]; exact b e he (a e rfl) hL) b c, y3⟩
          · rw [if_neg hL] at z; omega
        · unfold onR at z
          by_cases hR : px_R (cn (X.1 e))
          · rw [if_pos hR] at z
            have a := ex_R hX he hR
            obtain ⟨y, y1, y2, y3⟩ := (ih _ (by omega) (by omega)).mp z
            exact ⟨y, y1, fun R a b c => y2 R (fun x hx => by rw [hx]; exact c e he (a e rfl) hR) b c, y3⟩
          · rw [if_neg hR] at z; omega
    · intro ⟨z, z1, z2, z3, z4⟩
      have key := z2 (fun x => x < X.2.2.2.2 ∧ (0 < C.2.1 (x * 8 + i) → 0 < C.2.1 (e * 8 + i))) (fun x hx => by rw [hx]; exact ⟨he, id⟩) ?_ ?_
      · refine key.2 ?_
        rw [(hE z z1).2 i hi, min_pos, if_pos ⟨z3, z4.symm⟩]; omega
      · intro x hx ⟨_, h1⟩ hL
        have a := ex_L hX hx hL
        refine ⟨by omega, fun h2 => h1 ?_⟩
        rw [(hE x hx).2 i hi, min_pos]
        have : 0 < fac (cn (X.1 x)) (cn (X.2.2.1 x)) * (onL X x (fun a => C.2.1 (a * 8 + i)) + onR X x (fun a => C.2.1 (a * 8 + i))) := by
          refine Nat.mul_pos (fac_pos _ _) ?_
          unfold onL; rw [if_pos hL]
          exact Nat.lt_of_lt_of_le h2 (Nat.le_add_right _ _)
        omega
      · intro x hx ⟨_, h1⟩ hR
        have a := ex_R hX hx hR
        refine ⟨by omega, fun h2 => h1 ?_⟩
        rw [(hE x hx).2 i hi, min_pos]
        have : 0 < fac (cn (X.1 x)) (cn (X.2.2.1 x)) * (onL X x (fun a => C.2.1 (a * 8 + i)) + onR X x (fun a => C.2.1 (a * 8 + i))) := by
          refine Nat.mul_pos (fac_pos _ _) ?_
          unfold onR; rw [if_pos hR]
          exact Nat.lt_of_lt_of_le h2 (Nat.le_add_left _ _)
        omega
theorem Dr_fN (hX : ex_ok X) (hE : cEq X C) {sk sz : Nat → Nat} {sb : Nat → Int32} {f : Nat} {B : Bd} (hB : fn_ok X B) (hs : sz f = B.2.2.2.2.2.2.1)
    (hsk : ∀ k, k < sz f → sk (12 * f + k) = B.1 k ∧ sb (12 * f + k) = B.2.2.1 k) {z : Nat} (hz : z < 8) : Dr X sk sb sz f z ↔ 0 < fN C B.1 B.2.2.1 B.2.2.2.2.2.2.1 z := by
  constructor
  · intro ⟨e, he, hR, h11, hc⟩
    obtain ⟨y, ⟨k, hk, hk2, hky⟩, hRy⟩ := Rx_1.mp hR
    rw [(hsk k hk).1] at hk2
    rw [(hsk k hk).2] at hky
    have hk' : k < B.2.2.2.2.2.2.1 := by omega
    have hlt := fn_op hX hB hk' hk2
    rw [hky] at hlt
    have hp := (nm_Rx hX hE hz _ y hlt hlt).mpr ⟨e, he, hRy, h11, hc⟩
    have h1 := sm_mem (g := fun k => tk B.1 B.2.2.1 k * nm C B.1 B.2.2.1 z k) B.2.2.2.2.2.2.1 k hk'
    have h2 : 0 < tk B.1 B.2.2.1 k * nm C B.1 B.2.2.1 z k := by
      refine Nat.mul_pos (fn_tk hB (by omega)) ?_
      unfold nm; rw [if_pos hk2, hky]; exact hp
    exact Nat.lt_of_lt_of_le h2 h1
  · intro hp
    obtain ⟨k, hk, h1⟩ := sm_pos _ hp
    unfold nm at h1
    by_cases h2 : B.1 k ≤ 2
    · rw [if_pos h2] at h1
      have hlt := fn_op hX hB hk h2
      have hq : 0 < C.2.1 (cn (B.2.2.1 k) * 8 + z) := Nat.pos_of_ne_zero (fun y => by rw [y, Nat.mul_zero] at h1; omega)
      obtain ⟨e, e1, e2, e3, e4⟩ := (nm_Rx hX hE hz _ _ hlt hlt).mp hq
      refine ⟨e, e1, Rx_1.mpr ⟨cn (B.2.2.1 k), ⟨k, by omega, ?_, ?_⟩, e2⟩, e3, e4⟩
      · rw [(hsk k (by omega)).1]; exact h2
      · rw [(hsk k (by omega)).2]
    · rw [if_neg h2, Nat.mul_zero] at h1; omega
end CI
