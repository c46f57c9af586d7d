/-- how many times statement k is done -/
def tk (kd : Nat → Nat) (op : Nat → Int32) (k : Nat) : Nat := tp kd (fun j => cn (op j)) (ps kd k)
/-- what statement k costs once -/
def ow (C : Cs) (p : Nat → Nat) (kd : Nat → Nat) (op : Nat → Int32) (k : Nat) : Nat := if kd k ≤ 2 then 1 + kv C p (cn (op k)) else if kd k = 4 then 1 else 0
def nm (C : Cs) (kd : Nat → Nat) (op : Nat → Int32) (i k : Nat) : Nat := if kd k ≤ 2 then C.2.1 (cn (op k) * 8 + i) else 0
def fV (C : Cs) (p : Nat → Nat) (kd : Nat → Nat) (op : Nat → Int32) (m : Nat) : Nat := 1 + sm (fun k => tk kd op k * ow C p kd op k) m
def fN (C : Cs) (kd : Nat → Nat) (op : Nat → Int32) (m i : Nat) : Nat := sm (fun k => tk kd op k * nm C kd op i k) m
/-- REPEATs do at least once, at most 5 times -/
def rpt5 (kd : Nat → Nat) (op : Nat → Int32) (s : Nat) : Prop := ∀ j, j < s → kd j = 4 → 1 ≤ cn (op j) ∧ cn (op j) ≤ 5
section FV
variable {C : Cs} {p p2 w : Nat → Nat} {kd : Nat → Nat} {op : Nat → Int32} {m s : Nat}
theorem ps_lt2 (h : ∀ j, kd j ≤ 5) {k : Nat} (hw : wfK kd k) {q : Nat × Nat} (hq : q ∈ ps kd k) : q.2 < k := by
  obtain ⟨d, hd⟩ := List.getElem?_of_mem hq
  have := (ps_at h hw hd).1
  exact Nat.lt_of_le_of_lt this.1 this.2.1
theorem tp_pos2 {K g : Nat → Nat} : ∀ l : List (Nat × Nat), (∀ q, q ∈ l → K q.2 = 4 → 1 ≤ g q.2) → 1 ≤ tp K g l
  | [], _ => Nat.le_refl _
  | q :: r, h => by
    rw [tp]
    refine Nat.mul_pos (tp_pos2 r (fun z hz => h z (List.mem_cons_of_mem _ hz))) ?_
    split
    · rename_i h2; exact h q List.mem_cons_self h2
    · decide
theorem tk_pos (h : ∀ j, kd j ≤ 5) (hw : wfK kd s) (h5 : rpt5 kd op s) {k : Nat} (hk : k ≤ s) : 1 ≤ tk kd op k :=
  tp_pos2 _ (fun q hq h4 => (h5 q.2 (Nat.lt_of_lt_of_le (ps_lt2 h (fun i hi => hw i (by omega)) hq) hk) h4).1)
/-- it is linear in what functions cost -/
theorem kv_lin {e c : Nat} : kv C (fun x => p x + c * w x) e = kv C p e + c * sm (fun h => C.2.1 (e * 8 + h) * w h) 8 := by
  unfold kv
  rw [← sm_mul, Nat.add_assoc, ← sm_add]
  congr 1
  exact sm_e 8 (fun i _ => by rw [Nat.mul_add, Nat.mul_left_comm])
theorem fV_lin {c : Nat} : ∀ m, fV C (fun x => p x + c * w x) kd op m = fV C p kd op m + c * sm (fun h => fN C kd op m h * w h) 8
  | 0 => by
    rw [sm_0 8 (fun h _ => by rw [fN, sm, Nat.zero_mul])]; rfl
  | m + 1 => by
    have ih := fV_lin (c := c) m
    unfold fV at ih ⊢
    rw [sm, sm, ← Nat.add_assoc, ih]
    have e1 : sm (fun h => fN C kd op (m + 1) h * w h) 8 = sm (fun h => fN C kd op m h * w h) 8 + sm (fun h => tk kd op m * nm C kd op h m * w h) 8 := by
      rw [← sm_add]; exact sm_e 8 (fun i _ => by rw [fN, sm, Nat.add_mul]; rfl)
    have e2 : tk kd op m * ow C (fun x => p x + c * w x) kd op m = tk kd op m * ow C p kd op m + c * sm (fun h => tk kd op m * nm C kd op h m * w h) 8 := by
      unfold ow nm
      by_cases h : kd m ≤ 2
      · rw [if_pos h, if_pos h, kv_lin, ← Nat.add_assoc, Nat.mul_add, Nat.mul_left_comm, ← sm_mul (c := tk kd op m)]
        congr 2
        exact sm_e 8 (fun i _ => by rw [if_pos h, Nat.mul_assoc])
      · rw [if_neg h, if_neg h, sm_0 8 (fun i _ => by rw [if_neg h, Nat.mul_zero, Nat.zero_mul]), Nat.mul_zero, Nat.add_zero]
    rw [e1, e2, Nat.mul_add]; omega
theorem kv_mono {e : Nat} (h : ∀ i, i < 8 → p i ≤ p2 i) : kv C p e ≤ kv C p2 e := by
  unfold kv
  have := sm_le (g := fun i => C.2.1 (e * 8 + i) * p i) (h := fun i => C.2.1 (e * 8 + i) * p2 i) 8 (fun i hi => Nat.mul_le_mul_left _ (h i hi))
  omega
theorem ow_mono (h : ∀ i, i < 8 → p i ≤ p2 i) (k : Nat) : ow C p kd op k ≤ ow C p2 kd op k := by
  unfold ow
  split
  · have := kv_mono (C := C) (e := cn (op k)) h; omega
  · exact Nat.le_refl _
theorem fV_mono (h : ∀ i, i < 8 → p i ≤ p2 i) (m : Nat) : fV C p kd op m ≤ fV C p2 kd op m := by
  unfold fV
  have := sm_le (g := fun k => tk kd op k * ow C p kd op k) (h := fun k => tk kd op k * ow C p2 kd op k) m (fun i _ => Nat.mul_le_mul_left _ (ow_mono h i))
  omega
theorem fV_mem (k : Nat) (hk : k < m) : 1 + tk kd op k * ow C p kd op k ≤ fV C p kd op m := by
  unfold fV
  have := sm_mem (g := fun k => tk kd op k * ow C p kd op k) m k hk
  omega
theorem kv_mem {e i : Nat} (hi : i < 8) (h : 0 < C.2.1 (e * 8 + i)) : C.1 e + p i ≤ kv C p e := by
  unfold kv
  have := sm_mem (g := fun i => C.2.1 (e * 8 + i) * p i) 8 i hi
  have h2 : 1 * p i ≤ C.2.1 (e * 8 + i) * p i := Nat.mul_le_mul_right _ h
  have h3 : C.2.1 (e * 8 + i) * p i ≤ sm (fun i => C.2.1 (e * 8 + i) * p i) 8 := this
  omega
/-- no statement is done more than 200 times -/
theorem tk_200 (h : ∀ j, kd j ≤ 5) (hw : wfK kd s) (h5 : rpt5 kd op s) (hV : fV C p kd op s ≤ 40) {k : Nat} (hk : k ≤ s) : tk kd op k ≤ 200 := by
  unfold tk
  cases hp : ps kd k with
  | nil => exact (by decide : 1 ≤ 200)
  | cons q r =>
    have hwk : wfK kd k := fun i hi => hw i (by omega)
    obtain ⟨hq, hr⟩ := ps_at h hwk (d := 0) (q := q) (by rw [hp]; rfl)
    rw [hp] at hr
    have hr' : r = ps kd q.2 := hr
    have hlt : q.2 < k := Nat.lt_of_le_of_lt hq.1 hq.2.1
    have h1 := fV_mem (C := C) (p := p) (kd := kd) (op := op) (m := s) q.2 (by omega)
    have h2 : 1 ≤ ow C p kd op q.2 := by
      unfold ow
      have ho : kd q.2 = 2 ∨ kd q.2 = 4 := hq.2.2.1
      rcases ho with ho | ho
      · rw [if_pos (by omega)]; omega
      · rw [if_neg (by omega), if_pos ho]; omega
    have h3 : tk kd op q.2 * 1 ≤ tk kd op q.2 * ow C p kd op q.2 := Nat.mul_le_mul_left _ h2
    have h4 : tp kd (fun j => cn (op j)) r ≤ 39 := by rw [hr']; show tk kd op q.2 ≤ 39; omega
    have h6 : (if kd q.2 = 4 then cn (op q.2) else 1) ≤ 5 := by
      split
      · rename_i h4; exact (h5 q.2 (by omega) h4).2
      · decide
    rw [tp]
    have := Nat.mul_le_mul h4 h6
    show tp kd (fun j => cn (op j)) r * (if kd q.2 = 4 then cn (op q.2) else 1) ≤ 200
    omega
/-- the reference's sum -/
theorem msum_fV {sk sz : Nat → Nat} {sb : Nat → Int32} {f : Nat} {eC : Nat → Nat} (h : ∀ j, kd j ≤ 5) (hw : wfK kd s) (h5 : rpt5 kd op s) (hs : sz f = s) (hs12 : s ≤ 12)
    (hsk : ∀ k, k < s → sk (12 * f + k) = kd k ∧ sb (12 * f + k) = op k) (heC : ∀ k, k < s → kd k ≤ 2 → eC (cn (op k)) = min 1000 (kv C p (cn (op k))))
    (ht : ∀ k, k < s → tk kd op k ≤ 1000) : ∀ m, m ≤ s → msum sk sb sz eC f m = min 1000 (fV C p kd op m)
  | 0, _ => by rw [msum]; rfl
  | m + 1, hm => by
    have ih := msum_fV h hw h5 hs hs12 hsk heC ht m (by omega)
    have hK : ∀ j, j < m → kat sk sz f j = kd j := fun j hj => by rw [kat_sk (by omega)]; exact (hsk j (by omega)).1
    have hK5 : ∀ j, kat sk sz f j ≤ 5 := fun j => by
      unfold kat; split
      · rw [(hsk j (by omega)).1]; exact h j
      · omega
    have hwm : wfK kd m := fun i hi => hw i (by omega)
    have hps : ps (kat sk sz f) m = ps kd m := ps_loc m hK
    have htp : tp (kat sk sz f) (fun i => cn (sb (12 * f + i))) (ps (kat sk sz f) m) = tk kd op m := by
      rw [hps]
      refine tp_loc _ (fun q hq => ?_)
      have := ps_lt2 h hwm hq
      exact ⟨hK _ this, by rw [(hsk q.2 (by omega)).2]⟩
    have ht' : tmz (kat sk sz f) (fun i => cn (sb (12 * f + i))) 13 m 1 = tk kd op m := by
      have hg : ∀ j, kat sk sz f j = 4 → 1 ≤ cn (sb (12 * f + j)) := fun j hj => by
        have hl := kat_4 hj
        rw [kat_sk hl] at hj
        rw [(hsk j (by omega)).2]
        rw [(hsk j (by omega)).1] at hj
        exact (h5 j (by omega) hj).1
      rw [tmz_tp hK5 hg 13 m 1 (wf_loc h hK hwm) (by have := ps_len hK5 m; omega) (by rw [htp]; have := ht m (by omega); omega), htp, Nat.one_mul]
    rw [msum, ih, ht']
    unfold fV
    rw [sm, ← Nat.add_assoc]
    have hpos := tk_pos h hw h5 (show m ≤ s by omega)
    have ho : min 1000 (tk kd op m * mown sk sb eC (12 * f + m)) = min 1000 (tk kd op m * ow C p kd op m) := by
      unfold mown ow
      rw [(hsk m (by omega)).1, (hsk m (by omega)).2]
      by_cases h2 : kd m ≤ 2
      · rw [if_pos h2, if_pos h2, heC m (by omega) h2]
        have := cap_m hpos (x := kv C p (cn (op m))) (tk kd op m)
        rw [Nat.mul_add, Nat.mul_add, Nat.mul_one]; exact this
      · rw [if_neg h2, if_neg h2]
    rw [Nat.mul_comm (mown sk sb eC (12 * f + m))]
    generalize tk kd op m * mown sk sb eC (12 * f + m) = a at ho ⊢
    generalize tk kd op m * ow C p kd op m = b at ho ⊢
    omega
end FV
-- the rounds of the reference come to what the equations say
section RND
variable {X : Ex} {C : Cs} {of9 : Nat → Int32} {sk sz : Nat → Nat} {sb : Nat → Int32} {F : Nat} {kd : Nat → Nat → Nat} {op : Nat → Nat → Int32} {T : Nat → Nat}
theorem mrF_at {eC c : Nat → Nat} {f : Nat} : ∀ m, f < m → mrF of9 sk sb sz eC m c f = if 0 ≤ of9 f then 0 else msum sk sb sz eC f (sz f)
  | 0, h => absurd h (by omega)
  | m + 1, h => by
    rw [mrF]
    by_cases h2 : f = m
    · subst h2; rw [va_up_self]
    · rw [va_up_ne _ _ h2]; exact mrF_at m (by omega)
theorem mrF_out {eC c : Nat → Nat} {f : Nat} : ∀ m, m ≤ f → mrF of9 sk sb sz eC m c f = c f
  | 0, h => rfl
  | m + 1, h => by rw [mrF, va_up_ne _ _ (by omega)]; exact mrF_out m (by omega)
theorem mrs_in (hX : ex_ok X) (hE : cEq X C) (hF : F ≤ 8)
    (hfn : ∀ f, f < F → of9 f < 0 → sz f ≤ 12 ∧ (∀ j, kd f j ≤ 5) ∧ wfK (kd f) (sz f) ∧ rpt5 (kd f) (op f) (sz f) ∧ (∀ k, k < sz f → sk (12 * f + k) = kd f k ∧ sb (12 * f + k) = op f k) ∧ (∀ k, k < sz f → kd f k ≤ 2 → cn (op f k) < X.2.2.2.2) ∧ (∀ k, k < sz f → tk (kd f) (op f) k ≤ 1000))
    (hT : ∀ f, f < F → of9 f < 0 → T f = fV C T (kd f) (op f) (sz f)) (h0 : ∀ f, f < F → ¬ of9 f < 0 → T f = 0) (h8 : ∀ f, F ≤ f → T f = 0)
    {q : (Nat → Nat) × (Nat → Nat)} (hq : ∀ i, i < 8 → q.2 i = 0) : ∀ r, r ≤ 9 → ∀ f, f < 8 → (mrs X of9 sk sb sz F r q).2 f ≤ T f ∧ min (T f) (5 * r) ≤ (mrs X of9 sk sb sz F r q).2 f
  | 0, _, f, hf => by rw [mrs, hq f hf]; omega
  | r + 1, hr, f, hf => by
    have ih := mrs_in hX hE hF hfn hT h0 h8 hq r (by omega)
    rw [mrs, mrd]
    show mrF of9 sk sb sz _ F _ f ≤ _ ∧ _ ≤ mrF of9 sk sb sz _ F _ f
    by_cases hfF : f < F
    · rw [mrF_at F hfF]
      by_cases hof : of9 f < 0
      · rw [if_neg (Int32.not_le.mpr hof)]
        obtain ⟨a1, a2, a3, a4, a5, a6, a7⟩ := hfn f hfF hof
        rw [msum_fV (C := C) (p := (mrs X of9 sk sb sz F r q).2) a2 a3 a4 rfl a1 a5 (fun k hk h2 => mrE_kv hX hE (X.2.2.2.2) _ (a6 k hk h2) (a6 k hk h2) _ (a6 k hk h2)) a7 (sz f) (Nat.le_refl _)]
        have hle := fV_mono (C := C) (kd := kd f) (op := op f) (fun i hi => (ih i hi).1) (sz f)
        rw [← hT f hfF hof] at hle
        refine ⟨by omega, ?_⟩
        suffices hs : min (T f) (5 * (r + 1)) ≤ fV C (mrs X of9 sk sb sz F r q).2 (kd f) (op f) (sz f) by omega
        by_cases hex : ∃ k, k < sz f ∧ kd f k ≤ 2 ∧ 3 + 5 * r ≤ kv C (mrs X of9 sk sb sz F r q).2 (cn (op f k))
        · obtain ⟨k, k1, k2, k3⟩ := hex
          have h1 := fV_mem (C := C) (p := (mrs X of9 sk sb sz F r q).2) (kd := kd f) (op := op f) (m := sz f) k k1
          have h2 := tk_pos a2 a3 a4 (show k ≤ sz f by omega)
          have h3 : 1 * ow C (mrs X of9 sk sb sz F r q).2 (kd f) (op f) k ≤ tk (kd f) (op f) k * ow C (mrs X of9 sk sb sz F r q).2 (kd f) (op f) k := Nat.mul_le_mul_right _ h2
          have h4 : ow C (mrs X of9 sk sb sz F r q).2 (kd f) (op f) k = 1 + kv C (mrs X of9 sk sb sz F r q).2 (cn (op f k)) := if_pos k2
          omega
        · have he : fV C (mrs X of9 sk sb sz F r q).2 (kd f) (op f) (sz f) = fV C T (kd f) (op f) (sz f) := by
            unfold fV
            congr 1
            refine sm_e _ (fun k hk => ?_)
            congr 1
            unfold ow
            by_cases h2 : kd f k ≤ 2
            · rw [if_pos h2, if_pos h2]
              congr 1
              unfold kv
              congr 1
              refine sm_e 8 (fun i hi => ?_)
              rcases Nat.eq_zero_or_pos (C.2.1 (cn (op f k) * 8 + i)) with z | z
              · rw [z, Nat.zero_mul, Nat.zero_mul]
              · have h3 := nm_3 hX hE hi _ (cn (op f k)) (a6 k hk h2) (a6 k hk h2) z
                have h4 := kv_mem (C := C) (p := (mrs X of9 sk sb sz F r q).2) hi z
                have h6 : ¬ 3 + 5 * r ≤ kv C (mrs X of9 sk sb sz F r q).2 (cn (op f k)) := fun y => hex ⟨k, hk, h2, y⟩
                have h7 := ih i hi
                rw [show (mrs X of9 sk sb sz F r q).2 i = T i by omega]
            · rw [if_neg h2, if_neg h2]
          rw [he, ← hT f hfF hof]; omega
      · rw [if_pos (Int32.not_lt.mp hof), h0 f hfF hof]; omega
    · rw [mrF_out F (by omega)]
      have h1 := ih f hf
      rw [h8 f (by omega)] at h1 ⊢
      omega
end RND
