theorem gk_mid {A : Nat → Prop} {D : va_G} {lf W0 rt w : va_W} {H H1 : Heap} (hP : va_P D vwCl (lf ++ (W0 ++ rt)) H) (hD : va_D A (lf ++ (W0 ++ rt))) (hF : ∀ q, va_A W0 H.size q → A q) (hk : ∀ q : Nat, q < H.size → ¬ va_A W0 H.size q → H1[q]? = H[q]?) (hP1 : va_P D vwCl w H1) (hD1 : va_D (va_A W0 H.size) w) : va_P D vwCl (lf ++ (w ++ rt)) H1 ∧ va_D A (lf ++ (w ++ rt)) := by
  have hN := (gk_D_nodup.mp hD).1
  have hIn := (gk_D_nodup.mp hD).2
  simp only [List.map_append, List.nodup_append, List.mem_append, List.mem_map] at hN
  obtain ⟨n1, ⟨n2, n3, n4⟩, n5⟩ := hN
  have hlt : ∀ q ∈ lf ++ (W0 ++ rt), q.1 < H.size := fun q hq => by
    obtain ⟨i, hi⟩ := List.getElem?_of_mem hq
    exact (hP i q hi).lt
  have hat : ∀ q ∈ lf ++ (W0 ++ rt), va_at D vwCl q H := fun q hq => by
    obtain ⟨i, hi⟩ := List.getElem?_of_mem hq
    exact hP i q hi
  have hout : ∀ q, (q ∈ lf ∨ q ∈ rt) → q ∈ lf ++ (W0 ++ rt) ∧ ¬ va_A W0 H.size q.1 := by
    intro q hq
    have hm : q ∈ lf ++ (W0 ++ rt) := by
      rcases hq with h | h
      · exact List.mem_append_left _ h
      · exact List.mem_append_right _ (List.mem_append_right _ h)
    refine ⟨hm, fun z => ?_⟩
    rcases z with ⟨k, x, z⟩ | z
    · have hz := List.mem_of_getElem? z
      rcases hq with h | h
      · exact n5 q.1 ⟨q, h, rfl⟩ q.1 (Or.inl ⟨_, hz, rfl⟩) rfl
      · exact n4 q.1 ⟨_, hz, rfl⟩ q.1 ⟨q, h, rfl⟩ rfl
    · have := hlt q hm; omega
  have hw := gk_D_nodup.mp hD1
  constructor
  · intro k q hq
    have hm := List.mem_of_getElem? hq
    rcases List.mem_append.mp hm with h | h
    · obtain ⟨h1, h2⟩ := hout q (Or.inl h)
      exact (hat q h1).kept (hk q.1 (hlt q h1) h2)
    · rcases List.mem_append.mp h with h | h
      · obtain ⟨i, hi⟩ := List.getElem?_of_mem h
        exact hP1 i q hi
      · obtain ⟨h1, h2⟩ := hout q (Or.inr h)
        exact (hat q h1).kept (hk q.1 (hlt q h1) h2)
  · rw [gk_D_nodup]
    constructor
    · simp only [List.map_append, List.nodup_append, List.mem_append, List.mem_map]
      refine ⟨n1, ⟨hw.1, n3, ?_⟩, ?_⟩
      · rintro a ⟨x, hx, rfl⟩ b ⟨y, hy, rfl⟩ hxy
        exact (hout y (Or.inr hy)).2 (hxy ▸ hw.2 x hx)
      · rintro a ⟨x, hx, rfl⟩ b hb hxy
        rcases hb with ⟨y, hy, rfl⟩ | ⟨y, hy, rfl⟩
        · exact (hout x (Or.inl hx)).2 (hxy ▸ hw.2 y hy)
        · exact n5 x.1 ⟨x, hx, rfl⟩ y.1 (Or.inr ⟨y, hy, rfl⟩) hxy
    · intro q hq
      rcases List.mem_append.mp hq with h | h
      · exact hIn q (hout q (Or.inl h)).1
      · rcases List.mem_append.mp h with h | h
        · exact hF q.1 (hw.2 q h)
        · exact hIn q (hout q (Or.inr h)).1
section GMD
variable {p : Program} {l : Launch} {e : Env} {R : Room} {s : State} {m : MethodId} {args : Array Value} {below : List Frame} {meth : Method} {c : Code} {H : Heap} {locs : List Loc} {cells slots : Nat} {Q : State → Prop}
variable {pc : Nat} {ls : Array Slot} {rest st0 : List Value} {a : Array Value} {A : Nat → Prop} {H0 : Heap} {D : va_G} {lf W0 rt : va_W}
/-- a call whose callee has the middle of the world -/
theorem gc_mi {mc ms : Nat} {Post : Int32 → va_W → Prop} (hr : va_Run p l e R s m args below meth c H locs cells slots mc ms (F0 m pc ls st0) rest (gq_I D (va_A W0 H.size) Post a) (va_A W0 H.size)) (hP : va_P D vwCl (lf ++ (W0 ++ rt)) H) (hD : va_D A (lf ++ (W0 ++ rt))) (hS : va_S A H0 H locs) (hA : ∀ q, H0.size ≤ q → A q)
    (kk : ∀ (r : Int32) (w : va_W) (H1 : Heap) (locs1 : List Loc), Post r w → va_P D vwCl (lf ++ (w ++ rt)) H1 → va_D A (lf ++ (w ++ rt)) → va_S A H0 H1 locs1 → W p l e R s m args below meth c H1 locs1 (cells + mc) (slots + ms) Q (F0 m (pc + 3) ls (.int r :: rest))) : W p l e R s m args below meth c H locs cells slots Q (F0 m pc ls st0) := by
  have hF := gr_free (W0 := W0) hD hS hA (fun q h => List.mem_append_right _ (List.mem_append_left _ h))
  refine va_calli hr hS (fun q _ h => hF q h) hF (fun r w t H1 locs1 ht hvm hw hB hz1 hk1 hS => ?_)
  obtain ⟨hP1, hD1⟩ := hB
  rw [ht] at hP1
  obtain ⟨hP2, hD2⟩ := gk_mid hP hD hF hk1 hP1 hD1
  exact kk r w H1 locs1 hw hP2 hD2 hS
theorem gc_ml {mc ms : Nat} {Post : Int64 → va_W → Prop} (hr : va_Run p l e R s m args below meth c H locs cells slots mc ms (F0 m pc ls st0) rest (gq_L D (va_A W0 H.size) Post a) (va_A W0 H.size)) (hP : va_P D vwCl (lf ++ (W0 ++ rt)) H) (hD : va_D A (lf ++ (W0 ++ rt))) (hS : va_S A H0 H locs) (hA : ∀ q, H0.size ≤ q → A q)
    (kk : ∀ (r : Int64) (w : va_W) (H1 : Heap) (locs1 : List Loc), Post r w → va_P D vwCl (lf ++ (w ++ rt)) H1 → va_D A (lf ++ (w ++ rt)) → va_S A H0 H1 locs1 → W p l e R s m args below meth c H1 locs1 (cells + mc) (slots + ms) Q (F0 m (pc + 3) ls (.long r :: rest))) : W p l e R s m args below meth c H locs cells slots Q (F0 m pc ls st0) := by
  have hF := gr_free (W0 := W0) hD hS hA (fun q h => List.mem_append_right _ (List.mem_append_left _ h))
  refine va_calll hr hS (fun q _ h => hF q h) hF (fun r w t H1 locs1 ht hvm hw hB hz1 hk1 hS => ?_)
  obtain ⟨hP1, hD1⟩ := hB
  rw [ht] at hP1
  obtain ⟨hP2, hD2⟩ := gk_mid hP hD hF hk1 hP1 hD1
  exact kk r w H1 locs1 hw hP2 hD2 hS
theorem gc_mv {mc ms : Nat} {Post : va_W → Prop} (hr : va_Run p l e R s m args below meth c H locs cells slots mc ms (F0 m pc ls st0) rest (gq_V D (va_A W0 H.size) Post a) (va_A W0 H.size)) (hP : va_P D vwCl (lf ++ (W0 ++ rt)) H) (hD : va_D A (lf ++ (W0 ++ rt))) (hS : va_S A H0 H locs) (hA : ∀ q, H0.size ≤ q → A q)
    (kk : ∀ (w : va_W) (H1 : Heap) (locs1 : List Loc), Post w → va_P D vwCl (lf ++ (w ++ rt)) H1 → va_D A (lf ++ (w ++ rt)) → va_S A H0 H1 locs1 → W p l e R s m args below meth c H1 locs1 (cells + mc) (slots + ms) Q (F0 m (pc + 3) ls rest)) : W p l e R s m args below meth c H locs cells slots Q (F0 m pc ls st0) := by
  have hF := gr_free (W0 := W0) hD hS hA (fun q h => List.mem_append_right _ (List.mem_append_left _ h))
  refine va_callv hr hS (fun q _ h => hF q h) hF (fun w t H1 locs1 ht hvm hw hB hz1 hk1 hS => ?_)
  obtain ⟨hP1, hD1⟩ := hB
  rw [ht] at hP1
  obtain ⟨hP2, hD2⟩ := gk_mid hP hD hF hk1 hP1 hD1
  exact kk w H1 locs1 hw hP2 hD2 hS
theorem gk_midP (hP : va_P D vwCl (lf ++ (W0 ++ rt)) H) : va_P D vwCl W0 H := gk_P_perm (fun q h => List.mem_append_right _ (List.mem_append_left _ h)) hP
theorem gk_midD (hD : va_D A (lf ++ (W0 ++ rt))) : va_D A W0 := gk_D_sub ((List.sublist_append_left W0 rt).trans (List.sublist_append_right lf (W0 ++ rt))) hD
end GMD
/-- the pool: the bodies, function by function -/
def tlp (cI : ClassId) (pd : Nat → Option (Nat × (Nat → Nat))) (Bs : Nat → Bd) : va_W := (List.range 8).flatMap (fun i => match pd i with | none => [] | some oq => wB cI oq.1 oq.2 (Bs i))
def pd_a (pd : Nat → Option (Nat × (Nat → Nat))) : Nat → Option Nat := fun i => (pd i).map (·.1)
theorem tlp_in {cI : ClassId} {pd : Nat → Option (Nat × (Nat → Nat))} {Bs : Nat → Bd} {f o : Nat} {q : Nat → Nat} (hf : f < 8) (h : pd f = some (o, q)) : (wB cI o q (Bs f)).Sublist (tlp cI pd Bs) := by
  have h1 : ∀ (L : List Nat), f ∈ L → (wB cI o q (Bs f)).Sublist (L.flatMap (fun i => match pd i with | none => [] | some oq => wB cI oq.1 oq.2 (Bs i))) := by
    intro L hL
    induction L with
    | nil => cases hL
    | cons x L ih =>
      rw [List.flatMap_cons]
      rcases List.mem_cons.mp hL with e1 | e1
      · subst e1; rw [h]; exact List.sublist_append_left _ _
      · exact (ih e1).trans (List.sublist_append_right _ _)
  exact h1 _ (List.mem_range.mpr hf)
theorem tlp_split {cI : ClassId} {pd : Nat → Option (Nat × (Nat → Nat))} {Bs : Nat → Bd} {f : Nat} (hf : f < 8) : ∃ pre post : va_W, ∀ (v : Option (Nat × (Nat → Nat))) (B : Bd), tlp cI (va_up pd f v) (va_up Bs f B) = pre ++ ((match v with | none => [] | some oq => wB cI oq.1 oq.2 B) ++ post) := by
  refine ⟨(List.range f).flatMap (fun i => match pd i with | none => [] | some oq => wB cI oq.1 oq.2 (Bs i)), ((List.range (7 - f)).map (fun i => f + 1 + i)).flatMap (fun i => match pd i with | none => [] | some oq => wB cI oq.1 oq.2 (Bs i)), fun v B => ?_⟩
  have e1 : List.range 8 = List.range f ++ (f :: (List.range (7 - f)).map (fun i => f + 1 + i)) := by
    have h8 : f = 0 ∨ f = 1 ∨ f = 2 ∨ f = 3 ∨ f = 4 ∨ f = 5 ∨ f = 6 ∨ f = 7 := by omega
    rcases h8 with rfl | rfl | rfl | rfl | rfl | rfl | rfl | rfl <;> decide
  unfold tlp
  rw [e1, List.flatMap_append, List.flatMap_cons]
  have e2 : ∀ L : List Nat, f ∉ L → L.flatMap (fun i => match (va_up pd f v) i with | none => [] | some oq => wB cI oq.1 oq.2 ((va_up Bs f B) i)) = L.flatMap (fun i => match pd i with | none => [] | some oq => wB cI oq.1 oq.2 (Bs i)) := by
    intro L hL
    induction L with
    | nil => rfl
    | cons x L ih =>
      have hx : x ≠ f := fun z => hL (z ▸ List.mem_cons_self)
      rw [List.flatMap_cons, List.flatMap_cons, ih (fun z => hL (List.mem_cons_of_mem _ z)), va_up_ne _ _ hx, va_up_ne _ _ hx]
  rw [e2 _ (by simp), e2 _ (by simp; omega), va_up_self, va_up_self]
theorem va_up_eq {α : Type} (f : Nat → α) (k : Nat) : va_up f k (f k) = f := by
  funext j; unfold va_up; split
  · rename_i h; rw [h]
  · rfl
