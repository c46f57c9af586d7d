theorem gk_D_sub {A : Nat → Prop} {w1 w2 : va_W} (h : w2.Sublist w1) (hD : va_D A w1) : va_D A w2 := by
  rw [gk_D_nodup] at hD ⊢
  exact ⟨hD.1.sublist (h.map (·.1)), fun q hq => hD.2 q (h.subset hq)⟩
section GR
variable {p : Program} {l : Launch} {e : Env} {R : Room} {s : State} {m : MethodId} {args : Array Value} {below : List Frame} {meth : Method} {c : Code} {H : Heap} {locs : List Loc} {cells slots : Nat} {Q : State → Prop}
variable {pc : Nat} {ls : Array Slot} {rest st0 : List Value} {a : Array Value} {A : Nat → Prop} {H0 : Heap} {D : va_G} {ws W0 : va_W}
theorem gr_free (hD : va_D A ws) (hS : va_S A H0 H locs) (hA : ∀ q, H0.size ≤ q → A q) (hsub : ∀ q ∈ W0, q ∈ ws) : ∀ q, va_A W0 H.size q → A q := by
  intro q h
  rcases h with ⟨k, x, h⟩ | h
  · obtain ⟨i, hi⟩ := List.getElem?_of_mem (hsub _ (List.mem_of_getElem? h))
    exact hD.2 i _ hi
  · exact hA q (Nat.le_trans hS.1 h)
theorem gr_keep {H1 : Heap} (hP : va_P D vwCl ws H) (hD : va_D A ws) (hsub : ∀ q ∈ W0, q ∈ ws) (hk : ∀ q : Nat, q < H.size → ¬ va_A W0 H.size q → H1[q]? = H[q]?) (hP1 : va_P D vwCl W0 H1) : va_P D vwCl ws H1 := by
  intro k q hq
  by_cases h : ∃ x, (q.1, x) ∈ W0
  · obtain ⟨x, hx⟩ := h
    obtain ⟨i, hi⟩ := List.getElem?_of_mem (hsub _ hx)
    have hik := hD.1 i k _ q hi hq rfl
    subst hik
    have he : q = (q.1, x) := Option.some.inj (hq.symm.trans hi)
    rw [he]
    obtain ⟨j, hj⟩ := List.getElem?_of_mem hx
    exact hP1 j _ hj
  · refine (hP k q hq).kept (hk q.1 (hP k q hq).lt fun z => ?_)
    rcases z with ⟨j, x, hj⟩ | z
    · exact h ⟨x, List.mem_of_getElem? hj⟩
    · have := (hP k q hq).lt; omega
/-- a call whose callee only reads -/
theorem gc_ri {Post : Int32 → va_W → Prop} (hr : va_Run p l e R s m args below meth c H locs cells slots 0 0 (F0 m pc ls st0) rest (gq_I D (va_A W0 H.size) Post a) (va_A W0 H.size)) (hP : va_P D vwCl ws H) (hD : va_D A ws) (hS : va_S A H0 H locs) (hA : ∀ q, H0.size ≤ q → A q) (hsub : ∀ q ∈ W0, q ∈ ws) (ha : ∀ r w, Post r w → w = W0)
    (kk : ∀ (r : Int32) (H1 : Heap) (locs1 : List Loc), Post r W0 → va_P D vwCl ws H1 → va_S A H0 H1 locs1 → W p l e R s m args below meth c H1 locs1 cells slots Q (F0 m (pc + 3) ls (.int r :: rest))) : W p l e R s m args below meth c H locs cells slots Q (F0 m pc ls st0) := by
  have hF := gr_free (W0 := W0) hD hS hA hsub
  refine va_calli hr hS (fun q _ h => hF q h) hF (fun r w t H1 locs1 ht hvm hw hB hz1 hk1 hS => ?_)
  obtain ⟨hP1, -⟩ := hB
  rw [ht] at hP1
  have hww := ha r w hw
  subst hww
  exact kk r H1 locs1 hw (gr_keep hP hD hsub hk1 hP1) hS
end GR
