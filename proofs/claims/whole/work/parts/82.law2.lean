noncomputable abbrev wMo (cI cJ cZ : ClassId) (mo : Nat) (mq : Nat → Nat) (F : Nat) (X : Ex) (sk : Nat → Nat) (sa9 sb9 : Nat → Int32) (sz : Nat → Nat) (M : MS) (of9 by9 : Nat → Int32) (eC fC : Nat → Nat) (R0 Q0 : Nat → Prop) : va_W := [(mo, .inr (6, [.ref (mq 0), .ref (mq 1), .ref (mq 2), .ref (mq 3), .int (nI X.2.2.2.2), .ref (mq 5), .ref (mq 6), .int (nI F), .ref (mq 8), .ref (mq 9), .ref (mq 10), .ref (mq 11), .ref (mq 12), .ref (mq 13), .ref (mq 14), .ref (mq 15), .ref (mq 16), .ref (mq 17), .ref (mq 18), .ref (mq 19), .ref (mq 20), .ref (mq 21), .ref (mq 22), .int (nI M.1)])), ((mq 8), .inl (cI, 96, .inl (fun z9 => nI (sk z9)))), ((mq 9), .inl (cI, 96, .inl sa9)), ((mq 10), .inl (cI, 96, .inl sb9)), ((mq 11), .inl (cI, 8, .inl (fun z9 => nI (sz z9)))), ((mq 0), .inl (cI, 80, .inl X.1)), ((mq 1), .inl (cI, 80, .inl X.2.1)), ((mq 2), .inl (cI, 80, .inl X.2.2.1)), ((mq 3), .inl (cI, 80, .inl X.2.2.2.1)), ((mq 17), .inl (cJ, 2560, .inr (.inl M.2.2.2.2.2.2.1))), ((mq 16), .inl (cJ, 448, .inr (.inl M.2.2.2.2.2.1))), ((mq 19), .inl (cI, 8, .inl (fun z9 => nI (M.2.1 z9)))), ((mq 20), .inl (cI, 8, .inl (fun z9 => nI (M.2.2.1 z9)))), ((mq 21), .inl (cI, 8, .inl M.2.2.2.1)), ((mq 18), .inl (cZ, 640, .inl (fun z9 => gb (M.2.2.2.2.2.2.2 z9)))), ((mq 22), .inl (cI, 192, .inl (fun z9 => nI (M.2.2.2.2.1 z9)))), ((mq 5), .inl (cI, 8, .inl of9)), ((mq 6), .inl (cI, 8, .inl by9)), ((mq 12), .inl (cI, 80, .inl (fun z9 => nI (eC z9)))), ((mq 13), .inl (cI, 8, .inl (fun z9 => nI (fC z9)))), ((mq 14), .inl (cZ, 80, .inl (fun z9 => gb (R0 z9)))), ((mq 15), .inl (cZ, 8, .inl (fun z9 => gb (Q0 z9))))]
noncomputable abbrev lw_W (cI cJ cB cZ : ClassId) (h g ko eo bo t co mo : Nat) (hq kq eq tq mq : Nat → Nat) (F : Nat) (ro : Nat → Nat) (so : Nat → Nat) (di : Nat → Nat) (od : Nat → Nat) (C : Cs) (X : Ex) (pd : Nat → Option (Nat × (Nat → Nat))) (Bs : Nat → Bd) (S : Sx) (f1 : Nat → Int64) (f2 : Nat → Int64) (f3 : Nat → Int64) (f4 : Nat → Int64) (of9 : Nat → Int32) (by9 : Nat → Int32) (sk : Nat → Nat) (sa9 : Nat → Int32) (sb9 : Nat → Int32) (sz : Nat → Nat) (eC : Nat → Nat) (fC : Nat → Nat) (R0 : Nat → Prop) (Q0 : Nat → Prop) (M : MS) : va_W := wCl cI cJ cB h g ko eo bo t co hq kq eq tq F ro so di od C X (pd_a pd) S f1 f2 f3 f4 ++ (tlp cI pd Bs ++ wMo cI cJ cZ mo mq F X sk sa9 sb9 sz M of9 by9 eC fC R0 Q0)
def lw_I (F : Nat) (ro : Nat → Nat) (so : Nat → Nat) (di : Nat → Nat) (od : Nat → Nat) (C : Cs) (X : Ex) (pd : Nat → Option (Nat × (Nat → Nat))) (Bs : Nat → Bd) (S : Sx) (f1 : Nat → Int64) (f2 : Nat → Int64) (f3 : Nat → Int64) (f4 : Nat → Int64) (of9 : Nat → Int32) (by9 : Nat → Int32) (sk : Nat → Nat) (sa9 : Nat → Int32) (sb9 : Nat → Int32) (sz : Nat → Nat) (eC : Nat → Nat) (fC : Nat → Nat) (R0 : Nat → Prop) (Q0 : Nat → Prop) (M : MS) : Prop := GI F ro so di od C X pd Bs of9 by9 sk sa9 sb9 sz ∧ sx_ok S ∧ (∀ i, eC i ≤ 1000) ∧ (∀ i, fC i ≤ 1000) ∧ pd 8 = none
/-- from this place of the law on, whatever both have come to -/
def lw_J (p : Program) (l : Launch) (e : Env) (s : State) (m : MethodId) (below : List Frame) (meth : Method) (c : Code) (D : va_G) (cI cJ cB cZ : ClassId) (h g ko eo bo t co mo : Nat) (hq kq eq tq mq : Nat → Nat) (b i pc cells slots : Nat) : Prop := ∀ (F : Nat) (ro : Nat → Nat) (so : Nat → Nat) (di : Nat → Nat) (od : Nat → Nat) (C : Cs) (X : Ex) (pd : Nat → Option (Nat × (Nat → Nat))) (Bs : Nat → Bd) (S : Sx) (f1 : Nat → Int64) (f2 : Nat → Int64) (f3 : Nat → Int64) (f4 : Nat → Int64) (of9 : Nat → Int32) (by9 : Nat → Int32) (sk : Nat → Nat) (sa9 : Nat → Int32) (sb9 : Nat → Int32) (sz : Nat → Nat) (eC : Nat → Nat) (fC : Nat → Nat) (R0 : Nat → Prop) (Q0 : Nat → Prop) (M : MS), lw_I F ro so di od C X pd Bs S f1 f2 f3 f4 of9 by9 sk sa9 sb9 sz eC fC R0 Q0 M → ∀ (H : Heap) (locs : List Loc) (ls : Array Slot), va_P D vwCl (lw_W cI cJ cB cZ h g ko eo bo t co mo hq kq eq tq mq F ro so di od C X pd Bs S f1 f2 f3 f4 of9 by9 sk sa9 sb9 sz eC fC R0 Q0 M) H → va_D (fun q : Nat => s.heap.size ≤ q) (lw_W cI cJ cB cZ h g ko eo bo t co mo hq kq eq tq mq F ro so di od C X pd Bs S f1 f2 f3 f4 of9 by9 sk sa9 sb9 sz eC fC R0 Q0 M) → va_S (fun q : Nat => s.heap.size ≤ q) s.heap H locs → lv_has ls 4 [(0, .ref b), (1, .ref h), (2, .ref mo), (3, .int (nI i))] → W p l e room_1 s m #[Value.ref b] below meth c H locs cells slots (lw_Z below #[Value.ref b] s) (F0 m pc ls [])
theorem lw_own {F : Nat} {ro so di od : Nat → Nat} {C : Cs} {X : Ex} {pd : Nat → Option (Nat × (Nat → Nat))} {Bs : Nat → Bd} {of9 by9 : Nat → Int32} {sk : Nat → Nat} {sa sb : Nat → Int32} {sz : Nat → Nat} (h : GI F ro so di od C X pd Bs of9 by9 sk sa sb sz) {x : Int32} : (mk F x ∧ of9 (cn x) < 0) ↔ own F od x := by
  have hF := h.1
  unfold own
  by_cases hm : mk F x
  · obtain ⟨j, hj, rfl⟩ := mk_nat (by omega) hm
    rw [cn_nI (by omega)]
    exact ⟨fun z => ⟨hm, ((gi_of h hj).mp z.2).2⟩, fun z => ⟨hm, (gi_of h hj).mpr ⟨hj, z.2⟩⟩⟩
  · exact ⟨fun z => absurd z.1 hm, fun z => absurd z.1 hm⟩
theorem lw_cn {F : Nat} {x : Int32} (hF : F < 2 ^ 31) (h : mk F x) : cn x < F ∧ x = nI (cn x) := by
  obtain ⟨j, hj, rfl⟩ := mk_nat hF h
  rw [cn_nI (by omega)]
  exact ⟨hj, rfl⟩
/-- what stands behind a body's end does not count -/
theorem GI_junk {F : Nat} {ro so di od : Nat → Nat} {C : Cs} {X : Ex} {pd : Nat → Option (Nat × (Nat → Nat))} {Bs : Nat → Bd} {of9 by9 : Nat → Int32} {sk : Nat → Nat} {sa sb : Nat → Int32} {sz : Nat → Nat} (h : GI F ro so di od C X pd Bs of9 by9 sk sa sb sz) {f k : Nat} {a b : Int32} (hs : sz f < 12) (hk : k ≤ 5) : GI F ro so di od C X pd Bs of9 by9 (va_up sk (12 * f + sz f) k) (upd sa (12 * f + sz f) a) (upd sb (12 * f + sz f) b) sz := by
  have h12 := gi_sz h
  obtain ⟨g1, g2, g3, g4, g5, g6, g7, g8, g9, g10, g11, g12, g13, g14⟩ := h
  refine ⟨g1, g2, g3, g4, g5, g6, ⟨fun x hx ox => ?_, g7.2.1, up_le5 g7.2.2 hk⟩, g8, g9, g10, g11, g12, g13, g14⟩
  obtain ⟨q1, q2⟩ := g7.1 x hx ox
  refine ⟨q1, fun j hj => ?_⟩
  have hx12 := h12 x
  have hne : 12 * x + j ≠ 12 * f + sz f := by
    by_cases e : x = f
    · subst e; omega
    · omega
  rw [va_up_ne _ _ hne, pk_un hne, pk_un hne]
  exact q2 j hj
