theorem gk_nw_ok : gk_nw.all gk_isN = true := by decide +kernel
-- contracts in one form: the world W0 before, any world w behind that Post names
abbrev gk_T (cI cJ cB cZ : ClassId) : List (ClassId × FieldType) := [(cI, .int), (cJ, .long), (cB, .object R_B), (cZ, .boolean)]
def gk_Pre (D : va_G) (tys : List (ClassId × FieldType)) (W0 : va_W) (sz : Nat) (U : State) : Prop := U.heap.size = sz ∧ va_P D vwCl W0 U.heap ∧ va_K D vwCl tys U ∧ gk_N gk_nw U ∧ va_D (fun _ => True) W0
def gq_I (D : va_G) (A : Nat → Prop) (Post : Int32 → va_W → Prop) : Array Value → State → Outcome → State → Prop := va_Qi Post (fun w t => va_P D vwCl w t.heap ∧ va_D A w) A
def gq_L (D : va_G) (A : Nat → Prop) (Post : Int64 → va_W → Prop) : Array Value → State → Outcome → State → Prop := va_Ql Post (fun w t => va_P D vwCl w t.heap ∧ va_D A w) A
def gq_V (D : va_G) (A : Nat → Prop) (Post : va_W → Prop) : Array Value → State → Outcome → State → Prop := va_Qv Post (fun w t => va_P D vwCl w t.heap ∧ va_D A w) A
def ct_I (l : Launch) (y : MethodName) (ws : List Cond) (rm : Room) (D : va_G) (tys : List (ClassId × FieldType)) (av : List Value) (W0 : va_W) (mc ms : Nat) (Post : Int32 → va_W → Prop) : Prop := ∀ sz : Nat, Met l y ws rm (va_Pc av (gk_Pre D tys W0 sz)) (gq_I D (va_A W0 sz) Post) mc ms (va_A W0 sz)
def ct_L (l : Launch) (y : MethodName) (ws : List Cond) (rm : Room) (D : va_G) (tys : List (ClassId × FieldType)) (av : List Value) (W0 : va_W) (mc ms : Nat) (Post : Int64 → va_W → Prop) : Prop := ∀ sz : Nat, Met l y ws rm (va_Pc av (gk_Pre D tys W0 sz)) (gq_L D (va_A W0 sz) Post) mc ms (va_A W0 sz)
def ct_V (l : Launch) (y : MethodName) (ws : List Cond) (rm : Room) (D : va_G) (tys : List (ClassId × FieldType)) (av : List Value) (W0 : va_W) (mc ms : Nat) (Post : va_W → Prop) : Prop := ∀ sz : Nat, Met l y ws rm (va_Pc av (gk_Pre D tys W0 sz)) (gq_V D (va_A W0 sz) Post) mc ms (va_A W0 sz)
theorem gk_blind (D : va_G) (tys : List (ClassId × FieldType)) (av : List Value) (W0 : va_W) (sz : Nat) : FrameBlind (va_Pc av (gk_Pre D tys W0 sz)) := fun a U g mk q => by
  obtain ⟨q0, q1, qP, qK, qN, qD⟩ := q
  exact ⟨q0, q1, qP, va_K.moved (u := U) (U := U.calling g mk a) (Vm.Alike.refl U.vm) qK, gk_N.call gk_nw_ok qN, qD⟩
theorem gk_at0 {D : va_G} {tys : List (ClassId × FieldType)} {W0 : va_W} {A : Nat → Prop} {s : State} {H : Heap} (hK : va_K D vwCl tys s) (hN : gk_N gk_nw s) (hP : va_P D vwCl W0 H) (hD : va_D A W0) : ∀ U : State, U.heap = H → s.WarmedH U.vm → gk_Pre D tys W0 H.size U := fun U hU hW =>
  ⟨by rw [hU], by rw [hU]; exact hP, va_K.moved hW.alike hK, gk_N.warm gk_nw_ok hW hN, hD.weaken (fun _ _ _ _ => trivial)⟩
theorem gp_V {D : va_G} {tys : List (ClassId × FieldType)} {W0 : va_W} {A : Nat → Prop} {s : State} {H : Heap} {b q0 ci : Nat} {q : vw_C} {fs As : List Value} (hK : va_K D vwCl tys s) (hN : gk_N gk_nw s) (hP : va_P D vwCl W0 H) (hD : va_D A W0) (hc : vwCl[ci]? = some q) (he : W0[q0]? = some (b, .inr (ci, fs))) : PreV s H q.1 b (va_Pc (.ref b :: As) (gk_Pre D tys W0 H.size)) As :=
  ⟨gk_blind D tys _ W0 _, va_recv hK hP hc he, fun U hU hW => ⟨rfl, gk_at0 hK hN hP hD U hU hW⟩⟩
theorem gp_S {D : va_G} {tys : List (ClassId × FieldType)} {W0 : va_W} {A : Nat → Prop} {s : State} {H : Heap} {As : List Value} (hK : va_K D vwCl tys s) (hN : gk_N gk_nw s) (hP : va_P D vwCl W0 H) (hD : va_D A W0) : PreS s H (va_Pc As (gk_Pre D tys W0 H.size)) As :=
  ⟨gk_blind D tys _ W0 _, fun U hU hW => ⟨rfl, gk_at0 hK hN hP hD U hU hW⟩⟩
section GC
variable {p : Program} {l : Launch} {e : Env} {R : Room} {s : State} {m : MethodId} {args : Array Value} {below : List Frame} {meth : Method} {c : Code} {H : Heap} {locs : List Loc} {cells slots : Nat} {Q : State → Prop}
variable {pc : Nat} {ls : Array Slot} {rest st0 : List Value} {a : Array Value} {A : Nat → Prop} {H0 : Heap} {D : va_G} {ws W0 : va_W}
/-- a call whose callee changes contents in place -/
theorem gc_i {Post : Int32 → va_W → Prop} (hr : va_Run p l e R s m args below meth c H locs cells slots 0 0 (F0 m pc ls st0) rest (gq_I D (va_A W0 H.size) Post a) (va_A W0 H.size)) (hP : va_P D vwCl ws H) (hD : va_D A ws) (hS : va_S A H0 H locs) (hA : ∀ q, H0.size ≤ q → A q) (is : List Nat) (hC : is.map (fun i => ws[i]?) = W0.map some) (hn : va_nd is = true) (ha : ∀ r w, Post r w → w.map (·.1) = W0.map (·.1))
    (kk : ∀ (r : Int32) (w : va_W) (H1 : Heap) (locs1 : List Loc), Post r w → va_P D vwCl (gk_set ws is w) H1 → va_D A (gk_set ws is w) → va_S A H0 H1 locs1 → W p l e R s m args below meth c H1 locs1 cells slots Q (F0 m (pc + 3) ls (.int r :: rest))) : W p l e R s m args below meth c H locs cells slots Q (F0 m pc ls st0) := by
  have hF := va_free (wc := W0) hD hS hA is hC
  refine va_calli hr hS (fun q _ h => hF q h) hF (fun r w t H1 locs1 ht hvm hw hB hz1 hk1 hS => ?_)
  obtain ⟨hP1, -⟩ := hB
  rw [ht] at hP1
  obtain ⟨hP2, hD2⟩ := gk_join hP hD is hC hn (ha r w hw) hk1 hP1
  exact kk r w H1 locs1 hw hP2 hD2 hS
theorem gc_l {Post : Int64 → va_W → Prop} (hr : va_Run p l e R s m args below meth c H locs cells slots 0 0 (F0 m pc ls st0) rest (gq_L D (va_A W0 H.size) Post a) (va_A W0 H.size)) (hP : va_P D vwCl ws H) (hD : va_D A ws) (hS : va_S A H0 H locs) (hA : ∀ q, H0.size ≤ q → A q) (is : List Nat) (hC : is.map (fun i => ws[i]?) = W0.map some) (hn : va_nd is = true) (ha : ∀ r w, Post r w → w.map (·.1) = W0.map (·.1))
    (kk : ∀ (r : Int64) (w : va_W) (H1 : Heap) (locs1 : List Loc), Post r w → va_P D vwCl (gk_set ws is w) H1 → va_D A (gk_set ws is w) → va_S A H0 H1 locs1 → W p l e R s m args below meth c H1 locs1 cells slots Q (F0 m (pc + 3) ls (.long r :: rest))) : W p l e R s m args below meth c H locs cells slots Q (F0 m pc ls st0) := by
  have hF := va_free (wc := W0) hD hS hA is hC
  refine va_calll hr hS (fun q _ h => hF q h) hF (fun r w t H1 locs1 ht hvm hw hB hz1 hk1 hS => ?_)
  obtain ⟨hP1, -⟩ := hB
  rw [ht] at hP1
  obtain ⟨hP2, hD2⟩ := gk_join hP hD is hC hn (ha r w hw) hk1 hP1
  exact kk r w H1 locs1 hw hP2 hD2 hS
theorem gc_v {Post : va_W → Prop} (hr : va_Run p l e R s m args below meth c H locs cells slots 0 0 (F0 m pc ls st0) rest (gq_V D (va_A W0 H.size) Post a) (va_A W0 H.size)) (hP : va_P D vwCl ws H) (hD : va_D A ws) (hS : va_S A H0 H locs) (hA : ∀ q, H0.size ≤ q → A q) (is : List Nat) (hC : is.map (fun i => ws[i]?) = W0.map some) (hn : va_nd is = true) (ha : ∀ w, Post w → w.map (·.1) = W0.map (·.1))
    (kk : ∀ (w : va_W) (H1 : Heap) (locs1 : List Loc), Post w → va_P D vwCl (gk_set ws is w) H1 → va_D A (gk_set ws is w) → va_S A H0 H1 locs1 → W p l e R s m args below meth c H1 locs1 cells slots Q (F0 m (pc + 3) ls rest)) : W p l e R s m args below meth c H locs cells slots Q (F0 m pc ls st0) := by
  have hF := va_free (wc := W0) hD hS hA is hC
  refine va_callv hr hS (fun q _ h => hF q h) hF (fun w t H1 locs1 ht hvm hw hB hz1 hk1 hS => ?_)
  obtain ⟨hP1, -⟩ := hB
  rw [ht] at hP1
  obtain ⟨hP2, hD2⟩ := gk_join hP hD is hC hn (ha w hw) hk1 hP1
  exact kk w H1 locs1 hw hP2 hD2 hS
end GC
theorem gx_upd {K : Nat → Nat} {j x : Nat} : upd (fun i => nI (K i)) j (nI x) = fun i => nI (va_up K j x i) := by
  funext i
  by_cases h : i = j
  · subst h; simp [upd, va_up]
  · simp [upd, va_up, h]
theorem gx_inc {x : Int32} {a : Nat} (hx : x = nI a) : x + Int32.ofInt 1 = nI (a + 1) := by rw [hx]; exact nI_add a 1
theorem gx_dec1 {x : Int32} {a : Nat} (hx : x = nI a) (h : 1 ≤ a) : x + Int32.ofInt (-1) = nI (a - 1) := gx_dec hx h
theorem gx_out {x : Int32} {lo hi : Int} (h : ∀ k : Int, lo ≤ k → k ≤ hi → x.toInt = k → False) : x.toInt < lo ∨ hi < x.toInt := by
  by_cases h1 : x.toInt < lo
  · exact Or.inl h1
  · by_cases h2 : hi < x.toInt
    · exact Or.inr h2
    · exact absurd rfl (fun z => h x.toInt (by omega) (by omega) z)
theorem gw_V {own : String} {idx : Nat} {C : String} {y : MethodName} {b : ByteArray} {n : Nat} {ret : Option FieldType} (h1 : Cond.methodLink own idx y ∈ gk_big) (h2 : Cond.instanceMethod y ∈ gk_big) (h3 : Cond.selects C y y ∈ gk_big) (h4 : Cond.initialized C ∈ gk_big) (h5 : Cond.code y b n ret ∈ gk_big) : GoodIn gk_big (wsV own idx C y (Cond.code y b n ret :: gk_big)) := by
  intro w hw
  refine gk_good w ?_
  simp only [wsV, List.mem_append, List.mem_cons, List.not_mem_nil, or_false] at hw
  rcases hw with (rfl | rfl | rfl | rfl) | rfl | h
  · exact h1
  · exact h2
  · exact h3
  · exact h4
  · exact h5
  · exact h
theorem gw_S {own : String} {idx : Nat} {y : MethodName} {b : ByteArray} {n : Nat} {ret : Option FieldType} (h1 : Cond.methodLink own idx y ∈ gk_big) (h2 : Cond.static y ∈ gk_big) (h4 : Cond.initialized y.cls ∈ gk_big) (h5 : Cond.code y b n ret ∈ gk_big) : GoodIn gk_big (va_wsS own idx y (Cond.code y b n ret :: gk_big)) := by
  intro w hw
  refine gk_good w ?_
  simp only [va_wsS, List.mem_append, List.mem_cons, List.not_mem_nil, or_false] at hw
  rcases hw with (rfl | rfl | rfl) | rfl | h
  · exact h1
  · exact h2
  · exact h4
  · exact h5
  · exact h
theorem gw_I {y : MethodName} {b : ByteArray} {n : Nat} {ret : Option FieldType} (h5 : Cond.code y b n ret ∈ gk_big) : GoodIn gk_big (Cond.code y b n ret :: gk_big) := by
  intro w hw
  refine gk_good w ?_
  rcases List.mem_cons.mp hw with rfl | h
  · exact h5
  · exact h
theorem mn_0 : Cond.methodLinkNest R_C 9 y_P_init "DerivativeCompiler" ∈ gk_nw := List.mem_of_getElem? (i := 0) rfl
theorem mn_1 : Cond.methodLinkNest R_P 11 y_E_init "DerivativeCompiler" ∈ gk_nw := List.mem_of_getElem? (i := 1) rfl
theorem mn_2 : Cond.fieldLinkNest R_P 93 "DerivativeCompiler$Expressions" "kinds" "[I" "DerivativeCompiler" ∈ gk_nw := List.mem_of_getElem? (i := 2) rfl
theorem mn_3 : Cond.fieldLinkNest R_P 94 "DerivativeCompiler$Expressions" "lefts" "[I" "DerivativeCompiler" ∈ gk_nw := List.mem_of_getElem? (i := 3) rfl
theorem mn_4 : Cond.fieldLinkNest R_P 97 "DerivativeCompiler$Expressions" "rights" "[I" "DerivativeCompiler" ∈ gk_nw := List.mem_of_getElem? (i := 4) rfl
theorem mn_5 : Cond.fieldLinkNest R_P 115 "DerivativeCompiler$Expressions" "callees" "[I" "DerivativeCompiler" ∈ gk_nw := List.mem_of_getElem? (i := 5) rfl
theorem mn_6 : Cond.fieldLinkNest R_C 138 "DerivativeCompiler$Expressions" "made" "I" "DerivativeCompiler" ∈ gk_nw := List.mem_of_getElem? (i := 6) rfl
theorem mn_7 : Cond.arrayOver (.object R_B) ∈ gk_nw := List.mem_of_getElem? (i := 7) rfl
theorem mn_8 : Cond.methodLinkNest R_P 26 y_T_init "DerivativeCompiler" ∈ gk_nw := List.mem_of_getElem? (i := 8) rfl
theorem mn_9 : Cond.fieldLinkNest R_P 87 "DerivativeCompiler$Trace" "values" "[J" "DerivativeCompiler" ∈ gk_nw := List.mem_of_getElem? (i := 9) rfl
theorem mn_10 : Cond.fieldLinkNest R_C 115 "DerivativeCompiler$Trace" "values" "[J" "DerivativeCompiler" ∈ gk_nw := List.mem_of_getElem? (i := 10) rfl
theorem mn_11 : Cond.fieldLinkNest R_C 40 "DerivativeCompiler$Program" "expressions" "LDerivativeCompiler$Expressions;" "DerivativeCompiler" ∈ gk_nw := List.mem_of_getElem? (i := 11) rfl
theorem mn_12 : Cond.fieldLinkNest R_C 62 "DerivativeCompiler$Program" "bodies" "[LDerivativeCompiler$Body;" "DerivativeCompiler" ∈ gk_nw := List.mem_of_getElem? (i := 12) rfl
theorem mn_13 : Cond.fieldLinkNest R_C 111 "DerivativeCompiler$Program" "trace" "LDerivativeCompiler$Trace;" "DerivativeCompiler" ∈ gk_nw := List.mem_of_getElem? (i := 13) rfl
theorem mn_14 : Cond.methodLinkNest R_C 18 y_K_init "DerivativeCompiler" ∈ gk_nw := List.mem_of_getElem? (i := 14) rfl
theorem mn_15 : Cond.fieldLinkNest R_C 132 "DerivativeCompiler$Costs" "totals" "[I" "DerivativeCompiler" ∈ gk_nw := List.mem_of_getElem? (i := 15) rfl
theorem mn_16 : Cond.methodLinkNest R_E 28 y_C_isBelow "DerivativeCompiler" ∈ gk_nw := List.mem_of_getElem? (i := 16) rfl
theorem mn_17 : Cond.fieldLinkNest R_P 67 "DerivativeCompiler$Body" "kinds" "[I" "DerivativeCompiler" ∈ gk_nw := List.mem_of_getElem? (i := 17) rfl
theorem mn_18 : Cond.fieldLinkNest R_P 61 "DerivativeCompiler$Body" "targets" "[I" "DerivativeCompiler" ∈ gk_nw := List.mem_of_getElem? (i := 18) rfl
theorem mn_19 : Cond.fieldLinkNest R_P 64 "DerivativeCompiler$Body" "operands" "[I" "DerivativeCompiler" ∈ gk_nw := List.mem_of_getElem? (i := 19) rfl
theorem mn_20 : Cond.fieldLinkNest R_P 49 "DerivativeCompiler$Body" "size" "I" "DerivativeCompiler" ∈ gk_nw := List.mem_of_getElem? (i := 20) rfl
theorem mn_21 : Cond.fieldLinkNest R_C 95 "DerivativeCompiler$Body" "size" "I" "DerivativeCompiler" ∈ gk_nw := List.mem_of_getElem? (i := 21) rfl
theorem mn_22 : Cond.fieldLinkNest R_P 133 "DerivativeCompiler$Body" "depth" "I" "DerivativeCompiler" ∈ gk_nw := List.mem_of_getElem? (i := 22) rfl
section GN
variable {p : Program} {l : Launch} {e : Env} {R : Room} {s : State} {m : MethodId} {args : Array Value} {below : List Frame} {meth : Method} {c : Code} {H : Heap} {locs : List Loc} {cells slots : Nat} {Q : State → Prop}
variable {cc : ByteArray} {pc : Nat} {ls : Array Slot} {rest st0 : List Value} {a : Array Value} {A : Nat → Prop} {H0 : Heap} {D : va_G} {ws W0 : va_W} {cI cJ cB cZ : ClassId}
theorem gn_I (hexec : p.tables.exec = Jvm.exec) (hb : c.code = cc) (harr : (Cond.arrayClass .int).before args s = true) (hK : va_K D vwCl (gk_T cI cJ cB cZ) s) (hP : va_P D vwCl ws H) (hD : va_D A ws) (hS : va_S A H0 H locs) (hA : ∀ q, H0.size ≤ q → A q)
    {n : Int32} {N : Nat} (hn : ¬ n < 0) (hN : n.toNatClampNeg = N) (hbytes : N * componentBytes .int ≤ 536870912) (hcells : cells + 1 ≤ R.cells) (hslots : slots + N ≤ R.slots) (hdg : decode cc pc = .ok (.newarray .int, 2))
    (kk : ∀ (q : Nat) (H1 : Heap), va_P D vwCl (ws ++ [(q, .inl (cI, N, .inl (fun _ => 0)))]) H1 → va_D A (ws ++ [(q, .inl (cI, N, .inl (fun _ => 0)))]) → va_S A H0 H1 locs → W p l e R s m args below meth c H1 locs (cells + 1) (slots + N) Q (F0 m (pc + 2) ls (.ref q :: rest))) : W p l e R s m args below meth c H locs cells slots Q (F0 m pc ls (.int n :: rest)) := by
  refine va_newa (atype := .int) (ty := .int) (a0 := (N, .inl (fun _ => 0))) hexec hb harr rfl hK hP hD hS hA (fun _ => rfl) hn hN hbytes hcells hslots hdg (fun q cA H1 hK1 hP1 hD1 hS1 => ?_)
  have e1 : s.vm.findClass ("[" ++ (FieldType.int).toString) = some cA := (hK1.2 4 _ rfl).2
  have e2 : s.vm.findClass ("[" ++ (FieldType.int).toString) = some cI := (hK.2 0 _ rfl).2
  obtain rfl : cA = cI := Option.some.inj (e1.symm.trans e2)
  exact kk q H1 hP1 hD1 hS1
theorem gn_J (hexec : p.tables.exec = Jvm.exec) (hb : c.code = cc) (harr : (Cond.arrayClass .long).before args s = true) (hK : va_K D vwCl (gk_T cI cJ cB cZ) s) (hP : va_P D vwCl ws H) (hD : va_D A ws) (hS : va_S A H0 H locs) (hA : ∀ q, H0.size ≤ q → A q)
    {n : Int32} {N : Nat} (hn : ¬ n < 0) (hN : n.toNatClampNeg = N) (hbytes : N * componentBytes .long ≤ 536870912) (hcells : cells + 1 ≤ R.cells) (hslots : slots + N ≤ R.slots) (hdg : decode cc pc = .ok (.newarray .long, 2))
    (kk : ∀ (q : Nat) (H1 : Heap), va_P D vwCl (ws ++ [(q, .inl (cJ, N, .inr (.inl (fun _ => 0))))]) H1 → va_D A (ws ++ [(q, .inl (cJ, N, .inr (.inl (fun _ => 0))))]) → va_S A H0 H1 locs → W p l e R s m args below meth c H1 locs (cells + 1) (slots + N) Q (F0 m (pc + 2) ls (.ref q :: rest))) : W p l e R s m args below meth c H locs cells slots Q (F0 m pc ls (.int n :: rest)) := by
  refine va_newa (atype := .long) (ty := .long) (a0 := (N, .inr (.inl (fun _ => 0)))) hexec hb harr rfl hK hP hD hS hA (fun _ => rfl) hn hN hbytes hcells hslots hdg (fun q cA H1 hK1 hP1 hD1 hS1 => ?_)
  have e1 : s.vm.findClass ("[" ++ (FieldType.long).toString) = some cA := (hK1.2 4 _ rfl).2
  have e2 : s.vm.findClass ("[" ++ (FieldType.long).toString) = some cJ := (hK.2 1 _ rfl).2
  obtain rfl : cA = cJ := Option.some.inj (e1.symm.trans e2)
  exact kk q H1 hP1 hD1 hS1
theorem gn_Z (hexec : p.tables.exec = Jvm.exec) (hb : c.code = cc) (harr : (Cond.arrayClass .boolean).before args s = true) (hK : va_K D vwCl (gk_T cI cJ cB cZ) s) (hP : va_P D vwCl ws H) (hD : va_D A ws) (hS : va_S A H0 H locs) (hA : ∀ q, H0.size ≤ q → A q)
    {n : Int32} {N : Nat} (hn : ¬ n < 0) (hN : n.toNatClampNeg = N) (hbytes : N * componentBytes .boolean ≤ 536870912) (hcells : cells + 1 ≤ R.cells) (hslots : slots + N ≤ R.slots) (hdg : decode cc pc = .ok (.newarray .boolean, 2))
    (kk : ∀ (q : Nat) (H1 : Heap), va_P D vwCl (ws ++ [(q, .inl (cZ, N, .inl (fun _ => 0)))]) H1 → va_D A (ws ++ [(q, .inl (cZ, N, .inl (fun _ => 0)))]) → va_S A H0 H1 locs → W p l e R s m args below meth c H1 locs (cells + 1) (slots + N) Q (F0 m (pc + 2) ls (.ref q :: rest))) : W p l e R s m args below meth c H locs cells slots Q (F0 m pc ls (.int n :: rest)) := by
  refine va_newa (atype := .boolean) (ty := .boolean) (a0 := (N, .inl (fun _ => 0))) hexec hb harr rfl hK hP hD hS hA (fun _ => rfl) hn hN hbytes hcells hslots hdg (fun q cA H1 hK1 hP1 hD1 hS1 => ?_)
  have e1 : s.vm.findClass ("[" ++ (FieldType.boolean).toString) = some cA := (hK1.2 4 _ rfl).2
  have e2 : s.vm.findClass ("[" ++ (FieldType.boolean).toString) = some cZ := (hK.2 3 _ rfl).2
  obtain rfl : cA = cZ := Option.some.inj (e1.symm.trans e2)
  exact kk q H1 hP1 hD1 hS1
theorem gn_Q (hexec : p.tables.exec = Jvm.exec) (hb : c.code = cc) {own : String} {index : Nat} (hown : s.vm.findClass own = some m.cls) (hcl : (Cond.classLink own index R_B).before args s = true) (hover : va_AO R_B s) (hK : va_K D vwCl (gk_T cI cJ cB cZ) s) (hP : va_P D vwCl ws H) (hD : va_D A ws) (hS : va_S A H0 H locs) (hA : ∀ q, H0.size ≤ q → A q)
    {n : Int32} {N : Nat} (hn : ¬ n < 0) (hN : n.toNatClampNeg = N) (hbytes : N * 4 ≤ 536870912) (hcells : cells + 1 ≤ R.cells) (hslots : slots + N ≤ R.slots) (hdg : decode cc pc = .ok (.anewarray index, 3))
    (kk : ∀ (q : Nat) (H1 : Heap), va_P D vwCl (ws ++ [(q, .inl (cB, N, .inr (.inr (.inr (.inr (fun _ => none))))))]) H1 → va_D A (ws ++ [(q, .inl (cB, N, .inr (.inr (.inr (.inr (fun _ => none))))))]) → va_S A H0 H1 locs → W p l e R s m args below meth c H1 locs (cells + 1) (slots + N) Q (F0 m (pc + 3) ls (.ref q :: rest))) : W p l e R s m args below meth c H locs cells slots Q (F0 m pc ls (.int n :: rest)) := by
  refine va_newq hexec hb hown hcl hover hK hP hD hS hA hn hN hbytes hcells hslots hdg (fun q cA H1 hK1 hP1 hD1 hS1 => ?_)
  obtain ⟨_, _, _, _, _, e1⟩ := (hK1.2 4 (cA, .object R_B) rfl).2
  obtain ⟨_, _, _, _, _, e2⟩ := (hK.2 2 (cB, .object R_B) rfl).2
  obtain rfl : cA = cB := Option.some.inj (e1.symm.trans e2)
  exact kk q H1 hP1 hD1 hS1
/-- a call whose callee makes cells -/
theorem gd_i {mc ms : Nat} {Post : Int32 → va_W → Prop} (hr : va_Run p l e R s m args below meth c H locs cells slots mc ms (F0 m pc ls st0) rest (gq_I D (va_A W0 H.size) Post a) (va_A W0 H.size)) (hP : va_P D vwCl ws H) (hD : va_D A ws) (hS : va_S A H0 H locs) (hA : ∀ q, H0.size ≤ q → A q) (is ir : List Nat) {wr : va_W} (hC : is.map (fun i => ws[i]?) = W0.map some) (hR : ir.map (fun i => ws[i]?) = wr.map some) (hn : va_nd ir = true) (hd : ∀ i ∈ ir, i ∉ is)
    (kk : ∀ (r : Int32) (w : va_W) (H1 : Heap) (locs1 : List Loc), Post r w → va_P D vwCl (wr ++ w) H1 → va_D A (wr ++ w) → va_S A H0 H1 locs1 → W p l e R s m args below meth c H1 locs1 (cells + mc) (slots + ms) Q (F0 m (pc + 3) ls (.int r :: rest))) : W p l e R s m args below meth c H locs cells slots Q (F0 m pc ls st0) := by
  have hF := va_free (wc := W0) hD hS hA is hC
  refine va_calli hr hS (fun q _ h => hF q h) hF (fun r w t H1 locs1 ht hvm hw hB hz1 hk1 hS => ?_)
  obtain ⟨hP1, hD1⟩ := hB
  rw [ht] at hP1
  obtain ⟨hP2, hD2⟩ := va_join (wr := wr) (w1 := w) hP hD is ir hC hR hn hd hk1 hF hP1 hD1
  exact kk r w H1 locs1 hw hP2 hD2 hS
theorem gd_v {mc ms : Nat} {Post : va_W → Prop} (hr : va_Run p l e R s m args below meth c H locs cells slots mc ms (F0 m pc ls st0) rest (gq_V D (va_A W0 H.size) Post a) (va_A W0 H.size)) (hP : va_P D vwCl ws H) (hD : va_D A ws) (hS : va_S A H0 H locs) (hA : ∀ q, H0.size ≤ q → A q) (is ir : List Nat) {wr : va_W} (hC : is.map (fun i => ws[i]?) = W0.map some) (hR : ir.map (fun i => ws[i]?) = wr.map some) (hn : va_nd ir = true) (hd : ∀ i ∈ ir, i ∉ is)
    (kk : ∀ (w : va_W) (H1 : Heap) (locs1 : List Loc), Post w → va_P D vwCl (wr ++ w) H1 → va_D A (wr ++ w) → va_S A H0 H1 locs1 → W p l e R s m args below meth c H1 locs1 (cells + mc) (slots + ms) Q (F0 m (pc + 3) ls rest)) : W p l e R s m args below meth c H locs cells slots Q (F0 m pc ls st0) := by
  have hF := va_free (wc := W0) hD hS hA is hC
  refine va_callv hr hS (fun q _ h => hF q h) hF (fun w t H1 locs1 ht hvm hw hB hz1 hk1 hS => ?_)
  obtain ⟨hP1, hD1⟩ := hB
  rw [ht] at hP1
  obtain ⟨hP2, hD2⟩ := va_join (wr := wr) (w1 := w) hP hD is ir hC hR hn hd hk1 hF hP1 hD1
  exact kk w H1 locs1 hw hP2 hD2 hS
end GN
