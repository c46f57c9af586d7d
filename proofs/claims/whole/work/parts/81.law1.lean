/-- blocks of a world in another order -/
theorem perm_ix {α : Type} (bs : List α) (is : List Nat) (h : is.isPerm (List.range bs.length) = true) : (is.filterMap (fun i => bs[i]?)).Perm bs := by
  have h1 : (List.range bs.length).map (fun i => bs[i]?) = bs.map some := by
    refine List.ext_getElem (by simp) (fun i h1 h2 => ?_)
    have hi : i < bs.length := by simpa using h2
    rw [List.getElem_map, List.getElem_map, List.getElem_range, List.getElem?_eq_getElem hi]
  have h2 : (List.range bs.length).filterMap (fun i => bs[i]?) = bs := by
    have e1 : (List.range bs.length).filterMap (fun i => bs[i]?) = ((List.range bs.length).map (fun i => bs[i]?)).filterMap id := by rw [List.filterMap_map]; rfl
    rw [e1, h1, List.filterMap_map]
    exact List.filterMap_some
  have h3 := (List.isPerm_iff.mp h).filterMap (fun i => bs[i]?)
  rw [h2] at h3
  exact h3
theorem gl_P {D : va_G} {cl : List vw_C} {ws : va_W} {H : Heap} (hP : va_P D cl ws H) (bs : List va_W) (is : List Nat) {ws2 : va_W} (hw : bs.flatten = ws) (h : is.isPerm (List.range bs.length) = true) (h2 : (is.filterMap (fun i => bs[i]?)).flatten = ws2) : va_P D cl ws2 H := by
  subst hw
  subst h2
  exact gk_P_perm (fun q hq => (perm_ix bs is h).flatten.mem_iff.mp hq) hP
theorem gl_D {A : Nat → Prop} {ws : va_W} (hD : va_D A ws) (bs : List va_W) (is : List Nat) {ws2 : va_W} (hw : bs.flatten = ws) (h : is.isPerm (List.range bs.length) = true) (h2 : (is.filterMap (fun i => bs[i]?)).flatten = ws2) : va_D A ws2 := by
  subst hw
  subst h2
  rw [gk_D_nodup] at hD ⊢
  have hp := (perm_ix bs is h).flatten
  exact ⟨((hp.map (·.1)).nodup_iff).mpr hD.1, fun q hq => hD.2 q (hp.mem_iff.mp hq)⟩
theorem nw_in : ∀ w ∈ gk_nw, w ∈ lw_tbl ∧ (w.onTables = true ∨ w = Cond.arrayOver (.object R_B)) := by decide +kernel
theorem lw_hN {a : Array Value} {s : State} (hts : ∀ w ∈ lw_tbl, w.before a s = true) : gk_N gk_nw s := fun w hw => by
  rcases (nw_in w hw).2 with h | h
  · exact va_Nw.of h (hts w (nw_in w hw).1)
  · subst h; exact va_AO.of (hts _ (nw_in _ hw).1)
theorem lw_arr {a : Array Value} {s : State} {ty : FieldType} (hty : ∀ C, ty ≠ .object C) (h : (Cond.arrayClass ty).before a s = true) : ∃ cA, ArrOfT s cA ty ∧ va_RA s cA ty := by
  obtain ⟨cA, kA, comp, h1, h2, h3⟩ := Cond.arrayClass_spec h
  refine ⟨cA, fun n z => ⟨fun k h => (by cases h), kA, h2, comp, h3⟩, ?_⟩
  cases ty <;> first | exact h1 | exact absurd rfl (hty _)
theorem lw_arrq {s : State} (h : va_AO R_B s) : ∃ cA, ArrOfT s cA (.object R_B) ∧ va_RA s cA (.object R_B) := by
  obtain ⟨comp, cA, kA, h1, h2, h3, h4, h5⟩ := Cond.arrayOver_spec (va_AO.use (A := #[]) h)
  exact ⟨cA, fun N z => ⟨(fun k h => by cases h), kA, h3, comp, h4⟩, kA, comp, h3, h4, h1, h5⟩
theorem lw_hK {a : Array Value} {s : State} (hts : ∀ w ∈ lw_tbl, w.before a s = true) : ∃ (D : va_G) (cI cJ cB cZ : ClassId), va_K D vwCl (gk_T cI cJ cB cZ) s := by
  have ht : ∀ w ∈ gk_big, w.before a s = true := fun w h => hts w (List.mem_filter.mp h).1
  obtain ⟨c0, i0, k0⟩ := u_known (C := R_B) (T := F_B) (N := 8) ht i_B (ht _ m_210)
  obtain ⟨c1, i1, k1⟩ := u_known (C := R_K) (T := F_K) (N := 5) ht i_K (ht _ m_108)
  obtain ⟨c2, i2, k2⟩ := u_known (C := R_E) (T := F_E) (N := 5) ht i_E (ht _ m_25)
  obtain ⟨c3, i3, k3⟩ := u_known (C := R_P) (T := F_P) (N := 4) ht i_P (ht _ m_19)
  obtain ⟨c4, i4, k4⟩ := u_known (C := R_T) (T := F_T) (N := 9) ht i_T (ht _ m_55)
  obtain ⟨c5, i5, k5⟩ := u_known (C := R_C) (T := F_C) (N := 7) ht i_C (ht _ m_11)
  obtain ⟨c6, i6, k6⟩ := u_known (C := R_M) (T := F_M) (N := 24) ht i_M (ht _ m_449)
  obtain ⟨cI, hI⟩ := lw_arr (ty := .int) (fun C h => by cases h) (ht _ m_51)
  obtain ⟨cJ, hJ⟩ := lw_arr (ty := .long) (fun C h => by cases h) (ht _ m_90)
  obtain ⟨cZ, hZ⟩ := lw_arr (ty := .boolean) (fun C h => by cases h) (ht _ m_527)
  obtain ⟨cB, hB⟩ := lw_arrq (lw_hN hts _ mn_7)
  refine ⟨(fun k => match k with | 0 => c0 | 1 => c1 | 2 => c2 | 3 => c3 | 4 => c4 | 5 => c5 | _ => c6, fun k => match k with | 0 => i0 | 1 => i1 | 2 => i2 | 3 => i3 | 4 => i4 | 5 => i5 | _ => i6), cI, cJ, cB, cZ, fun k q hq => ?_, fun k q hq => ?_⟩
  · match k, hq with
    | 0, hq => cases hq; exact k0
    | 1, hq => cases hq; exact k1
    | 2, hq => cases hq; exact k2
    | 3, hq => cases hq; exact k3
    | 4, hq => cases hq; exact k4
    | 5, hq => cases hq; exact k5
    | 6, hq => cases hq; exact k6
    | k + 7, hq => simp [vwCl] at hq
  · match k, hq with
    | 0, hq => cases hq; exact hI
    | 1, hq => cases hq; exact hJ
    | 2, hq => cases hq; exact hB
    | 3, hq => cases hq; exact hZ
    | k + 4, hq => simp [gk_T] at hq
/-- seven ints more -/
theorem lw_gt {i L : Nat} (hL : L ≤ 3584) (hi : i ≤ L) (h : ¬ nI L - 7 < nI i) : i + 7 ≤ L := by
  rw [Int32.lt_iff_toInt_lt, show (nI L - 7).toInt = (L : Int) - 7 from pk_sub_toInt (b := 7) (by omega) (by decide), nI_toInt (by omega)] at h
  omega
/-- the bodies lie in the pool -/
theorem lw_pool {cI : ClassId} {F : Nat} {ro so di od : Nat → Nat} {C : Cs} {X : Ex} {pd : Nat → Option (Nat × (Nat → Nat))} {Bs : Nat → Bd} {of9 by9 : Nat → Int32} {sk : Nat → Nat} {sa sb : Nat → Int32} {sz : Nat → Nat} (h : GI F ro so di od C X pd Bs of9 by9 sk sa sb sz) : pool_ok cI (tlp cI pd Bs) X (pd_a pd) Bs := by
  intro f hf o ho
  unfold pd_a at ho
  cases hp : pd f with
  | none => rw [hp] at ho; cases ho
  | some oq =>
    rw [hp] at ho
    cases ho
    have of : ob F od f := Classical.byContradiction fun z => by rw [(h.2.2.2.2.2.2.2.1 f hf).mpr z] at hp; cases hp
    exact ⟨oq.2, tlp_in hf hp, (h.2.2.2.2.2.1.2.2.1 f hf of).1.2.1⟩
theorem lw_ba {pd : Nat → Option (Nat × (Nat → Nat))} (f : Nat) : pd_a pd f = none ↔ pd f = none := by
  unfold pd_a
  cases pd f with
  | none => exact ⟨fun _ => rfl, fun _ => rfl⟩
  | some v => exact ⟨fun z => (by cases z), fun z => (by cases z)⟩
theorem lw_sx {F : Nat} {ro so di od : Nat → Nat} {C : Cs} {X : Ex} {pd : Nat → Option (Nat × (Nat → Nat))} {Bs : Nat → Bd} {of9 by9 : Nat → Int32} {sk : Nat → Nat} {sa sb : Nat → Int32} {sz : Nat → Nat} (h : GI F ro so di od C X pd Bs of9 by9 sk sa sb sz) {S : Sx} (hS : sx_ok S) {f : Nat} (hf : f < 8) (x y : Int64) : sx_ok (px_go X (pd_a pd) Bs f x y S).2 :=
  (px_go_ok h.2.2.2.2.2.1.1 (fun g hg hb => by
    have og : ob F od g := Classical.byContradiction fun z => hb ((lw_ba g).mpr ((h.2.2.2.2.2.2.2.1 g hg).mpr z))
    exact (h.2.2.2.2.2.1.2.2.1 g hg og).1.2.1) hf hS).2
def Rz : Nat → Prop := fun _ => False
theorem gb_Rz : (fun z9 => gb (Rz z9)) = (fun _ => 0) := funext fun _ => (gb_f (fun h => h)).symm
/-! THE CLAIM OUT OF ONE WALK OF THE LAW'S BODY. Your part is whole_start (and what it stands on); all else here is the same for every law, but numbers. -/
def R_law : String := "DerivativeCompilerLaw"
def lw_P (b : Addr) (xs : List Int32) (args : Array Value) (s : State) : Prop := args = #[.ref b] ∧ s.IntsAt b xs ∧ xs.length ≤ 3584 ∧ (Jvm.Cond.and given_1 narrow_1).before args s = true
def lw_Q (_ : Array Value) (s : State) (o : Outcome) (t : State) : Prop := o = .returned (some (.int 1)) ∧ Framed s o t [] 600000 7302250
def lw_Z (below : List Frame) (a : Array Value) (s : State) : State → Prop := fun t => ∃ o, t.status = .running ∧ Ended t below o ∧ lw_Q a s o t
/-- the law's own end, with 1 on the stack, nothing written that was there before, its room as the claim has it -/
theorem lw_ret {p : Program} {l : Launch} {e : Env} {s : State} {m : MethodId} {below : List Frame} {meth : Method} {c : Code} {b : Nat} (hx : p.tables.exec = Jvm.exec) (hb : c.code = code) (hr : meth.sig.returnType = ret) (hlocks : meth.locks = false) {pc : Nat} {H : Heap} {ls : Array Slot} (hdg : decode code pc = .ok (.ireturn, 1)) : W p l e room_1 s m #[Value.ref b] below meth c H [] 600000 7302250 (lw_Z below #[Value.ref b] s) (F0 m pc ls [.int 1]) := by
  intro T hT X
  obtain ⟨fs, hret, hrun, hended, hW, hframe⟩ := X.leave (v := some (.int 1)) (hlocks := hlocks) (fun h => by rw [hr] at h; cases h)
  have hmeth' : T.vm.method? m = some meth := X.method'
  refine ⟨T.setFrames fs, ?_, .returned (some (.int 1)), hrun, hended, rfl, ⟨_, rfl⟩, hW, hframe⟩
  jvm_step X.here [X.here.top, hx, hb, hdg, hmeth', hr, ret, narrow_b1]
  (try refine ⟨rfl, ?_⟩); (try refine ⟨rfl, ?_⟩)
  first | (intro acts; rw [hret _ acts rfl rfl rfl]) | rw [hret _ _ rfl rfl rfl]
  exact Steps.refl _
/-- what holds at the law's entry: the machine, the code, the tables' words (any of lw_tbl by 'hts w (by decide +kernel)'), the script of L ints xs at the cell b, what the Statement gives of the start (any of its parts by flat_of_before) -/
def lw_At (p : Program) (s : State) (m : MethodId) (meth : Method) (c : Code) (b L : Nat) (xs : Nat → Int32) : Prop :=
  p.tables.exec = Jvm.exec ∧ c.code = code ∧ meth.sig.returnType = ret ∧ c.maxLocals = 4 ∧ s.vm.findClass R_law = some m.cls ∧ (∀ w ∈ lw_tbl, w.before #[Value.ref b] s = true) ∧ va_X b L xs s s.heap ∧ b < s.heap.size ∧ meth.locks = false ∧ (Jvm.Cond.and given_1 narrow_1).before #[Value.ref b] s = true
