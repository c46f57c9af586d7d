-- numbers known as nI n
theorem gx_in {x : Int32} {a n : Nat} (hx : x = nI a) (h : a < n) (hn : n < 2 ^ 31) : vp_in x n := by rw [hx]; exact vp_in_nI h hn
theorem gx_cl {x : Int32} {a : Nat} (hx : x = nI a) (h : a < 2 ^ 31) : x.toNatClampNeg = a := by rw [hx]; exact nI_clamp h
theorem gx_add {x y : Int32} {a b : Nat} (hx : x = nI a) (hy : y = nI b) : x + y = nI (a + b) := by rw [hx, hy]; exact nI_add a b
theorem gx_mul {x y : Int32} {a b : Nat} (hx : x = nI a) (hy : y = nI b) : x * y = nI (a * b) := by rw [hx, hy]; exact pk_mul a b
theorem gx_sub {x y : Int32} {a b : Nat} (hx : x = nI a) (hy : y = nI b) (h : b ≤ a) : x - y = nI (a - b) := by rw [hx, hy]; exact pk_sub h
theorem gx_dec {x : Int32} {a : Nat} (hx : x = nI a) (h : 1 ≤ a) : x + (-1) = nI (a - 1) := by
  obtain ⟨b, rfl⟩ : ∃ b, a = b + 1 := ⟨a - 1, by omega⟩
  rw [hx]; exact pk_m1 b
theorem gx_le {x y : Int32} {a b : Nat} (hx : x = nI a) (hy : y = nI b) (ha : a < 2 ^ 31) (hb : b < 2 ^ 31) : x ≤ y ↔ a ≤ b := by rw [hx, hy]; exact nI_leI ha hb
theorem gx_lt {x y : Int32} {a b : Nat} (hx : x = nI a) (hy : y = nI b) (ha : a < 2 ^ 31) (hb : b < 2 ^ 31) : x < y ↔ a < b := by rw [hx, hy]; exact nI_ltI ha hb
theorem gx_eq {x y : Int32} {a b : Nat} (hx : x = nI a) (hy : y = nI b) (ha : a < 2 ^ 31) (hb : b < 2 ^ 31) : x = y ↔ a = b := by rw [hx, hy]; exact nI_eq ha hb
-- the words of nest mates
def gk_isN : Cond → Bool
  | .fieldLinkNest .. => true
  | .methodLinkNest .. => true
  | .arrayOver (.object _) => true
  | _ => false
def gk_N (nw : List Cond) (U : State) : Prop := ∀ w ∈ nw, va_Nw w U
theorem gk_N.warm {nw : List Cond} (hn : nw.all gk_isN = true) {s U : State} (hW : s.WarmedH U.vm) (h : gk_N nw s) : gk_N nw U := by
  intro w hw
  have h1 := List.all_eq_true.mp hn w hw
  have h2 := h w hw
  cases w <;> first | exact va_Nw.warmF hW h2 | exact va_Nw.warmM hW h2 | (simp [gk_isN] at h1; done) | skip
  rename_i ty
  cases ty <;> first | exact va_AO.moved hW.alike h2 | (simp [gk_isN] at h1)
theorem gk_N.call {nw : List Cond} (hn : nw.all gk_isN = true) {U : State} {g : JFrame} {mk : MethodId} {a : Array Value} (h : gk_N nw U) : gk_N nw (U.calling g mk a) := by
  intro w hw
  have h1 := List.all_eq_true.mp hn w hw
  have h2 := h w hw
  cases w <;> first | exact va_Nw.same rfl rfl h2 | (simp [gk_isN] at h1; done) | skip
  rename_i ty
  cases ty <;> first | exact va_AO.moved (u := U) (U := U.calling g mk a) (Vm.Alike.refl U.vm) h2 | (simp [gk_isN] at h1)
-- a part of a world is changed in its place
def gk_set : va_W → List Nat → va_W → va_W
  | ws, i :: is, x :: xs => gk_set (ws.set i x) is xs
  | ws, _, _ => ws
theorem gk_set_spec : ∀ (is : List Nat) (xs ws : va_W), is.length = xs.length → va_nd is = true → ∀ (k : Nat) (q : Nat × va_E), (gk_set ws is xs)[k]? = some q → (∃ j : Nat, is[j]? = some k ∧ xs[j]? = some q) ∨ (ws[k]? = some q ∧ k ∉ is)
  | [], xs, ws, _, _, k, q, h => by
    cases xs <;> exact Or.inr ⟨h, List.not_mem_nil⟩
  | i :: is, [], ws, hl, _, k, q, h => by simp at hl
  | i :: is, x :: xs, ws, hl, hn, k, q, h => by
    simp only [va_nd, Bool.and_eq_true, decide_eq_true_eq] at hn
    have hl' : is.length = xs.length := by simpa using hl
    rcases gk_set_spec is xs (ws.set i x) hl' hn.2 k q h with ⟨j, h1, h2⟩ | ⟨h1, h2⟩
    · exact Or.inl ⟨j + 1, by rw [List.getElem?_cons_succ]; exact h1, by rw [List.getElem?_cons_succ]; exact h2⟩
    · by_cases hk : i = k
      · subst hk
        rw [List.getElem?_set] at h1
        simp only [if_true] at h1
        split at h1
        · exact Or.inl ⟨0, rfl, by rw [List.getElem?_cons_zero]; exact h1⟩
        · cases h1
      · rw [List.getElem?_set_ne hk] at h1
        exact Or.inr ⟨h1, fun z => by rcases List.mem_cons.mp z with z | z; exact hk z.symm; exact h2 z⟩
theorem gk_at {ws wc : va_W} {is : List Nat} (hC : is.map (fun i => ws[i]?) = wc.map some) {k : Nat} {q : Nat × va_E} (hq : wc[k]? = some q) : ∃ i, is[k]? = some i ∧ ws[i]? = some q := by
  have h1 : (is.map (fun i => ws[i]?))[k]? = some (some q) := by rw [hC, List.getElem?_map, hq]; rfl
  rw [List.getElem?_map] at h1
  cases hi : is[k]? with
  | none => rw [hi] at h1; cases h1
  | some i => rw [hi] at h1; exact ⟨i, rfl, Option.some.inj h1⟩
theorem gk_join {A : Nat → Prop} {D : va_G} {cl : List vw_C} {ws wc w1 : va_W} {H H1 : Heap} (hP : va_P D cl ws H) (hD : va_D A ws) (is : List Nat) (hC : is.map (fun i => ws[i]?) = wc.map some) (hn : va_nd is = true) (ha : w1.map (·.1) = wc.map (·.1))
    (hk : ∀ q : Nat, q < H.size → ¬ va_A wc H.size q → H1[q]? = H[q]?) (hP1 : va_P D cl w1 H1) : va_P D cl (gk_set ws is w1) H1 ∧ va_D A (gk_set ws is w1) := by
  have hlen : is.length = w1.length := by
    have e1 := congrArg List.length hC
    have e2 := congrArg List.length ha
    simp only [List.length_map] at e1 e2
    omega
  have key : ∀ (k : Nat) (q : Nat × va_E), (gk_set ws is w1)[k]? = some q → ∃ q0, ws[k]? = some q0 ∧ q0.1 = q.1 := by
    intro k q h
    rcases gk_set_spec is w1 ws hlen hn k q h with ⟨j, h1, h2⟩ | ⟨h1, -⟩
    · have e1 : (wc.map (·.1))[j]? = some q.1 := by rw [← ha, List.getElem?_map, h2]; rfl
      rw [List.getElem?_map] at e1
      cases hw : wc[j]? with
      | none => rw [hw] at e1; cases e1
      | some q0 =>
        rw [hw] at e1
        obtain ⟨i, g1, g2⟩ := gk_at hC hw
        cases h1.symm.trans g1
        exact ⟨q0, g2, Option.some.inj e1⟩
    · exact ⟨q, h1, rfl⟩
  refine ⟨fun k q h => ?_, fun i j x y hi hj hxy => ?_, fun k q h => ?_⟩
  · rcases gk_set_spec is w1 ws hlen hn k q h with ⟨j, h1, h2⟩ | ⟨h1, h2⟩
    · exact hP1 j q h2
    · refine (hP k q h1).kept (hk q.1 (hP k q h1).lt fun z => ?_)
      rcases z with ⟨k2, e, z⟩ | z
      · obtain ⟨i, g1, g2⟩ := gk_at hC z
        have := hD.1 k i q (q.1, e) h1 g2 rfl
        subst this
        exact h2 (List.mem_of_getElem? g1)
      · have := (hP k q h1).lt
        omega
  · obtain ⟨x0, g1, g2⟩ := key i x hi
    obtain ⟨y0, g3, g4⟩ := key j y hj
    exact hD.1 i j x0 y0 g1 g3 (g2.trans (hxy.trans g4.symm))
  · obtain ⟨q0, g1, g2⟩ := key k q h
    rw [← g2]
    exact hD.2 k q0 g1
-- worlds in another order
theorem gk_P_perm {D : va_G} {cl : List vw_C} {w1 w2 : va_W} {H : Heap} (h : ∀ q, q ∈ w2 → q ∈ w1) (hP : va_P D cl w1 H) : va_P D cl w2 H := by
  intro k q hk
  obtain ⟨i, hi⟩ := List.getElem?_of_mem (h q (List.mem_of_getElem? hk))
  exact hP i q hi
theorem gk_D_nodup {A : Nat → Prop} {ws : va_W} : va_D A ws ↔ (ws.map (·.1)).Nodup ∧ ∀ q ∈ ws, A q.1 := by
  constructor
  · intro h
    refine ⟨?_, fun q hq => ?_⟩
    · show List.Pairwise (· ≠ ·) (ws.map (·.1))
      rw [List.pairwise_iff_getElem]
      intro i j hi hj hij e
      have hj' : j < ws.length := by simpa using hj
      have hi' : i < ws.length := by simpa using hi
      have := h.1 i j ws[i] ws[j] (List.getElem?_eq_getElem hi') (List.getElem?_eq_getElem hj') (by simpa using e)
      omega
    · obtain ⟨i, hi⟩ := List.getElem?_of_mem hq
      exact h.2 i q hi
  · intro ⟨h1, h2⟩
    refine ⟨fun i j x y hi hj hxy => ?_, fun k q hk => h2 q (List.mem_of_getElem? hk)⟩
    have hi' : i < (ws.map (·.1)).length := by rw [List.length_map]; exact (List.getElem?_eq_some_iff.mp hi).1
    refine (List.getElem?_inj hi' h1).mp ?_
    rw [List.getElem?_map, List.getElem?_map, hi, hj]
    simp [hxy]
theorem gk_D_perm {A : Nat → Prop} {w1 w2 : va_W} (h : w1.Perm w2) (hD : va_D A w1) : va_D A w2 := by
  rw [gk_D_nodup] at hD ⊢
  exact ⟨((h.map (·.1)).nodup_iff).mp hD.1, fun q hq => hD.2 q (h.mem_iff.mpr hq)⟩
