set_option maxHeartbeats 4000000 in
set_option maxRecDepth 100000 in
theorem lw_case4 {p : Program} {l : Launch} {e : Env} {s : State} {m : MethodId} {below : List Frame} {meth : Method} {c : Code} {D : va_G} {cI cJ cB cZ : ClassId} {h g ko eo bo t co mo : Nat} {hq kq eq tq mq : Nat → Nat} {b L i : Nat} {xs : Nat → Int32} (hL : L ≤ 3584) (hi : i + 7 ≤ L) (C0 : lw_At p s m meth c b L xs) (hK : va_K D vwCl (gk_T cI cJ cB cZ) s) (hN : gk_N gk_nw s) (hJ : lw_J p l e s m below meth c D cI cJ cB cZ h g ko eo bo t co mo hq kq eq tq mq b i 562 (50 + i + 7) (6510 + 12 * i + 81)) : lw_J p l e s m below meth c D cI cJ cB cZ h g ko eo bo t co mo hq kq eq tq mq b i 240 (50 + i) (6510 + 12 * i) := by
  obtain ⟨hx, hb, hr, hml, hown, hts, hXs, hbl, hlocks, hgv⟩ := C0
  have ht : ∀ w ∈ gk_big, w.before _ s = true := fun w h => hts w (List.mem_filter.mp h).1
  have hown : s.vm.findClass R_L = some m.cls := hown
  have hA : ∀ q : Nat, s.heap.size ≤ q → (fun q : Nat => s.heap.size ≤ q) q := fun _ h => h
  have hbA : ¬ (fun q : Nat => s.heap.size ≤ q) b := Nat.not_le.mpr hbl
  intro F ro so di od C X pd Bs S f1 f2 f3 f4 of9 by9 sk sa9 sb9 sz eC fC R0 Q0 M hI H locs ls hP hD hS hl
  obtain ⟨hG, hSx, heC, hfC, hp8⟩ := hI
  obtain ⟨g1, g2, g3, g4, g5, g6, g7, g8, g9, g10, g11, g12, g13, g14⟩ := id hG
  have hC := g6
  have hX := g6.1
  have hn80 := hX.1
  have hsz := gi_sz hG
  have hsk := g7.2.2
  have hsb : ∀ f k, f < 8 → k < sz f → sk (12 * f + k) ≤ 2 → ∃ e, e < X.2.2.2.2 ∧ sb9 (12 * f + k) = nI e := fun f k _ hk z => (gi_st hG hk).1 z
  have hs4 : ∀ f k, f < 8 → k < sz f → sk (12 * f + k) = 4 → ∃ b, 1 ≤ b ∧ b ≤ 5 ∧ sb9 (12 * f + k) = nI b := fun f k _ hk z => (gi_st hG hk).2.1 z
  have hs0 : ∀ f k, f < 8 → k < sz f → sk (12 * f + k) = 0 → ∃ v, v < 6 ∧ sa9 (12 * f + k) = nI v := fun f k _ hk z => (gi_st hG hk).2.2.1 z
  have hs1 : ∀ f k, f < 8 → k < sz f → sk (12 * f + k) = 1 → ∃ v, v < 2 ∧ sa9 (12 * f + k) = nI v := fun f k _ hk z => (gi_st hG hk).2.2.2 z
  have hP : va_P D vwCl ([(h, .inr (5, [.ref g, .ref ko, .ref (hq 0), .ref (hq 1), .ref (hq 2), .ref (hq 3), .int (nI F)])), ((hq 0), .inl (cI, 8, .inl (fun z9 => nI (ro z9)))), ((hq 1), .inl (cI, 8, .inl (fun z9 => nI (so z9)))), ((hq 2), .inl (cI, 8, .inl (fun z9 => nI (di z9)))), ((hq 3), .inl (cI, 8, .inl (fun z9 => nI (od z9)))), (ko, .inr (1, [.ref (kq 0), .ref (kq 1), .ref (kq 2), .ref (kq 3), .ref (kq 4)])), ((kq 0), .inl (cI, 80, .inl (fun z9 => nI (C.1 z9)))), ((kq 1), .inl (cI, 640, .inl (fun z9 => nI (C.2.1 z9)))), ((kq 2), .inl (cI, 64, .inl (fun z9 => nI (C.2.2.1 z9)))), ((kq 3), .inl (cI, 8, .inl (fun z9 => nI (C.2.2.2.1 z9)))), ((kq 4), .inl (cI, 8, .inl (fun z9 => nI (C.2.2.2.2 z9)))), (g, .inr (3, [.ref eo, .ref bo, .ref t, .ref co])), (eo, .inr (2, [.ref (eq 0), .ref (eq 1), .ref (eq 2), .ref (eq 3), .int (nI X.2.2.2.2)])), ((eq 0), .inl (cI, 80, .inl X.1)), ((eq 1), .inl (cI, 80, .inl X.2.1)), ((eq 2), .inl (cI, 80, .inl X.2.2.1)), ((eq 3), .inl (cI, 80, .inl X.2.2.2.1)), (bo, .inl (cB, 8, .inr (.inr (.inr (.inr (pd_a pd)))))), (t, .inr (4, [.ref (tq 0), .ref (tq 1), .ref (tq 2), .ref (tq 3), .ref (tq 4), .ref (tq 5), .ref (tq 6), .ref (tq 7), .int (nI S.1.2.2.2.2)])), ((tq 0), .inl (cI, 64, .inl (fun z9 => nI (S.1.1 z9)))), ((tq 1), .inl (cI, 64, .inl (fun z9 => nI (S.1.2.1 z9)))), ((tq 2), .inl (cI, 64, .inl (fun z9 => nI (S.1.2.2.1 z9)))), ((tq 3), .inl (cJ, 64, .inr (.inl S.1.2.2.2.1))), ((tq 4), .inl (cJ, 64, .inr (.inl f1))), ((tq 5), .inl (cJ, 64, .inr (.inl f2))), ((tq 6), .inl (cJ, 64, .inr (.inl f3))), ((tq 7), .inl (cJ, 64, .inr (.inl f4))), (co, .inl (cI, 112, .inl (fun z9 => nI (S.2 z9))))] ++ ((tlp cI pd Bs) ++ [(mo, .inr (6, [.ref (mq 0), .ref (mq 1), .ref (mq 2), .ref (mq 3), .int (nI X.2.2.2.2), .ref (mq 5), .ref (mq 6), .int (nI F), .ref (mq 8), .ref (mq 9), .ref (mq 10), .ref (mq 11), .ref (mq 12), .ref (mq 13), .ref (mq 14), .ref (mq 15), .ref (mq 16), .ref (mq 17), .ref (mq 18), .ref (mq 19), .ref (mq 20), .ref (mq 21), .ref (mq 22), .int (nI M.1)])), ((mq 8), .inl (cI, 96, .inl (fun z9 => nI (sk z9)))), ((mq 9), .inl (cI, 96, .inl sa9)), ((mq 10), .inl (cI, 96, .inl sb9)), ((mq 11), .inl (cI, 8, .inl (fun z9 => nI (sz z9)))), ((mq 0), .inl (cI, 80, .inl X.1)), ((mq 1), .inl (cI, 80, .inl X.2.1)), ((mq 2), .inl (cI, 80, .inl X.2.2.1)), ((mq 3), .inl (cI, 80, .inl X.2.2.2.1)), ((mq 17), .inl (cJ, 2560, .inr (.inl M.2.2.2.2.2.2.1))), ((mq 16), .inl (cJ, 448, .inr (.inl M.2.2.2.2.2.1))), ((mq 19), .inl (cI, 8, .inl (fun z9 => nI (M.2.1 z9)))), ((mq 20), .inl (cI, 8, .inl (fun z9 => nI (M.2.2.1 z9)))), ((mq 21), .inl (cI, 8, .inl M.2.2.2.1)), ((mq 18), .inl (cZ, 640, .inl (fun z9 => gb (M.2.2.2.2.2.2.2 z9)))), ((mq 22), .inl (cI, 192, .inl (fun z9 => nI (M.2.2.2.2.1 z9)))), ((mq 5), .inl (cI, 8, .inl of9)), ((mq 6), .inl (cI, 8, .inl by9)), ((mq 12), .inl (cI, 80, .inl (fun z9 => nI (eC z9)))), ((mq 13), .inl (cI, 8, .inl (fun z9 => nI (fC z9)))), ((mq 14), .inl (cZ, 80, .inl (fun z9 => gb (R0 z9)))), ((mq 15), .inl (cZ, 8, .inl (fun z9 => gb (Q0 z9))))])) H := hP
  have hD : va_D (fun q : Nat => s.heap.size ≤ q) ([(h, .inr (5, [.ref g, .ref ko, .ref (hq 0), .ref (hq 1), .ref (hq 2), .ref (hq 3), .int (nI F)])), ((hq 0), .inl (cI, 8, .inl (fun z9 => nI (ro z9)))), ((hq 1), .inl (cI, 8, .inl (fun z9 => nI (so z9)))), ((hq 2), .inl (cI, 8, .inl (fun z9 => nI (di z9)))), ((hq 3), .inl (cI, 8, .inl (fun z9 => nI (od z9)))), (ko, .inr (1, [.ref (kq 0), .ref (kq 1), .ref (kq 2), .ref (kq 3), .ref (kq 4)])), ((kq 0), .inl (cI, 80, .inl (fun z9 => nI (C.1 z9)))), ((kq 1), .inl (cI, 640, .inl (fun z9 => nI (C.2.1 z9)))), ((kq 2), .inl (cI, 64, .inl (fun z9 => nI (C.2.2.1 z9)))), ((kq 3), .inl (cI, 8, .inl (fun z9 => nI (C.2.2.2.1 z9)))), ((kq 4), .inl (cI, 8, .inl (fun z9 => nI (C.2.2.2.2 z9)))), (g, .inr (3, [.ref eo, .ref bo, .ref t, .ref co])), (eo, .inr (2, [.ref (eq 0), .ref (eq 1), .ref (eq 2), .ref (eq 3), .int (nI X.2.2.2.2)])), ((eq 0), .inl (cI, 80, .inl X.1)), ((eq 1), .inl (cI, 80, .inl X.2.1)), ((eq 2), .inl (cI, 80, .inl X.2.2.1)), ((eq 3), .inl (cI, 80, .inl X.2.2.2.1)), (bo, .inl (cB, 8, .inr (.inr (.inr (.inr (pd_a pd)))))), (t, .inr (4, [.ref (tq 0), .ref (tq 1), .ref (tq 2), .ref (tq 3), .ref (tq 4), .ref (tq 5), .ref (tq 6), .ref (tq 7), .int (nI S.1.2.2.2.2)])), ((tq 0), .inl (cI, 64, .inl (fun z9 => nI (S.1.1 z9)))), ((tq 1), .inl (cI, 64, .inl (fun z9 => nI (S.1.2.1 z9)))), ((tq 2), .inl (cI, 64, .inl (fun z9 => nI (S.1.2.2.1 z9)))), ((tq 3), .inl (cJ, 64, .inr (.inl S.1.2.2.2.1))), ((tq 4), .inl (cJ, 64, .inr (.inl f1))), ((tq 5), .inl (cJ, 64, .inr (.inl f2))), ((tq 6), .inl (cJ, 64, .inr (.inl f3))), ((tq 7), .inl (cJ, 64, .inr (.inl f4))), (co, .inl (cI, 112, .inl (fun z9 => nI (S.2 z9))))] ++ ((tlp cI pd Bs) ++ [(mo, .inr (6, [.ref (mq 0), .ref (mq 1), .ref (mq 2), .ref (mq 3), .int (nI X.2.2.2.2), .ref (mq 5), .ref (mq 6), .int (nI F), .ref (mq 8), .ref (mq 9), .ref (mq 10), .ref (mq 11), .ref (mq 12), .ref (mq 13), .ref (mq 14), .ref (mq 15), .ref (mq 16), .ref (mq 17), .ref (mq 18), .ref (mq 19), .ref (mq 20), .ref (mq 21), .ref (mq 22), .int (nI M.1)])), ((mq 8), .inl (cI, 96, .inl (fun z9 => nI (sk z9)))), ((mq 9), .inl (cI, 96, .inl sa9)), ((mq 10), .inl (cI, 96, .inl sb9)), ((mq 11), .inl (cI, 8, .inl (fun z9 => nI (sz z9)))), ((mq 0), .inl (cI, 80, .inl X.1)), ((mq 1), .inl (cI, 80, .inl X.2.1)), ((mq 2), .inl (cI, 80, .inl X.2.2.1)), ((mq 3), .inl (cI, 80, .inl X.2.2.2.1)), ((mq 17), .inl (cJ, 2560, .inr (.inl M.2.2.2.2.2.2.1))), ((mq 16), .inl (cJ, 448, .inr (.inl M.2.2.2.2.2.1))), ((mq 19), .inl (cI, 8, .inl (fun z9 => nI (M.2.1 z9)))), ((mq 20), .inl (cI, 8, .inl (fun z9 => nI (M.2.2.1 z9)))), ((mq 21), .inl (cI, 8, .inl M.2.2.2.1)), ((mq 18), .inl (cZ, 640, .inl (fun z9 => gb (M.2.2.2.2.2.2.2 z9)))), ((mq 22), .inl (cI, 192, .inl (fun z9 => nI (M.2.2.2.2.1 z9)))), ((mq 5), .inl (cI, 8, .inl of9)), ((mq 6), .inl (cI, 8, .inl by9)), ((mq 12), .inl (cI, 80, .inl (fun z9 => nI (eC z9)))), ((mq 13), .inl (cI, 8, .inl (fun z9 => nI (fC z9)))), ((mq 14), .inl (cZ, 80, .inl (fun z9 => gb (R0 z9)))), ((mq 15), .inl (cZ, 8, .inl (fun z9 => gb (Q0 z9))))])) := hD
  refine lv_aload_n hx hb dL_law_240 rfl (lv_at hl 1 rfl) ?_
  refine lv_aload_n hx hb dL_law_241 rfl (lv_at hl 0 rfl) ?_
  refine lv_iload_n hx hb dL_law_242 rfl (lv_at hl 3 rfl) ?_
  refine lv_iconst (v := 1) hx hb dL_law_243 (by decide) ?_
  refine lv_iadd hx hb dL_law_244 ?_
  refine lv_topi (fun v244 e244 => ?_)
  have n244 : v244 = nI (i + 1) := by rw [e244]; exact gx_add (rfl : (nI i) = (nI i)) (rfl : (1 : Int32) = nI 1)
  subst n244
  have i245 : vp_in (nI (i + 1)) L := gx_in (rfl : (nI (i + 1)) = (nI (i + 1))) (by omega) (by omega)
  refine va_sld hx hb hXs hbl hbA hS i245 dL_law_245 ?_
  refine lv_topi (fun v245 e245 => ?_)
  refine lv_aload_n hx hb dL_law_246 rfl (lv_at hl 0 rfl) ?_
  refine lv_iload_n hx hb dL_law_247 rfl (lv_at hl 3 rfl) ?_
  refine lv_iconst (v := 2) hx hb dL_law_248 (by decide) ?_
  refine lv_iadd hx hb dL_law_249 ?_
  refine lv_topi (fun v249 e249 => ?_)
  have n249 : v249 = nI (i + 2) := by rw [e249]; exact gx_add (rfl : (nI i) = (nI i)) (rfl : (2 : Int32) = nI 2)
  subst n249
  have i250 : vp_in (nI (i + 2)) L := gx_in (rfl : (nI (i + 2)) = (nI (i + 2))) (by omega) (by omega)
  refine va_sld hx hb hXs hbl hbA hS i250 dL_law_250 ?_
  refine lv_topi (fun v250 e250 => ?_)
  refine lv_i2l hx hb dL_law_251 rfl ?_
  refine lv_topl (fun v251 e251 => ?_)
  refine lv_bipush (v := 32) hx hb dL_law_252 (by decide) ?_
  refine lv_lshl hx hb dL_law_254 rfl ?_
  refine lv_topl (fun v254 e254 => ?_)
  refine lv_aload_n hx hb dL_law_255 rfl (lv_at hl 0 rfl) ?_
  refine lv_iload_n hx hb dL_law_256 rfl (lv_at hl 3 rfl) ?_
  refine lv_iconst (v := 3) hx hb dL_law_257 (by decide) ?_
  refine lv_iadd hx hb dL_law_258 ?_
  refine lv_topi (fun v258 e258 => ?_)
  have n258 : v258 = nI (i + 3) := by rw [e258]; exact gx_add (rfl : (nI i) = (nI i)) (rfl : (3 : Int32) = nI 3)
  subst n258
  have i259 : vp_in (nI (i + 3)) L := gx_in (rfl : (nI (i + 3)) = (nI (i + 3))) (by omega) (by omega)
  refine va_sld hx hb hXs hbl hbA hS i259 dL_law_259 ?_
  refine lv_topi (fun v259 e259 => ?_)
  refine lv_i2l hx hb dL_law_260 rfl ?_
  refine lv_topl (fun v260 e260 => ?_)
  refine lv_ldc2 (v := 4294967295) hx hb hown (ht _ m_699) dL_law_261 ?_
  refine lv_land hx hb dL_law_264 ?_
  refine lv_topl (fun v264 e264 => ?_)
  refine lv_lor hx hb dL_law_265 ?_
  refine lv_topl (fun v265 e265 => ?_)
  refine lv_aload_n hx hb dL_law_266 rfl (lv_at hl 0 rfl) ?_
  refine lv_iload_n hx hb dL_law_267 rfl (lv_at hl 3 rfl) ?_
  refine lv_iconst (v := 4) hx hb dL_law_268 (by decide) ?_
  refine lv_iadd hx hb dL_law_269 ?_
  refine lv_topi (fun v269 e269 => ?_)
  have n269 : v269 = nI (i + 4) := by rw [e269]; exact gx_add (rfl : (nI i) = (nI i)) (rfl : (4 : Int32) = nI 4)
  subst n269
  have i270 : vp_in (nI (i + 4)) L := gx_in (rfl : (nI (i + 4)) = (nI (i + 4))) (by omega) (by omega)
  refine va_sld hx hb hXs hbl hbA hS i270 dL_law_270 ?_
  refine lv_topi (fun v270 e270 => ?_)
  refine lv_i2l hx hb dL_law_271 rfl ?_
  refine lv_topl (fun v271 e271 => ?_)
  refine lv_bipush (v := 32) hx hb dL_law_272 (by decide) ?_
  refine lv_lshl hx hb dL_law_274 rfl ?_
  refine lv_topl (fun v274 e274 => ?_)
  refine lv_aload_n hx hb dL_law_275 rfl (lv_at hl 0 rfl) ?_
  refine lv_iload_n hx hb dL_law_276 rfl (lv_at hl 3 rfl) ?_
  refine lv_iconst (v := 5) hx hb dL_law_277 (by decide) ?_
  refine lv_iadd hx hb dL_law_278 ?_
  refine lv_topi (fun v278 e278 => ?_)
  have n278 : v278 = nI (i + 5) := by rw [e278]; exact gx_add (rfl : (nI i) = (nI i)) (rfl : (5 : Int32) = nI 5)
  subst n278
  have i279 : vp_in (nI (i + 5)) L := gx_in (rfl : (nI (i + 5)) = (nI (i + 5))) (by omega) (by omega)
  refine va_sld hx hb hXs hbl hbA hS i279 dL_law_279 ?_
  refine lv_topi (fun v279 e279 => ?_)
  refine lv_i2l hx hb dL_law_280 rfl ?_
  refine lv_topl (fun v280 e280 => ?_)
  refine lv_ldc2 (v := 4294967295) hx hb hown (ht _ m_699) dL_law_281 ?_
  refine lv_land hx hb dL_law_284 ?_
  refine lv_topl (fun v284 e284 => ?_)
  refine lv_lor hx hb dL_law_285 ?_
  refine lv_topl (fun v285 e285 => ?_)
  obtain ⟨hP, hD⟩ := pm_12 hP hD
  refine gc_ml (lf := []) (W0 := ([(h, .inr (5, [.ref g, .ref ko, .ref (hq 0), .ref (hq 1), .ref (hq 2), .ref (hq 3), .int (nI F)])), ((hq 0), .inl (cI, 8, .inl (fun z9 => nI (ro z9)))), ((hq 1), .inl (cI, 8, .inl (fun z9 => nI (so z9)))), ((hq 2), .inl (cI, 8, .inl (fun z9 => nI (di z9)))), ((hq 3), .inl (cI, 8, .inl (fun z9 => nI (od z9)))), (g, .inr (3, [.ref eo, .ref bo, .ref t, .ref co])), (eo, .inr (2, [.ref (eq 0), .ref (eq 1), .ref (eq 2), .ref (eq 3), .int (nI X.2.2.2.2)])), ((eq 0), .inl (cI, 80, .inl X.1)), ((eq 1), .inl (cI, 80, .inl X.2.1)), ((eq 2), .inl (cI, 80, .inl X.2.2.1)), ((eq 3), .inl (cI, 80, .inl X.2.2.2.1)), (bo, .inl (cB, 8, .inr (.inr (.inr (.inr (pd_a pd)))))), (t, .inr (4, [.ref (tq 0), .ref (tq 1), .ref (tq 2), .ref (tq 3), .ref (tq 4), .ref (tq 5), .ref (tq 6), .ref (tq 7), .int (nI S.1.2.2.2.2)])), ((tq 0), .inl (cI, 64, .inl (fun z9 => nI (S.1.1 z9)))), ((tq 1), .inl (cI, 64, .inl (fun z9 => nI (S.1.2.1 z9)))), ((tq 2), .inl (cI, 64, .inl (fun z9 => nI (S.1.2.2.1 z9)))), ((tq 3), .inl (cJ, 64, .inr (.inl S.1.2.2.2.1))), ((tq 4), .inl (cJ, 64, .inr (.inl f1))), ((tq 5), .inl (cJ, 64, .inr (.inl f2))), ((tq 6), .inl (cJ, 64, .inr (.inl f3))), ((tq 7), .inl (cJ, 64, .inr (.inl f4))), (co, .inl (cI, 112, .inl (fun z9 => nI (S.2 z9))))] ++ (tlp cI pd Bs))) (rt := [(ko, .inr (1, [.ref (kq 0), .ref (kq 1), .ref (kq 2), .ref (kq 3), .ref (kq 4)])), ((kq 0), .inl (cI, 80, .inl (fun z9 => nI (C.1 z9)))), ((kq 1), .inl (cI, 640, .inl (fun z9 => nI (C.2.1 z9)))), ((kq 2), .inl (cI, 64, .inl (fun z9 => nI (C.2.2.1 z9)))), ((kq 3), .inl (cI, 8, .inl (fun z9 => nI (C.2.2.2.1 z9)))), ((kq 4), .inl (cI, 8, .inl (fun z9 => nI (C.2.2.2.2 z9)))), (mo, .inr (6, [.ref (mq 0), .ref (mq 1), .ref (mq 2), .ref (mq 3), .int (nI X.2.2.2.2), .ref (mq 5), .ref (mq 6), .int (nI F), .ref (mq 8), .ref (mq 9), .ref (mq 10), .ref (mq 11), .ref (mq 12), .ref (mq 13), .ref (mq 14), .ref (mq 15), .ref (mq 16), .ref (mq 17), .ref (mq 18), .ref (mq 19), .ref (mq 20), .ref (mq 21), .ref (mq 22), .int (nI M.1)])), ((mq 8), .inl (cI, 96, .inl (fun z9 => nI (sk z9)))), ((mq 9), .inl (cI, 96, .inl sa9)), ((mq 10), .inl (cI, 96, .inl sb9)), ((mq 11), .inl (cI, 8, .inl (fun z9 => nI (sz z9)))), ((mq 0), .inl (cI, 80, .inl X.1)), ((mq 1), .inl (cI, 80, .inl X.2.1)), ((mq 2), .inl (cI, 80, .inl X.2.2.1)), ((mq 3), .inl (cI, 80, .inl X.2.2.2.1)), ((mq 17), .inl (cJ, 2560, .inr (.inl M.2.2.2.2.2.2.1))), ((mq 16), .inl (cJ, 448, .inr (.inl M.2.2.2.2.2.1))), ((mq 19), .inl (cI, 8, .inl (fun z9 => nI (M.2.1 z9)))), ((mq 20), .inl (cI, 8, .inl (fun z9 => nI (M.2.2.1 z9)))), ((mq 21), .inl (cI, 8, .inl M.2.2.2.1)), ((mq 18), .inl (cZ, 640, .inl (fun z9 => gb (M.2.2.2.2.2.2.2 z9)))), ((mq 22), .inl (cI, 192, .inl (fun z9 => nI (M.2.2.2.2.1 z9)))), ((mq 5), .inl (cI, 8, .inl of9)), ((mq 6), .inl (cI, 8, .inl by9)), ((mq 12), .inl (cI, 80, .inl (fun z9 => nI (eC z9)))), ((mq 13), .inl (cI, 8, .inl (fun z9 => nI (fC z9)))), ((mq 14), .inl (cZ, 80, .inl (fun z9 => gb (R0 z9)))), ((mq 15), .inl (cZ, 8, .inl (fun z9 => gb (Q0 z9))))]) (va_runV (As := [.int v245, .long v265, .long v285]) (rest := []) ⟨hx, hb, hml, hown, ht⟩ (c_C_run l D cI cJ cB cZ h g ko eo bo t co hq eq tq (tlp cI pd Bs) F ro so di od X (pd_a pd) Bs S f1 f2 f3 f4 v245 v265 v285 g1 g2 g3 g4 g5 hX (lw_pool hG) hSx (fun f9 x9 y9 hf9 => go_tr hC (fun f7 hf7 => (lw_ba f7).trans (g8 f7 hf7)) hf9 x9 y9 S) H.size) (cwV 3 ht (gw_V m_302 m_303 m_304 m_1 m_305) rfl rfl rfl (by decide +kernel) ⟨Nat.le_of_ble_eq_true rfl, Nat.le_of_ble_eq_true rfl⟩) (gp_V (ci := 5) (q0 := 0) hK hN (gk_midP (lf := []) hP) (gk_midD (lf := []) hD) rfl rfl) rfl rfl hl.1 rfl (lv_room (Nat.le_of_ble_eq_true rfl)) dL_law_286 ⟨by show (50 + i) + 0 ≤ 600000; omega, by show (6510 + 12 * i) + 0 ≤ 7302250; omega⟩) hP hD hS hA (fun r286 w286 H locs p286 hP hD hS => ?_)
  by_cases ha : mk F v245
  · obtain ⟨hf8, hx8⟩ := lw_cn (by omega) ha
    have hdd := g5 (cn v245)
    have hfd := g9 (cn v245) hf8
    rcases (show od (cn v245) = 0 ∨ od (cn v245) = 1 ∨ od (cn v245) = 2 by have := g2 (cn v245); omega) with ho | ho | ho
    · obtain ⟨hr9, rfl⟩ := (p286.2 ha).1 ho
      have hP : va_P D vwCl ([(h, .inr (5, [.ref g, .ref ko, .ref (hq 0), .ref (hq 1), .ref (hq 2), .ref (hq 3), .int (nI F)])), ((hq 0), .inl (cI, 8, .inl (fun z9 => nI (ro z9)))), ((hq 1), .inl (cI, 8, .inl (fun z9 => nI (so z9)))), ((hq 2), .inl (cI, 8, .inl (fun z9 => nI (di z9)))), ((hq 3), .inl (cI, 8, .inl (fun z9 => nI (od z9)))), (g, .inr (3, [.ref eo, .ref bo, .ref t, .ref co])), (eo, .inr (2, [.ref (eq 0), .ref (eq 1), .ref (eq 2), .ref (eq 3), .int (nI X.2.2.2.2)])), ((eq 0), .inl (cI, 80, .inl X.1)), ((eq 1), .inl (cI, 80, .inl X.2.1)), ((eq 2), .inl (cI, 80, .inl X.2.2.1)), ((eq 3), .inl (cI, 80, .inl X.2.2.2.1)), (bo, .inl (cB, 8, .inr (.inr (.inr (.inr (pd_a pd)))))), (t, .inr (4, [.ref (tq 0), .ref (tq 1), .ref (tq 2), .ref (tq 3), .ref (tq 4), .ref (tq 5), .ref (tq 6), .ref (tq 7), .int (nI (((px_go X (pd_a pd) Bs (ro (cn v245)) v265 v285 S).2.1).2.2.2.2))])), ((tq 0), .inl (cI, 64, .inl (fun z9 => nI ((((px_go X (pd_a pd) Bs (ro (cn v245)) v265 v285 S).2.1).1) z9)))), ((tq 1), .inl (cI, 64, .inl (fun z9 => nI ((((px_go X (pd_a pd) Bs (ro (cn v245)) v265 v285 S).2.1).2.1) z9)))), ((tq 2), .inl (cI, 64, .inl (fun z9 => nI ((((px_go X (pd_a pd) Bs (ro (cn v245)) v265 v285 S).2.1).2.2.1) z9)))), ((tq 3), .inl (cJ, 64, .inr (.inl (((px_go X (pd_a pd) Bs (ro (cn v245)) v265 v285 S).2.1).2.2.2.1)))), ((tq 4), .inl (cJ, 64, .inr (.inl f1))), ((tq 5), .inl (cJ, 64, .inr (.inl f2))), ((tq 6), .inl (cJ, 64, .inr (.inl f3))), ((tq 7), .inl (cJ, 64, .inr (.inl f4))), (co, .inl (cI, 112, .inl (fun z9 => nI (((px_go X (pd_a pd) Bs (ro (cn v245)) v265 v285 S).2.2) z9))))] ++ ((tlp cI pd Bs) ++ [(ko, .inr (1, [.ref (kq 0), .ref (kq 1), .ref (kq 2), .ref (kq 3), .ref (kq 4)])), ((kq 0), .inl (cI, 80, .inl (fun z9 => nI (C.1 z9)))), ((kq 1), .inl (cI, 640, .inl (fun z9 => nI (C.2.1 z9)))), ((kq 2), .inl (cI, 64, .inl (fun z9 => nI (C.2.2.1 z9)))), ((kq 3), .inl (cI, 8, .inl (fun z9 => nI (C.2.2.2.1 z9)))), ((kq 4), .inl (cI, 8, .inl (fun z9 => nI (C.2.2.2.2 z9)))), (mo, .inr (6, [.ref (mq 0), .ref (mq 1), .ref (mq 2), .ref (mq 3), .int (nI X.2.2.2.2), .ref (mq 5), .ref (mq 6), .int (nI F), .ref (mq 8), .ref (mq 9), .ref (mq 10), .ref (mq 11), .ref (mq 12), .ref (mq 13), .ref (mq 14), .ref (mq 15), .ref (mq 16), .ref (mq 17), .ref (mq 18), .ref (mq 19), .ref (mq 20), .ref (mq 21), .ref (mq 22), .int (nI M.1)])), ((mq 8), .inl (cI, 96, .inl (fun z9 => nI (sk z9)))), ((mq 9), .inl (cI, 96, .inl sa9)), ((mq 10), .inl (cI, 96, .inl sb9)), ((mq 11), .inl (cI, 8, .inl (fun z9 => nI (sz z9)))), ((mq 0), .inl (cI, 80, .inl X.1)), ((mq 1), .inl (cI, 80, .inl X.2.1)), ((mq 2), .inl (cI, 80, .inl X.2.2.1)), ((mq 3), .inl (cI, 80, .inl X.2.2.2.1)), ((mq 17), .inl (cJ, 2560, .inr (.inl M.2.2.2.2.2.2.1))), ((mq 16), .inl (cJ, 448, .inr (.inl M.2.2.2.2.2.1))), ((mq 19), .inl (cI, 8, .inl (fun z9 => nI (M.2.1 z9)))), ((mq 20), .inl (cI, 8, .inl (fun z9 => nI (M.2.2.1 z9)))), ((mq 21), .inl (cI, 8, .inl M.2.2.2.1)), ((mq 18), .inl (cZ, 640, .inl (fun z9 => gb (M.2.2.2.2.2.2.2 z9)))), ((mq 22), .inl (cI, 192, .inl (fun z9 => nI (M.2.2.2.2.1 z9)))), ((mq 5), .inl (cI, 8, .inl of9)), ((mq 6), .inl (cI, 8, .inl by9)), ((mq 12), .inl (cI, 80, .inl (fun z9 => nI (eC z9)))), ((mq 13), .inl (cI, 8, .inl (fun z9 => nI (fC z9)))), ((mq 14), .inl (cZ, 80, .inl (fun z9 => gb (R0 z9)))), ((mq 15), .inl (cZ, 8, .inl (fun z9 => gb (Q0 z9))))])) H := hP
      have hD : va_D (fun q : Nat => s.heap.size ≤ q) ([(h, .inr (5, [.ref g, .ref ko, .ref (hq 0), .ref (hq 1), .ref (hq 2), .ref (hq 3), .int (nI F)])), ((hq 0), .inl (cI, 8, .inl (fun z9 => nI (ro z9)))), ((hq 1), .inl (cI, 8, .inl (fun z9 => nI (so z9)))), ((hq 2), .inl (cI, 8, .inl (fun z9 => nI (di z9)))), ((hq 3), .inl (cI, 8, .inl (fun z9 => nI (od z9)))), (g, .inr (3, [.ref eo, .ref bo, .ref t, .ref co])), (eo, .inr (2, [.ref (eq 0), .ref (eq 1), .ref (eq 2), .ref (eq 3), .int (nI X.2.2.2.2)])), ((eq 0), .inl (cI, 80, .inl X.1)), ((eq 1), .inl (cI, 80, .inl X.2.1)), ((eq 2), .inl (cI, 80, .inl X.2.2.1)), ((eq 3), .inl (cI, 80, .inl X.2.2.2.1)), (bo, .inl (cB, 8, .inr (.inr (.inr (.inr (pd_a pd)))))), (t, .inr (4, [.ref (tq 0), .ref (tq 1), .ref (tq 2), .ref (tq 3), .ref (tq 4), .ref (tq 5), .ref (tq 6), .ref (tq 7), .int (nI (((px_go X (pd_a pd) Bs (ro (cn v245)) v265 v285 S).2.1).2.2.2.2))])), ((tq 0), .inl (cI, 64, .inl (fun z9 => nI ((((px_go X (pd_a pd) Bs (ro (cn v245)) v265 v285 S).2.1).1) z9)))), ((tq 1), .inl (cI, 64, .inl (fun z9 => nI ((((px_go X (pd_a pd) Bs (ro (cn v245)) v265 v285 S).2.1).2.1) z9)))), ((tq 2), .inl (cI, 64, .inl (fun z9 => nI ((((px_go X (pd_a pd) Bs (ro (cn v245)) v265 v285 S).2.1).2.2.1) z9)))), ((tq 3), .inl (cJ, 64, .inr (.inl (((px_go X (pd_a pd) Bs (ro (cn v245)) v265 v285 S).2.1).2.2.2.1)))), ((tq 4), .inl (cJ, 64, .inr (.inl f1))), ((tq 5), .inl (cJ, 64, .inr (.inl f2))), ((tq 6), .inl (cJ, 64, .inr (.inl f3))), ((tq 7), .inl (cJ, 64, .inr (.inl f4))), (co, .inl (cI, 112, .inl (fun z9 => nI (((px_go X (pd_a pd) Bs (ro (cn v245)) v265 v285 S).2.2) z9))))] ++ ((tlp cI pd Bs) ++ [(ko, .inr (1, [.ref (kq 0), .ref (kq 1), .ref (kq 2), .ref (kq 3), .ref (kq 4)])), ((kq 0), .inl (cI, 80, .inl (fun z9 => nI (C.1 z9)))), ((kq 1), .inl (cI, 640, .inl (fun z9 => nI (C.2.1 z9)))), ((kq 2), .inl (cI, 64, .inl (fun z9 => nI (C.2.2.1 z9)))), ((kq 3), .inl (cI, 8, .inl (fun z9 => nI (C.2.2.2.1 z9)))), ((kq 4), .inl (cI, 8, .inl (fun z9 => nI (C.2.2.2.2 z9)))), (mo, .inr (6, [.ref (mq 0), .ref (mq 1), .ref (mq 2), .ref (mq 3), .int (nI X.2.2.2.2), .ref (mq 5), .ref (mq 6), .int (nI F), .ref (mq 8), .ref (mq 9), .ref (mq 10), .ref (mq 11), .ref (mq 12), .ref (mq 13), .ref (mq 14), .ref (mq 15), .ref (mq 16), .ref (mq 17), .ref (mq 18), .ref (mq 19), .ref (mq 20), .ref (mq 21), .ref (mq 22), .int (nI M.1)])), ((mq 8), .inl (cI, 96, .inl (fun z9 => nI (sk z9)))), ((mq 9), .inl (cI, 96, .inl sa9)), ((mq 10), .inl (cI, 96, .inl sb9)), ((mq 11), .inl (cI, 8, .inl (fun z9 => nI (sz z9)))), ((mq 0), .inl (cI, 80, .inl X.1)), ((mq 1), .inl (cI, 80, .inl X.2.1)), ((mq 2), .inl (cI, 80, .inl X.2.2.1)), ((mq 3), .inl (cI, 80, .inl X.2.2.2.1)), ((mq 17), .inl (cJ, 2560, .inr (.inl M.2.2.2.2.2.2.1))), ((mq 16), .inl (cJ, 448, .inr (.inl M.2.2.2.2.2.1))), ((mq 19), .inl (cI, 8, .inl (fun z9 => nI (M.2.1 z9)))), ((mq 20), .inl (cI, 8, .inl (fun z9 => nI (M.2.2.1 z9)))), ((mq 21), .inl (cI, 8, .inl M.2.2.2.1)), ((mq 18), .inl (cZ, 640, .inl (fun z9 => gb (M.2.2.2.2.2.2.2 z9)))), ((mq 22), .inl (cI, 192, .inl (fun z9 => nI (M.2.2.2.2.1 z9)))), ((mq 5), .inl (cI, 8, .inl of9)), ((mq 6), .inl (cI, 8, .inl by9)), ((mq 12), .inl (cI, 80, .inl (fun z9 => nI (eC z9)))), ((mq 13), .inl (cI, 8, .inl (fun z9 => nI (fC z9)))), ((mq 14), .inl (cZ, 80, .inl (fun z9 => gb (R0 z9)))), ((mq 15), .inl (cZ, 8, .inl (fun z9 => gb (Q0 z9))))])) := hD
      refine lv_aload_n hx hb dL_law_289 rfl (lv_at hl 2 rfl) ?_
      refine lv_aload_n hx hb dL_law_290 rfl (lv_at hl 0 rfl) ?_
      refine lv_iload_n hx hb dL_law_291 rfl (lv_at hl 3 rfl) ?_
      refine lv_iconst (v := 1) hx hb dL_law_292 (by decide) ?_
      refine lv_iadd hx hb dL_law_293 ?_
      refine lv_topi (fun v293 e293 => ?_)
      have n293 : v293 = nI (i + 1) := by rw [e293]; exact gx_add (rfl : (nI i) = (nI i)) (rfl : (1 : Int32) = nI 1)
      subst n293
      have i294 : vp_in (nI (i + 1)) L := gx_in (rfl : (nI (i + 1)) = (nI (i + 1))) (by omega) (by omega)
      refine va_sld hx hb hXs hbl hbA hS i294 dL_law_294 ?_
      refine lv_topi (fun v294 e294 => ?_)
      have q294 : v245 = v294 := e245.trans e294.symm
      subst q294
      rw [hx8]
      refine lv_aload_n hx hb dL_law_295 rfl (lv_at hl 0 rfl) ?_
      refine lv_iload_n hx hb dL_law_296 rfl (lv_at hl 3 rfl) ?_
      refine lv_iconst (v := 2) hx hb dL_law_297 (by decide) ?_
      refine lv_iadd hx hb dL_law_298 ?_
      refine lv_topi (fun v298 e298 => ?_)
      have n298 : v298 = nI (i + 2) := by rw [e298]; exact gx_add (rfl : (nI i) = (nI i)) (rfl : (2 : Int32) = nI 2)
      subst n298
      have i299 : vp_in (nI (i + 2)) L := gx_in (rfl : (nI (i + 2)) = (nI (i + 2))) (by omega) (by omega)
      refine va_sld hx hb hXs hbl hbA hS i299 dL_law_299 ?_
      refine lv_topi (fun v299 e299 => ?_)
      have q299 : v250 = v299 := e250.trans e299.symm
      subst q299
      refine lv_i2l hx hb dL_law_300 rfl ?_
      refine lv_topl (fun v300 e300 => ?_)
      have q300 : v251 = v300 := e251.trans e300.symm
      subst q300
      refine lv_bipush (v := 32) hx hb dL_law_301 (by decide) ?_
      refine lv_lshl hx hb dL_law_303 rfl ?_
      refine lv_topl (fun v303 e303 => ?_)
      have q303 : v254 = v303 := e254.trans e303.symm
      subst q303
      refine lv_aload_n hx hb dL_law_304 rfl (lv_at hl 0 rfl) ?_
      refine lv_iload_n hx hb dL_law_305 rfl (lv_at hl 3 rfl) ?_
      refine lv_iconst (v := 3) hx hb dL_law_306 (by decide) ?_
      refine lv_iadd hx hb dL_law_307 ?_
      refine lv_topi (fun v307 e307 => ?_)
      have n307 : v307 = nI (i + 3) := by rw [e307]; exact gx_add (rfl : (nI i) = (nI i)) (rfl : (3 : Int32) = nI 3)
      subst n307
      have i308 : vp_in (nI (i + 3)) L := gx_in (rfl : (nI (i + 3)) = (nI (i + 3))) (by omega) (by omega)
      refine va_sld hx hb hXs hbl hbA hS i308 dL_law_308 ?_
      refine lv_topi (fun v308 e308 => ?_)
      have q308 : v259 = v308 := e259.trans e308.symm
      subst q308
      refine lv_i2l hx hb dL_law_309 rfl ?_
      refine lv_topl (fun v309 e309 => ?_)
      have q309 : v260 = v309 := e260.trans e309.symm
      subst q309
      refine lv_ldc2 (v := 4294967295) hx hb hown (ht _ m_699) dL_law_310 ?_
      refine lv_land hx hb dL_law_313 ?_
      refine lv_topl (fun v313 e313 => ?_)
      have q313 : v264 = v313 := e264.trans e313.symm
      subst q313
      refine lv_lor hx hb dL_law_314 ?_
      refine lv_topl (fun v314 e314 => ?_)
      have q314 : v265 = v314 := e265.trans e314.symm
      subst q314
      refine lv_aload_n hx hb dL_law_315 rfl (lv_at hl 0 rfl) ?_
      refine lv_iload_n hx hb dL_law_316 rfl (lv_at hl 3 rfl) ?_
      refine lv_iconst (v := 4) hx hb dL_law_317 (by decide) ?_
      refine lv_iadd hx hb dL_law_318 ?_
      refine lv_topi (fun v318 e318 => ?_)
      have n318 : v318 = nI (i + 4) := by rw [e318]; exact gx_add (rfl : (nI i) = (nI i)) (rfl : (4 : Int32) = nI 4)
      subst n318
      have i319 : vp_in (nI (i + 4)) L := gx_in (rfl : (nI (i + 4)) = (nI (i + 4))) (by omega) (by omega)
      refine va_sld hx hb hXs hbl hbA hS i319 dL_law_319 ?_
      refine lv_topi (fun v319 e319 => ?_)
      have q319 : v270 = v319 := e270.trans e319.symm
      subst q319
      refine lv_i2l hx hb dL_law_320 rfl ?_
      refine lv_topl (fun v320 e320 => ?_)
      have q320 : v271 = v320 := e271.trans e320.symm
      subst q320
      refine lv_bipush (v := 32) hx hb dL_law_321 (by decide) ?_
      refine lv_lshl hx hb dL_law_323 rfl ?_
      refine lv_topl (fun v323 e323 => ?_)
      have q323 : v274 = v323 := e274.trans e323.symm
      subst q323
      refine lv_aload_n hx hb dL_law_324 rfl (lv_at hl 0 rfl) ?_
      refine lv_iload_n hx hb dL_law_325 rfl (lv_at hl 3 rfl) ?_
      refine lv_iconst (v := 5) hx hb dL_law_326 (by decide) ?_
      refine lv_iadd hx hb dL_law_327 ?_
      refine lv_topi (fun v327 e327 => ?_)
      have n327 : v327 = nI (i + 5) := by rw [e327]; exact gx_add (rfl : (nI i) = (nI i)) (rfl : (5 : Int32) = nI 5)
      subst n327
      have i328 : vp_in (nI (i + 5)) L := gx_in (rfl : (nI (i + 5)) = (nI (i + 5))) (by omega) (by omega)
      refine va_sld hx hb hXs hbl hbA hS i328 dL_law_328 ?_
      refine lv_topi (fun v328 e328 => ?_)
      have q328 : v279 = v328 := e279.trans e328.symm
      subst q328
      refine lv_i2l hx hb dL_law_329 rfl ?_
      refine lv_topl (fun v329 e329 => ?_)
      have q329 : v280 = v329 := e280.trans e329.symm
      subst q329
      refine lv_ldc2 (v := 4294967295) hx hb hown (ht _ m_699) dL_law_330 ?_
      refine lv_land hx hb dL_law_333 ?_
      refine lv_topl (fun v333 e333 => ?_)
      have q333 : v284 = v333 := e284.trans e333.symm
      subst q333
      refine lv_lor hx hb dL_law_334 ?_
      refine lv_topl (fun v334 e334 => ?_)
      have q334 : v285 = v334 := e285.trans e334.symm
      subst q334
      obtain ⟨u9, Mf, hG0, hN0, hv0, hv1⟩ := run_same (gi_MH hG lw_ba) (g3 (cn v245)) (gi_root hG _ _ (Nat.le_refl _) hf8) v265 v285 (p1 := -1) (p2 := -1) (Or.inl rfl) (Or.inl rfl) M.2.1 M.2.2.1 M.2.2.2.1 M.2.2.2.2.1 M.2.2.2.2.2.1 M.2.2.2.2.2.2.1 M.2.2.2.2.2.2.2 S f1 f2 f3 f4
      rw [(hfd.1 ho).2] at hG0
      obtain ⟨hP, hD⟩ := pm_13 hP hD
      refine gc_ml (lf := []) (W0 := [(mo, .inr (6, [.ref (mq 0), .ref (mq 1), .ref (mq 2), .ref (mq 3), .int (nI X.2.2.2.2), .ref (mq 5), .ref (mq 6), .int (nI F), .ref (mq 8), .ref (mq 9), .ref (mq 10), .ref (mq 11), .ref (mq 12), .ref (mq 13), .ref (mq 14), .ref (mq 15), .ref (mq 16), .ref (mq 17), .ref (mq 18), .ref (mq 19), .ref (mq 20), .ref (mq 21), .ref (mq 22), .int (nI M.1)])), ((mq 8), .inl (cI, 96, .inl (fun z9 => nI (sk z9)))), ((mq 9), .inl (cI, 96, .inl sa9)), ((mq 10), .inl (cI, 96, .inl sb9)), ((mq 11), .inl (cI, 8, .inl (fun z9 => nI (sz z9)))), ((mq 0), .inl (cI, 80, .inl X.1)), ((mq 1), .inl (cI, 80, .inl X.2.1)), ((mq 2), .inl (cI, 80, .inl X.2.2.1)), ((mq 3), .inl (cI, 80, .inl X.2.2.2.1)), ((mq 17), .inl (cJ, 2560, .inr (.inl M.2.2.2.2.2.2.1))), ((mq 16), .inl (cJ, 448, .inr (.inl M.2.2.2.2.2.1))), ((mq 19), .inl (cI, 8, .inl (fun z9 => nI (M.2.1 z9)))), ((mq 20), .inl (cI, 8, .inl (fun z9 => nI (M.2.2.1 z9)))), ((mq 21), .inl (cI, 8, .inl M.2.2.2.1)), ((mq 18), .inl (cZ, 640, .inl (fun z9 => gb (M.2.2.2.2.2.2.2 z9)))), ((mq 22), .inl (cI, 192, .inl (fun z9 => nI (M.2.2.2.2.1 z9)))), ((mq 5), .inl (cI, 8, .inl of9)), ((mq 6), .inl (cI, 8, .inl by9))]) (rt := ([(h, .inr (5, [.ref g, .ref ko, .ref (hq 0), .ref (hq 1), .ref (hq 2), .ref (hq 3), .int (nI F)])), ((hq 0), .inl (cI, 8, .inl (fun z9 => nI (ro z9)))), ((hq 1), .inl (cI, 8, .inl (fun z9 => nI (so z9)))), ((hq 2), .inl (cI, 8, .inl (fun z9 => nI (di z9)))), ((hq 3), .inl (cI, 8, .inl (fun z9 => nI (od z9)))), (g, .inr (3, [.ref eo, .ref bo, .ref t, .ref co])), (eo, .inr (2, [.ref (eq 0), .ref (eq 1), .ref (eq 2), .ref (eq 3), .int (nI X.2.2.2.2)])), ((eq 0), .inl (cI, 80, .inl X.1)), ((eq 1), .inl (cI, 80, .inl X.2.1)), ((eq 2), .inl (cI, 80, .inl X.2.2.1)), ((eq 3), .inl (cI, 80, .inl X.2.2.2.1)), (bo, .inl (cB, 8, .inr (.inr (.inr (.inr (pd_a pd)))))), (t, .inr (4, [.ref (tq 0), .ref (tq 1), .ref (tq 2), .ref (tq 3), .ref (tq 4), .ref (tq 5), .ref (tq 6), .ref (tq 7), .int (nI (((px_go X (pd_a pd) Bs (ro (cn v245)) v265 v285 S).2.1).2.2.2.2))])), ((tq 0), .inl (cI, 64, .inl (fun z9 => nI ((((px_go X (pd_a pd) Bs (ro (cn v245)) v265 v285 S).2.1).1) z9)))), ((tq 1), .inl (cI, 64, .inl (fun z9 => nI ((((px_go X (pd_a pd) Bs (ro (cn v245)) v265 v285 S).2.1).2.1) z9)))), ((tq 2), .inl (cI, 64, .inl (fun z9 => nI ((((px_go X (pd_a pd) Bs (ro (cn v245)) v265 v285 S).2.1).2.2.1) z9)))), ((tq 3), .inl (cJ, 64, .inr (.inl (((px_go X (pd_a pd) Bs (ro (cn v245)) v265 v285 S).2.1).2.2.2.1)))), ((tq 4), .inl (cJ, 64, .inr (.inl f1))), ((tq 5), .inl (cJ, 64, .inr (.inl f2))), ((tq 6), .inl (cJ, 64, .inr (.inl f3))), ((tq 7), .inl (cJ, 64, .inr (.inl f4))), (co, .inl (cI, 112, .inl (fun z9 => nI (((px_go X (pd_a pd) Bs (ro (cn v245)) v265 v285 S).2.2) z9))))] ++ ((tlp cI pd Bs) ++ [(ko, .inr (1, [.ref (kq 0), .ref (kq 1), .ref (kq 2), .ref (kq 3), .ref (kq 4)])), ((kq 0), .inl (cI, 80, .inl (fun z9 => nI (C.1 z9)))), ((kq 1), .inl (cI, 640, .inl (fun z9 => nI (C.2.1 z9)))), ((kq 2), .inl (cI, 64, .inl (fun z9 => nI (C.2.2.1 z9)))), ((kq 3), .inl (cI, 8, .inl (fun z9 => nI (C.2.2.2.1 z9)))), ((kq 4), .inl (cI, 8, .inl (fun z9 => nI (C.2.2.2.2 z9)))), ((mq 12), .inl (cI, 80, .inl (fun z9 => nI (eC z9)))), ((mq 13), .inl (cI, 8, .inl (fun z9 => nI (fC z9)))), ((mq 14), .inl (cZ, 80, .inl (fun z9 => gb (R0 z9)))), ((mq 15), .inl (cZ, 8, .inl (fun z9 => gb (Q0 z9))))]))) (va_runV (As := [.int (nI (cn v245)), .long v265, .long v285]) (rest := [.long r286]) ⟨hx, hb, hml, hown, ht⟩ (c_M_run0 l D cI cJ cB cZ mo mq F M.1 X sk sa9 sb9 sz (fun f => @ite _ (f < 8 ∧ ob F od f) (Classical.propDecidable _) (Bs f).2.2.2.2.2.2.2 0) M.2.1 M.2.2.1 M.2.2.2.1 M.2.2.2.2.1 M.2.2.2.2.2.1 M.2.2.2.2.2.2.1 M.2.2.2.2.2.2.2 Mf u9 of9 by9 od (cn v245) v265 v285 g1 g2 (gi_hof hG) hf8 ho hN0 hG0 hX hsz hsk hsb hs4 hs0 hs1 (gi_hlk hG) H.size) (cwV 3 ht (gw_V m_612 m_613 m_614 m_6 m_615) rfl rfl rfl (by decide +kernel) ⟨Nat.le_of_ble_eq_true rfl, Nat.le_of_ble_eq_true rfl⟩) (gp_V (ci := 6) (q0 := 0) hK hN (gk_midP (lf := []) hP) (gk_midD (lf := []) hD) rfl rfl) rfl rfl hl.1 rfl (lv_room (Nat.le_of_ble_eq_true rfl)) dL_law_335 ⟨by show ((50 + i) + 0) + 0 ≤ 600000; omega, by show ((6510 + 12 * i) + 0) + 0 ≤ 7302250; omega⟩) hP hD hS hA (fun r335 w335 H locs p335 hP hD hS => ?_)
      obtain ⟨hrm, rfl⟩ := p335
      have hP : va_P D vwCl ([(mo, .inr (6, [.ref (mq 0), .ref (mq 1), .ref (mq 2), .ref (mq 3), .int (nI X.2.2.2.2), .ref (mq 5), .ref (mq 6), .int (nI F), .ref (mq 8), .ref (mq 9), .ref (mq 10), .ref (mq 11), .ref (mq 12), .ref (mq 13), .ref (mq 14), .ref (mq 15), .ref (mq 16), .ref (mq 17), .ref (mq 18), .ref (mq 19), .ref (mq 20), .ref (mq 21), .ref (mq 22), .int (nI Mf.1)])), ((mq 8), .inl (cI, 96, .inl (fun z9 => nI (sk z9)))), ((mq 9), .inl (cI, 96, .inl sa9)), ((mq 10), .inl (cI, 96, .inl sb9)), ((mq 11), .inl (cI, 8, .inl (fun z9 => nI (sz z9)))), ((mq 0), .inl (cI, 80, .inl X.1)), ((mq 1), .inl (cI, 80, .inl X.2.1)), ((mq 2), .inl (cI, 80, .inl X.2.2.1)), ((mq 3), .inl (cI, 80, .inl X.2.2.2.1)), ((mq 17), .inl (cJ, 2560, .inr (.inl Mf.2.2.2.2.2.2.1))), ((mq 16), .inl (cJ, 448, .inr (.inl Mf.2.2.2.2.2.1))), ((mq 19), .inl (cI, 8, .inl (fun z9 => nI (Mf.2.1 z9)))), ((mq 20), .inl (cI, 8, .inl (fun z9 => nI (Mf.2.2.1 z9)))), ((mq 21), .inl (cI, 8, .inl Mf.2.2.2.1)), ((mq 18), .inl (cZ, 640, .inl (fun z9 => gb (Mf.2.2.2.2.2.2.2 z9)))), ((mq 22), .inl (cI, 192, .inl (fun z9 => nI (Mf.2.2.2.2.1 z9)))), ((mq 5), .inl (cI, 8, .inl of9)), ((mq 6), .inl (cI, 8, .inl by9)), (h, .inr (5, [.ref g, .ref ko, .ref (hq 0), .ref (hq 1), .ref (hq 2), .ref (hq 3), .int (nI F)])), ((hq 0), .inl (cI, 8, .inl (fun z9 => nI (ro z9)))), ((hq 1), .inl (cI, 8, .inl (fun z9 => nI (so z9)))), ((hq 2), .inl (cI, 8, .inl (fun z9 => nI (di z9)))), ((hq 3), .inl (cI, 8, .inl (fun z9 => nI (od z9)))), (g, .inr (3, [.ref eo, .ref bo, .ref t, .ref co])), (eo, .inr (2, [.ref (eq 0), .ref (eq 1), .ref (eq 2), .ref (eq 3), .int (nI X.2.2.2.2)])), ((eq 0), .inl (cI, 80, .inl X.1)), ((eq 1), .inl (cI, 80, .inl X.2.1)), ((eq 2), .inl (cI, 80, .inl X.2.2.1)), ((eq 3), .inl (cI, 80, .inl X.2.2.2.1)), (bo, .inl (cB, 8, .inr (.inr (.inr (.inr (pd_a pd)))))), (t, .inr (4, [.ref (tq 0), .ref (tq 1), .ref (tq 2), .ref (tq 3), .ref (tq 4), .ref (tq 5), .ref (tq 6), .ref (tq 7), .int (nI (((px_go X (pd_a pd) Bs (ro (cn v245)) v265 v285 S).2.1).2.2.2.2))])), ((tq 0), .inl (cI, 64, .inl (fun z9 => nI ((((px_go X (pd_a pd) Bs (ro (cn v245)) v265 v285 S).2.1).1) z9)))), ((tq 1), .inl (cI, 64, .inl (fun z9 => nI ((((px_go X (pd_a pd) Bs (ro (cn v245)) v265 v285 S).2.1).2.1) z9)))), ((tq 2), .inl (cI, 64, .inl (fun z9 => nI ((((px_go X (pd_a pd) Bs (ro (cn v245)) v265 v285 S).2.1).2.2.1) z9)))), ((tq 3), .inl (cJ, 64, .inr (.inl (((px_go X (pd_a pd) Bs (ro (cn v245)) v265 v285 S).2.1).2.2.2.1)))), ((tq 4), .inl (cJ, 64, .inr (.inl f1))), ((tq 5), .inl (cJ, 64, .inr (.inl f2))), ((tq 6), .inl (cJ, 64, .inr (.inl f3))), ((tq 7), .inl (cJ, 64, .inr (.inl f4))), (co, .inl (cI, 112, .inl (fun z9 => nI (((px_go X (pd_a pd) Bs (ro (cn v245)) v265 v285 S).2.2) z9))))] ++ ((tlp cI pd Bs) ++ [(ko, .inr (1, [.ref (kq 0), .ref (kq 1), .ref (kq 2), .ref (kq 3), .ref (kq 4)])), ((kq 0), .inl (cI, 80, .inl (fun z9 => nI (C.1 z9)))), ((kq 1), .inl (cI, 640, .inl (fun z9 => nI (C.2.1 z9)))), ((kq 2), .inl (cI, 64, .inl (fun z9 => nI (C.2.2.1 z9)))), ((kq 3), .inl (cI, 8, .inl (fun z9 => nI (C.2.2.2.1 z9)))), ((kq 4), .inl (cI, 8, .inl (fun z9 => nI (C.2.2.2.2 z9)))), ((mq 12), .inl (cI, 80, .inl (fun z9 => nI (eC z9)))), ((mq 13), .inl (cI, 8, .inl (fun z9 => nI (fC z9)))), ((mq 14), .inl (cZ, 80, .inl (fun z9 => gb (R0 z9)))), ((mq 15), .inl (cZ, 8, .inl (fun z9 => gb (Q0 z9))))])) H := hP
      have hD : va_D (fun q : Nat => s.heap.size ≤ q) ([(mo, .inr (6, [.ref (mq 0), .ref (mq 1), .ref (mq 2), .ref (mq 3), .int (nI X.2.2.2.2), .ref (mq 5), .ref (mq 6), .int (nI F), .ref (mq 8), .ref (mq 9), .ref (mq 10), .ref (mq 11), .ref (mq 12), .ref (mq 13), .ref (mq 14), .ref (mq 15), .ref (mq 16), .ref (mq 17), .ref (mq 18), .ref (mq 19), .ref (mq 20), .ref (mq 21), .ref (mq 22), .int (nI Mf.1)])), ((mq 8), .inl (cI, 96, .inl (fun z9 => nI (sk z9)))), ((mq 9), .inl (cI, 96, .inl sa9)), ((mq 10), .inl (cI, 96, .inl sb9)), ((mq 11), .inl (cI, 8, .inl (fun z9 => nI (sz z9)))), ((mq 0), .inl (cI, 80, .inl X.1)), ((mq 1), .inl (cI, 80, .inl X.2.1)), ((mq 2), .inl (cI, 80, .inl X.2.2.1)), ((mq 3), .inl (cI, 80, .inl X.2.2.2.1)), ((mq 17), .inl (cJ, 2560, .inr (.inl Mf.2.2.2.2.2.2.1))), ((mq 16), .inl (cJ, 448, .inr (.inl Mf.2.2.2.2.2.1))), ((mq 19), .inl (cI, 8, .inl (fun z9 => nI (Mf.2.1 z9)))), ((mq 20), .inl (cI, 8, .inl (fun z9 => nI (Mf.2.2.1 z9)))), ((mq 21), .inl (cI, 8, .inl Mf.2.2.2.1)), ((mq 18), .inl (cZ, 640, .inl (fun z9 => gb (Mf.2.2.2.2.2.2.2 z9)))), ((mq 22), .inl (cI, 192, .inl (fun z9 => nI (Mf.2.2.2.2.1 z9)))), ((mq 5), .inl (cI, 8, .inl of9)), ((mq 6), .inl (cI, 8, .inl by9)), (h, .inr (5, [.ref g, .ref ko, .ref (hq 0), .ref (hq 1), .ref (hq 2), .ref (hq 3), .int (nI F)])), ((hq 0), .inl (cI, 8, .inl (fun z9 => nI (ro z9)))), ((hq 1), .inl (cI, 8, .inl (fun z9 => nI (so z9)))), ((hq 2), .inl (cI, 8, .inl (fun z9 => nI (di z9)))), ((hq 3), .inl (cI, 8, .inl (fun z9 => nI (od z9)))), (g, .inr (3, [.ref eo, .ref bo, .ref t, .ref co])), (eo, .inr (2, [.ref (eq 0), .ref (eq 1), .ref (eq 2), .ref (eq 3), .int (nI X.2.2.2.2)])), ((eq 0), .inl (cI, 80, .inl X.1)), ((eq 1), .inl (cI, 80, .inl X.2.1)), ((eq 2), .inl (cI, 80, .inl X.2.2.1)), ((eq 3), .inl (cI, 80, .inl X.2.2.2.1)), (bo, .inl (cB, 8, .inr (.inr (.inr (.inr (pd_a pd)))))), (t, .inr (4, [.ref (tq 0), .ref (tq 1), .ref (tq 2), .ref (tq 3), .ref (tq 4), .ref (tq 5), .ref (tq 6), .ref (tq 7), .int (nI (((px_go X (pd_a pd) Bs (ro (cn v245)) v265 v285 S).2.1).2.2.2.2))])), ((tq 0), .inl (cI, 64, .inl (fun z9 => nI ((((px_go X (pd_a pd) Bs (ro (cn v245)) v265 v285 S).2.1).1) z9)))), ((tq 1), .inl (cI, 64, .inl (fun z9 => nI ((((px_go X (pd_a pd) Bs (ro (cn v245)) v265 v285 S).2.1).2.1) z9)))), ((tq 2), .inl (cI, 64, .inl (fun z9 => nI ((((px_go X (pd_a pd) Bs (ro (cn v245)) v265 v285 S).2.1).2.2.1) z9)))), ((tq 3), .inl (cJ, 64, .inr (.inl (((px_go X (pd_a pd) Bs (ro (cn v245)) v265 v285 S).2.1).2.2.2.1)))), ((tq 4), .inl (cJ, 64, .inr (.inl f1))), ((tq 5), .inl (cJ, 64, .inr (.inl f2))), ((tq 6), .inl (cJ, 64, .inr (.inl f3))), ((tq 7), .inl (cJ, 64, .inr (.inl f4))), (co, .inl (cI, 112, .inl (fun z9 => nI (((px_go X (pd_a pd) Bs (ro (cn v245)) v265 v285 S).2.2) z9))))] ++ ((tlp cI pd Bs) ++ [(ko, .inr (1, [.ref (kq 0), .ref (kq 1), .ref (kq 2), .ref (kq 3), .ref (kq 4)])), ((kq 0), .inl (cI, 80, .inl (fun z9 => nI (C.1 z9)))), ((kq 1), .inl (cI, 640, .inl (fun z9 => nI (C.2.1 z9)))), ((kq 2), .inl (cI, 64, .inl (fun z9 => nI (C.2.2.1 z9)))), ((kq 3), .inl (cI, 8, .inl (fun z9 => nI (C.2.2.2.1 z9)))), ((kq 4), .inl (cI, 8, .inl (fun z9 => nI (C.2.2.2.2 z9)))), ((mq 12), .inl (cI, 80, .inl (fun z9 => nI (eC z9)))), ((mq 13), .inl (cI, 8, .inl (fun z9 => nI (fC z9)))), ((mq 14), .inl (cZ, 80, .inl (fun z9 => gb (R0 z9)))), ((mq 15), .inl (cZ, 8, .inl (fun z9 => gb (Q0 z9))))])) := hD
      refine W.lcmp hx hb dL_law_338 ?_
      refine lv_topi (fun v338 e338 => ?_)
      refine lv_if_eq (tgt := 562) hx hb dL_law_339 (by decide) (fun c339 => ?_) (fun c339 => ?_)
      · refine W.widen (k := 50 + i + 7) (n := 6510 + 12 * i + 81) (show (((50 + i) + 0) + 0) ≤ 50 + i + 7 by omega) (show (((6510 + 12 * i) + 0) + 0) ≤ 6510 + 12 * i + 81 by omega) ?_
        obtain ⟨hP, hD⟩ := pm_14 hP hD
        have hP : va_P D vwCl (lw_W cI cJ cB cZ h g ko eo bo t co mo hq kq eq tq mq F ro so di od C X pd Bs ((px_go X (pd_a pd) Bs (ro (cn v245)) v265 v285 S).2) f1 f2 f3 f4 of9 by9 sk sa9 sb9 sz eC fC R0 Q0 Mf) H := hP
        have hD : va_D (fun q : Nat => s.heap.size ≤ q) (lw_W cI cJ cB cZ h g ko eo bo t co mo hq kq eq tq mq F ro so di od C X pd Bs ((px_go X (pd_a pd) Bs (ro (cn v245)) v265 v285 S).2) f1 f2 f3 f4 of9 by9 sk sa9 sb9 sz eC fC R0 Q0 Mf) := hD
        exact hJ F ro so di od C X pd Bs ((px_go X (pd_a pd) Bs (ro (cn v245)) v265 v285 S).2) f1 f2 f3 f4 of9 by9 sk sa9 sb9 sz eC fC R0 Q0 Mf ⟨hG, lw_sx hG hSx (g3 _) v265 v285, heC, hfC, hp8⟩ _ _ _ hP hD hS (lv_sub hl [0, 1, 2, 3] rfl)
      · exact absurd (by rw [e338]; exact (gl_eq _ _).mpr (by rw [hr9, hrm]; exact hv0)) c339
    · obtain ⟨hr9, rfl⟩ := (p286.2 ha).2.1 ho
      have hP : va_P D vwCl ([(h, .inr (5, [.ref g, .ref ko, .ref (hq 0), .ref (hq 1), .ref (hq 2), .ref (hq 3), .int (nI F)])), ((hq 0), .inl (cI, 8, .inl (fun z9 => nI (ro z9)))), ((hq 1), .inl (cI, 8, .inl (fun z9 => nI (so z9)))), ((hq 2), .inl (cI, 8, .inl (fun z9 => nI (di z9)))), ((hq 3), .inl (cI, 8, .inl (fun z9 => nI (od z9)))), (g, .inr (3, [.ref eo, .ref bo, .ref t, .ref co])), (eo, .inr (2, [.ref (eq 0), .ref (eq 1), .ref (eq 2), .ref (eq 3), .int (nI X.2.2.2.2)])), ((eq 0), .inl (cI, 80, .inl X.1)), ((eq 1), .inl (cI, 80, .inl X.2.1)), ((eq 2), .inl (cI, 80, .inl X.2.2.1)), ((eq 3), .inl (cI, 80, .inl X.2.2.2.1)), (bo, .inl (cB, 8, .inr (.inr (.inr (.inr (pd_a pd)))))), (t, .inr (4, [.ref (tq 0), .ref (tq 1), .ref (tq 2), .ref (tq 3), .ref (tq 4), .ref (tq 5), .ref (tq 6), .ref (tq 7), .int (nI (((px_go X (pd_a pd) Bs (ro (cn v245)) v265 v285 S).2.1).2.2.2.2))])), ((tq 0), .inl (cI, 64, .inl (fun z9 => nI ((((px_go X (pd_a pd) Bs (ro (cn v245)) v265 v285 S).2.1).1) z9)))), ((tq 1), .inl (cI, 64, .inl (fun z9 => nI ((((px_go X (pd_a pd) Bs (ro (cn v245)) v265 v285 S).2.1).2.1) z9)))), ((tq 2), .inl (cI, 64, .inl (fun z9 => nI ((((px_go X (pd_a pd) Bs (ro (cn v245)) v265 v285 S).2.1).2.2.1) z9)))), ((tq 3), .inl (cJ, 64, .inr (.inl (((px_go X (pd_a pd) Bs (ro (cn v245)) v265 v285 S).2.1).2.2.2.1)))), ((tq 4), .inl (cJ, 64, .inr (.inl (tr_sl (px_go X (pd_a pd) Bs (ro (cn v245)) v265 v285 S).2.1 (di (cn v245)) f1 (px_go X (pd_a pd) Bs (ro (cn v245)) v265 v285 S).2.1.2.2.2.2)))), ((tq 5), .inl (cJ, 64, .inr (.inl f2))), ((tq 6), .inl (cJ, 64, .inr (.inl f3))), ((tq 7), .inl (cJ, 64, .inr (.inl f4))), (co, .inl (cI, 112, .inl (fun z9 => nI (((px_go X (pd_a pd) Bs (ro (cn v245)) v265 v285 S).2.2) z9))))] ++ ((tlp cI pd Bs) ++ [(ko, .inr (1, [.ref (kq 0), .ref (kq 1), .ref (kq 2), .ref (kq 3), .ref (kq 4)])), ((kq 0), .inl (cI, 80, .inl (fun z9 => nI (C.1 z9)))), ((kq 1), .inl (cI, 640, .inl (fun z9 => nI (C.2.1 z9)))), ((kq 2), .inl (cI, 64, .inl (fun z9 => nI (C.2.2.1 z9)))), ((kq 3), .inl (cI, 8, .inl (fun z9 => nI (C.2.2.2.1 z9)))), ((kq 4), .inl (cI, 8, .inl (fun z9 => nI (C.2.2.2.2 z9)))), (mo, .inr (6, [.ref (mq 0), .ref (mq 1), .ref (mq 2), .ref (mq 3), .int (nI X.2.2.2.2), .ref (mq 5), .ref (mq 6), .int (nI F), .ref (mq 8), .ref (mq 9), .ref (mq 10), .ref (mq 11), .ref (mq 12), .ref (mq 13), .ref (mq 14), .ref (mq 15), .ref (mq 16), .ref (mq 17), .ref (mq 18), .ref (mq 19), .ref (mq 20), .ref (mq 21), .ref (mq 22), .int (nI M.1)])), ((mq 8), .inl (cI, 96, .inl (fun z9 => nI (sk z9)))), ((mq 9), .inl (cI, 96, .inl sa9)), ((mq 10), .inl (cI, 96, .inl sb9)), ((mq 11), .inl (cI, 8, .inl (fun z9 => nI (sz z9)))), ((mq 0), .inl (cI, 80, .inl X.1)), ((mq 1), .inl (cI, 80, .inl X.2.1)), ((mq 2), .inl (cI, 80, .inl X.2.2.1)), ((mq 3), .inl (cI, 80, .inl X.2.2.2.1)), ((mq 17), .inl (cJ, 2560, .inr (.inl M.2.2.2.2.2.2.1))), ((mq 16), .inl (cJ, 448, .inr (.inl M.2.2.2.2.2.1))), ((mq 19), .inl (cI, 8, .inl (fun z9 => nI (M.2.1 z9)))), ((mq 20), .inl (cI, 8, .inl (fun z9 => nI (M.2.2.1 z9)))), ((mq 21), .inl (cI, 8, .inl M.2.2.2.1)), ((mq 18), .inl (cZ, 640, .inl (fun z9 => gb (M.2.2.2.2.2.2.2 z9)))), ((mq 22), .inl (cI, 192, .inl (fun z9 => nI (M.2.2.2.2.1 z9)))), ((mq 5), .inl (cI, 8, .inl of9)), ((mq 6), .inl (cI, 8, .inl by9)), ((mq 12), .inl (cI, 80, .inl (fun z9 => nI (eC z9)))), ((mq 13), .inl (cI, 8, .inl (fun z9 => nI (fC z9)))), ((mq 14), .inl (cZ, 80, .inl (fun z9 => gb (R0 z9)))), ((mq 15), .inl (cZ, 8, .inl (fun z9 => gb (Q0 z9))))])) H := hP
      have hD : va_D (fun q : Nat => s.heap.size ≤ q) ([(h, .inr (5, [.ref g, .ref ko, .ref (hq 0), .ref (hq 1), .ref (hq 2), .ref (hq 3), .int (nI F)])), ((hq 0), .inl (cI, 8, .inl (fun z9 => nI (ro z9)))), ((hq 1), .inl (cI, 8, .inl (fun z9 => nI (so z9)))), ((hq 2), .inl (cI, 8, .inl (fun z9 => nI (di z9)))), ((hq 3), .inl (cI, 8, .inl (fun z9 => nI (od z9)))), (g, .inr (3, [.ref eo, .ref bo, .ref t, .ref co])), (eo, .inr (2, [.ref (eq 0), .ref (eq 1), .ref (eq 2), .ref (eq 3), .int (nI X.2.2.2.2)])), ((eq 0), .inl (cI, 80, .inl X.1)), ((eq 1), .inl (cI, 80, .inl X.2.1)), ((eq 2), .inl (cI, 80, .inl X.2.2.1)), ((eq 3), .inl (cI, 80, .inl X.2.2.2.1)), (bo, .inl (cB, 8, .inr (.inr (.inr (.inr (pd_a pd)))))), (t, .inr (4, [.ref (tq 0), .ref (tq 1), .ref (tq 2), .ref (tq 3), .ref (tq 4), .ref (tq 5), .ref (tq 6), .ref (tq 7), .int (nI (((px_go X (pd_a pd) Bs (ro (cn v245)) v265 v285 S).2.1).2.2.2.2))])), ((tq 0), .inl (cI, 64, .inl (fun z9 => nI ((((px_go X (pd_a pd) Bs (ro (cn v245)) v265 v285 S).2.1).1) z9)))), ((tq 1), .inl (cI, 64, .inl (fun z9 => nI ((((px_go X (pd_a pd) Bs (ro (cn v245)) v265 v285 S).2.1).2.1) z9)))), ((tq 2), .inl (cI, 64, .inl (fun z9 => nI ((((px_go X (pd_a pd) Bs (ro (cn v245)) v265 v285 S).2.1).2.2.1) z9)))), ((tq 3), .inl (cJ, 64, .inr (.inl (((px_go X (pd_a pd) Bs (ro (cn v245)) v265 v285 S).2.1).2.2.2.1)))), ((tq 4), .inl (cJ, 64, .inr (.inl (tr_sl (px_go X (pd_a pd) Bs (ro (cn v245)) v265 v285 S).2.1 (di (cn v245)) f1 (px_go X (pd_a pd) Bs (ro (cn v245)) v265 v285 S).2.1.2.2.2.2)))), ((tq 5), .inl (cJ, 64, .inr (.inl f2))), ((tq 6), .inl (cJ, 64, .inr (.inl f3))), ((tq 7), .inl (cJ, 64, .inr (.inl f4))), (co, .inl (cI, 112, .inl (fun z9 => nI (((px_go X (pd_a pd) Bs (ro (cn v245)) v265 v285 S).2.2) z9))))] ++ ((tlp cI pd Bs) ++ [(ko, .inr (1, [.ref (kq 0), .ref (kq 1), .ref (kq 2), .ref (kq 3), .ref (kq 4)])), ((kq 0), .inl (cI, 80, .inl (fun z9 => nI (C.1 z9)))), ((kq 1), .inl (cI, 640, .inl (fun z9 => nI (C.2.1 z9)))), ((kq 2), .inl (cI, 64, .inl (fun z9 => nI (C.2.2.1 z9)))), ((kq 3), .inl (cI, 8, .inl (fun z9 => nI (C.2.2.2.1 z9)))), ((kq 4), .inl (cI, 8, .inl (fun z9 => nI (C.2.2.2.2 z9)))), (mo, .inr (6, [.ref (mq 0), .ref (mq 1), .ref (mq 2), .ref (mq 3), .int (nI X.2.2.2.2), .ref (mq 5), .ref (mq 6), .int (nI F), .ref (mq 8), .ref (mq 9), .ref (mq 10), .ref (mq 11), .ref (mq 12), .ref (mq 13), .ref (mq 14), .ref (mq 15), .ref (mq 16), .ref (mq 17), .ref (mq 18), .ref (mq 19), .ref (mq 20), .ref (mq 21), .ref (mq 22), .int (nI M.1)])), ((mq 8), .inl (cI, 96, .inl (fun z9 => nI (sk z9)))), ((mq 9), .inl (cI, 96, .inl sa9)), ((mq 10), .inl (cI, 96, .inl sb9)), ((mq 11), .inl (cI, 8, .inl (fun z9 => nI (sz z9)))), ((mq 0), .inl (cI, 80, .inl X.1)), ((mq 1), .inl (cI, 80, .inl X.2.1)), ((mq 2), .inl (cI, 80, .inl X.2.2.1)), ((mq 3), .inl (cI, 80, .inl X.2.2.2.1)), ((mq 17), .inl (cJ, 2560, .inr (.inl M.2.2.2.2.2.2.1))), ((mq 16), .inl (cJ, 448, .inr (.inl M.2.2.2.2.2.1))), ((mq 19), .inl (cI, 8, .inl (fun z9 => nI (M.2.1 z9)))), ((mq 20), .inl (cI, 8, .inl (fun z9 => nI (M.2.2.1 z9)))), ((mq 21), .inl (cI, 8, .inl M.2.2.2.1)), ((mq 18), .inl (cZ, 640, .inl (fun z9 => gb (M.2.2.2.2.2.2.2 z9)))), ((mq 22), .inl (cI, 192, .inl (fun z9 => nI (M.2.2.2.2.1 z9)))), ((mq 5), .inl (cI, 8, .inl of9)), ((mq 6), .inl (cI, 8, .inl by9)), ((mq 12), .inl (cI, 80, .inl (fun z9 => nI (eC z9)))), ((mq 13), .inl (cI, 8, .inl (fun z9 => nI (fC z9)))), ((mq 14), .inl (cZ, 80, .inl (fun z9 => gb (R0 z9)))), ((mq 15), .inl (cZ, 8, .inl (fun z9 => gb (Q0 z9))))])) := hD
      refine lv_aload_n hx hb dL_law_289 rfl (lv_at hl 2 rfl) ?_
      refine lv_aload_n hx hb dL_law_290 rfl (lv_at hl 0 rfl) ?_
      refine lv_iload_n hx hb dL_law_291 rfl (lv_at hl 3 rfl) ?_
      refine lv_iconst (v := 1) hx hb dL_law_292 (by decide) ?_
      refine lv_iadd hx hb dL_law_293 ?_
      refine lv_topi (fun v293 e293 => ?_)
      have n293 : v293 = nI (i + 1) := by rw [e293]; exact gx_add (rfl : (nI i) = (nI i)) (rfl : (1 : Int32) = nI 1)
      subst n293
      have i294 : vp_in (nI (i + 1)) L := gx_in (rfl : (nI (i + 1)) = (nI (i + 1))) (by omega) (by omega)
      refine va_sld hx hb hXs hbl hbA hS i294 dL_law_294 ?_
      refine lv_topi (fun v294 e294 => ?_)
      have q294 : v245 = v294 := e245.trans e294.symm
      subst q294
      rw [hx8]
      refine lv_aload_n hx hb dL_law_295 rfl (lv_at hl 0 rfl) ?_
      refine lv_iload_n hx hb dL_law_296 rfl (lv_at hl 3 rfl) ?_
      refine lv_iconst (v := 2) hx hb dL_law_297 (by decide) ?_
      refine lv_iadd hx hb dL_law_298 ?_
      refine lv_topi (fun v298 e298 => ?_)
      have n298 : v298 = nI (i + 2) := by rw [e298]; exact gx_add (rfl : (nI i) = (nI i)) (rfl : (2 : Int32) = nI 2)
      subst n298
      have i299 : vp_in (nI (i + 2)) L := gx_in (rfl : (nI (i + 2)) = (nI (i + 2))) (by omega) (by omega)
      refine va_sld hx hb hXs hbl hbA hS i299 dL_law_299 ?_
      refine lv_topi (fun v299 e299 => ?_)
      have q299 : v250 = v299 := e250.trans e299.symm
      subst q299
      refine lv_i2l hx hb dL_law_300 rfl ?_
      refine lv_topl (fun v300 e300 => ?_)
      have q300 : v251 = v300 := e251.trans e300.symm
      subst q300
      refine lv_bipush (v := 32) hx hb dL_law_301 (by decide) ?_
      refine lv_lshl hx hb dL_law_303 rfl ?_
      refine lv_topl (fun v303 e303 => ?_)
      have q303 : v254 = v303 := e254.trans e303.symm
      subst q303
      refine lv_aload_n hx hb dL_law_304 rfl (lv_at hl 0 rfl) ?_
      refine lv_iload_n hx hb dL_law_305 rfl (lv_at hl 3 rfl) ?_
      refine lv_iconst (v := 3) hx hb dL_law_306 (by decide) ?_
      refine lv_iadd hx hb dL_law_307 ?_
      refine lv_topi (fun v307 e307 => ?_)
      have n307 : v307 = nI (i + 3) := by rw [e307]; exact gx_add (rfl : (nI i) = (nI i)) (rfl : (3 : Int32) = nI 3)
      subst n307
      have i308 : vp_in (nI (i + 3)) L := gx_in (rfl : (nI (i + 3)) = (nI (i + 3))) (by omega) (by omega)
      refine va_sld hx hb hXs hbl hbA hS i308 dL_law_308 ?_
      refine lv_topi (fun v308 e308 => ?_)
      have q308 : v259 = v308 := e259.trans e308.symm
      subst q308
      refine lv_i2l hx hb dL_law_309 rfl ?_
      refine lv_topl (fun v309 e309 => ?_)
      have q309 : v260 = v309 := e260.trans e309.symm
      subst q309
      refine lv_ldc2 (v := 4294967295) hx hb hown (ht _ m_699) dL_law_310 ?_
      refine lv_land hx hb dL_law_313 ?_
      refine lv_topl (fun v313 e313 => ?_)
      have q313 : v264 = v313 := e264.trans e313.symm
      subst q313
      refine lv_lor hx hb dL_law_314 ?_
      refine lv_topl (fun v314 e314 => ?_)
      have q314 : v265 = v314 := e265.trans e314.symm
      subst q314
      refine lv_aload_n hx hb dL_law_315 rfl (lv_at hl 0 rfl) ?_
      refine lv_iload_n hx hb dL_law_316 rfl (lv_at hl 3 rfl) ?_
      refine lv_iconst (v := 4) hx hb dL_law_317 (by decide) ?_
      refine lv_iadd hx hb dL_law_318 ?_
      refine lv_topi (fun v318 e318 => ?_)
      have n318 : v318 = nI (i + 4) := by rw [e318]; exact gx_add (rfl : (nI i) = (nI i)) (rfl : (4 : Int32) = nI 4)
      subst n318
      have i319 : vp_in (nI (i + 4)) L := gx_in (rfl : (nI (i + 4)) = (nI (i + 4))) (by omega) (by omega)
      refine va_sld hx hb hXs hbl hbA hS i319 dL_law_319 ?_
      refine lv_topi (fun v319 e319 => ?_)
      have q319 : v270 = v319 := e270.trans e319.symm
      subst q319
      refine lv_i2l hx hb dL_law_320 rfl ?_
      refine lv_topl (fun v320 e320 => ?_)
      have q320 : v271 = v320 := e271.trans e320.symm
      subst q320
      refine lv_bipush (v := 32) hx hb dL_law_321 (by decide) ?_
      refine lv_lshl hx hb dL_law_323 rfl ?_
      refine lv_topl (fun v323 e323 => ?_)
      have q323 : v274 = v323 := e274.trans e323.symm
      subst q323
      refine lv_aload_n hx hb dL_law_324 rfl (lv_at hl 0 rfl) ?_
      refine lv_iload_n hx hb dL_law_325 rfl (lv_at hl 3 rfl) ?_
      refine lv_iconst (v := 5) hx hb dL_law_326 (by decide) ?_
      refine lv_iadd hx hb dL_law_327 ?_
      refine lv_topi (fun v327 e327 => ?_)
      have n327 : v327 = nI (i + 5) := by rw [e327]; exact gx_add (rfl : (nI i) = (nI i)) (rfl : (5 : Int32) = nI 5)
      subst n327
      have i328 : vp_in (nI (i + 5)) L := gx_in (rfl : (nI (i + 5)) = (nI (i + 5))) (by omega) (by omega)
      refine va_sld hx hb hXs hbl hbA hS i328 dL_law_328 ?_
      refine lv_topi (fun v328 e328 => ?_)
      have q328 : v279 = v328 := e279.trans e328.symm
      subst q328
      refine lv_i2l hx hb dL_law_329 rfl ?_
      refine lv_topl (fun v329 e329 => ?_)
      have q329 : v280 = v329 := e280.trans e329.symm
      subst q329
      refine lv_ldc2 (v := 4294967295) hx hb hown (ht _ m_699) dL_law_330 ?_
      refine lv_land hx hb dL_law_333 ?_
      refine lv_topl (fun v333 e333 => ?_)
      have q333 : v284 = v333 := e284.trans e333.symm
      subst q333
      refine lv_lor hx hb dL_law_334 ?_
      refine lv_topl (fun v334 e334 => ?_)
      have q334 : v285 = v334 := e285.trans e334.symm
      subst q334
      obtain ⟨w1, w2, w3, w4, w5⟩ := hfd.2 (by omega)
      have w6 : ro (cn v245) = so (cn v245) := by rw [w5]; exact ((g9 (so (cn v245)) (by omega)).1 (by omega)).2
      obtain ⟨u9, Mf, hG0, hN0, hv0, hv1⟩ := run_same (gi_MH hG lw_ba) (g3 (cn v245)) (gi_root hG _ _ (Nat.le_refl _) hf8) v265 v285 (p1 := nI (di (cn v245))) (p2 := -1) (Or.inr ⟨_, g5 (cn v245), rfl⟩) (Or.inl rfl) M.2.1 M.2.2.1 M.2.2.2.1 M.2.2.2.2.1 M.2.2.2.2.2.1 M.2.2.2.2.2.2.1 M.2.2.2.2.2.2.2 S f1 f2 f3 f4
      rw [w6] at hG0
      obtain ⟨hP, hD⟩ := pm_13 hP hD
      refine gc_ml (lf := []) (W0 := [(mo, .inr (6, [.ref (mq 0), .ref (mq 1), .ref (mq 2), .ref (mq 3), .int (nI X.2.2.2.2), .ref (mq 5), .ref (mq 6), .int (nI F), .ref (mq 8), .ref (mq 9), .ref (mq 10), .ref (mq 11), .ref (mq 12), .ref (mq 13), .ref (mq 14), .ref (mq 15), .ref (mq 16), .ref (mq 17), .ref (mq 18), .ref (mq 19), .ref (mq 20), .ref (mq 21), .ref (mq 22), .int (nI M.1)])), ((mq 8), .inl (cI, 96, .inl (fun z9 => nI (sk z9)))), ((mq 9), .inl (cI, 96, .inl sa9)), ((mq 10), .inl (cI, 96, .inl sb9)), ((mq 11), .inl (cI, 8, .inl (fun z9 => nI (sz z9)))), ((mq 0), .inl (cI, 80, .inl X.1)), ((mq 1), .inl (cI, 80, .inl X.2.1)), ((mq 2), .inl (cI, 80, .inl X.2.2.1)), ((mq 3), .inl (cI, 80, .inl X.2.2.2.1)), ((mq 17), .inl (cJ, 2560, .inr (.inl M.2.2.2.2.2.2.1))), ((mq 16), .inl (cJ, 448, .inr (.inl M.2.2.2.2.2.1))), ((mq 19), .inl (cI, 8, .inl (fun z9 => nI (M.2.1 z9)))), ((mq 20), .inl (cI, 8, .inl (fun z9 => nI (M.2.2.1 z9)))), ((mq 21), .inl (cI, 8, .inl M.2.2.2.1)), ((mq 18), .inl (cZ, 640, .inl (fun z9 => gb (M.2.2.2.2.2.2.2 z9)))), ((mq 22), .inl (cI, 192, .inl (fun z9 => nI (M.2.2.2.2.1 z9)))), ((mq 5), .inl (cI, 8, .inl of9)), ((mq 6), .inl (cI, 8, .inl by9))]) (rt := ([(h, .inr (5, [.ref g, .ref ko, .ref (hq 0), .ref (hq 1), .ref (hq 2), .ref (hq 3), .int (nI F)])), ((hq 0), .inl (cI, 8, .inl (fun z9 => nI (ro z9)))), ((hq 1), .inl (cI, 8, .inl (fun z9 => nI (so z9)))), ((hq 2), .inl (cI, 8, .inl (fun z9 => nI (di z9)))), ((hq 3), .inl (cI, 8, .inl (fun z9 => nI (od z9)))), (g, .inr (3, [.ref eo, .ref bo, .ref t, .ref co])), (eo, .inr (2, [.ref (eq 0), .ref (eq 1), .ref (eq 2), .ref (eq 3), .int (nI X.2.2.2.2)])), ((eq 0), .inl (cI, 80, .inl X.1)), ((eq 1), .inl (cI, 80, .inl X.2.1)), ((eq 2), .inl (cI, 80, .inl X.2.2.1)), ((eq 3), .inl (cI, 80, .inl X.2.2.2.1)), (bo, .inl (cB, 8, .inr (.inr (.inr (.inr (pd_a pd)))))), (t, .inr (4, [.ref (tq 0), .ref (tq 1), .ref (tq 2), .ref (tq 3), .ref (tq 4), .ref (tq 5), .ref (tq 6), .ref (tq 7), .int (nI (((px_go X (pd_a pd) Bs (ro (cn v245)) v265 v285 S).2.1).2.2.2.2))])), ((tq 0), .inl (cI, 64, .inl (fun z9 => nI ((((px_go X (pd_a pd) Bs (ro (cn v245)) v265 v285 S).2.1).1) z9)))), ((tq 1), .inl (cI, 64, .inl (fun z9 => nI ((((px_go X (pd_a pd) Bs (ro (cn v245)) v265 v285 S).2.1).2.1) z9)))), ((tq 2), .inl (cI, 64, .inl (fun z9 => nI ((((px_go X (pd_a pd) Bs (ro (cn v245)) v265 v285 S).2.1).2.2.1) z9)))), ((tq 3), .inl (cJ, 64, .inr (.inl (((px_go X (pd_a pd) Bs (ro (cn v245)) v265 v285 S).2.1).2.2.2.1)))), ((tq 4), .inl (cJ, 64, .inr (.inl (tr_sl (px_go X (pd_a pd) Bs (ro (cn v245)) v265 v285 S).2.1 (di (cn v245)) f1 (px_go X (pd_a pd) Bs (ro (cn v245)) v265 v285 S).2.1.2.2.2.2)))), ((tq 5), .inl (cJ, 64, .inr (.inl f2))), ((tq 6), .inl (cJ, 64, .inr (.inl f3))), ((tq 7), .inl (cJ, 64, .inr (.inl f4))), (co, .inl (cI, 112, .inl (fun z9 => nI (((px_go X (pd_a pd) Bs (ro (cn v245)) v265 v285 S).2.2) z9))))] ++ ((tlp cI pd Bs) ++ [(ko, .inr (1, [.ref (kq 0), .ref (kq 1), .ref (kq 2), .ref (kq 3), .ref (kq 4)])), ((kq 0), .inl (cI, 80, .inl (fun z9 => nI (C.1 z9)))), ((kq 1), .inl (cI, 640, .inl (fun z9 => nI (C.2.1 z9)))), ((kq 2), .inl (cI, 64, .inl (fun z9 => nI (C.2.2.1 z9)))), ((kq 3), .inl (cI, 8, .inl (fun z9 => nI (C.2.2.2.1 z9)))), ((kq 4), .inl (cI, 8, .inl (fun z9 => nI (C.2.2.2.2 z9)))), ((mq 12), .inl (cI, 80, .inl (fun z9 => nI (eC z9)))), ((mq 13), .inl (cI, 8, .inl (fun z9 => nI (fC z9)))), ((mq 14), .inl (cZ, 80, .inl (fun z9 => gb (R0 z9)))), ((mq 15), .inl (cZ, 8, .inl (fun z9 => gb (Q0 z9))))]))) (va_runV (As := [.int (nI (cn v245)), .long v265, .long v285]) (rest := [.long r286]) ⟨hx, hb, hml, hown, ht⟩ (c_M_run1 l D cI cJ cB cZ mo mq F M.1 X sk sa9 sb9 sz (fun f => @ite _ (f < 8 ∧ ob F od f) (Classical.propDecidable _) (Bs f).2.2.2.2.2.2.2 0) M.2.1 M.2.2.1 M.2.2.2.1 M.2.2.2.2.1 M.2.2.2.2.2.1 M.2.2.2.2.2.2.1 M.2.2.2.2.2.2.2 Mf u9 of9 by9 od (cn v245) v265 v285 (so (cn v245)) (di (cn v245)) g1 g2 (gi_hof hG) hf8 ho w2 (g4 _) w3 (g5 _) hN0 hG0 hX hsz hsk hsb hs4 hs0 hs1 (gi_hlk hG) H.size) (cwV 3 ht (gw_V m_612 m_613 m_614 m_6 m_615) rfl rfl rfl (by decide +kernel) ⟨Nat.le_of_ble_eq_true rfl, Nat.le_of_ble_eq_true rfl⟩) (gp_V (ci := 6) (q0 := 0) hK hN (gk_midP (lf := []) hP) (gk_midD (lf := []) hD) rfl rfl) rfl rfl hl.1 rfl (lv_room (Nat.le_of_ble_eq_true rfl)) dL_law_335 ⟨by show ((50 + i) + 0) + 0 ≤ 600000; omega, by show ((6510 + 12 * i) + 0) + 0 ≤ 7302250; omega⟩) hP hD hS hA (fun r335 w335 H locs p335 hP hD hS => ?_)
      obtain ⟨hrm, rfl⟩ := p335
      have hP : va_P D vwCl ([(mo, .inr (6, [.ref (mq 0), .ref (mq 1), .ref (mq 2), .ref (mq 3), .int (nI X.2.2.2.2), .ref (mq 5), .ref (mq 6), .int (nI F), .ref (mq 8), .ref (mq 9), .ref (mq 10), .ref (mq 11), .ref (mq 12), .ref (mq 13), .ref (mq 14), .ref (mq 15), .ref (mq 16), .ref (mq 17), .ref (mq 18), .ref (mq 19), .ref (mq 20), .ref (mq 21), .ref (mq 22), .int (nI Mf.1)])), ((mq 8), .inl (cI, 96, .inl (fun z9 => nI (sk z9)))), ((mq 9), .inl (cI, 96, .inl sa9)), ((mq 10), .inl (cI, 96, .inl sb9)), ((mq 11), .inl (cI, 8, .inl (fun z9 => nI (sz z9)))), ((mq 0), .inl (cI, 80, .inl X.1)), ((mq 1), .inl (cI, 80, .inl X.2.1)), ((mq 2), .inl (cI, 80, .inl X.2.2.1)), ((mq 3), .inl (cI, 80, .inl X.2.2.2.1)), ((mq 17), .inl (cJ, 2560, .inr (.inl Mf.2.2.2.2.2.2.1))), ((mq 16), .inl (cJ, 448, .inr (.inl Mf.2.2.2.2.2.1))), ((mq 19), .inl (cI, 8, .inl (fun z9 => nI (Mf.2.1 z9)))), ((mq 20), .inl (cI, 8, .inl (fun z9 => nI (Mf.2.2.1 z9)))), ((mq 21), .inl (cI, 8, .inl Mf.2.2.2.1)), ((mq 18), .inl (cZ, 640, .inl (fun z9 => gb (Mf.2.2.2.2.2.2.2 z9)))), ((mq 22), .inl (cI, 192, .inl (fun z9 => nI (Mf.2.2.2.2.1 z9)))), ((mq 5), .inl (cI, 8, .inl of9)), ((mq 6), .inl (cI, 8, .inl by9)), (h, .inr (5, [.ref g, .ref ko, .ref (hq 0), .ref (hq 1), .ref (hq 2), .ref (hq 3), .int (nI F)])), ((hq 0), .inl (cI, 8, .inl (fun z9 => nI (ro z9)))), ((hq 1), .inl (cI, 8, .inl (fun z9 => nI (so z9)))), ((hq 2), .inl (cI, 8, .inl (fun z9 => nI (di z9)))), ((hq 3), .inl (cI, 8, .inl (fun z9 => nI (od z9)))), (g, .inr (3, [.ref eo, .ref bo, .ref t, .ref co])), (eo, .inr (2, [.ref (eq 0), .ref (eq 1), .ref (eq 2), .ref (eq 3), .int (nI X.2.2.2.2)])), ((eq 0), .inl (cI, 80, .inl X.1)), ((eq 1), .inl (cI, 80, .inl X.2.1)), ((eq 2), .inl (cI, 80, .inl X.2.2.1)), ((eq 3), .inl (cI, 80, .inl X.2.2.2.1)), (bo, .inl (cB, 8, .inr (.inr (.inr (.inr (pd_a pd)))))), (t, .inr (4, [.ref (tq 0), .ref (tq 1), .ref (tq 2), .ref (tq 3), .ref (tq 4), .ref (tq 5), .ref (tq 6), .ref (tq 7), .int (nI (((px_go X (pd_a pd) Bs (ro (cn v245)) v265 v285 S).2.1).2.2.2.2))])), ((tq 0), .inl (cI, 64, .inl (fun z9 => nI ((((px_go X (pd_a pd) Bs (ro (cn v245)) v265 v285 S).2.1).1) z9)))), ((tq 1), .inl (cI, 64, .inl (fun z9 => nI ((((px_go X (pd_a pd) Bs (ro (cn v245)) v265 v285 S).2.1).2.1) z9)))), ((tq 2), .inl (cI, 64, .inl (fun z9 => nI ((((px_go X (pd_a pd) Bs (ro (cn v245)) v265 v285 S).2.1).2.2.1) z9)))), ((tq 3), .inl (cJ, 64, .inr (.inl (((px_go X (pd_a pd) Bs (ro (cn v245)) v265 v285 S).2.1).2.2.2.1)))), ((tq 4), .inl (cJ, 64, .inr (.inl (tr_sl (px_go X (pd_a pd) Bs (ro (cn v245)) v265 v285 S).2.1 (di (cn v245)) f1 (px_go X (pd_a pd) Bs (ro (cn v245)) v265 v285 S).2.1.2.2.2.2)))), ((tq 5), .inl (cJ, 64, .inr (.inl f2))), ((tq 6), .inl (cJ, 64, .inr (.inl f3))), ((tq 7), .inl (cJ, 64, .inr (.inl f4))), (co, .inl (cI, 112, .inl (fun z9 => nI (((px_go X (pd_a pd) Bs (ro (cn v245)) v265 v285 S).2.2) z9))))] ++ ((tlp cI pd Bs) ++ [(ko, .inr (1, [.ref (kq 0), .ref (kq 1), .ref (kq 2), .ref (kq 3), .ref (kq 4)])), ((kq 0), .inl (cI, 80, .inl (fun z9 => nI (C.1 z9)))), ((kq 1), .inl (cI, 640, .inl (fun z9 => nI (C.2.1 z9)))), ((kq 2), .inl (cI, 64, .inl (fun z9 => nI (C.2.2.1 z9)))), ((kq 3), .inl (cI, 8, .inl (fun z9 => nI (C.2.2.2.1 z9)))), ((kq 4), .inl (cI, 8, .inl (fun z9 => nI (C.2.2.2.2 z9)))), ((mq 12), .inl (cI, 80, .inl (fun z9 => nI (eC z9)))), ((mq 13), .inl (cI, 8, .inl (fun z9 => nI (fC z9)))), ((mq 14), .inl (cZ, 80, .inl (fun z9 => gb (R0 z9)))), ((mq 15), .inl (cZ, 8, .inl (fun z9 => gb (Q0 z9))))])) H := hP
      have hD : va_D (fun q : Nat => s.heap.size ≤ q) ([(mo, .inr (6, [.ref (mq 0), .ref (mq 1), .ref (mq 2), .ref (mq 3), .int (nI X.2.2.2.2), .ref (mq 5), .ref (mq 6), .int (nI F), .ref (mq 8), .ref (mq 9), .ref (mq 10), .ref (mq 11), .ref (mq 12), .ref (mq 13), .ref (mq 14), .ref (mq 15), .ref (mq 16), .ref (mq 17), .ref (mq 18), .ref (mq 19), .ref (mq 20), .ref (mq 21), .ref (mq 22), .int (nI Mf.1)])), ((mq 8), .inl (cI, 96, .inl (fun z9 => nI (sk z9)))), ((mq 9), .inl (cI, 96, .inl sa9)), ((mq 10), .inl (cI, 96, .inl sb9)), ((mq 11), .inl (cI, 8, .inl (fun z9 => nI (sz z9)))), ((mq 0), .inl (cI, 80, .inl X.1)), ((mq 1), .inl (cI, 80, .inl X.2.1)), ((mq 2), .inl (cI, 80, .inl X.2.2.1)), ((mq 3), .inl (cI, 80, .inl X.2.2.2.1)), ((mq 17), .inl (cJ, 2560, .inr (.inl Mf.2.2.2.2.2.2.1))), ((mq 16), .inl (cJ, 448, .inr (.inl Mf.2.2.2.2.2.1))), ((mq 19), .inl (cI, 8, .inl (fun z9 => nI (Mf.2.1 z9)))), ((mq 20), .inl (cI, 8, .inl (fun z9 => nI (Mf.2.2.1 z9)))), ((mq 21), .inl (cI, 8, .inl Mf.2.2.2.1)), ((mq 18), .inl (cZ, 640, .inl (fun z9 => gb (Mf.2.2.2.2.2.2.2 z9)))), ((mq 22), .inl (cI, 192, .inl (fun z9 => nI (Mf.2.2.2.2.1 z9)))), ((mq 5), .inl (cI, 8, .inl of9)), ((mq 6), .inl (cI, 8, .inl by9)), (h, .inr (5, [.ref g, .ref ko, .ref (hq 0), .ref (hq 1), .ref (hq 2), .ref (hq 3), .int (nI F)])), ((hq 0), .inl (cI, 8, .inl (fun z9 => nI (ro z9)))), ((hq 1), .inl (cI, 8, .inl (fun z9 => nI (so z9)))), ((hq 2), .inl (cI, 8, .inl (fun z9 => nI (di z9)))), ((hq 3), .inl (cI, 8, .inl (fun z9 => nI (od z9)))), (g, .inr (3, [.ref eo, .ref bo, .ref t, .ref co])), (eo, .inr (2, [.ref (eq 0), .ref (eq 1), .ref (eq 2), .ref (eq 3), .int (nI X.2.2.2.2)])), ((eq 0), .inl (cI, 80, .inl X.1)), ((eq 1), .inl (cI, 80, .inl X.2.1)), ((eq 2), .inl (cI, 80, .inl X.2.2.1)), ((eq 3), .inl (cI, 80, .inl X.2.2.2.1)), (bo, .inl (cB, 8, .inr (.inr (.inr (.inr (pd_a pd)))))), (t, .inr (4, [.ref (tq 0), .ref (tq 1), .ref (tq 2), .ref (tq 3), .ref (tq 4), .ref (tq 5), .ref (tq 6), .ref (tq 7), .int (nI (((px_go X (pd_a pd) Bs (ro (cn v245)) v265 v285 S).2.1).2.2.2.2))])), ((tq 0), .inl (cI, 64, .inl (fun z9 => nI ((((px_go X (pd_a pd) Bs (ro (cn v245)) v265 v285 S).2.1).1) z9)))), ((tq 1), .inl (cI, 64, .inl (fun z9 => nI ((((px_go X (pd_a pd) Bs (ro (cn v245)) v265 v285 S).2.1).2.1) z9)))), ((tq 2), .inl (cI, 64, .inl (fun z9 => nI ((((px_go X (pd_a pd) Bs (ro (cn v245)) v265 v285 S).2.1).2.2.1) z9)))), ((tq 3), .inl (cJ, 64, .inr (.inl (((px_go X (pd_a pd) Bs (ro (cn v245)) v265 v285 S).2.1).2.2.2.1)))), ((tq 4), .inl (cJ, 64, .inr (.inl (tr_sl (px_go X (pd_a pd) Bs (ro (cn v245)) v265 v285 S).2.1 (di (cn v245)) f1 (px_go X (pd_a pd) Bs (ro (cn v245)) v265 v285 S).2.1.2.2.2.2)))), ((tq 5), .inl (cJ, 64, .inr (.inl f2))), ((tq 6), .inl (cJ, 64, .inr (.inl f3))), ((tq 7), .inl (cJ, 64, .inr (.inl f4))), (co, .inl (cI, 112, .inl (fun z9 => nI (((px_go X (pd_a pd) Bs (ro (cn v245)) v265 v285 S).2.2) z9))))] ++ ((tlp cI pd Bs) ++ [(ko, .inr (1, [.ref (kq 0), .ref (kq 1), .ref (kq 2), .ref (kq 3), .ref (kq 4)])), ((kq 0), .inl (cI, 80, .inl (fun z9 => nI (C.1 z9)))), ((kq 1), .inl (cI, 640, .inl (fun z9 => nI (C.2.1 z9)))), ((kq 2), .inl (cI, 64, .inl (fun z9 => nI (C.2.2.1 z9)))), ((kq 3), .inl (cI, 8, .inl (fun z9 => nI (C.2.2.2.1 z9)))), ((kq 4), .inl (cI, 8, .inl (fun z9 => nI (C.2.2.2.2 z9)))), ((mq 12), .inl (cI, 80, .inl (fun z9 => nI (eC z9)))), ((mq 13), .inl (cI, 8, .inl (fun z9 => nI (fC z9)))), ((mq 14), .inl (cZ, 80, .inl (fun z9 => gb (R0 z9)))), ((mq 15), .inl (cZ, 8, .inl (fun z9 => gb (Q0 z9))))])) := hD
      refine W.lcmp hx hb dL_law_338 ?_
      refine lv_topi (fun v338 e338 => ?_)
      refine lv_if_eq (tgt := 562) hx hb dL_law_339 (by decide) (fun c339 => ?_) (fun c339 => ?_)
      · refine W.widen (k := 50 + i + 7) (n := 6510 + 12 * i + 81) (show (((50 + i) + 0) + 0) ≤ 50 + i + 7 by omega) (show (((6510 + 12 * i) + 0) + 0) ≤ 6510 + 12 * i + 81 by omega) ?_
        obtain ⟨hP, hD⟩ := pm_14 hP hD
        have hP : va_P D vwCl (lw_W cI cJ cB cZ h g ko eo bo t co mo hq kq eq tq mq F ro so di od C X pd Bs ((px_go X (pd_a pd) Bs (ro (cn v245)) v265 v285 S).2) (tr_sl (px_go X (pd_a pd) Bs (ro (cn v245)) v265 v285 S).2.1 (di (cn v245)) f1 (px_go X (pd_a pd) Bs (ro (cn v245)) v265 v285 S).2.1.2.2.2.2) f2 f3 f4 of9 by9 sk sa9 sb9 sz eC fC R0 Q0 Mf) H := hP
        have hD : va_D (fun q : Nat => s.heap.size ≤ q) (lw_W cI cJ cB cZ h g ko eo bo t co mo hq kq eq tq mq F ro so di od C X pd Bs ((px_go X (pd_a pd) Bs (ro (cn v245)) v265 v285 S).2) (tr_sl (px_go X (pd_a pd) Bs (ro (cn v245)) v265 v285 S).2.1 (di (cn v245)) f1 (px_go X (pd_a pd) Bs (ro (cn v245)) v265 v285 S).2.1.2.2.2.2) f2 f3 f4 of9 by9 sk sa9 sb9 sz eC fC R0 Q0 Mf) := hD
        exact hJ F ro so di od C X pd Bs ((px_go X (pd_a pd) Bs (ro (cn v245)) v265 v285 S).2) (tr_sl (px_go X (pd_a pd) Bs (ro (cn v245)) v265 v285 S).2.1 (di (cn v245)) f1 (px_go X (pd_a pd) Bs (ro (cn v245)) v265 v285 S).2.1.2.2.2.2) f2 f3 f4 of9 by9 sk sa9 sb9 sz eC fC R0 Q0 Mf ⟨hG, lw_sx hG hSx (g3 _) v265 v285, heC, hfC, hp8⟩ _ _ _ hP hD hS (lv_sub hl [0, 1, 2, 3] rfl)
      · exact absurd (by rw [e338]; exact (gl_eq _ _).mpr (by rw [hr9, hrm]; exact (hv1 _ (g5 _) rfl).1)) c339
    · obtain ⟨hr9, rfl⟩ := (p286.2 ha).2.2 ho
      have hP : va_P D vwCl ([(h, .inr (5, [.ref g, .ref ko, .ref (hq 0), .ref (hq 1), .ref (hq 2), .ref (hq 3), .int (nI F)])), ((hq 0), .inl (cI, 8, .inl (fun z9 => nI (ro z9)))), ((hq 1), .inl (cI, 8, .inl (fun z9 => nI (so z9)))), ((hq 2), .inl (cI, 8, .inl (fun z9 => nI (di z9)))), ((hq 3), .inl (cI, 8, .inl (fun z9 => nI (od z9)))), (g, .inr (3, [.ref eo, .ref bo, .ref t, .ref co])), (eo, .inr (2, [.ref (eq 0), .ref (eq 1), .ref (eq 2), .ref (eq 3), .int (nI X.2.2.2.2)])), ((eq 0), .inl (cI, 80, .inl X.1)), ((eq 1), .inl (cI, 80, .inl X.2.1)), ((eq 2), .inl (cI, 80, .inl X.2.2.1)), ((eq 3), .inl (cI, 80, .inl X.2.2.2.1)), (bo, .inl (cB, 8, .inr (.inr (.inr (.inr (pd_a pd)))))), (t, .inr (4, [.ref (tq 0), .ref (tq 1), .ref (tq 2), .ref (tq 3), .ref (tq 4), .ref (tq 5), .ref (tq 6), .ref (tq 7), .int (nI (((px_go X (pd_a pd) Bs (ro (cn v245)) v265 v285 S).2.1).2.2.2.2))])), ((tq 0), .inl (cI, 64, .inl (fun z9 => nI ((((px_go X (pd_a pd) Bs (ro (cn v245)) v265 v285 S).2.1).1) z9)))), ((tq 1), .inl (cI, 64, .inl (fun z9 => nI ((((px_go X (pd_a pd) Bs (ro (cn v245)) v265 v285 S).2.1).2.1) z9)))), ((tq 2), .inl (cI, 64, .inl (fun z9 => nI ((((px_go X (pd_a pd) Bs (ro (cn v245)) v265 v285 S).2.1).2.2.1) z9)))), ((tq 3), .inl (cJ, 64, .inr (.inl (((px_go X (pd_a pd) Bs (ro (cn v245)) v265 v285 S).2.1).2.2.2.1)))), ((tq 4), .inl (cJ, 64, .inr (.inl (tr_sl (px_go X (pd_a pd) Bs (ro (cn v245)) v265 v285 S).2.1 (di (so (cn v245))) f1 (px_go X (pd_a pd) Bs (ro (cn v245)) v265 v285 S).2.1.2.2.2.2)))), ((tq 5), .inl (cJ, 64, .inr (.inl (tr_sl (px_go X (pd_a pd) Bs (ro (cn v245)) v265 v285 S).2.1 (di (cn v245)) f2 (px_go X (pd_a pd) Bs (ro (cn v245)) v265 v285 S).2.1.2.2.2.2)))), ((tq 6), .inl (cJ, 64, .inr (.inl (tr_mx (px_go X (pd_a pd) Bs (ro (cn v245)) v265 v285 S).2.1 (tr_sl (px_go X (pd_a pd) Bs (ro (cn v245)) v265 v285 S).2.1 (di (so (cn v245))) f1 (px_go X (pd_a pd) Bs (ro (cn v245)) v265 v285 S).2.1.2.2.2.2) (tr_sl (px_go X (pd_a pd) Bs (ro (cn v245)) v265 v285 S).2.1 (di (cn v245)) f2 (px_go X (pd_a pd) Bs (ro (cn v245)) v265 v285 S).2.1.2.2.2.2) f3 (px_go X (pd_a pd) Bs (ro (cn v245)) v265 v285 S).2.1.2.2.2.2)))), ((tq 7), .inl (cJ, 64, .inr (.inl f4))), (co, .inl (cI, 112, .inl (fun z9 => nI (((px_go X (pd_a pd) Bs (ro (cn v245)) v265 v285 S).2.2) z9))))] ++ ((tlp cI pd Bs) ++ [(ko, .inr (1, [.ref (kq 0), .ref (kq 1), .ref (kq 2), .ref (kq 3), .ref (kq 4)])), ((kq 0), .inl (cI, 80, .inl (fun z9 => nI (C.1 z9)))), ((kq 1), .inl (cI, 640, .inl (fun z9 => nI (C.2.1 z9)))), ((kq 2), .inl (cI, 64, .inl (fun z9 => nI (C.2.2.1 z9)))), ((kq 3), .inl (cI, 8, .inl (fun z9 => nI (C.2.2.2.1 z9)))), ((kq 4), .inl (cI, 8, .inl (fun z9 => nI (C.2.2.2.2 z9)))), (mo, .inr (6, [.ref (mq 0), .ref (mq 1), .ref (mq 2), .ref (mq 3), .int (nI X.2.2.2.2), .ref (mq 5), .ref (mq 6), .int (nI F), .ref (mq 8), .ref (mq 9), .ref (mq 10), .ref (mq 11), .ref (mq 12), .ref (mq 13), .ref (mq 14), .ref (mq 15), .ref (mq 16), .ref (mq 17), .ref (mq 18), .ref (mq 19), .ref (mq 20), .ref (mq 21), .ref (mq 22), .int (nI M.1)])), ((mq 8), .inl (cI, 96, .inl (fun z9 => nI (sk z9)))), ((mq 9), .inl (cI, 96, .inl sa9)), ((mq 10), .inl (cI, 96, .inl sb9)), ((mq 11), .inl (cI, 8, .inl (fun z9 => nI (sz z9)))), ((mq 0), .inl (cI, 80, .inl X.1)), ((mq 1), .inl (cI, 80, .inl X.2.1)), ((mq 2), .inl (cI, 80, .inl X.2.2.1)), ((mq 3), .inl (cI, 80, .inl X.2.2.2.1)), ((mq 17), .inl (cJ, 2560, .inr (.inl M.2.2.2.2.2.2.1))), ((mq 16), .inl (cJ, 448, .inr (.inl M.2.2.2.2.2.1))), ((mq 19), .inl (cI, 8, .inl (fun z9 => nI (M.2.1 z9)))), ((mq 20), .inl (cI, 8, .inl (fun z9 => nI (M.2.2.1 z9)))), ((mq 21), .inl (cI, 8, .inl M.2.2.2.1)), ((mq 18), .inl (cZ, 640, .inl (fun z9 => gb (M.2.2.2.2.2.2.2 z9)))), ((mq 22), .inl (cI, 192, .inl (fun z9 => nI (M.2.2.2.2.1 z9)))), ((mq 5), .inl (cI, 8, .inl of9)), ((mq 6), .inl (cI, 8, .inl by9)), ((mq 12), .inl (cI, 80, .inl (fun z9 => nI (eC z9)))), ((mq 13), .inl (cI, 8, .inl (fun z9 => nI (fC z9)))), ((mq 14), .inl (cZ, 80, .inl (fun z9 => gb (R0 z9)))), ((mq 15), .inl (cZ, 8, .inl (fun z9 => gb (Q0 z9))))])) H := hP
      have hD : va_D (fun q : Nat => s.heap.size ≤ q) ([(h, .inr (5, [.ref g, .ref ko, .ref (hq 0), .ref (hq 1), .ref (hq 2), .ref (hq 3), .int (nI F)])), ((hq 0), .inl (cI, 8, .inl (fun z9 => nI (ro z9)))), ((hq 1), .inl (cI, 8, .inl (fun z9 => nI (so z9)))), ((hq 2), .inl (cI, 8, .inl (fun z9 => nI (di z9)))), ((hq 3), .inl (cI, 8, .inl (fun z9 => nI (od z9)))), (g, .inr (3, [.ref eo, .ref bo, .ref t, .ref co])), (eo, .inr (2, [.ref (eq 0), .ref (eq 1), .ref (eq 2), .ref (eq 3), .int (nI X.2.2.2.2)])), ((eq 0), .inl (cI, 80, .inl X.1)), ((eq 1), .inl (cI, 80, .inl X.2.1)), ((eq 2), .inl (cI, 80, .inl X.2.2.1)), ((eq 3), .inl (cI, 80, .inl X.2.2.2.1)), (bo, .inl (cB, 8, .inr (.inr (.inr (.inr (pd_a pd)))))), (t, .inr (4, [.ref (tq 0), .ref (tq 1), .ref (tq 2), .ref (tq 3), .ref (tq 4), .ref (tq 5), .ref (tq 6), .ref (tq 7), .int (nI (((px_go X (pd_a pd) Bs (ro (cn v245)) v265 v285 S).2.1).2.2.2.2))])), ((tq 0), .inl (cI, 64, .inl (fun z9 => nI ((((px_go X (pd_a pd) Bs (ro (cn v245)) v265 v285 S).2.1).1) z9)))), ((tq 1), .inl (cI, 64, .inl (fun z9 => nI ((((px_go X (pd_a pd) Bs (ro (cn v245)) v265 v285 S).2.1).2.1) z9)))), ((tq 2), .inl (cI, 64, .inl (fun z9 => nI ((((px_go X (pd_a pd) Bs (ro (cn v245)) v265 v285 S).2.1).2.2.1) z9)))), ((tq 3), .inl (cJ, 64, .inr (.inl (((px_go X (pd_a pd) Bs (ro (cn v245)) v265 v285 S).2.1).2.2.2.1)))), ((tq 4), .inl (cJ, 64, .inr (.inl (tr_sl (px_go X (pd_a pd) Bs (ro (cn v245)) v265 v285 S).2.1 (di (so (cn v245))) f1 (px_go X (pd_a pd) Bs (ro (cn v245)) v265 v285 S).2.1.2.2.2.2)))), ((tq 5), .inl (cJ, 64, .inr (.inl (tr_sl (px_go X (pd_a pd) Bs (ro (cn v245)) v265 v285 S).2.1 (di (cn v245)) f2 (px_go X (pd_a pd) Bs (ro (cn v245)) v265 v285 S).2.1.2.2.2.2)))), ((tq 6), .inl (cJ, 64, .inr (.inl (tr_mx (px_go X (pd_a pd) Bs (ro (cn v245)) v265 v285 S).2.1 (tr_sl (px_go X (pd_a pd) Bs (ro (cn v245)) v265 v285 S).2.1 (di (so (cn v245))) f1 (px_go X (pd_a pd) Bs (ro (cn v245)) v265 v285 S).2.1.2.2.2.2) (tr_sl (px_go X (pd_a pd) Bs (ro (cn v245)) v265 v285 S).2.1 (di (cn v245)) f2 (px_go X (pd_a pd) Bs (ro (cn v245)) v265 v285 S).2.1.2.2.2.2) f3 (px_go X (pd_a pd) Bs (ro (cn v245)) v265 v285 S).2.1.2.2.2.2)))), ((tq 7), .inl (cJ, 64, .inr (.inl f4))), (co, .inl (cI, 112, .inl (fun z9 => nI (((px_go X (pd_a pd) Bs (ro (cn v245)) v265 v285 S).2.2) z9))))] ++ ((tlp cI pd Bs) ++ [(ko, .inr (1, [.ref (kq 0), .ref (kq 1), .ref (kq 2), .ref (kq 3), .ref (kq 4)])), ((kq 0), .inl (cI, 80, .inl (fun z9 => nI (C.1 z9)))), ((kq 1), .inl (cI, 640, .inl (fun z9 => nI (C.2.1 z9)))), ((kq 2), .inl (cI, 64, .inl (fun z9 => nI (C.2.2.1 z9)))), ((kq 3), .inl (cI, 8, .inl (fun z9 => nI (C.2.2.2.1 z9)))), ((kq 4), .inl (cI, 8, .inl (fun z9 => nI (C.2.2.2.2 z9)))), (mo, .inr (6, [.ref (mq 0), .ref (mq 1), .ref (mq 2), .ref (mq 3), .int (nI X.2.2.2.2), .ref (mq 5), .ref (mq 6), .int (nI F), .ref (mq 8), .ref (mq 9), .ref (mq 10), .ref (mq 11), .ref (mq 12), .ref (mq 13), .ref (mq 14), .ref (mq 15), .ref (mq 16), .ref (mq 17), .ref (mq 18), .ref (mq 19), .ref (mq 20), .ref (mq 21), .ref (mq 22), .int (nI M.1)])), ((mq 8), .inl (cI, 96, .inl (fun z9 => nI (sk z9)))), ((mq 9), .inl (cI, 96, .inl sa9)), ((mq 10), .inl (cI, 96, .inl sb9)), ((mq 11), .inl (cI, 8, .inl (fun z9 => nI (sz z9)))), ((mq 0), .inl (cI, 80, .inl X.1)), ((mq 1), .inl (cI, 80, .inl X.2.1)), ((mq 2), .inl (cI, 80, .inl X.2.2.1)), ((mq 3), .inl (cI, 80, .inl X.2.2.2.1)), ((mq 17), .inl (cJ, 2560, .inr (.inl M.2.2.2.2.2.2.1))), ((mq 16), .inl (cJ, 448, .inr (.inl M.2.2.2.2.2.1))), ((mq 19), .inl (cI, 8, .inl (fun z9 => nI (M.2.1 z9)))), ((mq 20), .inl (cI, 8, .inl (fun z9 => nI (M.2.2.1 z9)))), ((mq 21), .inl (cI, 8, .inl M.2.2.2.1)), ((mq 18), .inl (cZ, 640, .inl (fun z9 => gb (M.2.2.2.2.2.2.2 z9)))), ((mq 22), .inl (cI, 192, .inl (fun z9 => nI (M.2.2.2.2.1 z9)))), ((mq 5), .inl (cI, 8, .inl of9)), ((mq 6), .inl (cI, 8, .inl by9)), ((mq 12), .inl (cI, 80, .inl (fun z9 => nI (eC z9)))), ((mq 13), .inl (cI, 8, .inl (fun z9 => nI (fC z9)))), ((mq 14), .inl (cZ, 80, .inl (fun z9 => gb (R0 z9)))), ((mq 15), .inl (cZ, 8, .inl (fun z9 => gb (Q0 z9))))])) := hD
      refine lv_aload_n hx hb dL_law_289 rfl (lv_at hl 2 rfl) ?_
      refine lv_aload_n hx hb dL_law_290 rfl (lv_at hl 0 rfl) ?_
      refine lv_iload_n hx hb dL_law_291 rfl (lv_at hl 3 rfl) ?_
      refine lv_iconst (v := 1) hx hb dL_law_292 (by decide) ?_
      refine lv_iadd hx hb dL_law_293 ?_
      refine lv_topi (fun v293 e293 => ?_)
      have n293 : v293 = nI (i + 1) := by rw [e293]; exact gx_add (rfl : (nI i) = (nI i)) (rfl : (1 : Int32) = nI 1)
      subst n293
      have i294 : vp_in (nI (i + 1)) L := gx_in (rfl : (nI (i + 1)) = (nI (i + 1))) (by omega) (by omega)
      refine va_sld hx hb hXs hbl hbA hS i294 dL_law_294 ?_
      refine lv_topi (fun v294 e294 => ?_)
      have q294 : v245 = v294 := e245.trans e294.symm
      subst q294
      rw [hx8]
      refine lv_aload_n hx hb dL_law_295 rfl (lv_at hl 0 rfl) ?_
      refine lv_iload_n hx hb dL_law_296 rfl (lv_at hl 3 rfl) ?_
      refine lv_iconst (v := 2) hx hb dL_law_297 (by decide) ?_
      refine lv_iadd hx hb dL_law_298 ?_
      refine lv_topi (fun v298 e298 => ?_)
      have n298 : v298 = nI (i + 2) := by rw [e298]; exact gx_add (rfl : (nI i) = (nI i)) (rfl : (2 : Int32) = nI 2)
      subst n298
      have i299 : vp_in (nI (i + 2)) L := gx_in (rfl : (nI (i + 2)) = (nI (i + 2))) (by omega) (by omega)
      refine va_sld hx hb hXs hbl hbA hS i299 dL_law_299 ?_
      refine lv_topi (fun v299 e299 => ?_)
      have q299 : v250 = v299 := e250.trans e299.symm
      subst q299
      refine lv_i2l hx hb dL_law_300 rfl ?_
      refine lv_topl (fun v300 e300 => ?_)
      have q300 : v251 = v300 := e251.trans e300.symm
      subst q300
      refine lv_bipush (v := 32) hx hb dL_law_301 (by decide) ?_
      refine lv_lshl hx hb dL_law_303 rfl ?_
      refine lv_topl (fun v303 e303 => ?_)
      have q303 : v254 = v303 := e254.trans e303.symm
      subst q303
      refine lv_aload_n hx hb dL_law_304 rfl (lv_at hl 0 rfl) ?_
      refine lv_iload_n hx hb dL_law_305 rfl (lv_at hl 3 rfl) ?_
      refine lv_iconst (v := 3) hx hb dL_law_306 (by decide) ?_
      refine lv_iadd hx hb dL_law_307 ?_
      refine lv_topi (fun v307 e307 => ?_)
      have n307 : v307 = nI (i + 3) := by rw [e307]; exact gx_add (rfl : (nI i) = (nI i)) (rfl : (3 : Int32) = nI 3)
      subst n307
      have i308 : vp_in (nI (i + 3)) L := gx_in (rfl : (nI (i + 3)) = (nI (i + 3))) (by omega) (by omega)
      refine va_sld hx hb hXs hbl hbA hS i308 dL_law_308 ?_
      refine lv_topi (fun v308 e308 => ?_)
      have q308 : v259 = v308 := e259.trans e308.symm
      subst q308
      refine lv_i2l hx hb dL_law_309 rfl ?_
      refine lv_topl (fun v309 e309 => ?_)
      have q309 : v260 = v309 := e260.trans e309.symm
      subst q309
      refine lv_ldc2 (v := 4294967295) hx hb hown (ht _ m_699) dL_law_310 ?_
      refine lv_land hx hb dL_law_313 ?_
      refine lv_topl (fun v313 e313 => ?_)
      have q313 : v264 = v313 := e264.trans e313.symm
      subst q313
      refine lv_lor hx hb dL_law_314 ?_
      refine lv_topl (fun v314 e314 => ?_)
      have q314 : v265 = v314 := e265.trans e314.symm
      subst q314
      refine lv_aload_n hx hb dL_law_315 rfl (lv_at hl 0 rfl) ?_
      refine lv_iload_n hx hb dL_law_316 rfl (lv_at hl 3 rfl) ?_
      refine lv_iconst (v := 4) hx hb dL_law_317 (by decide) ?_
      refine lv_iadd hx hb dL_law_318 ?_
      refine lv_topi (fun v318 e318 => ?_)
      have n318 : v318 = nI (i + 4) := by rw [e318]; exact gx_add (rfl : (nI i) = (nI i)) (rfl : (4 : Int32) = nI 4)
      subst n318
      have i319 : vp_in (nI (i + 4)) L := gx_in (rfl : (nI (i + 4)) = (nI (i + 4))) (by omega) (by omega)
      refine va_sld hx hb hXs hbl hbA hS i319 dL_law_319 ?_
      refine lv_topi (fun v319 e319 => ?_)
      have q319 : v270 = v319 := e270.trans e319.symm
      subst q319
      refine lv_i2l hx hb dL_law_320 rfl ?_
      refine lv_topl (fun v320 e320 => ?_)
      have q320 : v271 = v320 := e271.trans e320.symm
      subst q320
      refine lv_bipush (v := 32) hx hb dL_law_321 (by decide) ?_
      refine lv_lshl hx hb dL_law_323 rfl ?_
      refine lv_topl (fun v323 e323 => ?_)
      have q323 : v274 = v323 := e274.trans e323.symm
      subst q323
      refine lv_aload_n hx hb dL_law_324 rfl (lv_at hl 0 rfl) ?_
      refine lv_iload_n hx hb dL_law_325 rfl (lv_at hl 3 rfl) ?_
      refine lv_iconst (v := 5) hx hb dL_law_326 (by decide) ?_
      refine lv_iadd hx hb dL_law_327 ?_
      refine lv_topi (fun v327 e327 => ?_)
      have n327 : v327 = nI (i + 5) := by rw [e327]; exact gx_add (rfl : (nI i) = (nI i)) (rfl : (5 : Int32) = nI 5)
      subst n327
      have i328 : vp_in (nI (i + 5)) L := gx_in (rfl : (nI (i + 5)) = (nI (i + 5))) (by omega) (by omega)
      refine va_sld hx hb hXs hbl hbA hS i328 dL_law_328 ?_
      refine lv_topi (fun v328 e328 => ?_)
      have q328 : v279 = v328 := e279.trans e328.symm
      subst q328
      refine lv_i2l hx hb dL_law_329 rfl ?_
      refine lv_topl (fun v329 e329 => ?_)
      have q329 : v280 = v329 := e280.trans e329.symm
      subst q329
      refine lv_ldc2 (v := 4294967295) hx hb hown (ht _ m_699) dL_law_330 ?_
      refine lv_land hx hb dL_law_333 ?_
      refine lv_topl (fun v333 e333 => ?_)
      have q333 : v284 = v333 := e284.trans e333.symm
      subst q333
      refine lv_lor hx hb dL_law_334 ?_
      refine lv_topl (fun v334 e334 => ?_)
      have q334 : v285 = v334 := e285.trans e334.symm
      subst q334
      obtain ⟨w1, w2, w3, w4, w5⟩ := hfd.2 (by omega)
      obtain ⟨y1, y2, y3, y4, y5⟩ := (g9 (so (cn v245)) (by omega)).2 (by omega)
      have w6 : ro (cn v245) = so (so (cn v245)) := by rw [w5, y5]; exact ((g9 (so (so (cn v245))) (by omega)).1 (by omega)).2
      obtain ⟨u9, Mf, hG0, hN0, hv0, hv1⟩ := run_same (gi_MH hG lw_ba) (g3 (cn v245)) (gi_root hG _ _ (Nat.le_refl _) hf8) v265 v285 (p1 := nI (di (so (cn v245)))) (p2 := nI (di (cn v245))) (Or.inr ⟨_, g5 (so (cn v245)), rfl⟩) (Or.inr ⟨_, g5 (cn v245), rfl⟩) M.2.1 M.2.2.1 M.2.2.2.1 M.2.2.2.2.1 M.2.2.2.2.2.1 M.2.2.2.2.2.2.1 M.2.2.2.2.2.2.2 S f1 f2 f3 f4
      rw [w6] at hG0
      obtain ⟨hP, hD⟩ := pm_13 hP hD
      refine gc_ml (lf := []) (W0 := [(mo, .inr (6, [.ref (mq 0), .ref (mq 1), .ref (mq 2), .ref (mq 3), .int (nI X.2.2.2.2), .ref (mq 5), .ref (mq 6), .int (nI F), .ref (mq 8), .ref (mq 9), .ref (mq 10), .ref (mq 11), .ref (mq 12), .ref (mq 13), .ref (mq 14), .ref (mq 15), .ref (mq 16), .ref (mq 17), .ref (mq 18), .ref (mq 19), .ref (mq 20), .ref (mq 21), .ref (mq 22), .int (nI M.1)])), ((mq 8), .inl (cI, 96, .inl (fun z9 => nI (sk z9)))), ((mq 9), .inl (cI, 96, .inl sa9)), ((mq 10), .inl (cI, 96, .inl sb9)), ((mq 11), .inl (cI, 8, .inl (fun z9 => nI (sz z9)))), ((mq 0), .inl (cI, 80, .inl X.1)), ((mq 1), .inl (cI, 80, .inl X.2.1)), ((mq 2), .inl (cI, 80, .inl X.2.2.1)), ((mq 3), .inl (cI, 80, .inl X.2.2.2.1)), ((mq 17), .inl (cJ, 2560, .inr (.inl M.2.2.2.2.2.2.1))), ((mq 16), .inl (cJ, 448, .inr (.inl M.2.2.2.2.2.1))), ((mq 19), .inl (cI, 8, .inl (fun z9 => nI (M.2.1 z9)))), ((mq 20), .inl (cI, 8, .inl (fun z9 => nI (M.2.2.1 z9)))), ((mq 21), .inl (cI, 8, .inl M.2.2.2.1)), ((mq 18), .inl (cZ, 640, .inl (fun z9 => gb (M.2.2.2.2.2.2.2 z9)))), ((mq 22), .inl (cI, 192, .inl (fun z9 => nI (M.2.2.2.2.1 z9)))), ((mq 5), .inl (cI, 8, .inl of9)), ((mq 6), .inl (cI, 8, .inl by9))]) (rt := ([(h, .inr (5, [.ref g, .ref ko, .ref (hq 0), .ref (hq 1), .ref (hq 2), .ref (hq 3), .int (nI F)])), ((hq 0), .inl (cI, 8, .inl (fun z9 => nI (ro z9)))), ((hq 1), .inl (cI, 8, .inl (fun z9 => nI (so z9)))), ((hq 2), .inl (cI, 8, .inl (fun z9 => nI (di z9)))), ((hq 3), .inl (cI, 8, .inl (fun z9 => nI (od z9)))), (g, .inr (3, [.ref eo, .ref bo, .ref t, .ref co])), (eo, .inr (2, [.ref (eq 0), .ref (eq 1), .ref (eq 2), .ref (eq 3), .int (nI X.2.2.2.2)])), ((eq 0), .inl (cI, 80, .inl X.1)), ((eq 1), .inl (cI, 80, .inl X.2.1)), ((eq 2), .inl (cI, 80, .inl X.2.2.1)), ((eq 3), .inl (cI, 80, .inl X.2.2.2.1)), (bo, .inl (cB, 8, .inr (.inr (.inr (.inr (pd_a pd)))))), (t, .inr (4, [.ref (tq 0), .ref (tq 1), .ref (tq 2), .ref (tq 3), .ref (tq 4), .ref (tq 5), .ref (tq 6), .ref (tq 7), .int (nI (((px_go X (pd_a pd) Bs (ro (cn v245)) v265 v285 S).2.1).2.2.2.2))])), ((tq 0), .inl (cI, 64, .inl (fun z9 => nI ((((px_go X (pd_a pd) Bs (ro (cn v245)) v265 v285 S).2.1).1) z9)))), ((tq 1), .inl (cI, 64, .inl (fun z9 => nI ((((px_go X (pd_a pd) Bs (ro (cn v245)) v265 v285 S).2.1).2.1) z9)))), ((tq 2), .inl (cI, 64, .inl (fun z9 => nI ((((px_go X (pd_a pd) Bs (ro (cn v245)) v265 v285 S).2.1).2.2.1) z9)))), ((tq 3), .inl (cJ, 64, .inr (.inl (((px_go X (pd_a pd) Bs (ro (cn v245)) v265 v285 S).2.1).2.2.2.1)))), ((tq 4), .inl (cJ, 64, .inr (.inl (tr_sl (px_go X (pd_a pd) Bs (ro (cn v245)) v265 v285 S).2.1 (di (so (cn v245))) f1 (px_go X (pd_a pd) Bs (ro (cn v245)) v265 v285 S).2.1.2.2.2.2)))), ((tq 5), .inl (cJ, 64, .inr (.inl (tr_sl (px_go X (pd_a pd) Bs (ro (cn v245)) v265 v285 S).2.1 (di (cn v245)) f2 (px_go X (pd_a pd) Bs (ro (cn v245)) v265 v285 S).2.1.2.2.2.2)))), ((tq 6), .inl (cJ, 64, .inr (.inl (tr_mx (px_go X (pd_a pd) Bs (ro (cn v245)) v265 v285 S).2.1 (tr_sl (px_go X (pd_a pd) Bs (ro (cn v245)) v265 v285 S).2.1 (di (so (cn v245))) f1 (px_go X (pd_a pd) Bs (ro (cn v245)) v265 v285 S).2.1.2.2.2.2) (tr_sl (px_go X (pd_a pd) Bs (ro (cn v245)) v265 v285 S).2.1 (di (cn v245)) f2 (px_go X (pd_a pd) Bs (ro (cn v245)) v265 v285 S).2.1.2.2.2.2) f3 (px_go X (pd_a pd) Bs (ro (cn v245)) v265 v285 S).2.1.2.2.2.2)))), ((tq 7), .inl (cJ, 64, .inr (.inl f4))), (co, .inl (cI, 112, .inl (fun z9 => nI (((px_go X (pd_a pd) Bs (ro (cn v245)) v265 v285 S).2.2) z9))))] ++ ((tlp cI pd Bs) ++ [(ko, .inr (1, [.ref (kq 0), .ref (kq 1), .ref (kq 2), .ref (kq 3), .ref (kq 4)])), ((kq 0), .inl (cI, 80, .inl (fun z9 => nI (C.1 z9)))), ((kq 1), .inl (cI, 640, .inl (fun z9 => nI (C.2.1 z9)))), ((kq 2), .inl (cI, 64, .inl (fun z9 => nI (C.2.2.1 z9)))), ((kq 3), .inl (cI, 8, .inl (fun z9 => nI (C.2.2.2.1 z9)))), ((kq 4), .inl (cI, 8, .inl (fun z9 => nI (C.2.2.2.2 z9)))), ((mq 12), .inl (cI, 80, .inl (fun z9 => nI (eC z9)))), ((mq 13), .inl (cI, 8, .inl (fun z9 => nI (fC z9)))), ((mq 14), .inl (cZ, 80, .inl (fun z9 => gb (R0 z9)))), ((mq 15), .inl (cZ, 8, .inl (fun z9 => gb (Q0 z9))))]))) (va_runV (As := [.int (nI (cn v245)), .long v265, .long v285]) (rest := [.long r286]) ⟨hx, hb, hml, hown, ht⟩ (c_M_run2 l D cI cJ cB cZ mo mq F M.1 X sk sa9 sb9 sz (fun f => @ite _ (f < 8 ∧ ob F od f) (Classical.propDecidable _) (Bs f).2.2.2.2.2.2.2 0) M.2.1 M.2.2.1 M.2.2.2.1 M.2.2.2.2.1 M.2.2.2.2.2.1 M.2.2.2.2.2.2.1 M.2.2.2.2.2.2.2 Mf u9 of9 by9 od (cn v245) v265 v285 (so (cn v245)) (so (so (cn v245))) (di (so (cn v245))) (di (cn v245)) g1 g2 (gi_hof hG) hf8 ho w2 (g4 _) y2 (g4 _) y3 (g5 _) w3 (g5 _) hN0 hG0 hX hsz hsk hsb hs4 hs0 hs1 (gi_hlk hG) H.size) (cwV 3 ht (gw_V m_612 m_613 m_614 m_6 m_615) rfl rfl rfl (by decide +kernel) ⟨Nat.le_of_ble_eq_true rfl, Nat.le_of_ble_eq_true rfl⟩) (gp_V (ci := 6) (q0 := 0) hK hN (gk_midP (lf := []) hP) (gk_midD (lf := []) hD) rfl rfl) rfl rfl hl.1 rfl (lv_room (Nat.le_of_ble_eq_true rfl)) dL_law_335 ⟨by show ((50 + i) + 0) + 0 ≤ 600000; omega, by show ((6510 + 12 * i) + 0) + 0 ≤ 7302250; omega⟩) hP hD hS hA (fun r335 w335 H locs p335 hP hD hS => ?_)
      obtain ⟨hrm, rfl⟩ := p335
      have hP : va_P D vwCl ([(mo, .inr (6, [.ref (mq 0), .ref (mq 1), .ref (mq 2), .ref (mq 3), .int (nI X.2.2.2.2), .ref (mq 5), .ref (mq 6), .int (nI F), .ref (mq 8), .ref (mq 9), .ref (mq 10), .ref (mq 11), .ref (mq 12), .ref (mq 13), .ref (mq 14), .ref (mq 15), .ref (mq 16), .ref (mq 17), .ref (mq 18), .ref (mq 19), .ref (mq 20), .ref (mq 21), .ref (mq 22), .int (nI Mf.1)])), ((mq 8), .inl (cI, 96, .inl (fun z9 => nI (sk z9)))), ((mq 9), .inl (cI, 96, .inl sa9)), ((mq 10), .inl (cI, 96, .inl sb9)), ((mq 11), .inl (cI, 8, .inl (fun z9 => nI (sz z9)))), ((mq 0), .inl (cI, 80, .inl X.1)), ((mq 1), .inl (cI, 80, .inl X.2.1)), ((mq 2), .inl (cI, 80, .inl X.2.2.1)), ((mq 3), .inl (cI, 80, .inl X.2.2.2.1)), ((mq 17), .inl (cJ, 2560, .inr (.inl Mf.2.2.2.2.2.2.1))), ((mq 16), .inl (cJ, 448, .inr (.inl Mf.2.2.2.2.2.1))), ((mq 19), .inl (cI, 8, .inl (fun z9 => nI (Mf.2.1 z9)))), ((mq 20), .inl (cI, 8, .inl (fun z9 => nI (Mf.2.2.1 z9)))), ((mq 21), .inl (cI, 8, .inl Mf.2.2.2.1)), ((mq 18), .inl (cZ, 640, .inl (fun z9 => gb (Mf.2.2.2.2.2.2.2 z9)))), ((mq 22), .inl (cI, 192, .inl (fun z9 => nI (Mf.2.2.2.2.1 z9)))), ((mq 5), .inl (cI, 8, .inl of9)), ((mq 6), .inl (cI, 8, .inl by9)), (h, .inr (5, [.ref g, .ref ko, .ref (hq 0), .ref (hq 1), .ref (hq 2), .ref (hq 3), .int (nI F)])), ((hq 0), .inl (cI, 8, .inl (fun z9 => nI (ro z9)))), ((hq 1), .inl (cI, 8, .inl (fun z9 => nI (so z9)))), ((hq 2), .inl (cI, 8, .inl (fun z9 => nI (di z9)))), ((hq 3), .inl (cI, 8, .inl (fun z9 => nI (od z9)))), (g, .inr (3, [.ref eo, .ref bo, .ref t, .ref co])), (eo, .inr (2, [.ref (eq 0), .ref (eq 1), .ref (eq 2), .ref (eq 3), .int (nI X.2.2.2.2)])), ((eq 0), .inl (cI, 80, .inl X.1)), ((eq 1), .inl (cI, 80, .inl X.2.1)), ((eq 2), .inl (cI, 80, .inl X.2.2.1)), ((eq 3), .inl (cI, 80, .inl X.2.2.2.1)), (bo, .inl (cB, 8, .inr (.inr (.inr (.inr (pd_a pd)))))), (t, .inr (4, [.ref (tq 0), .ref (tq 1), .ref (tq 2), .ref (tq 3), .ref (tq 4), .ref (tq 5), .ref (tq 6), .ref (tq 7), .int (nI (((px_go X (pd_a pd) Bs (ro (cn v245)) v265 v285 S).2.1).2.2.2.2))])), ((tq 0), .inl (cI, 64, .inl (fun z9 => nI ((((px_go X (pd_a pd) Bs (ro (cn v245)) v265 v285 S).2.1).1) z9)))), ((tq 1), .inl (cI, 64, .inl (fun z9 => nI ((((px_go X (pd_a pd) Bs (ro (cn v245)) v265 v285 S).2.1).2.1) z9)))), ((tq 2), .inl (cI, 64, .inl (fun z9 => nI ((((px_go X (pd_a pd) Bs (ro (cn v245)) v265 v285 S).2.1).2.2.1) z9)))), ((tq 3), .inl (cJ, 64, .inr (.inl (((px_go X (pd_a pd) Bs (ro (cn v245)) v265 v285 S).2.1).2.2.2.1)))), ((tq 4), .inl (cJ, 64, .inr (.inl (tr_sl (px_go X (pd_a pd) Bs (ro (cn v245)) v265 v285 S).2.1 (di (so (cn v245))) f1 (px_go X (pd_a pd) Bs (ro (cn v245)) v265 v285 S).2.1.2.2.2.2)))), ((tq 5), .inl (cJ, 64, .inr (.inl (tr_sl (px_go X (pd_a pd) Bs (ro (cn v245)) v265 v285 S).2.1 (di (cn v245)) f2 (px_go X (pd_a pd) Bs (ro (cn v245)) v265 v285 S).2.1.2.2.2.2)))), ((tq 6), .inl (cJ, 64, .inr (.inl (tr_mx (px_go X (pd_a pd) Bs (ro (cn v245)) v265 v285 S).2.1 (tr_sl (px_go X (pd_a pd) Bs (ro (cn v245)) v265 v285 S).2.1 (di (so (cn v245))) f1 (px_go X (pd_a pd) Bs (ro (cn v245)) v265 v285 S).2.1.2.2.2.2) (tr_sl (px_go X (pd_a pd) Bs (ro (cn v245)) v265 v285 S).2.1 (di (cn v245)) f2 (px_go X (pd_a pd) Bs (ro (cn v245)) v265 v285 S).2.1.2.2.2.2) f3 (px_go X (pd_a pd) Bs (ro (cn v245)) v265 v285 S).2.1.2.2.2.2)))), ((tq 7), .inl (cJ, 64, .inr (.inl f4))), (co, .inl (cI, 112, .inl (fun z9 => nI (((px_go X (pd_a pd) Bs (ro (cn v245)) v265 v285 S).2.2) z9))))] ++ ((tlp cI pd Bs) ++ [(ko, .inr (1, [.ref (kq 0), .ref (kq 1), .ref (kq 2), .ref (kq 3), .ref (kq 4)])), ((kq 0), .inl (cI, 80, .inl (fun z9 => nI (C.1 z9)))), ((kq 1), .inl (cI, 640, .inl (fun z9 => nI (C.2.1 z9)))), ((kq 2), .inl (cI, 64, .inl (fun z9 => nI (C.2.2.1 z9)))), ((kq 3), .inl (cI, 8, .inl (fun z9 => nI (C.2.2.2.1 z9)))), ((kq 4), .inl (cI, 8, .inl (fun z9 => nI (C.2.2.2.2 z9)))), ((mq 12), .inl (cI, 80, .inl (fun z9 => nI (eC z9)))), ((mq 13), .inl (cI, 8, .inl (fun z9 => nI (fC z9)))), ((mq 14), .inl (cZ, 80, .inl (fun z9 => gb (R0 z9)))), ((mq 15), .inl (cZ, 8, .inl (fun z9 => gb (Q0 z9))))])) H := hP
      have hD : va_D (fun q : Nat => s.heap.size ≤ q) ([(mo, .inr (6, [.ref (mq 0), .ref (mq 1), .ref (mq 2), .ref (mq 3), .int (nI X.2.2.2.2), .ref (mq 5), .ref (mq 6), .int (nI F), .ref (mq 8), .ref (mq 9), .ref (mq 10), .ref (mq 11), .ref (mq 12), .ref (mq 13), .ref (mq 14), .ref (mq 15), .ref (mq 16), .ref (mq 17), .ref (mq 18), .ref (mq 19), .ref (mq 20), .ref (mq 21), .ref (mq 22), .int (nI Mf.1)])), ((mq 8), .inl (cI, 96, .inl (fun z9 => nI (sk z9)))), ((mq 9), .inl (cI, 96, .inl sa9)), ((mq 10), .inl (cI, 96, .inl sb9)), ((mq 11), .inl (cI, 8, .inl (fun z9 => nI (sz z9)))), ((mq 0), .inl (cI, 80, .inl X.1)), ((mq 1), .inl (cI, 80, .inl X.2.1)), ((mq 2), .inl (cI, 80, .inl X.2.2.1)), ((mq 3), .inl (cI, 80, .inl X.2.2.2.1)), ((mq 17), .inl (cJ, 2560, .inr (.inl Mf.2.2.2.2.2.2.1))), ((mq 16), .inl (cJ, 448, .inr (.inl Mf.2.2.2.2.2.1))), ((mq 19), .inl (cI, 8, .inl (fun z9 => nI (Mf.2.1 z9)))), ((mq 20), .inl (cI, 8, .inl (fun z9 => nI (Mf.2.2.1 z9)))), ((mq 21), .inl (cI, 8, .inl Mf.2.2.2.1)), ((mq 18), .inl (cZ, 640, .inl (fun z9 => gb (Mf.2.2.2.2.2.2.2 z9)))), ((mq 22), .inl (cI, 192, .inl (fun z9 => nI (Mf.2.2.2.2.1 z9)))), ((mq 5), .inl (cI, 8, .inl of9)), ((mq 6), .inl (cI, 8, .inl by9)), (h, .inr (5, [.ref g, .ref ko, .ref (hq 0), .ref (hq 1), .ref (hq 2), .ref (hq 3), .int (nI F)])), ((hq 0), .inl (cI, 8, .inl (fun z9 => nI (ro z9)))), ((hq 1), .inl (cI, 8, .inl (fun z9 => nI (so z9)))), ((hq 2), .inl (cI, 8, .inl (fun z9 => nI (di z9)))), ((hq 3), .inl (cI, 8, .inl (fun z9 => nI (od z9)))), (g, .inr (3, [.ref eo, .ref bo, .ref t, .ref co])), (eo, .inr (2, [.ref (eq 0), .ref (eq 1), .ref (eq 2), .ref (eq 3), .int (nI X.2.2.2.2)])), ((eq 0), .inl (cI, 80, .inl X.1)), ((eq 1), .inl (cI, 80, .inl X.2.1)), ((eq 2), .inl (cI, 80, .inl X.2.2.1)), ((eq 3), .inl (cI, 80, .inl X.2.2.2.1)), (bo, .inl (cB, 8, .inr (.inr (.inr (.inr (pd_a pd)))))), (t, .inr (4, [.ref (tq 0), .ref (tq 1), .ref (tq 2), .ref (tq 3), .ref (tq 4), .ref (tq 5), .ref (tq 6), .ref (tq 7), .int (nI (((px_go X (pd_a pd) Bs (ro (cn v245)) v265 v285 S).2.1).2.2.2.2))])), ((tq 0), .inl (cI, 64, .inl (fun z9 => nI ((((px_go X (pd_a pd) Bs (ro (cn v245)) v265 v285 S).2.1).1) z9)))), ((tq 1), .inl (cI, 64, .inl (fun z9 => nI ((((px_go X (pd_a pd) Bs (ro (cn v245)) v265 v285 S).2.1).2.1) z9)))), ((tq 2), .inl (cI, 64, .inl (fun z9 => nI ((((px_go X (pd_a pd) Bs (ro (cn v245)) v265 v285 S).2.1).2.2.1) z9)))), ((tq 3), .inl (cJ, 64, .inr (.inl (((px_go X (pd_a pd) Bs (ro (cn v245)) v265 v285 S).2.1).2.2.2.1)))), ((tq 4), .inl (cJ, 64, .inr (.inl (tr_sl (px_go X (pd_a pd) Bs (ro (cn v245)) v265 v285 S).2.1 (di (so (cn v245))) f1 (px_go X (pd_a pd) Bs (ro (cn v245)) v265 v285 S).2.1.2.2.2.2)))), ((tq 5), .inl (cJ, 64, .inr (.inl (tr_sl (px_go X (pd_a pd) Bs (ro (cn v245)) v265 v285 S).2.1 (di (cn v245)) f2 (px_go X (pd_a pd) Bs (ro (cn v245)) v265 v285 S).2.1.2.2.2.2)))), ((tq 6), .inl (cJ, 64, .inr (.inl (tr_mx (px_go X (pd_a pd) Bs (ro (cn v245)) v265 v285 S).2.1 (tr_sl (px_go X (pd_a pd) Bs (ro (cn v245)) v265 v285 S).2.1 (di (so (cn v245))) f1 (px_go X (pd_a pd) Bs (ro (cn v245)) v265 v285 S).2.1.2.2.2.2) (tr_sl (px_go X (pd_a pd) Bs (ro (cn v245)) v265 v285 S).2.1 (di (cn v245)) f2 (px_go X (pd_a pd) Bs (ro (cn v245)) v265 v285 S).2.1.2.2.2.2) f3 (px_go X (pd_a pd) Bs (ro (cn v245)) v265 v285 S).2.1.2.2.2.2)))), ((tq 7), .inl (cJ, 64, .inr (.inl f4))), (co, .inl (cI, 112, .inl (fun z9 => nI (((px_go X (pd_a pd) Bs (ro (cn v245)) v265 v285 S).2.2) z9))))] ++ ((tlp cI pd Bs) ++ [(ko, .inr (1, [.ref (kq 0), .ref (kq 1), .ref (kq 2), .ref (kq 3), .ref (kq 4)])), ((kq 0), .inl (cI, 80, .inl (fun z9 => nI (C.1 z9)))), ((kq 1), .inl (cI, 640, .inl (fun z9 => nI (C.2.1 z9)))), ((kq 2), .inl (cI, 64, .inl (fun z9 => nI (C.2.2.1 z9)))), ((kq 3), .inl (cI, 8, .inl (fun z9 => nI (C.2.2.2.1 z9)))), ((kq 4), .inl (cI, 8, .inl (fun z9 => nI (C.2.2.2.2 z9)))), ((mq 12), .inl (cI, 80, .inl (fun z9 => nI (eC z9)))), ((mq 13), .inl (cI, 8, .inl (fun z9 => nI (fC z9)))), ((mq 14), .inl (cZ, 80, .inl (fun z9 => gb (R0 z9)))), ((mq 15), .inl (cZ, 8, .inl (fun z9 => gb (Q0 z9))))])) := hD
      refine W.lcmp hx hb dL_law_338 ?_
      refine lv_topi (fun v338 e338 => ?_)
      refine lv_if_eq (tgt := 562) hx hb dL_law_339 (by decide) (fun c339 => ?_) (fun c339 => ?_)
      · refine W.widen (k := 50 + i + 7) (n := 6510 + 12 * i + 81) (show (((50 + i) + 0) + 0) ≤ 50 + i + 7 by omega) (show (((6510 + 12 * i) + 0) + 0) ≤ 6510 + 12 * i + 81 by omega) ?_
        obtain ⟨hP, hD⟩ := pm_14 hP hD
        have hP : va_P D vwCl (lw_W cI cJ cB cZ h g ko eo bo t co mo hq kq eq tq mq F ro so di od C X pd Bs ((px_go X (pd_a pd) Bs (ro (cn v245)) v265 v285 S).2) (tr_sl (px_go X (pd_a pd) Bs (ro (cn v245)) v265 v285 S).2.1 (di (so (cn v245))) f1 (px_go X (pd_a pd) Bs (ro (cn v245)) v265 v285 S).2.1.2.2.2.2) (tr_sl (px_go X (pd_a pd) Bs (ro (cn v245)) v265 v285 S).2.1 (di (cn v245)) f2 (px_go X (pd_a pd) Bs (ro (cn v245)) v265 v285 S).2.1.2.2.2.2) (tr_mx (px_go X (pd_a pd) Bs (ro (cn v245)) v265 v285 S).2.1 (tr_sl (px_go X (pd_a pd) Bs (ro (cn v245)) v265 v285 S).2.1 (di (so (cn v245))) f1 (px_go X (pd_a pd) Bs (ro (cn v245)) v265 v285 S).2.1.2.2.2.2) (tr_sl (px_go X (pd_a pd) Bs (ro (cn v245)) v265 v285 S).2.1 (di (cn v245)) f2 (px_go X (pd_a pd) Bs (ro (cn v245)) v265 v285 S).2.1.2.2.2.2) f3 (px_go X (pd_a pd) Bs (ro (cn v245)) v265 v285 S).2.1.2.2.2.2) f4 of9 by9 sk sa9 sb9 sz eC fC R0 Q0 Mf) H := hP
        have hD : va_D (fun q : Nat => s.heap.size ≤ q) (lw_W cI cJ cB cZ h g ko eo bo t co mo hq kq eq tq mq F ro so di od C X pd Bs ((px_go X (pd_a pd) Bs (ro (cn v245)) v265 v285 S).2) (tr_sl (px_go X (pd_a pd) Bs (ro (cn v245)) v265 v285 S).2.1 (di (so (cn v245))) f1 (px_go X (pd_a pd) Bs (ro (cn v245)) v265 v285 S).2.1.2.2.2.2) (tr_sl (px_go X (pd_a pd) Bs (ro (cn v245)) v265 v285 S).2.1 (di (cn v245)) f2 (px_go X (pd_a pd) Bs (ro (cn v245)) v265 v285 S).2.1.2.2.2.2) (tr_mx (px_go X (pd_a pd) Bs (ro (cn v245)) v265 v285 S).2.1 (tr_sl (px_go X (pd_a pd) Bs (ro (cn v245)) v265 v285 S).2.1 (di (so (cn v245))) f1 (px_go X (pd_a pd) Bs (ro (cn v245)) v265 v285 S).2.1.2.2.2.2) (tr_sl (px_go X (pd_a pd) Bs (ro (cn v245)) v265 v285 S).2.1 (di (cn v245)) f2 (px_go X (pd_a pd) Bs (ro (cn v245)) v265 v285 S).2.1.2.2.2.2) f3 (px_go X (pd_a pd) Bs (ro (cn v245)) v265 v285 S).2.1.2.2.2.2) f4 of9 by9 sk sa9 sb9 sz eC fC R0 Q0 Mf) := hD
        exact hJ F ro so di od C X pd Bs ((px_go X (pd_a pd) Bs (ro (cn v245)) v265 v285 S).2) (tr_sl (px_go X (pd_a pd) Bs (ro (cn v245)) v265 v285 S).2.1 (di (so (cn v245))) f1 (px_go X (pd_a pd) Bs (ro (cn v245)) v265 v285 S).2.1.2.2.2.2) (tr_sl (px_go X (pd_a pd) Bs (ro (cn v245)) v265 v285 S).2.1 (di (cn v245)) f2 (px_go X (pd_a pd) Bs (ro (cn v245)) v265 v285 S).2.1.2.2.2.2) (tr_mx (px_go X (pd_a pd) Bs (ro (cn v245)) v265 v285 S).2.1 (tr_sl (px_go X (pd_a pd) Bs (ro (cn v245)) v265 v285 S).2.1 (di (so (cn v245))) f1 (px_go X (pd_a pd) Bs (ro (cn v245)) v265 v285 S).2.1.2.2.2.2) (tr_sl (px_go X (pd_a pd) Bs (ro (cn v245)) v265 v285 S).2.1 (di (cn v245)) f2 (px_go X (pd_a pd) Bs (ro (cn v245)) v265 v285 S).2.1.2.2.2.2) f3 (px_go X (pd_a pd) Bs (ro (cn v245)) v265 v285 S).2.1.2.2.2.2) f4 of9 by9 sk sa9 sb9 sz eC fC R0 Q0 Mf ⟨hG, lw_sx hG hSx (g3 _) v265 v285, heC, hfC, hp8⟩ _ _ _ hP hD hS (lv_sub hl [0, 1, 2, 3] rfl)
      · exact absurd (by rw [e338]; exact (gl_eq _ _).mpr (by rw [hr9, hrm]; exact ((hv1 _ (g5 _) rfl).2.2 _ (g5 _) rfl))) c339
  · obtain ⟨hr9, rfl⟩ := p286.1 ha
    have hP : va_P D vwCl ([(h, .inr (5, [.ref g, .ref ko, .ref (hq 0), .ref (hq 1), .ref (hq 2), .ref (hq 3), .int (nI F)])), ((hq 0), .inl (cI, 8, .inl (fun z9 => nI (ro z9)))), ((hq 1), .inl (cI, 8, .inl (fun z9 => nI (so z9)))), ((hq 2), .inl (cI, 8, .inl (fun z9 => nI (di z9)))), ((hq 3), .inl (cI, 8, .inl (fun z9 => nI (od z9)))), (g, .inr (3, [.ref eo, .ref bo, .ref t, .ref co])), (eo, .inr (2, [.ref (eq 0), .ref (eq 1), .ref (eq 2), .ref (eq 3), .int (nI X.2.2.2.2)])), ((eq 0), .inl (cI, 80, .inl X.1)), ((eq 1), .inl (cI, 80, .inl X.2.1)), ((eq 2), .inl (cI, 80, .inl X.2.2.1)), ((eq 3), .inl (cI, 80, .inl X.2.2.2.1)), (bo, .inl (cB, 8, .inr (.inr (.inr (.inr (pd_a pd)))))), (t, .inr (4, [.ref (tq 0), .ref (tq 1), .ref (tq 2), .ref (tq 3), .ref (tq 4), .ref (tq 5), .ref (tq 6), .ref (tq 7), .int (nI S.1.2.2.2.2)])), ((tq 0), .inl (cI, 64, .inl (fun z9 => nI (S.1.1 z9)))), ((tq 1), .inl (cI, 64, .inl (fun z9 => nI (S.1.2.1 z9)))), ((tq 2), .inl (cI, 64, .inl (fun z9 => nI (S.1.2.2.1 z9)))), ((tq 3), .inl (cJ, 64, .inr (.inl S.1.2.2.2.1))), ((tq 4), .inl (cJ, 64, .inr (.inl f1))), ((tq 5), .inl (cJ, 64, .inr (.inl f2))), ((tq 6), .inl (cJ, 64, .inr (.inl f3))), ((tq 7), .inl (cJ, 64, .inr (.inl f4))), (co, .inl (cI, 112, .inl (fun z9 => nI (S.2 z9))))] ++ ((tlp cI pd Bs) ++ [(ko, .inr (1, [.ref (kq 0), .ref (kq 1), .ref (kq 2), .ref (kq 3), .ref (kq 4)])), ((kq 0), .inl (cI, 80, .inl (fun z9 => nI (C.1 z9)))), ((kq 1), .inl (cI, 640, .inl (fun z9 => nI (C.2.1 z9)))), ((kq 2), .inl (cI, 64, .inl (fun z9 => nI (C.2.2.1 z9)))), ((kq 3), .inl (cI, 8, .inl (fun z9 => nI (C.2.2.2.1 z9)))), ((kq 4), .inl (cI, 8, .inl (fun z9 => nI (C.2.2.2.2 z9)))), (mo, .inr (6, [.ref (mq 0), .ref (mq 1), .ref (mq 2), .ref (mq 3), .int (nI X.2.2.2.2), .ref (mq 5), .ref (mq 6), .int (nI F), .ref (mq 8), .ref (mq 9), .ref (mq 10), .ref (mq 11), .ref (mq 12), .ref (mq 13), .ref (mq 14), .ref (mq 15), .ref (mq 16), .ref (mq 17), .ref (mq 18), .ref (mq 19), .ref (mq 20), .ref (mq 21), .ref (mq 22), .int (nI M.1)])), ((mq 8), .inl (cI, 96, .inl (fun z9 => nI (sk z9)))), ((mq 9), .inl (cI, 96, .inl sa9)), ((mq 10), .inl (cI, 96, .inl sb9)), ((mq 11), .inl (cI, 8, .inl (fun z9 => nI (sz z9)))), ((mq 0), .inl (cI, 80, .inl X.1)), ((mq 1), .inl (cI, 80, .inl X.2.1)), ((mq 2), .inl (cI, 80, .inl X.2.2.1)), ((mq 3), .inl (cI, 80, .inl X.2.2.2.1)), ((mq 17), .inl (cJ, 2560, .inr (.inl M.2.2.2.2.2.2.1))), ((mq 16), .inl (cJ, 448, .inr (.inl M.2.2.2.2.2.1))), ((mq 19), .inl (cI, 8, .inl (fun z9 => nI (M.2.1 z9)))), ((mq 20), .inl (cI, 8, .inl (fun z9 => nI (M.2.2.1 z9)))), ((mq 21), .inl (cI, 8, .inl M.2.2.2.1)), ((mq 18), .inl (cZ, 640, .inl (fun z9 => gb (M.2.2.2.2.2.2.2 z9)))), ((mq 22), .inl (cI, 192, .inl (fun z9 => nI (M.2.2.2.2.1 z9)))), ((mq 5), .inl (cI, 8, .inl of9)), ((mq 6), .inl (cI, 8, .inl by9)), ((mq 12), .inl (cI, 80, .inl (fun z9 => nI (eC z9)))), ((mq 13), .inl (cI, 8, .inl (fun z9 => nI (fC z9)))), ((mq 14), .inl (cZ, 80, .inl (fun z9 => gb (R0 z9)))), ((mq 15), .inl (cZ, 8, .inl (fun z9 => gb (Q0 z9))))])) H := hP
    have hD : va_D (fun q : Nat => s.heap.size ≤ q) ([(h, .inr (5, [.ref g, .ref ko, .ref (hq 0), .ref (hq 1), .ref (hq 2), .ref (hq 3), .int (nI F)])), ((hq 0), .inl (cI, 8, .inl (fun z9 => nI (ro z9)))), ((hq 1), .inl (cI, 8, .inl (fun z9 => nI (so z9)))), ((hq 2), .inl (cI, 8, .inl (fun z9 => nI (di z9)))), ((hq 3), .inl (cI, 8, .inl (fun z9 => nI (od z9)))), (g, .inr (3, [.ref eo, .ref bo, .ref t, .ref co])), (eo, .inr (2, [.ref (eq 0), .ref (eq 1), .ref (eq 2), .ref (eq 3), .int (nI X.2.2.2.2)])), ((eq 0), .inl (cI, 80, .inl X.1)), ((eq 1), .inl (cI, 80, .inl X.2.1)), ((eq 2), .inl (cI, 80, .inl X.2.2.1)), ((eq 3), .inl (cI, 80, .inl X.2.2.2.1)), (bo, .inl (cB, 8, .inr (.inr (.inr (.inr (pd_a pd)))))), (t, .inr (4, [.ref (tq 0), .ref (tq 1), .ref (tq 2), .ref (tq 3), .ref (tq 4), .ref (tq 5), .ref (tq 6), .ref (tq 7), .int (nI S.1.2.2.2.2)])), ((tq 0), .inl (cI, 64, .inl (fun z9 => nI (S.1.1 z9)))), ((tq 1), .inl (cI, 64, .inl (fun z9 => nI (S.1.2.1 z9)))), ((tq 2), .inl (cI, 64, .inl (fun z9 => nI (S.1.2.2.1 z9)))), ((tq 3), .inl (cJ, 64, .inr (.inl S.1.2.2.2.1))), ((tq 4), .inl (cJ, 64, .inr (.inl f1))), ((tq 5), .inl (cJ, 64, .inr (.inl f2))), ((tq 6), .inl (cJ, 64, .inr (.inl f3))), ((tq 7), .inl (cJ, 64, .inr (.inl f4))), (co, .inl (cI, 112, .inl (fun z9 => nI (S.2 z9))))] ++ ((tlp cI pd Bs) ++ [(ko, .inr (1, [.ref (kq 0), .ref (kq 1), .ref (kq 2), .ref (kq 3), .ref (kq 4)])), ((kq 0), .inl (cI, 80, .inl (fun z9 => nI (C.1 z9)))), ((kq 1), .inl (cI, 640, .inl (fun z9 => nI (C.2.1 z9)))), ((kq 2), .inl (cI, 64, .inl (fun z9 => nI (C.2.2.1 z9)))), ((kq 3), .inl (cI, 8, .inl (fun z9 => nI (C.2.2.2.1 z9)))), ((kq 4), .inl (cI, 8, .inl (fun z9 => nI (C.2.2.2.2 z9)))), (mo, .inr (6, [.ref (mq 0), .ref (mq 1), .ref (mq 2), .ref (mq 3), .int (nI X.2.2.2.2), .ref (mq 5), .ref (mq 6), .int (nI F), .ref (mq 8), .ref (mq 9), .ref (mq 10), .ref (mq 11), .ref (mq 12), .ref (mq 13), .ref (mq 14), .ref (mq 15), .ref (mq 16), .ref (mq 17), .ref (mq 18), .ref (mq 19), .ref (mq 20), .ref (mq 21), .ref (mq 22), .int (nI M.1)])), ((mq 8), .inl (cI, 96, .inl (fun z9 => nI (sk z9)))), ((mq 9), .inl (cI, 96, .inl sa9)), ((mq 10), .inl (cI, 96, .inl sb9)), ((mq 11), .inl (cI, 8, .inl (fun z9 => nI (sz z9)))), ((mq 0), .inl (cI, 80, .inl X.1)), ((mq 1), .inl (cI, 80, .inl X.2.1)), ((mq 2), .inl (cI, 80, .inl X.2.2.1)), ((mq 3), .inl (cI, 80, .inl X.2.2.2.1)), ((mq 17), .inl (cJ, 2560, .inr (.inl M.2.2.2.2.2.2.1))), ((mq 16), .inl (cJ, 448, .inr (.inl M.2.2.2.2.2.1))), ((mq 19), .inl (cI, 8, .inl (fun z9 => nI (M.2.1 z9)))), ((mq 20), .inl (cI, 8, .inl (fun z9 => nI (M.2.2.1 z9)))), ((mq 21), .inl (cI, 8, .inl M.2.2.2.1)), ((mq 18), .inl (cZ, 640, .inl (fun z9 => gb (M.2.2.2.2.2.2.2 z9)))), ((mq 22), .inl (cI, 192, .inl (fun z9 => nI (M.2.2.2.2.1 z9)))), ((mq 5), .inl (cI, 8, .inl of9)), ((mq 6), .inl (cI, 8, .inl by9)), ((mq 12), .inl (cI, 80, .inl (fun z9 => nI (eC z9)))), ((mq 13), .inl (cI, 8, .inl (fun z9 => nI (fC z9)))), ((mq 14), .inl (cZ, 80, .inl (fun z9 => gb (R0 z9)))), ((mq 15), .inl (cZ, 8, .inl (fun z9 => gb (Q0 z9))))])) := hD
    refine lv_aload_n hx hb dL_law_289 rfl (lv_at hl 2 rfl) ?_
    refine lv_aload_n hx hb dL_law_290 rfl (lv_at hl 0 rfl) ?_
    refine lv_iload_n hx hb dL_law_291 rfl (lv_at hl 3 rfl) ?_
    refine lv_iconst (v := 1) hx hb dL_law_292 (by decide) ?_
    refine lv_iadd hx hb dL_law_293 ?_
    refine lv_topi (fun v293 e293 => ?_)
    have n293 : v293 = nI (i + 1) := by rw [e293]; exact gx_add (rfl : (nI i) = (nI i)) (rfl : (1 : Int32) = nI 1)
    subst n293
    have i294 : vp_in (nI (i + 1)) L := gx_in (rfl : (nI (i + 1)) = (nI (i + 1))) (by omega) (by omega)
    refine va_sld hx hb hXs hbl hbA hS i294 dL_law_294 ?_
    refine lv_topi (fun v294 e294 => ?_)
    have q294 : v245 = v294 := e245.trans e294.symm
    subst q294
    refine lv_aload_n hx hb dL_law_295 rfl (lv_at hl 0 rfl) ?_
    refine lv_iload_n hx hb dL_law_296 rfl (lv_at hl 3 rfl) ?_
    refine lv_iconst (v := 2) hx hb dL_law_297 (by decide) ?_
    refine lv_iadd hx hb dL_law_298 ?_
    refine lv_topi (fun v298 e298 => ?_)
    have n298 : v298 = nI (i + 2) := by rw [e298]; exact gx_add (rfl : (nI i) = (nI i)) (rfl : (2 : Int32) = nI 2)
    subst n298
    have i299 : vp_in (nI (i + 2)) L := gx_in (rfl : (nI (i + 2)) = (nI (i + 2))) (by omega) (by omega)
    refine va_sld hx hb hXs hbl hbA hS i299 dL_law_299 ?_
    refine lv_topi (fun v299 e299 => ?_)
    have q299 : v250 = v299 := e250.trans e299.symm
    subst q299
    refine lv_i2l hx hb dL_law_300 rfl ?_
    refine lv_topl (fun v300 e300 => ?_)
    have q300 : v251 = v300 := e251.trans e300.symm
    subst q300
    refine lv_bipush (v := 32) hx hb dL_law_301 (by decide) ?_
    refine lv_lshl hx hb dL_law_303 rfl ?_
    refine lv_topl (fun v303 e303 => ?_)
    have q303 : v254 = v303 := e254.trans e303.symm
    subst q303
    refine lv_aload_n hx hb dL_law_304 rfl (lv_at hl 0 rfl) ?_
    refine lv_iload_n hx hb dL_law_305 rfl (lv_at hl 3 rfl) ?_
    refine lv_iconst (v := 3) hx hb dL_law_306 (by decide) ?_
    refine lv_iadd hx hb dL_law_307 ?_
    refine lv_topi (fun v307 e307 => ?_)
    have n307 : v307 = nI (i + 3) := by rw [e307]; exact gx_add (rfl : (nI i) = (nI i)) (rfl : (3 : Int32) = nI 3)
    subst n307
    have i308 : vp_in (nI (i + 3)) L := gx_in (rfl : (nI (i + 3)) = (nI (i + 3))) (by omega) (by omega)
    refine va_sld hx hb hXs hbl hbA hS i308 dL_law_308 ?_
    refine lv_topi (fun v308 e308 => ?_)
    have q308 : v259 = v308 := e259.trans e308.symm
    subst q308
    refine lv_i2l hx hb dL_law_309 rfl ?_
    refine lv_topl (fun v309 e309 => ?_)
    have q309 : v260 = v309 := e260.trans e309.symm
    subst q309
    refine lv_ldc2 (v := 4294967295) hx hb hown (ht _ m_699) dL_law_310 ?_
    refine lv_land hx hb dL_law_313 ?_
    refine lv_topl (fun v313 e313 => ?_)
    have q313 : v264 = v313 := e264.trans e313.symm
    subst q313
    refine lv_lor hx hb dL_law_314 ?_
    refine lv_topl (fun v314 e314 => ?_)
    have q314 : v265 = v314 := e265.trans e314.symm
    subst q314
    refine lv_aload_n hx hb dL_law_315 rfl (lv_at hl 0 rfl) ?_
    refine lv_iload_n hx hb dL_law_316 rfl (lv_at hl 3 rfl) ?_
    refine lv_iconst (v := 4) hx hb dL_law_317 (by decide) ?_
    refine lv_iadd hx hb dL_law_318 ?_
    refine lv_topi (fun v318 e318 => ?_)
    have n318 : v318 = nI (i + 4) := by rw [e318]; exact gx_add (rfl : (nI i) = (nI i)) (rfl : (4 : Int32) = nI 4)
    subst n318
    have i319 : vp_in (nI (i + 4)) L := gx_in (rfl : (nI (i + 4)) = (nI (i + 4))) (by omega) (by omega)
    refine va_sld hx hb hXs hbl hbA hS i319 dL_law_319 ?_
    refine lv_topi (fun v319 e319 => ?_)
    have q319 : v270 = v319 := e270.trans e319.symm
    subst q319
    refine lv_i2l hx hb dL_law_320 rfl ?_
    refine lv_topl (fun v320 e320 => ?_)
    have q320 : v271 = v320 := e271.trans e320.symm
    subst q320
    refine lv_bipush (v := 32) hx hb dL_law_321 (by decide) ?_
    refine lv_lshl hx hb dL_law_323 rfl ?_
    refine lv_topl (fun v323 e323 => ?_)
    have q323 : v274 = v323 := e274.trans e323.symm
    subst q323
    refine lv_aload_n hx hb dL_law_324 rfl (lv_at hl 0 rfl) ?_
    refine lv_iload_n hx hb dL_law_325 rfl (lv_at hl 3 rfl) ?_
    refine lv_iconst (v := 5) hx hb dL_law_326 (by decide) ?_
    refine lv_iadd hx hb dL_law_327 ?_
    refine lv_topi (fun v327 e327 => ?_)
    have n327 : v327 = nI (i + 5) := by rw [e327]; exact gx_add (rfl : (nI i) = (nI i)) (rfl : (5 : Int32) = nI 5)
    subst n327
    have i328 : vp_in (nI (i + 5)) L := gx_in (rfl : (nI (i + 5)) = (nI (i + 5))) (by omega) (by omega)
    refine va_sld hx hb hXs hbl hbA hS i328 dL_law_328 ?_
    refine lv_topi (fun v328 e328 => ?_)
    have q328 : v279 = v328 := e279.trans e328.symm
    subst q328
    refine lv_i2l hx hb dL_law_329 rfl ?_
    refine lv_topl (fun v329 e329 => ?_)
    have q329 : v280 = v329 := e280.trans e329.symm
    subst q329
    refine lv_ldc2 (v := 4294967295) hx hb hown (ht _ m_699) dL_law_330 ?_
    refine lv_land hx hb dL_law_333 ?_
    refine lv_topl (fun v333 e333 => ?_)
    have q333 : v284 = v333 := e284.trans e333.symm
    subst q333
    refine lv_lor hx hb dL_law_334 ?_
    refine lv_topl (fun v334 e334 => ?_)
    have q334 : v285 = v334 := e285.trans e334.symm
    subst q334
    obtain ⟨hP, hD⟩ := pm_15 hP hD
    refine gc_ml (lf := []) (W0 := [(mo, .inr (6, [.ref (mq 0), .ref (mq 1), .ref (mq 2), .ref (mq 3), .int (nI X.2.2.2.2), .ref (mq 5), .ref (mq 6), .int (nI F), .ref (mq 8), .ref (mq 9), .ref (mq 10), .ref (mq 11), .ref (mq 12), .ref (mq 13), .ref (mq 14), .ref (mq 15), .ref (mq 16), .ref (mq 17), .ref (mq 18), .ref (mq 19), .ref (mq 20), .ref (mq 21), .ref (mq 22), .int (nI M.1)]))]) (rt := ([(h, .inr (5, [.ref g, .ref ko, .ref (hq 0), .ref (hq 1), .ref (hq 2), .ref (hq 3), .int (nI F)])), ((hq 0), .inl (cI, 8, .inl (fun z9 => nI (ro z9)))), ((hq 1), .inl (cI, 8, .inl (fun z9 => nI (so z9)))), ((hq 2), .inl (cI, 8, .inl (fun z9 => nI (di z9)))), ((hq 3), .inl (cI, 8, .inl (fun z9 => nI (od z9)))), (g, .inr (3, [.ref eo, .ref bo, .ref t, .ref co])), (eo, .inr (2, [.ref (eq 0), .ref (eq 1), .ref (eq 2), .ref (eq 3), .int (nI X.2.2.2.2)])), ((eq 0), .inl (cI, 80, .inl X.1)), ((eq 1), .inl (cI, 80, .inl X.2.1)), ((eq 2), .inl (cI, 80, .inl X.2.2.1)), ((eq 3), .inl (cI, 80, .inl X.2.2.2.1)), (bo, .inl (cB, 8, .inr (.inr (.inr (.inr (pd_a pd)))))), (t, .inr (4, [.ref (tq 0), .ref (tq 1), .ref (tq 2), .ref (tq 3), .ref (tq 4), .ref (tq 5), .ref (tq 6), .ref (tq 7), .int (nI S.1.2.2.2.2)])), ((tq 0), .inl (cI, 64, .inl (fun z9 => nI (S.1.1 z9)))), ((tq 1), .inl (cI, 64, .inl (fun z9 => nI (S.1.2.1 z9)))), ((tq 2), .inl (cI, 64, .inl (fun z9 => nI (S.1.2.2.1 z9)))), ((tq 3), .inl (cJ, 64, .inr (.inl S.1.2.2.2.1))), ((tq 4), .inl (cJ, 64, .inr (.inl f1))), ((tq 5), .inl (cJ, 64, .inr (.inl f2))), ((tq 6), .inl (cJ, 64, .inr (.inl f3))), ((tq 7), .inl (cJ, 64, .inr (.inl f4))), (co, .inl (cI, 112, .inl (fun z9 => nI (S.2 z9))))] ++ ((tlp cI pd Bs) ++ [(ko, .inr (1, [.ref (kq 0), .ref (kq 1), .ref (kq 2), .ref (kq 3), .ref (kq 4)])), ((kq 0), .inl (cI, 80, .inl (fun z9 => nI (C.1 z9)))), ((kq 1), .inl (cI, 640, .inl (fun z9 => nI (C.2.1 z9)))), ((kq 2), .inl (cI, 64, .inl (fun z9 => nI (C.2.2.1 z9)))), ((kq 3), .inl (cI, 8, .inl (fun z9 => nI (C.2.2.2.1 z9)))), ((kq 4), .inl (cI, 8, .inl (fun z9 => nI (C.2.2.2.2 z9)))), ((mq 8), .inl (cI, 96, .inl (fun z9 => nI (sk z9)))), ((mq 9), .inl (cI, 96, .inl sa9)), ((mq 10), .inl (cI, 96, .inl sb9)), ((mq 11), .inl (cI, 8, .inl (fun z9 => nI (sz z9)))), ((mq 0), .inl (cI, 80, .inl X.1)), ((mq 1), .inl (cI, 80, .inl X.2.1)), ((mq 2), .inl (cI, 80, .inl X.2.2.1)), ((mq 3), .inl (cI, 80, .inl X.2.2.2.1)), ((mq 17), .inl (cJ, 2560, .inr (.inl M.2.2.2.2.2.2.1))), ((mq 16), .inl (cJ, 448, .inr (.inl M.2.2.2.2.2.1))), ((mq 19), .inl (cI, 8, .inl (fun z9 => nI (M.2.1 z9)))), ((mq 20), .inl (cI, 8, .inl (fun z9 => nI (M.2.2.1 z9)))), ((mq 21), .inl (cI, 8, .inl M.2.2.2.1)), ((mq 18), .inl (cZ, 640, .inl (fun z9 => gb (M.2.2.2.2.2.2.2 z9)))), ((mq 22), .inl (cI, 192, .inl (fun z9 => nI (M.2.2.2.2.1 z9)))), ((mq 5), .inl (cI, 8, .inl of9)), ((mq 6), .inl (cI, 8, .inl by9)), ((mq 12), .inl (cI, 80, .inl (fun z9 => nI (eC z9)))), ((mq 13), .inl (cI, 8, .inl (fun z9 => nI (fC z9)))), ((mq 14), .inl (cZ, 80, .inl (fun z9 => gb (R0 z9)))), ((mq 15), .inl (cZ, 8, .inl (fun z9 => gb (Q0 z9))))]))) (va_runV (As := [.int v245, .long v265, .long v285]) (rest := [.long r286]) ⟨hx, hb, hml, hown, ht⟩ (c_M_runN l D cI cJ cB cZ mo mq X.2.2.2.2 F M.1 v245 v265 v285 g1 ha H.size) (cwV 3 ht (gw_V m_612 m_613 m_614 m_6 m_615) rfl rfl rfl (by decide +kernel) ⟨Nat.le_of_ble_eq_true rfl, Nat.le_of_ble_eq_true rfl⟩) (gp_V (ci := 6) (q0 := 0) hK hN (gk_midP (lf := []) hP) (gk_midD (lf := []) hD) rfl rfl) rfl rfl hl.1 rfl (lv_room (Nat.le_of_ble_eq_true rfl)) dL_law_335 ⟨by show ((50 + i) + 0) + 0 ≤ 600000; omega, by show ((6510 + 12 * i) + 0) + 0 ≤ 7302250; omega⟩) hP hD hS hA (fun r335 w335 H locs p335 hP hD hS => ?_)
    obtain ⟨hrm, rfl⟩ := p335
    have hP : va_P D vwCl ([(mo, .inr (6, [.ref (mq 0), .ref (mq 1), .ref (mq 2), .ref (mq 3), .int (nI X.2.2.2.2), .ref (mq 5), .ref (mq 6), .int (nI F), .ref (mq 8), .ref (mq 9), .ref (mq 10), .ref (mq 11), .ref (mq 12), .ref (mq 13), .ref (mq 14), .ref (mq 15), .ref (mq 16), .ref (mq 17), .ref (mq 18), .ref (mq 19), .ref (mq 20), .ref (mq 21), .ref (mq 22), .int (nI M.1)])), (h, .inr (5, [.ref g, .ref ko, .ref (hq 0), .ref (hq 1), .ref (hq 2), .ref (hq 3), .int (nI F)])), ((hq 0), .inl (cI, 8, .inl (fun z9 => nI (ro z9)))), ((hq 1), .inl (cI, 8, .inl (fun z9 => nI (so z9)))), ((hq 2), .inl (cI, 8, .inl (fun z9 => nI (di z9)))), ((hq 3), .inl (cI, 8, .inl (fun z9 => nI (od z9)))), (g, .inr (3, [.ref eo, .ref bo, .ref t, .ref co])), (eo, .inr (2, [.ref (eq 0), .ref (eq 1), .ref (eq 2), .ref (eq 3), .int (nI X.2.2.2.2)])), ((eq 0), .inl (cI, 80, .inl X.1)), ((eq 1), .inl (cI, 80, .inl X.2.1)), ((eq 2), .inl (cI, 80, .inl X.2.2.1)), ((eq 3), .inl (cI, 80, .inl X.2.2.2.1)), (bo, .inl (cB, 8, .inr (.inr (.inr (.inr (pd_a pd)))))), (t, .inr (4, [.ref (tq 0), .ref (tq 1), .ref (tq 2), .ref (tq 3), .ref (tq 4), .ref (tq 5), .ref (tq 6), .ref (tq 7), .int (nI S.1.2.2.2.2)])), ((tq 0), .inl (cI, 64, .inl (fun z9 => nI (S.1.1 z9)))), ((tq 1), .inl (cI, 64, .inl (fun z9 => nI (S.1.2.1 z9)))), ((tq 2), .inl (cI, 64, .inl (fun z9 => nI (S.1.2.2.1 z9)))), ((tq 3), .inl (cJ, 64, .inr (.inl S.1.2.2.2.1))), ((tq 4), .inl (cJ, 64, .inr (.inl f1))), ((tq 5), .inl (cJ, 64, .inr (.inl f2))), ((tq 6), .inl (cJ, 64, .inr (.inl f3))), ((tq 7), .inl (cJ, 64, .inr (.inl f4))), (co, .inl (cI, 112, .inl (fun z9 => nI (S.2 z9))))] ++ ((tlp cI pd Bs) ++ [(ko, .inr (1, [.ref (kq 0), .ref (kq 1), .ref (kq 2), .ref (kq 3), .ref (kq 4)])), ((kq 0), .inl (cI, 80, .inl (fun z9 => nI (C.1 z9)))), ((kq 1), .inl (cI, 640, .inl (fun z9 => nI (C.2.1 z9)))), ((kq 2), .inl (cI, 64, .inl (fun z9 => nI (C.2.2.1 z9)))), ((kq 3), .inl (cI, 8, .inl (fun z9 => nI (C.2.2.2.1 z9)))), ((kq 4), .inl (cI, 8, .inl (fun z9 => nI (C.2.2.2.2 z9)))), ((mq 8), .inl (cI, 96, .inl (fun z9 => nI (sk z9)))), ((mq 9), .inl (cI, 96, .inl sa9)), ((mq 10), .inl (cI, 96, .inl sb9)), ((mq 11), .inl (cI, 8, .inl (fun z9 => nI (sz z9)))), ((mq 0), .inl (cI, 80, .inl X.1)), ((mq 1), .inl (cI, 80, .inl X.2.1)), ((mq 2), .inl (cI, 80, .inl X.2.2.1)), ((mq 3), .inl (cI, 80, .inl X.2.2.2.1)), ((mq 17), .inl (cJ, 2560, .inr (.inl M.2.2.2.2.2.2.1))), ((mq 16), .inl (cJ, 448, .inr (.inl M.2.2.2.2.2.1))), ((mq 19), .inl (cI, 8, .inl (fun z9 => nI (M.2.1 z9)))), ((mq 20), .inl (cI, 8, .inl (fun z9 => nI (M.2.2.1 z9)))), ((mq 21), .inl (cI, 8, .inl M.2.2.2.1)), ((mq 18), .inl (cZ, 640, .inl (fun z9 => gb (M.2.2.2.2.2.2.2 z9)))), ((mq 22), .inl (cI, 192, .inl (fun z9 => nI (M.2.2.2.2.1 z9)))), ((mq 5), .inl (cI, 8, .inl of9)), ((mq 6), .inl (cI, 8, .inl by9)), ((mq 12), .inl (cI, 80, .inl (fun z9 => nI (eC z9)))), ((mq 13), .inl (cI, 8, .inl (fun z9 => nI (fC z9)))), ((mq 14), .inl (cZ, 80, .inl (fun z9 => gb (R0 z9)))), ((mq 15), .inl (cZ, 8, .inl (fun z9 => gb (Q0 z9))))])) H := hP
    have hD : va_D (fun q : Nat => s.heap.size ≤ q) ([(mo, .inr (6, [.ref (mq 0), .ref (mq 1), .ref (mq 2), .ref (mq 3), .int (nI X.2.2.2.2), .ref (mq 5), .ref (mq 6), .int (nI F), .ref (mq 8), .ref (mq 9), .ref (mq 10), .ref (mq 11), .ref (mq 12), .ref (mq 13), .ref (mq 14), .ref (mq 15), .ref (mq 16), .ref (mq 17), .ref (mq 18), .ref (mq 19), .ref (mq 20), .ref (mq 21), .ref (mq 22), .int (nI M.1)])), (h, .inr (5, [.ref g, .ref ko, .ref (hq 0), .ref (hq 1), .ref (hq 2), .ref (hq 3), .int (nI F)])), ((hq 0), .inl (cI, 8, .inl (fun z9 => nI (ro z9)))), ((hq 1), .inl (cI, 8, .inl (fun z9 => nI (so z9)))), ((hq 2), .inl (cI, 8, .inl (fun z9 => nI (di z9)))), ((hq 3), .inl (cI, 8, .inl (fun z9 => nI (od z9)))), (g, .inr (3, [.ref eo, .ref bo, .ref t, .ref co])), (eo, .inr (2, [.ref (eq 0), .ref (eq 1), .ref (eq 2), .ref (eq 3), .int (nI X.2.2.2.2)])), ((eq 0), .inl (cI, 80, .inl X.1)), ((eq 1), .inl (cI, 80, .inl X.2.1)), ((eq 2), .inl (cI, 80, .inl X.2.2.1)), ((eq 3), .inl (cI, 80, .inl X.2.2.2.1)), (bo, .inl (cB, 8, .inr (.inr (.inr (.inr (pd_a pd)))))), (t, .inr (4, [.ref (tq 0), .ref (tq 1), .ref (tq 2), .ref (tq 3), .ref (tq 4), .ref (tq 5), .ref (tq 6), .ref (tq 7), .int (nI S.1.2.2.2.2)])), ((tq 0), .inl (cI, 64, .inl (fun z9 => nI (S.1.1 z9)))), ((tq 1), .inl (cI, 64, .inl (fun z9 => nI (S.1.2.1 z9)))), ((tq 2), .inl (cI, 64, .inl (fun z9 => nI (S.1.2.2.1 z9)))), ((tq 3), .inl (cJ, 64, .inr (.inl S.1.2.2.2.1))), ((tq 4), .inl (cJ, 64, .inr (.inl f1))), ((tq 5), .inl (cJ, 64, .inr (.inl f2))), ((tq 6), .inl (cJ, 64, .inr (.inl f3))), ((tq 7), .inl (cJ, 64, .inr (.inl f4))), (co, .inl (cI, 112, .inl (fun z9 => nI (S.2 z9))))] ++ ((tlp cI pd Bs) ++ [(ko, .inr (1, [.ref (kq 0), .ref (kq 1), .ref (kq 2), .ref (kq 3), .ref (kq 4)])), ((kq 0), .inl (cI, 80, .inl (fun z9 => nI (C.1 z9)))), ((kq 1), .inl (cI, 640, .inl (fun z9 => nI (C.2.1 z9)))), ((kq 2), .inl (cI, 64, .inl (fun z9 => nI (C.2.2.1 z9)))), ((kq 3), .inl (cI, 8, .inl (fun z9 => nI (C.2.2.2.1 z9)))), ((kq 4), .inl (cI, 8, .inl (fun z9 => nI (C.2.2.2.2 z9)))), ((mq 8), .inl (cI, 96, .inl (fun z9 => nI (sk z9)))), ((mq 9), .inl (cI, 96, .inl sa9)), ((mq 10), .inl (cI, 96, .inl sb9)), ((mq 11), .inl (cI, 8, .inl (fun z9 => nI (sz z9)))), ((mq 0), .inl (cI, 80, .inl X.1)), ((mq 1), .inl (cI, 80, .inl X.2.1)), ((mq 2), .inl (cI, 80, .inl X.2.2.1)), ((mq 3), .inl (cI, 80, .inl X.2.2.2.1)), ((mq 17), .inl (cJ, 2560, .inr (.inl M.2.2.2.2.2.2.1))), ((mq 16), .inl (cJ, 448, .inr (.inl M.2.2.2.2.2.1))), ((mq 19), .inl (cI, 8, .inl (fun z9 => nI (M.2.1 z9)))), ((mq 20), .inl (cI, 8, .inl (fun z9 => nI (M.2.2.1 z9)))), ((mq 21), .inl (cI, 8, .inl M.2.2.2.1)), ((mq 18), .inl (cZ, 640, .inl (fun z9 => gb (M.2.2.2.2.2.2.2 z9)))), ((mq 22), .inl (cI, 192, .inl (fun z9 => nI (M.2.2.2.2.1 z9)))), ((mq 5), .inl (cI, 8, .inl of9)), ((mq 6), .inl (cI, 8, .inl by9)), ((mq 12), .inl (cI, 80, .inl (fun z9 => nI (eC z9)))), ((mq 13), .inl (cI, 8, .inl (fun z9 => nI (fC z9)))), ((mq 14), .inl (cZ, 80, .inl (fun z9 => gb (R0 z9)))), ((mq 15), .inl (cZ, 8, .inl (fun z9 => gb (Q0 z9))))])) := hD
    refine W.lcmp hx hb dL_law_338 ?_
    refine lv_topi (fun v338 e338 => ?_)
    refine lv_if_eq (tgt := 562) hx hb dL_law_339 (by decide) (fun c339 => ?_) (fun c339 => ?_)
    · refine W.widen (k := 50 + i + 7) (n := 6510 + 12 * i + 81) (show (((50 + i) + 0) + 0) ≤ 50 + i + 7 by omega) (show (((6510 + 12 * i) + 0) + 0) ≤ 6510 + 12 * i + 81 by omega) ?_
      obtain ⟨hP, hD⟩ := pm_16 hP hD
      have hP : va_P D vwCl (lw_W cI cJ cB cZ h g ko eo bo t co mo hq kq eq tq mq F ro so di od C X pd Bs S f1 f2 f3 f4 of9 by9 sk sa9 sb9 sz eC fC R0 Q0 M) H := hP
      have hD : va_D (fun q : Nat => s.heap.size ≤ q) (lw_W cI cJ cB cZ h g ko eo bo t co mo hq kq eq tq mq F ro so di od C X pd Bs S f1 f2 f3 f4 of9 by9 sk sa9 sb9 sz eC fC R0 Q0 M) := hD
      exact hJ F ro so di od C X pd Bs S f1 f2 f3 f4 of9 by9 sk sa9 sb9 sz eC fC R0 Q0 M ⟨hG, hSx, heC, hfC, hp8⟩ _ _ _ hP hD hS (lv_sub hl [0, 1, 2, 3] rfl)
    · exact absurd (by rw [e338]; exact (gl_eq _ _).mpr (by rw [hr9, hrm])) c339

