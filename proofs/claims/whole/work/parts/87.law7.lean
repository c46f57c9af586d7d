set_option maxHeartbeats 4000000 in
set_option maxRecDepth 100000 in
theorem lw_case5 {p : Program} {l : Launch} {e : Env} {s : State} {m : MethodId} {below : List Frame} {meth : Method} {c : Code} {D : va_G} {cI cJ cB cZ : ClassId} {h g ko eo bo t co mo : Nat} {hq kq eq tq mq : Nat → Nat} {b L i : Nat} {xs : Nat → Int32} (hL : L ≤ 3584) (hi : i + 7 ≤ L) (C0 : lw_At p s m meth c b L xs) (hK : va_K D vwCl (gk_T cI cJ cB cZ) s) (hN : gk_N gk_nw s) (hJ : lw_J p l e s m below meth c D cI cJ cB cZ h g ko eo bo t co mo hq kq eq tq mq b i 562 (50 + i + 7) (6510 + 12 * i + 81)) : lw_J p l e s m below meth c D cI cJ cB cZ h g ko eo bo t co mo hq kq eq tq mq b i 344 (50 + i) (6510 + 12 * i) := by
  obtain ⟨hx, hb, hr, hml, hown, hts, hXs, hbl, hlocks, hgv⟩ := C0
  have ht : ∀ w ∈ gk_big, w.before _ s = true := fun w h => hts w (List.mem_filter.mp h).1
  have hown : s.vm.findClass R_L = some m.cls := hown
  have hA : ∀ q : Nat, s.heap.size ≤ q → (fun q : Nat => s.heap.size ≤ q) q := fun _ h => h
  have hbA : ¬ (fun q : Nat => s.heap.size ≤ q) b := Nat.not_le.mpr hbl
  intro F ro so di od C X pd Bs S f1 f2 f3 f4 of9 by9 sk sa9 sb9 sz eC fC R0 Q0 M hI H locs ls hP hD hS hl
  obtain ⟨hG, hSx, heC, hfC, hp8⟩ := hI
  obtain ⟨g1, g2, g3, g4, g5, g6, g7, g8, g9, g10, g11, g12, g13, g14⟩ := id hG
  have hC := g6
  have hX := g6.1
  have hn80 := hX.1
  have hsz := gi_sz hG
  have hsk := g7.2.2
  have hsb : ∀ f k, f < 8 → k < sz f → sk (12 * f + k) ≤ 2 → ∃ e, e < X.2.2.2.2 ∧ sb9 (12 * f + k) = nI e := fun f k _ hk z => (gi_st hG hk).1 z
  have hs4 : ∀ f k, f < 8 → k < sz f → sk (12 * f + k) = 4 → ∃ b, 1 ≤ b ∧ b ≤ 5 ∧ sb9 (12 * f + k) = nI b := fun f k _ hk z => (gi_st hG hk).2.1 z
  have hs0 : ∀ f k, f < 8 → k < sz f → sk (12 * f + k) = 0 → ∃ v, v < 6 ∧ sa9 (12 * f + k) = nI v := fun f k _ hk z => (gi_st hG hk).2.2.1 z
  have hs1 : ∀ f k, f < 8 → k < sz f → sk (12 * f + k) = 1 → ∃ v, v < 2 ∧ sa9 (12 * f + k) = nI v := fun f k _ hk z => (gi_st hG hk).2.2.2 z
  have hP : va_P D vwCl ([(h, .inr (5, [.ref g, .ref ko, .ref (hq 0), .ref (hq 1), .ref (hq 2), .ref (hq 3), .int (nI F)])), ((hq 0), .inl (cI, 8, .inl (fun z9 => nI (ro z9)))), ((hq 1), .inl (cI, 8, .inl (fun z9 => nI (so z9)))), ((hq 2), .inl (cI, 8, .inl (fun z9 => nI (di z9)))), ((hq 3), .inl (cI, 8, .inl (fun z9 => nI (od z9)))), (ko, .inr (1, [.ref (kq 0), .ref (kq 1), .ref (kq 2), .ref (kq 3), .ref (kq 4)])), ((kq 0), .inl (cI, 80, .inl (fun z9 => nI (C.1 z9)))), ((kq 1), .inl (cI, 640, .inl (fun z9 => nI (C.2.1 z9)))), ((kq 2), .inl (cI, 64, .inl (fun z9 => nI (C.2.2.1 z9)))), ((kq 3), .inl (cI, 8, .inl (fun z9 => nI (C.2.2.2.1 z9)))), ((kq 4), .inl (cI, 8, .inl (fun z9 => nI (C.2.2.2.2 z9)))), (g, .inr (3, [.ref eo, .ref bo, .ref t, .ref co])), (eo, .inr (2, [.ref (eq 0), .ref (eq 1), .ref (eq 2), .ref (eq 3), .int (nI X.2.2.2.2)])), ((eq 0), .inl (cI, 80, .inl X.1)), ((eq 1), .inl (cI, 80, .inl X.2.1)), ((eq 2), .inl (cI, 80, .inl X.2.2.1)), ((eq 3), .inl (cI, 80, .inl X.2.2.2.1)), (bo, .inl (cB, 8, .inr (.inr (.inr (.inr (pd_a pd)))))), (t, .inr (4, [.ref (tq 0), .ref (tq 1), .ref (tq 2), .ref (tq 3), .ref (tq 4), .ref (tq 5), .ref (tq 6), .ref (tq 7), .int (nI S.1.2.2.2.2)])), ((tq 0), .inl (cI, 64, .inl (fun z9 => nI (S.1.1 z9)))), ((tq 1), .inl (cI, 64, .inl (fun z9 => nI (S.1.2.1 z9)))), ((tq 2), .inl (cI, 64, .inl (fun z9 => nI (S.1.2.2.1 z9)))), ((tq 3), .inl (cJ, 64, .inr (.inl S.1.2.2.2.1))), ((tq 4), .inl (cJ, 64, .inr (.inl f1))), ((tq 5), .inl (cJ, 64, .inr (.inl f2))), ((tq 6), .inl (cJ, 64, .inr (.inl f3))), ((tq 7), .inl (cJ, 64, .inr (.inl f4))), (co, .inl (cI, 112, .inl (fun z9 => nI (S.2 z9))))] ++ ((tlp cI pd Bs) ++ [(mo, .inr (6, [.ref (mq 0), .ref (mq 1), .ref (mq 2), .ref (mq 3), .int (nI X.2.2.2.2), .ref (mq 5), .ref (mq 6), .int (nI F), .ref (mq 8), .ref (mq 9), .ref (mq 10), .ref (mq 11), .ref (mq 12), .ref (mq 13), .ref (mq 14), .ref (mq 15), .ref (mq 16), .ref (mq 17), .ref (mq 18), .ref (mq 19), .ref (mq 20), .ref (mq 21), .ref (mq 22), .int (nI M.1)])), ((mq 8), .inl (cI, 96, .inl (fun z9 => nI (sk z9)))), ((mq 9), .inl (cI, 96, .inl sa9)), ((mq 10), .inl (cI, 96, .inl sb9)), ((mq 11), .inl (cI, 8, .inl (fun z9 => nI (sz z9)))), ((mq 0), .inl (cI, 80, .inl X.1)), ((mq 1), .inl (cI, 80, .inl X.2.1)), ((mq 2), .inl (cI, 80, .inl X.2.2.1)), ((mq 3), .inl (cI, 80, .inl X.2.2.2.1)), ((mq 17), .inl (cJ, 2560, .inr (.inl M.2.2.2.2.2.2.1))), ((mq 16), .inl (cJ, 448, .inr (.inl M.2.2.2.2.2.1))), ((mq 19), .inl (cI, 8, .inl (fun z9 => nI (M.2.1 z9)))), ((mq 20), .inl (cI, 8, .inl (fun z9 => nI (M.2.2.1 z9)))), ((mq 21), .inl (cI, 8, .inl M.2.2.2.1)), ((mq 18), .inl (cZ, 640, .inl (fun z9 => gb (M.2.2.2.2.2.2.2 z9)))), ((mq 22), .inl (cI, 192, .inl (fun z9 => nI (M.2.2.2.2.1 z9)))), ((mq 5), .inl (cI, 8, .inl of9)), ((mq 6), .inl (cI, 8, .inl by9)), ((mq 12), .inl (cI, 80, .inl (fun z9 => nI (eC z9)))), ((mq 13), .inl (cI, 8, .inl (fun z9 => nI (fC z9)))), ((mq 14), .inl (cZ, 80, .inl (fun z9 => gb (R0 z9)))), ((mq 15), .inl (cZ, 8, .inl (fun z9 => gb (Q0 z9))))])) H := hP
  have hD : va_D (fun q : Nat => s.heap.size ≤ q) ([(h, .inr (5, [.ref g, .ref ko, .ref (hq 0), .ref (hq 1), .ref (hq 2), .ref (hq 3), .int (nI F)])), ((hq 0), .inl (cI, 8, .inl (fun z9 => nI (ro z9)))), ((hq 1), .inl (cI, 8, .inl (fun z9 => nI (so z9)))), ((hq 2), .inl (cI, 8, .inl (fun z9 => nI (di z9)))), ((hq 3), .inl (cI, 8, .inl (fun z9 => nI (od z9)))), (ko, .inr (1, [.ref (kq 0), .ref (kq 1), .ref (kq 2), .ref (kq 3), .ref (kq 4)])), ((kq 0), .inl (cI, 80, .inl (fun z9 => nI (C.1 z9)))), ((kq 1), .inl (cI, 640, .inl (fun z9 => nI (C.2.1 z9)))), ((kq 2), .inl (cI, 64, .inl (fun z9 => nI (C.2.2.1 z9)))), ((kq 3), .inl (cI, 8, .inl (fun z9 => nI (C.2.2.2.1 z9)))), ((kq 4), .inl (cI, 8, .inl (fun z9 => nI (C.2.2.2.2 z9)))), (g, .inr (3, [.ref eo, .ref bo, .ref t, .ref co])), (eo, .inr (2, [.ref (eq 0), .ref (eq 1), .ref (eq 2), .ref (eq 3), .int (nI X.2.2.2.2)])), ((eq 0), .inl (cI, 80, .inl X.1)), ((eq 1), .inl (cI, 80, .inl X.2.1)), ((eq 2), .inl (cI, 80, .inl X.2.2.1)), ((eq 3), .inl (cI, 80, .inl X.2.2.2.1)), (bo, .inl (cB, 8, .inr (.inr (.inr (.inr (pd_a pd)))))), (t, .inr (4, [.ref (tq 0), .ref (tq 1), .ref (tq 2), .ref (tq 3), .ref (tq 4), .ref (tq 5), .ref (tq 6), .ref (tq 7), .int (nI S.1.2.2.2.2)])), ((tq 0), .inl (cI, 64, .inl (fun z9 => nI (S.1.1 z9)))), ((tq 1), .inl (cI, 64, .inl (fun z9 => nI (S.1.2.1 z9)))), ((tq 2), .inl (cI, 64, .inl (fun z9 => nI (S.1.2.2.1 z9)))), ((tq 3), .inl (cJ, 64, .inr (.inl S.1.2.2.2.1))), ((tq 4), .inl (cJ, 64, .inr (.inl f1))), ((tq 5), .inl (cJ, 64, .inr (.inl f2))), ((tq 6), .inl (cJ, 64, .inr (.inl f3))), ((tq 7), .inl (cJ, 64, .inr (.inl f4))), (co, .inl (cI, 112, .inl (fun z9 => nI (S.2 z9))))] ++ ((tlp cI pd Bs) ++ [(mo, .inr (6, [.ref (mq 0), .ref (mq 1), .ref (mq 2), .ref (mq 3), .int (nI X.2.2.2.2), .ref (mq 5), .ref (mq 6), .int (nI F), .ref (mq 8), .ref (mq 9), .ref (mq 10), .ref (mq 11), .ref (mq 12), .ref (mq 13), .ref (mq 14), .ref (mq 15), .ref (mq 16), .ref (mq 17), .ref (mq 18), .ref (mq 19), .ref (mq 20), .ref (mq 21), .ref (mq 22), .int (nI M.1)])), ((mq 8), .inl (cI, 96, .inl (fun z9 => nI (sk z9)))), ((mq 9), .inl (cI, 96, .inl sa9)), ((mq 10), .inl (cI, 96, .inl sb9)), ((mq 11), .inl (cI, 8, .inl (fun z9 => nI (sz z9)))), ((mq 0), .inl (cI, 80, .inl X.1)), ((mq 1), .inl (cI, 80, .inl X.2.1)), ((mq 2), .inl (cI, 80, .inl X.2.2.1)), ((mq 3), .inl (cI, 80, .inl X.2.2.2.1)), ((mq 17), .inl (cJ, 2560, .inr (.inl M.2.2.2.2.2.2.1))), ((mq 16), .inl (cJ, 448, .inr (.inl M.2.2.2.2.2.1))), ((mq 19), .inl (cI, 8, .inl (fun z9 => nI (M.2.1 z9)))), ((mq 20), .inl (cI, 8, .inl (fun z9 => nI (M.2.2.1 z9)))), ((mq 21), .inl (cI, 8, .inl M.2.2.2.1)), ((mq 18), .inl (cZ, 640, .inl (fun z9 => gb (M.2.2.2.2.2.2.2 z9)))), ((mq 22), .inl (cI, 192, .inl (fun z9 => nI (M.2.2.2.2.1 z9)))), ((mq 5), .inl (cI, 8, .inl of9)), ((mq 6), .inl (cI, 8, .inl by9)), ((mq 12), .inl (cI, 80, .inl (fun z9 => nI (eC z9)))), ((mq 13), .inl (cI, 8, .inl (fun z9 => nI (fC z9)))), ((mq 14), .inl (cZ, 80, .inl (fun z9 => gb (R0 z9)))), ((mq 15), .inl (cZ, 8, .inl (fun z9 => gb (Q0 z9))))])) := hD
  refine lv_aload_n hx hb dL_law_344 rfl (lv_at hl 1 rfl) ?_
  refine lv_aload_n hx hb dL_law_345 rfl (lv_at hl 0 rfl) ?_
  refine lv_iload_n hx hb dL_law_346 rfl (lv_at hl 3 rfl) ?_
  refine lv_iconst (v := 1) hx hb dL_law_347 (by decide) ?_
  refine lv_iadd hx hb dL_law_348 ?_
  refine lv_topi (fun v348 e348 => ?_)
  have n348 : v348 = nI (i + 1) := by rw [e348]; exact gx_add (rfl : (nI i) = (nI i)) (rfl : (1 : Int32) = nI 1)
  subst n348
  have i349 : vp_in (nI (i + 1)) L := gx_in (rfl : (nI (i + 1)) = (nI (i + 1))) (by omega) (by omega)
  refine va_sld hx hb hXs hbl hbA hS i349 dL_law_349 ?_
  refine lv_topi (fun v349 e349 => ?_)
  refine lv_aload_n hx hb dL_law_350 rfl (lv_at hl 0 rfl) ?_
  refine lv_iload_n hx hb dL_law_351 rfl (lv_at hl 3 rfl) ?_
  refine lv_iconst (v := 2) hx hb dL_law_352 (by decide) ?_
  refine lv_iadd hx hb dL_law_353 ?_
  refine lv_topi (fun v353 e353 => ?_)
  have n353 : v353 = nI (i + 2) := by rw [e353]; exact gx_add (rfl : (nI i) = (nI i)) (rfl : (2 : Int32) = nI 2)
  subst n353
  have i354 : vp_in (nI (i + 2)) L := gx_in (rfl : (nI (i + 2)) = (nI (i + 2))) (by omega) (by omega)
  refine va_sld hx hb hXs hbl hbA hS i354 dL_law_354 ?_
  refine lv_topi (fun v354 e354 => ?_)
  refine lv_aload_n hx hb dL_law_355 rfl (lv_at hl 0 rfl) ?_
  refine lv_iload_n hx hb dL_law_356 rfl (lv_at hl 3 rfl) ?_
  refine lv_iconst (v := 3) hx hb dL_law_357 (by decide) ?_
  refine lv_iadd hx hb dL_law_358 ?_
  refine lv_topi (fun v358 e358 => ?_)
  have n358 : v358 = nI (i + 3) := by rw [e358]; exact gx_add (rfl : (nI i) = (nI i)) (rfl : (3 : Int32) = nI 3)
  subst n358
  have i359 : vp_in (nI (i + 3)) L := gx_in (rfl : (nI (i + 3)) = (nI (i + 3))) (by omega) (by omega)
  refine va_sld hx hb hXs hbl hbA hS i359 dL_law_359 ?_
  refine lv_topi (fun v359 e359 => ?_)
  refine lv_i2l hx hb dL_law_360 rfl ?_
  refine lv_topl (fun v360 e360 => ?_)
  refine lv_bipush (v := 32) hx hb dL_law_361 (by decide) ?_
  refine lv_lshl hx hb dL_law_363 rfl ?_
  refine lv_topl (fun v363 e363 => ?_)
  refine lv_aload_n hx hb dL_law_364 rfl (lv_at hl 0 rfl) ?_
  refine lv_iload_n hx hb dL_law_365 rfl (lv_at hl 3 rfl) ?_
  refine lv_iconst (v := 4) hx hb dL_law_366 (by decide) ?_
  refine lv_iadd hx hb dL_law_367 ?_
  refine lv_topi (fun v367 e367 => ?_)
  have n367 : v367 = nI (i + 4) := by rw [e367]; exact gx_add (rfl : (nI i) = (nI i)) (rfl : (4 : Int32) = nI 4)
  subst n367
  have i368 : vp_in (nI (i + 4)) L := gx_in (rfl : (nI (i + 4)) = (nI (i + 4))) (by omega) (by omega)
  refine va_sld hx hb hXs hbl hbA hS i368 dL_law_368 ?_
  refine lv_topi (fun v368 e368 => ?_)
  refine lv_i2l hx hb dL_law_369 rfl ?_
  refine lv_topl (fun v369 e369 => ?_)
  refine lv_ldc2 (v := 4294967295) hx hb hown (ht _ m_699) dL_law_370 ?_
  refine lv_land hx hb dL_law_373 ?_
  refine lv_topl (fun v373 e373 => ?_)
  refine lv_lor hx hb dL_law_374 ?_
  refine lv_topl (fun v374 e374 => ?_)
  refine lv_aload_n hx hb dL_law_375 rfl (lv_at hl 0 rfl) ?_
  refine lv_iload_n hx hb dL_law_376 rfl (lv_at hl 3 rfl) ?_
  refine lv_iconst (v := 5) hx hb dL_law_377 (by decide) ?_
  refine lv_iadd hx hb dL_law_378 ?_
  refine lv_topi (fun v378 e378 => ?_)
  have n378 : v378 = nI (i + 5) := by rw [e378]; exact gx_add (rfl : (nI i) = (nI i)) (rfl : (5 : Int32) = nI 5)
  subst n378
  have i379 : vp_in (nI (i + 5)) L := gx_in (rfl : (nI (i + 5)) = (nI (i + 5))) (by omega) (by omega)
  refine va_sld hx hb hXs hbl hbA hS i379 dL_law_379 ?_
  refine lv_topi (fun v379 e379 => ?_)
  refine lv_i2l hx hb dL_law_380 rfl ?_
  refine lv_topl (fun v380 e380 => ?_)
  refine lv_bipush (v := 32) hx hb dL_law_381 (by decide) ?_
  refine lv_lshl hx hb dL_law_383 rfl ?_
  refine lv_topl (fun v383 e383 => ?_)
  refine lv_aload_n hx hb dL_law_384 rfl (lv_at hl 0 rfl) ?_
  refine lv_iload_n hx hb dL_law_385 rfl (lv_at hl 3 rfl) ?_
  refine lv_bipush (v := 6) hx hb dL_law_386 (by decide) ?_
  refine lv_iadd hx hb dL_law_388 ?_
  refine lv_topi (fun v388 e388 => ?_)
  have n388 : v388 = nI (i + 6) := by rw [e388]; exact gx_add (rfl : (nI i) = (nI i)) (rfl : (6 : Int32) = nI 6)
  subst n388
  have i389 : vp_in (nI (i + 6)) L := gx_in (rfl : (nI (i + 6)) = (nI (i + 6))) (by omega) (by omega)
  refine va_sld hx hb hXs hbl hbA hS i389 dL_law_389 ?_
  refine lv_topi (fun v389 e389 => ?_)
  refine lv_i2l hx hb dL_law_390 rfl ?_
  refine lv_topl (fun v390 e390 => ?_)
  refine lv_ldc2 (v := 4294967295) hx hb hown (ht _ m_699) dL_law_391 ?_
  refine lv_land hx hb dL_law_394 ?_
  refine lv_topl (fun v394 e394 => ?_)
  refine lv_lor hx hb dL_law_395 ?_
  refine lv_topl (fun v395 e395 => ?_)
  obtain ⟨hP, hD⟩ := pm_17 hP hD
  refine gc_ml (lf := []) (W0 := ([(h, .inr (5, [.ref g, .ref ko, .ref (hq 0), .ref (hq 1), .ref (hq 2), .ref (hq 3), .int (nI F)])), ((hq 3), .inl (cI, 8, .inl (fun z9 => nI (od z9)))), (g, .inr (3, [.ref eo, .ref bo, .ref t, .ref co])), (eo, .inr (2, [.ref (eq 0), .ref (eq 1), .ref (eq 2), .ref (eq 3), .int (nI X.2.2.2.2)])), ((eq 0), .inl (cI, 80, .inl X.1)), ((eq 1), .inl (cI, 80, .inl X.2.1)), ((eq 2), .inl (cI, 80, .inl X.2.2.1)), ((eq 3), .inl (cI, 80, .inl X.2.2.2.1)), (bo, .inl (cB, 8, .inr (.inr (.inr (.inr (pd_a pd)))))), (t, .inr (4, [.ref (tq 0), .ref (tq 1), .ref (tq 2), .ref (tq 3), .ref (tq 4), .ref (tq 5), .ref (tq 6), .ref (tq 7), .int (nI S.1.2.2.2.2)])), ((tq 0), .inl (cI, 64, .inl (fun z9 => nI (S.1.1 z9)))), ((tq 1), .inl (cI, 64, .inl (fun z9 => nI (S.1.2.1 z9)))), ((tq 2), .inl (cI, 64, .inl (fun z9 => nI (S.1.2.2.1 z9)))), ((tq 3), .inl (cJ, 64, .inr (.inl S.1.2.2.2.1))), ((tq 4), .inl (cJ, 64, .inr (.inl f1))), ((tq 5), .inl (cJ, 64, .inr (.inl f2))), ((tq 6), .inl (cJ, 64, .inr (.inl f3))), ((tq 7), .inl (cJ, 64, .inr (.inl f4))), (co, .inl (cI, 112, .inl (fun z9 => nI (S.2 z9))))] ++ (tlp cI pd Bs))) (rt := [((hq 0), .inl (cI, 8, .inl (fun z9 => nI (ro z9)))), ((hq 1), .inl (cI, 8, .inl (fun z9 => nI (so z9)))), ((hq 2), .inl (cI, 8, .inl (fun z9 => nI (di z9)))), (ko, .inr (1, [.ref (kq 0), .ref (kq 1), .ref (kq 2), .ref (kq 3), .ref (kq 4)])), ((kq 0), .inl (cI, 80, .inl (fun z9 => nI (C.1 z9)))), ((kq 1), .inl (cI, 640, .inl (fun z9 => nI (C.2.1 z9)))), ((kq 2), .inl (cI, 64, .inl (fun z9 => nI (C.2.2.1 z9)))), ((kq 3), .inl (cI, 8, .inl (fun z9 => nI (C.2.2.2.1 z9)))), ((kq 4), .inl (cI, 8, .inl (fun z9 => nI (C.2.2.2.2 z9)))), (mo, .inr (6, [.ref (mq 0), .ref (mq 1), .ref (mq 2), .ref (mq 3), .int (nI X.2.2.2.2), .ref (mq 5), .ref (mq 6), .int (nI F), .ref (mq 8), .ref (mq 9), .ref (mq 10), .ref (mq 11), .ref (mq 12), .ref (mq 13), .ref (mq 14), .ref (mq 15), .ref (mq 16), .ref (mq 17), .ref (mq 18), .ref (mq 19), .ref (mq 20), .ref (mq 21), .ref (mq 22), .int (nI M.1)])), ((mq 8), .inl (cI, 96, .inl (fun z9 => nI (sk z9)))), ((mq 9), .inl (cI, 96, .inl sa9)), ((mq 10), .inl (cI, 96, .inl sb9)), ((mq 11), .inl (cI, 8, .inl (fun z9 => nI (sz z9)))), ((mq 0), .inl (cI, 80, .inl X.1)), ((mq 1), .inl (cI, 80, .inl X.2.1)), ((mq 2), .inl (cI, 80, .inl X.2.2.1)), ((mq 3), .inl (cI, 80, .inl X.2.2.2.1)), ((mq 17), .inl (cJ, 2560, .inr (.inl M.2.2.2.2.2.2.1))), ((mq 16), .inl (cJ, 448, .inr (.inl M.2.2.2.2.2.1))), ((mq 19), .inl (cI, 8, .inl (fun z9 => nI (M.2.1 z9)))), ((mq 20), .inl (cI, 8, .inl (fun z9 => nI (M.2.2.1 z9)))), ((mq 21), .inl (cI, 8, .inl M.2.2.2.1)), ((mq 18), .inl (cZ, 640, .inl (fun z9 => gb (M.2.2.2.2.2.2.2 z9)))), ((mq 22), .inl (cI, 192, .inl (fun z9 => nI (M.2.2.2.2.1 z9)))), ((mq 5), .inl (cI, 8, .inl of9)), ((mq 6), .inl (cI, 8, .inl by9)), ((mq 12), .inl (cI, 80, .inl (fun z9 => nI (eC z9)))), ((mq 13), .inl (cI, 8, .inl (fun z9 => nI (fC z9)))), ((mq 14), .inl (cZ, 80, .inl (fun z9 => gb (R0 z9)))), ((mq 15), .inl (cZ, 8, .inl (fun z9 => gb (Q0 z9))))]) (va_runV (As := [.int v349, .int v354, .long v374, .long v395]) (rest := []) ⟨hx, hb, hml, hown, ht⟩ (c_C_gradient l D cI cJ cB cZ h g ko eo bo t co hq eq tq (tlp cI pd Bs) F od X (pd_a pd) Bs S f1 f2 f3 f4 v349 v354 v374 v395 g1 g2 hX (lw_pool hG) hSx (fun f9 x9 y9 hf9 => go_tr hC (fun f7 hf7 => (lw_ba f7).trans (g8 f7 hf7)) hf9 x9 y9 S) H.size) (cwV 4 ht (gw_V m_409 m_410 m_411 m_1 m_412) rfl rfl rfl (by decide +kernel) ⟨Nat.le_of_ble_eq_true rfl, Nat.le_of_ble_eq_true rfl⟩) (gp_V (ci := 5) (q0 := 0) hK hN (gk_midP (lf := []) hP) (gk_midD (lf := []) hD) rfl rfl) rfl rfl hl.1 rfl (lv_room (Nat.le_of_ble_eq_true rfl)) dL_law_396 ⟨by show (50 + i) + 0 ≤ 600000; omega, by show (6510 + 12 * i) + 0 ≤ 7302250; omega⟩) hP hD hS hA (fun r396 w396 H locs p396 hP hD hS => ?_)
  by_cases ha : own F od v349 ∧ mk 2 v354
  · obtain ⟨hf8, hx8⟩ := lw_cn (by omega) ha.1.1
    obtain ⟨hd8, hy8⟩ := lw_cn (by omega) ha.2
    have hfd := g9 (cn v349) hf8
    obtain ⟨hr9, rfl⟩ := p396.2 ha
    have hP : va_P D vwCl ([(h, .inr (5, [.ref g, .ref ko, .ref (hq 0), .ref (hq 1), .ref (hq 2), .ref (hq 3), .int (nI F)])), ((hq 3), .inl (cI, 8, .inl (fun z9 => nI (od z9)))), (g, .inr (3, [.ref eo, .ref bo, .ref t, .ref co])), (eo, .inr (2, [.ref (eq 0), .ref (eq 1), .ref (eq 2), .ref (eq 3), .int (nI X.2.2.2.2)])), ((eq 0), .inl (cI, 80, .inl X.1)), ((eq 1), .inl (cI, 80, .inl X.2.1)), ((eq 2), .inl (cI, 80, .inl X.2.2.1)), ((eq 3), .inl (cI, 80, .inl X.2.2.2.1)), (bo, .inl (cB, 8, .inr (.inr (.inr (.inr (pd_a pd)))))), (t, .inr (4, [.ref (tq 0), .ref (tq 1), .ref (tq 2), .ref (tq 3), .ref (tq 4), .ref (tq 5), .ref (tq 6), .ref (tq 7), .int (nI (((px_go X (pd_a pd) Bs (cn v349) v374 v395 S).2.1).2.2.2.2))])), ((tq 0), .inl (cI, 64, .inl (fun z9 => nI ((((px_go X (pd_a pd) Bs (cn v349) v374 v395 S).2.1).1) z9)))), ((tq 1), .inl (cI, 64, .inl (fun z9 => nI ((((px_go X (pd_a pd) Bs (cn v349) v374 v395 S).2.1).2.1) z9)))), ((tq 2), .inl (cI, 64, .inl (fun z9 => nI ((((px_go X (pd_a pd) Bs (cn v349) v374 v395 S).2.1).2.2.1) z9)))), ((tq 3), .inl (cJ, 64, .inr (.inl (((px_go X (pd_a pd) Bs (cn v349) v374 v395 S).2.1).2.2.2.1)))), ((tq 4), .inl (cJ, 64, .inr (.inl f1))), ((tq 5), .inl (cJ, 64, .inr (.inl f2))), ((tq 6), .inl (cJ, 64, .inr (.inl f3))), ((tq 7), .inl (cJ, 64, .inr (.inl (tr_bk (px_go X (pd_a pd) Bs (cn v349) v374 v395 S).2.1 (px_go X (pd_a pd) Bs (cn v349) v374 v395 S).2.1.2.2.2.2 (vp_updL (gf_L f4 0 64) (px_go X (pd_a pd) Bs (cn v349) v374 v395 S).1 1))))), (co, .inl (cI, 112, .inl (fun z9 => nI (((px_go X (pd_a pd) Bs (cn v349) v374 v395 S).2.2) z9))))] ++ ((tlp cI pd Bs) ++ [((hq 0), .inl (cI, 8, .inl (fun z9 => nI (ro z9)))), ((hq 1), .inl (cI, 8, .inl (fun z9 => nI (so z9)))), ((hq 2), .inl (cI, 8, .inl (fun z9 => nI (di z9)))), (ko, .inr (1, [.ref (kq 0), .ref (kq 1), .ref (kq 2), .ref (kq 3), .ref (kq 4)])), ((kq 0), .inl (cI, 80, .inl (fun z9 => nI (C.1 z9)))), ((kq 1), .inl (cI, 640, .inl (fun z9 => nI (C.2.1 z9)))), ((kq 2), .inl (cI, 64, .inl (fun z9 => nI (C.2.2.1 z9)))), ((kq 3), .inl (cI, 8, .inl (fun z9 => nI (C.2.2.2.1 z9)))), ((kq 4), .inl (cI, 8, .inl (fun z9 => nI (C.2.2.2.2 z9)))), (mo, .inr (6, [.ref (mq 0), .ref (mq 1), .ref (mq 2), .ref (mq 3), .int (nI X.2.2.2.2), .ref (mq 5), .ref (mq 6), .int (nI F), .ref (mq 8), .ref (mq 9), .ref (mq 10), .ref (mq 11), .ref (mq 12), .ref (mq 13), .ref (mq 14), .ref (mq 15), .ref (mq 16), .ref (mq 17), .ref (mq 18), .ref (mq 19), .ref (mq 20), .ref (mq 21), .ref (mq 22), .int (nI M.1)])), ((mq 8), .inl (cI, 96, .inl (fun z9 => nI (sk z9)))), ((mq 9), .inl (cI, 96, .inl sa9)), ((mq 10), .inl (cI, 96, .inl sb9)), ((mq 11), .inl (cI, 8, .inl (fun z9 => nI (sz z9)))), ((mq 0), .inl (cI, 80, .inl X.1)), ((mq 1), .inl (cI, 80, .inl X.2.1)), ((mq 2), .inl (cI, 80, .inl X.2.2.1)), ((mq 3), .inl (cI, 80, .inl X.2.2.2.1)), ((mq 17), .inl (cJ, 2560, .inr (.inl M.2.2.2.2.2.2.1))), ((mq 16), .inl (cJ, 448, .inr (.inl M.2.2.2.2.2.1))), ((mq 19), .inl (cI, 8, .inl (fun z9 => nI (M.2.1 z9)))), ((mq 20), .inl (cI, 8, .inl (fun z9 => nI (M.2.2.1 z9)))), ((mq 21), .inl (cI, 8, .inl M.2.2.2.1)), ((mq 18), .inl (cZ, 640, .inl (fun z9 => gb (M.2.2.2.2.2.2.2 z9)))), ((mq 22), .inl (cI, 192, .inl (fun z9 => nI (M.2.2.2.2.1 z9)))), ((mq 5), .inl (cI, 8, .inl of9)), ((mq 6), .inl (cI, 8, .inl by9)), ((mq 12), .inl (cI, 80, .inl (fun z9 => nI (eC z9)))), ((mq 13), .inl (cI, 8, .inl (fun z9 => nI (fC z9)))), ((mq 14), .inl (cZ, 80, .inl (fun z9 => gb (R0 z9)))), ((mq 15), .inl (cZ, 8, .inl (fun z9 => gb (Q0 z9))))])) H := hP
    have hD : va_D (fun q : Nat => s.heap.size ≤ q) ([(h, .inr (5, [.ref g, .ref ko, .ref (hq 0), .ref (hq 1), .ref (hq 2), .ref (hq 3), .int (nI F)])), ((hq 3), .inl (cI, 8, .inl (fun z9 => nI (od z9)))), (g, .inr (3, [.ref eo, .ref bo, .ref t, .ref co])), (eo, .inr (2, [.ref (eq 0), .ref (eq 1), .ref (eq 2), .ref (eq 3), .int (nI X.2.2.2.2)])), ((eq 0), .inl (cI, 80, .inl X.1)), ((eq 1), .inl (cI, 80, .inl X.2.1)), ((eq 2), .inl (cI, 80, .inl X.2.2.1)), ((eq 3), .inl (cI, 80, .inl X.2.2.2.1)), (bo, .inl (cB, 8, .inr (.inr (.inr (.inr (pd_a pd)))))), (t, .inr (4, [.ref (tq 0), .ref (tq 1), .ref (tq 2), .ref (tq 3), .ref (tq 4), .ref (tq 5), .ref (tq 6), .ref (tq 7), .int (nI (((px_go X (pd_a pd) Bs (cn v349) v374 v395 S).2.1).2.2.2.2))])), ((tq 0), .inl (cI, 64, .inl (fun z9 => nI ((((px_go X (pd_a pd) Bs (cn v349) v374 v395 S).2.1).1) z9)))), ((tq 1), .inl (cI, 64, .inl (fun z9 => nI ((((px_go X (pd_a pd) Bs (cn v349) v374 v395 S).2.1).2.1) z9)))), ((tq 2), .inl (cI, 64, .inl (fun z9 => nI ((((px_go X (pd_a pd) Bs (cn v349) v374 v395 S).2.1).2.2.1) z9)))), ((tq 3), .inl (cJ, 64, .inr (.inl (((px_go X (pd_a pd) Bs (cn v349) v374 v395 S).2.1).2.2.2.1)))), ((tq 4), .inl (cJ, 64, .inr (.inl f1))), ((tq 5), .inl (cJ, 64, .inr (.inl f2))), ((tq 6), .inl (cJ, 64, .inr (.inl f3))), ((tq 7), .inl (cJ, 64, .inr (.inl (tr_bk (px_go X (pd_a pd) Bs (cn v349) v374 v395 S).2.1 (px_go X (pd_a pd) Bs (cn v349) v374 v395 S).2.1.2.2.2.2 (vp_updL (gf_L f4 0 64) (px_go X (pd_a pd) Bs (cn v349) v374 v395 S).1 1))))), (co, .inl (cI, 112, .inl (fun z9 => nI (((px_go X (pd_a pd) Bs (cn v349) v374 v395 S).2.2) z9))))] ++ ((tlp cI pd Bs) ++ [((hq 0), .inl (cI, 8, .inl (fun z9 => nI (ro z9)))), ((hq 1), .inl (cI, 8, .inl (fun z9 => nI (so z9)))), ((hq 2), .inl (cI, 8, .inl (fun z9 => nI (di z9)))), (ko, .inr (1, [.ref (kq 0), .ref (kq 1), .ref (kq 2), .ref (kq 3), .ref (kq 4)])), ((kq 0), .inl (cI, 80, .inl (fun z9 => nI (C.1 z9)))), ((kq 1), .inl (cI, 640, .inl (fun z9 => nI (C.2.1 z9)))), ((kq 2), .inl (cI, 64, .inl (fun z9 => nI (C.2.2.1 z9)))), ((kq 3), .inl (cI, 8, .inl (fun z9 => nI (C.2.2.2.1 z9)))), ((kq 4), .inl (cI, 8, .inl (fun z9 => nI (C.2.2.2.2 z9)))), (mo, .inr (6, [.ref (mq 0), .ref (mq 1), .ref (mq 2), .ref (mq 3), .int (nI X.2.2.2.2), .ref (mq 5), .ref (mq 6), .int (nI F), .ref (mq 8), .ref (mq 9), .ref (mq 10), .ref (mq 11), .ref (mq 12), .ref (mq 13), .ref (mq 14), .ref (mq 15), .ref (mq 16), .ref (mq 17), .ref (mq 18), .ref (mq 19), .ref (mq 20), .ref (mq 21), .ref (mq 22), .int (nI M.1)])), ((mq 8), .inl (cI, 96, .inl (fun z9 => nI (sk z9)))), ((mq 9), .inl (cI, 96, .inl sa9)), ((mq 10), .inl (cI, 96, .inl sb9)), ((mq 11), .inl (cI, 8, .inl (fun z9 => nI (sz z9)))), ((mq 0), .inl (cI, 80, .inl X.1)), ((mq 1), .inl (cI, 80, .inl X.2.1)), ((mq 2), .inl (cI, 80, .inl X.2.2.1)), ((mq 3), .inl (cI, 80, .inl X.2.2.2.1)), ((mq 17), .inl (cJ, 2560, .inr (.inl M.2.2.2.2.2.2.1))), ((mq 16), .inl (cJ, 448, .inr (.inl M.2.2.2.2.2.1))), ((mq 19), .inl (cI, 8, .inl (fun z9 => nI (M.2.1 z9)))), ((mq 20), .inl (cI, 8, .inl (fun z9 => nI (M.2.2.1 z9)))), ((mq 21), .inl (cI, 8, .inl M.2.2.2.1)), ((mq 18), .inl (cZ, 640, .inl (fun z9 => gb (M.2.2.2.2.2.2.2 z9)))), ((mq 22), .inl (cI, 192, .inl (fun z9 => nI (M.2.2.2.2.1 z9)))), ((mq 5), .inl (cI, 8, .inl of9)), ((mq 6), .inl (cI, 8, .inl by9)), ((mq 12), .inl (cI, 80, .inl (fun z9 => nI (eC z9)))), ((mq 13), .inl (cI, 8, .inl (fun z9 => nI (fC z9)))), ((mq 14), .inl (cZ, 80, .inl (fun z9 => gb (R0 z9)))), ((mq 15), .inl (cZ, 8, .inl (fun z9 => gb (Q0 z9))))])) := hD
    refine lv_aload_n hx hb dL_law_399 rfl (lv_at hl 2 rfl) ?_
    refine lv_aload_n hx hb dL_law_400 rfl (lv_at hl 0 rfl) ?_
    refine lv_iload_n hx hb dL_law_401 rfl (lv_at hl 3 rfl) ?_
    refine lv_iconst (v := 1) hx hb dL_law_402 (by decide) ?_
    refine lv_iadd hx hb dL_law_403 ?_
    refine lv_topi (fun v403 e403 => ?_)
    have n403 : v403 = nI (i + 1) := by rw [e403]; exact gx_add (rfl : (nI i) = (nI i)) (rfl : (1 : Int32) = nI 1)
    subst n403
    have i404 : vp_in (nI (i + 1)) L := gx_in (rfl : (nI (i + 1)) = (nI (i + 1))) (by omega) (by omega)
    refine va_sld hx hb hXs hbl hbA hS i404 dL_law_404 ?_
    refine lv_topi (fun v404 e404 => ?_)
    have q404 : v349 = v404 := e349.trans e404.symm
    subst q404
    rw [hx8]
    refine lv_aload_n hx hb dL_law_405 rfl (lv_at hl 0 rfl) ?_
    refine lv_iload_n hx hb dL_law_406 rfl (lv_at hl 3 rfl) ?_
    refine lv_iconst (v := 2) hx hb dL_law_407 (by decide) ?_
    refine lv_iadd hx hb dL_law_408 ?_
    refine lv_topi (fun v408 e408 => ?_)
    have n408 : v408 = nI (i + 2) := by rw [e408]; exact gx_add (rfl : (nI i) = (nI i)) (rfl : (2 : Int32) = nI 2)
    subst n408
    have i409 : vp_in (nI (i + 2)) L := gx_in (rfl : (nI (i + 2)) = (nI (i + 2))) (by omega) (by omega)
    refine va_sld hx hb hXs hbl hbA hS i409 dL_law_409 ?_
    refine lv_topi (fun v409 e409 => ?_)
    have q409 : v354 = v409 := e354.trans e409.symm
    subst q409
    rw [hy8]
    refine lv_aload_n hx hb dL_law_410 rfl (lv_at hl 0 rfl) ?_
    refine lv_iload_n hx hb dL_law_411 rfl (lv_at hl 3 rfl) ?_
    refine lv_iconst (v := 3) hx hb dL_law_412 (by decide) ?_
    refine lv_iadd hx hb dL_law_413 ?_
    refine lv_topi (fun v413 e413 => ?_)
    have n413 : v413 = nI (i + 3) := by rw [e413]; exact gx_add (rfl : (nI i) = (nI i)) (rfl : (3 : Int32) = nI 3)
    subst n413
    have i414 : vp_in (nI (i + 3)) L := gx_in (rfl : (nI (i + 3)) = (nI (i + 3))) (by omega) (by omega)
    refine va_sld hx hb hXs hbl hbA hS i414 dL_law_414 ?_
    refine lv_topi (fun v414 e414 => ?_)
    have q414 : v359 = v414 := e359.trans e414.symm
    subst q414
    refine lv_i2l hx hb dL_law_415 rfl ?_
    refine lv_topl (fun v415 e415 => ?_)
    have q415 : v360 = v415 := e360.trans e415.symm
    subst q415
    refine lv_bipush (v := 32) hx hb dL_law_416 (by decide) ?_
    refine lv_lshl hx hb dL_law_418 rfl ?_
    refine lv_topl (fun v418 e418 => ?_)
    have q418 : v363 = v418 := e363.trans e418.symm
    subst q418
    refine lv_aload_n hx hb dL_law_419 rfl (lv_at hl 0 rfl) ?_
    refine lv_iload_n hx hb dL_law_420 rfl (lv_at hl 3 rfl) ?_
    refine lv_iconst (v := 4) hx hb dL_law_421 (by decide) ?_
    refine lv_iadd hx hb dL_law_422 ?_
    refine lv_topi (fun v422 e422 => ?_)
    have n422 : v422 = nI (i + 4) := by rw [e422]; exact gx_add (rfl : (nI i) = (nI i)) (rfl : (4 : Int32) = nI 4)
    subst n422
    have i423 : vp_in (nI (i + 4)) L := gx_in (rfl : (nI (i + 4)) = (nI (i + 4))) (by omega) (by omega)
    refine va_sld hx hb hXs hbl hbA hS i423 dL_law_423 ?_
    refine lv_topi (fun v423 e423 => ?_)
    have q423 : v368 = v423 := e368.trans e423.symm
    subst q423
    refine lv_i2l hx hb dL_law_424 rfl ?_
    refine lv_topl (fun v424 e424 => ?_)
    have q424 : v369 = v424 := e369.trans e424.symm
    subst q424
    refine lv_ldc2 (v := 4294967295) hx hb hown (ht _ m_699) dL_law_425 ?_
    refine lv_land hx hb dL_law_428 ?_
    refine lv_topl (fun v428 e428 => ?_)
    have q428 : v373 = v428 := e373.trans e428.symm
    subst q428
    refine lv_lor hx hb dL_law_429 ?_
    refine lv_topl (fun v429 e429 => ?_)
    have q429 : v374 = v429 := e374.trans e429.symm
    subst q429
    refine lv_aload_n hx hb dL_law_430 rfl (lv_at hl 0 rfl) ?_
    refine lv_iload_n hx hb dL_law_431 rfl (lv_at hl 3 rfl) ?_
    refine lv_iconst (v := 5) hx hb dL_law_432 (by decide) ?_
    refine lv_iadd hx hb dL_law_433 ?_
    refine lv_topi (fun v433 e433 => ?_)
    have n433 : v433 = nI (i + 5) := by rw [e433]; exact gx_add (rfl : (nI i) = (nI i)) (rfl : (5 : Int32) = nI 5)
    subst n433
    have i434 : vp_in (nI (i + 5)) L := gx_in (rfl : (nI (i + 5)) = (nI (i + 5))) (by omega) (by omega)
    refine va_sld hx hb hXs hbl hbA hS i434 dL_law_434 ?_
    refine lv_topi (fun v434 e434 => ?_)
    have q434 : v379 = v434 := e379.trans e434.symm
    subst q434
    refine lv_i2l hx hb dL_law_435 rfl ?_
    refine lv_topl (fun v435 e435 => ?_)
    have q435 : v380 = v435 := e380.trans e435.symm
    subst q435
    refine lv_bipush (v := 32) hx hb dL_law_436 (by decide) ?_
    refine lv_lshl hx hb dL_law_438 rfl ?_
    refine lv_topl (fun v438 e438 => ?_)
    have q438 : v383 = v438 := e383.trans e438.symm
    subst q438
    refine lv_aload_n hx hb dL_law_439 rfl (lv_at hl 0 rfl) ?_
    refine lv_iload_n hx hb dL_law_440 rfl (lv_at hl 3 rfl) ?_
    refine lv_bipush (v := 6) hx hb dL_law_441 (by decide) ?_
    refine lv_iadd hx hb dL_law_443 ?_
    refine lv_topi (fun v443 e443 => ?_)
    have n443 : v443 = nI (i + 6) := by rw [e443]; exact gx_add (rfl : (nI i) = (nI i)) (rfl : (6 : Int32) = nI 6)
    subst n443
    have i444 : vp_in (nI (i + 6)) L := gx_in (rfl : (nI (i + 6)) = (nI (i + 6))) (by omega) (by omega)
    refine va_sld hx hb hXs hbl hbA hS i444 dL_law_444 ?_
    refine lv_topi (fun v444 e444 => ?_)
    have q444 : v389 = v444 := e389.trans e444.symm
    subst q444
    refine lv_i2l hx hb dL_law_445 rfl ?_
    refine lv_topl (fun v445 e445 => ?_)
    have q445 : v390 = v445 := e390.trans e445.symm
    subst q445
    refine lv_ldc2 (v := 4294967295) hx hb hown (ht _ m_699) dL_law_446 ?_
    refine lv_land hx hb dL_law_449 ?_
    refine lv_topl (fun v449 e449 => ?_)
    have q449 : v394 = v449 := e394.trans e449.symm
    subst q449
    refine lv_lor hx hb dL_law_450 ?_
    refine lv_topl (fun v450 e450 => ?_)
    have q450 : v395 = v450 := e395.trans e450.symm
    subst q450
    obtain ⟨u9, Mf, hG0, hN0, hv0, hv1⟩ := run_same (gi_MH hG lw_ba) (show (cn v349) < 8 by omega) ⟨hf8, ha.1.2⟩ v374 v395 (p1 := nI (cn v354)) (p2 := -1) (Or.inr ⟨_, hd8, rfl⟩) (Or.inl rfl) M.2.1 M.2.2.1 M.2.2.2.1 M.2.2.2.2.1 M.2.2.2.2.2.1 M.2.2.2.2.2.2.1 M.2.2.2.2.2.2.2 S f1 f2 f3 f4
    obtain ⟨hP, hD⟩ := pm_18 hP hD
    refine gc_ml (lf := []) (W0 := [(mo, .inr (6, [.ref (mq 0), .ref (mq 1), .ref (mq 2), .ref (mq 3), .int (nI X.2.2.2.2), .ref (mq 5), .ref (mq 6), .int (nI F), .ref (mq 8), .ref (mq 9), .ref (mq 10), .ref (mq 11), .ref (mq 12), .ref (mq 13), .ref (mq 14), .ref (mq 15), .ref (mq 16), .ref (mq 17), .ref (mq 18), .ref (mq 19), .ref (mq 20), .ref (mq 21), .ref (mq 22), .int (nI M.1)])), ((mq 8), .inl (cI, 96, .inl (fun z9 => nI (sk z9)))), ((mq 9), .inl (cI, 96, .inl sa9)), ((mq 10), .inl (cI, 96, .inl sb9)), ((mq 11), .inl (cI, 8, .inl (fun z9 => nI (sz z9)))), ((mq 0), .inl (cI, 80, .inl X.1)), ((mq 1), .inl (cI, 80, .inl X.2.1)), ((mq 2), .inl (cI, 80, .inl X.2.2.1)), ((mq 3), .inl (cI, 80, .inl X.2.2.2.1)), ((mq 17), .inl (cJ, 2560, .inr (.inl M.2.2.2.2.2.2.1))), ((mq 16), .inl (cJ, 448, .inr (.inl M.2.2.2.2.2.1))), ((mq 19), .inl (cI, 8, .inl (fun z9 => nI (M.2.1 z9)))), ((mq 20), .inl (cI, 8, .inl (fun z9 => nI (M.2.2.1 z9)))), ((mq 21), .inl (cI, 8, .inl M.2.2.2.1)), ((mq 18), .inl (cZ, 640, .inl (fun z9 => gb (M.2.2.2.2.2.2.2 z9)))), ((mq 22), .inl (cI, 192, .inl (fun z9 => nI (M.2.2.2.2.1 z9)))), ((mq 5), .inl (cI, 8, .inl of9))]) (rt := ([(h, .inr (5, [.ref g, .ref ko, .ref (hq 0), .ref (hq 1), .ref (hq 2), .ref (hq 3), .int (nI F)])), ((hq 3), .inl (cI, 8, .inl (fun z9 => nI (od z9)))), (g, .inr (3, [.ref eo, .ref bo, .ref t, .ref co])), (eo, .inr (2, [.ref (eq 0), .ref (eq 1), .ref (eq 2), .ref (eq 3), .int (nI X.2.2.2.2)])), ((eq 0), .inl (cI, 80, .inl X.1)), ((eq 1), .inl (cI, 80, .inl X.2.1)), ((eq 2), .inl (cI, 80, .inl X.2.2.1)), ((eq 3), .inl (cI, 80, .inl X.2.2.2.1)), (bo, .inl (cB, 8, .inr (.inr (.inr (.inr (pd_a pd)))))), (t, .inr (4, [.ref (tq 0), .ref (tq 1), .ref (tq 2), .ref (tq 3), .ref (tq 4), .ref (tq 5), .ref (tq 6), .ref (tq 7), .int (nI (((px_go X (pd_a pd) Bs (cn v349) v374 v395 S).2.1).2.2.2.2))])), ((tq 0), .inl (cI, 64, .inl (fun z9 => nI ((((px_go X (pd_a pd) Bs (cn v349) v374 v395 S).2.1).1) z9)))), ((tq 1), .inl (cI, 64, .inl (fun z9 => nI ((((px_go X (pd_a pd) Bs (cn v349) v374 v395 S).2.1).2.1) z9)))), ((tq 2), .inl (cI, 64, .inl (fun z9 => nI ((((px_go X (pd_a pd) Bs (cn v349) v374 v395 S).2.1).2.2.1) z9)))), ((tq 3), .inl (cJ, 64, .inr (.inl (((px_go X (pd_a pd) Bs (cn v349) v374 v395 S).2.1).2.2.2.1)))), ((tq 4), .inl (cJ, 64, .inr (.inl f1))), ((tq 5), .inl (cJ, 64, .inr (.inl f2))), ((tq 6), .inl (cJ, 64, .inr (.inl f3))), ((tq 7), .inl (cJ, 64, .inr (.inl (tr_bk (px_go X (pd_a pd) Bs (cn v349) v374 v395 S).2.1 (px_go X (pd_a pd) Bs (cn v349) v374 v395 S).2.1.2.2.2.2 (vp_updL (gf_L f4 0 64) (px_go X (pd_a pd) Bs (cn v349) v374 v395 S).1 1))))), (co, .inl (cI, 112, .inl (fun z9 => nI (((px_go X (pd_a pd) Bs (cn v349) v374 v395 S).2.2) z9))))] ++ ((tlp cI pd Bs) ++ [((hq 0), .inl (cI, 8, .inl (fun z9 => nI (ro z9)))), ((hq 1), .inl (cI, 8, .inl (fun z9 => nI (so z9)))), ((hq 2), .inl (cI, 8, .inl (fun z9 => nI (di z9)))), (ko, .inr (1, [.ref (kq 0), .ref (kq 1), .ref (kq 2), .ref (kq 3), .ref (kq 4)])), ((kq 0), .inl (cI, 80, .inl (fun z9 => nI (C.1 z9)))), ((kq 1), .inl (cI, 640, .inl (fun z9 => nI (C.2.1 z9)))), ((kq 2), .inl (cI, 64, .inl (fun z9 => nI (C.2.2.1 z9)))), ((kq 3), .inl (cI, 8, .inl (fun z9 => nI (C.2.2.2.1 z9)))), ((kq 4), .inl (cI, 8, .inl (fun z9 => nI (C.2.2.2.2 z9)))), ((mq 6), .inl (cI, 8, .inl by9)), ((mq 12), .inl (cI, 80, .inl (fun z9 => nI (eC z9)))), ((mq 13), .inl (cI, 8, .inl (fun z9 => nI (fC z9)))), ((mq 14), .inl (cZ, 80, .inl (fun z9 => gb (R0 z9)))), ((mq 15), .inl (cZ, 8, .inl (fun z9 => gb (Q0 z9))))]))) (va_runV (As := [.int (nI (cn v349)), .int (nI (cn v354)), .long v374, .long v395]) (rest := [.long r396]) ⟨hx, hb, hml, hown, ht⟩ (c_M_gradient l D cI cJ cB cZ mo mq F M.1 X sk sa9 sb9 sz (fun f => @ite _ (f < 8 ∧ ob F od f) (Classical.propDecidable _) (Bs f).2.2.2.2.2.2.2 0) M.2.1 M.2.2.1 M.2.2.2.1 M.2.2.2.2.1 M.2.2.2.2.2.1 M.2.2.2.2.2.2.1 M.2.2.2.2.2.2.2 Mf u9 of9 (cn v349) (cn v354) v374 v395 g1 hf8 (hfd.1 ha.1.2).1 hd8 hN0 hG0 hX hsz hsk hsb hs4 hs0 hs1 (gi_hlk hG) H.size) (cwV 4 ht (gw_V m_683 m_684 m_685 m_6 m_686) rfl rfl rfl (by decide +kernel) ⟨Nat.le_of_ble_eq_true rfl, Nat.le_of_ble_eq_true rfl⟩) (gp_V (ci := 6) (q0 := 0) hK hN (gk_midP (lf := []) hP) (gk_midD (lf := []) hD) rfl rfl) rfl rfl hl.1 rfl (lv_room (Nat.le_of_ble_eq_true rfl)) dL_law_451 ⟨by show ((50 + i) + 0) + 0 ≤ 600000; omega, by show ((6510 + 12 * i) + 0) + 0 ≤ 7302250; omega⟩) hP hD hS hA (fun r451 w451 H locs p451 hP hD hS => ?_)
    obtain ⟨hrm, rfl⟩ := p451
    have hP : va_P D vwCl ([(mo, .inr (6, [.ref (mq 0), .ref (mq 1), .ref (mq 2), .ref (mq 3), .int (nI X.2.2.2.2), .ref (mq 5), .ref (mq 6), .int (nI F), .ref (mq 8), .ref (mq 9), .ref (mq 10), .ref (mq 11), .ref (mq 12), .ref (mq 13), .ref (mq 14), .ref (mq 15), .ref (mq 16), .ref (mq 17), .ref (mq 18), .ref (mq 19), .ref (mq 20), .ref (mq 21), .ref (mq 22), .int (nI Mf.1)])), ((mq 8), .inl (cI, 96, .inl (fun z9 => nI (sk z9)))), ((mq 9), .inl (cI, 96, .inl sa9)), ((mq 10), .inl (cI, 96, .inl sb9)), ((mq 11), .inl (cI, 8, .inl (fun z9 => nI (sz z9)))), ((mq 0), .inl (cI, 80, .inl X.1)), ((mq 1), .inl (cI, 80, .inl X.2.1)), ((mq 2), .inl (cI, 80, .inl X.2.2.1)), ((mq 3), .inl (cI, 80, .inl X.2.2.2.1)), ((mq 17), .inl (cJ, 2560, .inr (.inl Mf.2.2.2.2.2.2.1))), ((mq 16), .inl (cJ, 448, .inr (.inl Mf.2.2.2.2.2.1))), ((mq 19), .inl (cI, 8, .inl (fun z9 => nI (Mf.2.1 z9)))), ((mq 20), .inl (cI, 8, .inl (fun z9 => nI (Mf.2.2.1 z9)))), ((mq 21), .inl (cI, 8, .inl Mf.2.2.2.1)), ((mq 18), .inl (cZ, 640, .inl (fun z9 => gb (Mf.2.2.2.2.2.2.2 z9)))), ((mq 22), .inl (cI, 192, .inl (fun z9 => nI (Mf.2.2.2.2.1 z9)))), ((mq 5), .inl (cI, 8, .inl of9)), (h, .inr (5, [.ref g, .ref ko, .ref (hq 0), .ref (hq 1), .ref (hq 2), .ref (hq 3), .int (nI F)])), ((hq 3), .inl (cI, 8, .inl (fun z9 => nI (od z9)))), (g, .inr (3, [.ref eo, .ref bo, .ref t, .ref co])), (eo, .inr (2, [.ref (eq 0), .ref (eq 1), .ref (eq 2), .ref (eq 3), .int (nI X.2.2.2.2)])), ((eq 0), .inl (cI, 80, .inl X.1)), ((eq 1), .inl (cI, 80, .inl X.2.1)), ((eq 2), .inl (cI, 80, .inl X.2.2.1)), ((eq 3), .inl (cI, 80, .inl X.2.2.2.1)), (bo, .inl (cB, 8, .inr (.inr (.inr (.inr (pd_a pd)))))), (t, .inr (4, [.ref (tq 0), .ref (tq 1), .ref (tq 2), .ref (tq 3), .ref (tq 4), .ref (tq 5), .ref (tq 6), .ref (tq 7), .int (nI (((px_go X (pd_a pd) Bs (cn v349) v374 v395 S).2.1).2.2.2.2))])), ((tq 0), .inl (cI, 64, .inl (fun z9 => nI ((((px_go X (pd_a pd) Bs (cn v349) v374 v395 S).2.1).1) z9)))), ((tq 1), .inl (cI, 64, .inl (fun z9 => nI ((((px_go X (pd_a pd) Bs (cn v349) v374 v395 S).2.1).2.1) z9)))), ((tq 2), .inl (cI, 64, .inl (fun z9 => nI ((((px_go X (pd_a pd) Bs (cn v349) v374 v395 S).2.1).2.2.1) z9)))), ((tq 3), .inl (cJ, 64, .inr (.inl (((px_go X (pd_a pd) Bs (cn v349) v374 v395 S).2.1).2.2.2.1)))), ((tq 4), .inl (cJ, 64, .inr (.inl f1))), ((tq 5), .inl (cJ, 64, .inr (.inl f2))), ((tq 6), .inl (cJ, 64, .inr (.inl f3))), ((tq 7), .inl (cJ, 64, .inr (.inl (tr_bk (px_go X (pd_a pd) Bs (cn v349) v374 v395 S).2.1 (px_go X (pd_a pd) Bs (cn v349) v374 v395 S).2.1.2.2.2.2 (vp_updL (gf_L f4 0 64) (px_go X (pd_a pd) Bs (cn v349) v374 v395 S).1 1))))), (co, .inl (cI, 112, .inl (fun z9 => nI (((px_go X (pd_a pd) Bs (cn v349) v374 v395 S).2.2) z9))))] ++ ((tlp cI pd Bs) ++ [((hq 0), .inl (cI, 8, .inl (fun z9 => nI (ro z9)))), ((hq 1), .inl (cI, 8, .inl (fun z9 => nI (so z9)))), ((hq 2), .inl (cI, 8, .inl (fun z9 => nI (di z9)))), (ko, .inr (1, [.ref (kq 0), .ref (kq 1), .ref (kq 2), .ref (kq 3), .ref (kq 4)])), ((kq 0), .inl (cI, 80, .inl (fun z9 => nI (C.1 z9)))), ((kq 1), .inl (cI, 640, .inl (fun z9 => nI (C.2.1 z9)))), ((kq 2), .inl (cI, 64, .inl (fun z9 => nI (C.2.2.1 z9)))), ((kq 3), .inl (cI, 8, .inl (fun z9 => nI (C.2.2.2.1 z9)))), ((kq 4), .inl (cI, 8, .inl (fun z9 => nI (C.2.2.2.2 z9)))), ((mq 6), .inl (cI, 8, .inl by9)), ((mq 12), .inl (cI, 80, .inl (fun z9 => nI (eC z9)))), ((mq 13), .inl (cI, 8, .inl (fun z9 => nI (fC z9)))), ((mq 14), .inl (cZ, 80, .inl (fun z9 => gb (R0 z9)))), ((mq 15), .inl (cZ, 8, .inl (fun z9 => gb (Q0 z9))))])) H := hP
    have hD : va_D (fun q : Nat => s.heap.size ≤ q) ([(mo, .inr (6, [.ref (mq 0), .ref (mq 1), .ref (mq 2), .ref (mq 3), .int (nI X.2.2.2.2), .ref (mq 5), .ref (mq 6), .int (nI F), .ref (mq 8), .ref (mq 9), .ref (mq 10), .ref (mq 11), .ref (mq 12), .ref (mq 13), .ref (mq 14), .ref (mq 15), .ref (mq 16), .ref (mq 17), .ref (mq 18), .ref (mq 19), .ref (mq 20), .ref (mq 21), .ref (mq 22), .int (nI Mf.1)])), ((mq 8), .inl (cI, 96, .inl (fun z9 => nI (sk z9)))), ((mq 9), .inl (cI, 96, .inl sa9)), ((mq 10), .inl (cI, 96, .inl sb9)), ((mq 11), .inl (cI, 8, .inl (fun z9 => nI (sz z9)))), ((mq 0), .inl (cI, 80, .inl X.1)), ((mq 1), .inl (cI, 80, .inl X.2.1)), ((mq 2), .inl (cI, 80, .inl X.2.2.1)), ((mq 3), .inl (cI, 80, .inl X.2.2.2.1)), ((mq 17), .inl (cJ, 2560, .inr (.inl Mf.2.2.2.2.2.2.1))), ((mq 16), .inl (cJ, 448, .inr (.inl Mf.2.2.2.2.2.1))), ((mq 19), .inl (cI, 8, .inl (fun z9 => nI (Mf.2.1 z9)))), ((mq 20), .inl (cI, 8, .inl (fun z9 => nI (Mf.2.2.1 z9)))), ((mq 21), .inl (cI, 8, .inl Mf.2.2.2.1)), ((mq 18), .inl (cZ, 640, .inl (fun z9 => gb (Mf.2.2.2.2.2.2.2 z9)))), ((mq 22), .inl (cI, 192, .inl (fun z9 => nI (Mf.2.2.2.2.1 z9)))), ((mq 5), .inl (cI, 8, .inl of9)), (h, .inr (5, [.ref g, .ref ko, .ref (hq 0), .ref (hq 1), .ref (hq 2), .ref (hq 3), .int (nI F)])), ((hq 3), .inl (cI, 8, .inl (fun z9 => nI (od z9)))), (g, .inr (3, [.ref eo, .ref bo, .ref t, .ref co])), (eo, .inr (2, [.ref (eq 0), .ref (eq 1), .ref (eq 2), .ref (eq 3), .int (nI X.2.2.2.2)])), ((eq 0), .inl (cI, 80, .inl X.1)), ((eq 1), .inl (cI, 80, .inl X.2.1)), ((eq 2), .inl (cI, 80, .inl X.2.2.1)), ((eq 3), .inl (cI, 80, .inl X.2.2.2.1)), (bo, .inl (cB, 8, .inr (.inr (.inr (.inr (pd_a pd)))))), (t, .inr (4, [.ref (tq 0), .ref (tq 1), .ref (tq 2), .ref (tq 3), .ref (tq 4), .ref (tq 5), .ref (tq 6), .ref (tq 7), .int (nI (((px_go X (pd_a pd) Bs (cn v349) v374 v395 S).2.1).2.2.2.2))])), ((tq 0), .inl (cI, 64, .inl (fun z9 => nI ((((px_go X (pd_a pd) Bs (cn v349) v374 v395 S).2.1).1) z9)))), ((tq 1), .inl (cI, 64, .inl (fun z9 => nI ((((px_go X (pd_a pd) Bs (cn v349) v374 v395 S).2.1).2.1) z9)))), ((tq 2), .inl (cI, 64, .inl (fun z9 => nI ((((px_go X (pd_a pd) Bs (cn v349) v374 v395 S).2.1).2.2.1) z9)))), ((tq 3), .inl (cJ, 64, .inr (.inl (((px_go X (pd_a pd) Bs (cn v349) v374 v395 S).2.1).2.2.2.1)))), ((tq 4), .inl (cJ, 64, .inr (.inl f1))), ((tq 5), .inl (cJ, 64, .inr (.inl f2))), ((tq 6), .inl (cJ, 64, .inr (.inl f3))), ((tq 7), .inl (cJ, 64, .inr (.inl (tr_bk (px_go X (pd_a pd) Bs (cn v349) v374 v395 S).2.1 (px_go X (pd_a pd) Bs (cn v349) v374 v395 S).2.1.2.2.2.2 (vp_updL (gf_L f4 0 64) (px_go X (pd_a pd) Bs (cn v349) v374 v395 S).1 1))))), (co, .inl (cI, 112, .inl (fun z9 => nI (((px_go X (pd_a pd) Bs (cn v349) v374 v395 S).2.2) z9))))] ++ ((tlp cI pd Bs) ++ [((hq 0), .inl (cI, 8, .inl (fun z9 => nI (ro z9)))), ((hq 1), .inl (cI, 8, .inl (fun z9 => nI (so z9)))), ((hq 2), .inl (cI, 8, .inl (fun z9 => nI (di z9)))), (ko, .inr (1, [.ref (kq 0), .ref (kq 1), .ref (kq 2), .ref (kq 3), .ref (kq 4)])), ((kq 0), .inl (cI, 80, .inl (fun z9 => nI (C.1 z9)))), ((kq 1), .inl (cI, 640, .inl (fun z9 => nI (C.2.1 z9)))), ((kq 2), .inl (cI, 64, .inl (fun z9 => nI (C.2.2.1 z9)))), ((kq 3), .inl (cI, 8, .inl (fun z9 => nI (C.2.2.2.1 z9)))), ((kq 4), .inl (cI, 8, .inl (fun z9 => nI (C.2.2.2.2 z9)))), ((mq 6), .inl (cI, 8, .inl by9)), ((mq 12), .inl (cI, 80, .inl (fun z9 => nI (eC z9)))), ((mq 13), .inl (cI, 8, .inl (fun z9 => nI (fC z9)))), ((mq 14), .inl (cZ, 80, .inl (fun z9 => gb (R0 z9)))), ((mq 15), .inl (cZ, 8, .inl (fun z9 => gb (Q0 z9))))])) := hD
    refine W.lcmp hx hb dL_law_454 ?_
    refine lv_topi (fun v454 e454 => ?_)
    refine lv_if_eq (tgt := 562) hx hb dL_law_455 (by decide) (fun c455 => ?_) (fun c455 => ?_)
    · refine W.widen (k := 50 + i + 7) (n := 6510 + 12 * i + 81) (show (((50 + i) + 0) + 0) ≤ 50 + i + 7 by omega) (show (((6510 + 12 * i) + 0) + 0) ≤ 6510 + 12 * i + 81 by omega) ?_
      obtain ⟨hP, hD⟩ := pm_19 hP hD
      have hP : va_P D vwCl (lw_W cI cJ cB cZ h g ko eo bo t co mo hq kq eq tq mq F ro so di od C X pd Bs ((px_go X (pd_a pd) Bs (cn v349) v374 v395 S).2) f1 f2 f3 (tr_bk (px_go X (pd_a pd) Bs (cn v349) v374 v395 S).2.1 (px_go X (pd_a pd) Bs (cn v349) v374 v395 S).2.1.2.2.2.2 (vp_updL (gf_L f4 0 64) (px_go X (pd_a pd) Bs (cn v349) v374 v395 S).1 1)) of9 by9 sk sa9 sb9 sz eC fC R0 Q0 Mf) H := hP
      have hD : va_D (fun q : Nat => s.heap.size ≤ q) (lw_W cI cJ cB cZ h g ko eo bo t co mo hq kq eq tq mq F ro so di od C X pd Bs ((px_go X (pd_a pd) Bs (cn v349) v374 v395 S).2) f1 f2 f3 (tr_bk (px_go X (pd_a pd) Bs (cn v349) v374 v395 S).2.1 (px_go X (pd_a pd) Bs (cn v349) v374 v395 S).2.1.2.2.2.2 (vp_updL (gf_L f4 0 64) (px_go X (pd_a pd) Bs (cn v349) v374 v395 S).1 1)) of9 by9 sk sa9 sb9 sz eC fC R0 Q0 Mf) := hD
      exact hJ F ro so di od C X pd Bs ((px_go X (pd_a pd) Bs (cn v349) v374 v395 S).2) f1 f2 f3 (tr_bk (px_go X (pd_a pd) Bs (cn v349) v374 v395 S).2.1 (px_go X (pd_a pd) Bs (cn v349) v374 v395 S).2.1.2.2.2.2 (vp_updL (gf_L f4 0 64) (px_go X (pd_a pd) Bs (cn v349) v374 v395 S).1 1)) of9 by9 sk sa9 sb9 sz eC fC R0 Q0 Mf ⟨hG, lw_sx hG hSx (show (cn v349) < 8 by omega) v374 v395, heC, hfC, hp8⟩ _ _ _ hP hD hS (lv_sub hl [0, 1, 2, 3] rfl)
    · exact absurd (by rw [e454]; exact (gl_eq _ _).mpr (by rw [hr9, hrm]; exact (hv1 _ hd8 rfl).2.1)) c455
  · obtain ⟨hr9, rfl⟩ := p396.1 ha
    have hP : va_P D vwCl ([(h, .inr (5, [.ref g, .ref ko, .ref (hq 0), .ref (hq 1), .ref (hq 2), .ref (hq 3), .int (nI F)])), ((hq 3), .inl (cI, 8, .inl (fun z9 => nI (od z9)))), (g, .inr (3, [.ref eo, .ref bo, .ref t, .ref co])), (eo, .inr (2, [.ref (eq 0), .ref (eq 1), .ref (eq 2), .ref (eq 3), .int (nI X.2.2.2.2)])), ((eq 0), .inl (cI, 80, .inl X.1)), ((eq 1), .inl (cI, 80, .inl X.2.1)), ((eq 2), .inl (cI, 80, .inl X.2.2.1)), ((eq 3), .inl (cI, 80, .inl X.2.2.2.1)), (bo, .inl (cB, 8, .inr (.inr (.inr (.inr (pd_a pd)))))), (t, .inr (4, [.ref (tq 0), .ref (tq 1), .ref (tq 2), .ref (tq 3), .ref (tq 4), .ref (tq 5), .ref (tq 6), .ref (tq 7), .int (nI S.1.2.2.2.2)])), ((tq 0), .inl (cI, 64, .inl (fun z9 => nI (S.1.1 z9)))), ((tq 1), .inl (cI, 64, .inl (fun z9 => nI (S.1.2.1 z9)))), ((tq 2), .inl (cI, 64, .inl (fun z9 => nI (S.1.2.2.1 z9)))), ((tq 3), .inl (cJ, 64, .inr (.inl S.1.2.2.2.1))), ((tq 4), .inl (cJ, 64, .inr (.inl f1))), ((tq 5), .inl (cJ, 64, .inr (.inl f2))), ((tq 6), .inl (cJ, 64, .inr (.inl f3))), ((tq 7), .inl (cJ, 64, .inr (.inl f4))), (co, .inl (cI, 112, .inl (fun z9 => nI (S.2 z9))))] ++ ((tlp cI pd Bs) ++ [((hq 0), .inl (cI, 8, .inl (fun z9 => nI (ro z9)))), ((hq 1), .inl (cI, 8, .inl (fun z9 => nI (so z9)))), ((hq 2), .inl (cI, 8, .inl (fun z9 => nI (di z9)))), (ko, .inr (1, [.ref (kq 0), .ref (kq 1), .ref (kq 2), .ref (kq 3), .ref (kq 4)])), ((kq 0), .inl (cI, 80, .inl (fun z9 => nI (C.1 z9)))), ((kq 1), .inl (cI, 640, .inl (fun z9 => nI (C.2.1 z9)))), ((kq 2), .inl (cI, 64, .inl (fun z9 => nI (C.2.2.1 z9)))), ((kq 3), .inl (cI, 8, .inl (fun z9 => nI (C.2.2.2.1 z9)))), ((kq 4), .inl (cI, 8, .inl (fun z9 => nI (C.2.2.2.2 z9)))), (mo, .inr (6, [.ref (mq 0), .ref (mq 1), .ref (mq 2), .ref (mq 3), .int (nI X.2.2.2.2), .ref (mq 5), .ref (mq 6), .int (nI F), .ref (mq 8), .ref (mq 9), .ref (mq 10), .ref (mq 11), .ref (mq 12), .ref (mq 13), .ref (mq 14), .ref (mq 15), .ref (mq 16), .ref (mq 17), .ref (mq 18), .ref (mq 19), .ref (mq 20), .ref (mq 21), .ref (mq 22), .int (nI M.1)])), ((mq 8), .inl (cI, 96, .inl (fun z9 => nI (sk z9)))), ((mq 9), .inl (cI, 96, .inl sa9)), ((mq 10), .inl (cI, 96, .inl sb9)), ((mq 11), .inl (cI, 8, .inl (fun z9 => nI (sz z9)))), ((mq 0), .inl (cI, 80, .inl X.1)), ((mq 1), .inl (cI, 80, .inl X.2.1)), ((mq 2), .inl (cI, 80, .inl X.2.2.1)), ((mq 3), .inl (cI, 80, .inl X.2.2.2.1)), ((mq 17), .inl (cJ, 2560, .inr (.inl M.2.2.2.2.2.2.1))), ((mq 16), .inl (cJ, 448, .inr (.inl M.2.2.2.2.2.1))), ((mq 19), .inl (cI, 8, .inl (fun z9 => nI (M.2.1 z9)))), ((mq 20), .inl (cI, 8, .inl (fun z9 => nI (M.2.2.1 z9)))), ((mq 21), .inl (cI, 8, .inl M.2.2.2.1)), ((mq 18), .inl (cZ, 640, .inl (fun z9 => gb (M.2.2.2.2.2.2.2 z9)))), ((mq 22), .inl (cI, 192, .inl (fun z9 => nI (M.2.2.2.2.1 z9)))), ((mq 5), .inl (cI, 8, .inl of9)), ((mq 6), .inl (cI, 8, .inl by9)), ((mq 12), .inl (cI, 80, .inl (fun z9 => nI (eC z9)))), ((mq 13), .inl (cI, 8, .inl (fun z9 => nI (fC z9)))), ((mq 14), .inl (cZ, 80, .inl (fun z9 => gb (R0 z9)))), ((mq 15), .inl (cZ, 8, .inl (fun z9 => gb (Q0 z9))))])) H := hP
    have hD : va_D (fun q : Nat => s.heap.size ≤ q) ([(h, .inr (5, [.ref g, .ref ko, .ref (hq 0), .ref (hq 1), .ref (hq 2), .ref (hq 3), .int (nI F)])), ((hq 3), .inl (cI, 8, .inl (fun z9 => nI (od z9)))), (g, .inr (3, [.ref eo, .ref bo, .ref t, .ref co])), (eo, .inr (2, [.ref (eq 0), .ref (eq 1), .ref (eq 2), .ref (eq 3), .int (nI X.2.2.2.2)])), ((eq 0), .inl (cI, 80, .inl X.1)), ((eq 1), .inl (cI, 80, .inl X.2.1)), ((eq 2), .inl (cI, 80, .inl X.2.2.1)), ((eq 3), .inl (cI, 80, .inl X.2.2.2.1)), (bo, .inl (cB, 8, .inr (.inr (.inr (.inr (pd_a pd)))))), (t, .inr (4, [.ref (tq 0), .ref (tq 1), .ref (tq 2), .ref (tq 3), .ref (tq 4), .ref (tq 5), .ref (tq 6), .ref (tq 7), .int (nI S.1.2.2.2.2)])), ((tq 0), .inl (cI, 64, .inl (fun z9 => nI (S.1.1 z9)))), ((tq 1), .inl (cI, 64, .inl (fun z9 => nI (S.1.2.1 z9)))), ((tq 2), .inl (cI, 64, .inl (fun z9 => nI (S.1.2.2.1 z9)))), ((tq 3), .inl (cJ, 64, .inr (.inl S.1.2.2.2.1))), ((tq 4), .inl (cJ, 64, .inr (.inl f1))), ((tq 5), .inl (cJ, 64, .inr (.inl f2))), ((tq 6), .inl (cJ, 64, .inr (.inl f3))), ((tq 7), .inl (cJ, 64, .inr (.inl f4))), (co, .inl (cI, 112, .inl (fun z9 => nI (S.2 z9))))] ++ ((tlp cI pd Bs) ++ [((hq 0), .inl (cI, 8, .inl (fun z9 => nI (ro z9)))), ((hq 1), .inl (cI, 8, .inl (fun z9 => nI (so z9)))), ((hq 2), .inl (cI, 8, .inl (fun z9 => nI (di z9)))), (ko, .inr (1, [.ref (kq 0), .ref (kq 1), .ref (kq 2), .ref (kq 3), .ref (kq 4)])), ((kq 0), .inl (cI, 80, .inl (fun z9 => nI (C.1 z9)))), ((kq 1), .inl (cI, 640, .inl (fun z9 => nI (C.2.1 z9)))), ((kq 2), .inl (cI, 64, .inl (fun z9 => nI (C.2.2.1 z9)))), ((kq 3), .inl (cI, 8, .inl (fun z9 => nI (C.2.2.2.1 z9)))), ((kq 4), .inl (cI, 8, .inl (fun z9 => nI (C.2.2.2.2 z9)))), (mo, .inr (6, [.ref (mq 0), .ref (mq 1), .ref (mq 2), .ref (mq 3), .int (nI X.2.2.2.2), .ref (mq 5), .ref (mq 6), .int (nI F), .ref (mq 8), .ref (mq 9), .ref (mq 10), .ref (mq 11), .ref (mq 12), .ref (mq 13), .ref (mq 14), .ref (mq 15), .ref (mq 16), .ref (mq 17), .ref (mq 18), .ref (mq 19), .ref (mq 20), .ref (mq 21), .ref (mq 22), .int (nI M.1)])), ((mq 8), .inl (cI, 96, .inl (fun z9 => nI (sk z9)))), ((mq 9), .inl (cI, 96, .inl sa9)), ((mq 10), .inl (cI, 96, .inl sb9)), ((mq 11), .inl (cI, 8, .inl (fun z9 => nI (sz z9)))), ((mq 0), .inl (cI, 80, .inl X.1)), ((mq 1), .inl (cI, 80, .inl X.2.1)), ((mq 2), .inl (cI, 80, .inl X.2.2.1)), ((mq 3), .inl (cI, 80, .inl X.2.2.2.1)), ((mq 17), .inl (cJ, 2560, .inr (.inl M.2.2.2.2.2.2.1))), ((mq 16), .inl (cJ, 448, .inr (.inl M.2.2.2.2.2.1))), ((mq 19), .inl (cI, 8, .inl (fun z9 => nI (M.2.1 z9)))), ((mq 20), .inl (cI, 8, .inl (fun z9 => nI (M.2.2.1 z9)))), ((mq 21), .inl (cI, 8, .inl M.2.2.2.1)), ((mq 18), .inl (cZ, 640, .inl (fun z9 => gb (M.2.2.2.2.2.2.2 z9)))), ((mq 22), .inl (cI, 192, .inl (fun z9 => nI (M.2.2.2.2.1 z9)))), ((mq 5), .inl (cI, 8, .inl of9)), ((mq 6), .inl (cI, 8, .inl by9)), ((mq 12), .inl (cI, 80, .inl (fun z9 => nI (eC z9)))), ((mq 13), .inl (cI, 8, .inl (fun z9 => nI (fC z9)))), ((mq 14), .inl (cZ, 80, .inl (fun z9 => gb (R0 z9)))), ((mq 15), .inl (cZ, 8, .inl (fun z9 => gb (Q0 z9))))])) := hD
    refine lv_aload_n hx hb dL_law_399 rfl (lv_at hl 2 rfl) ?_
    refine lv_aload_n hx hb dL_law_400 rfl (lv_at hl 0 rfl) ?_
    refine lv_iload_n hx hb dL_law_401 rfl (lv_at hl 3 rfl) ?_
    refine lv_iconst (v := 1) hx hb dL_law_402 (by decide) ?_
    refine lv_iadd hx hb dL_law_403 ?_
    refine lv_topi (fun v403 e403 => ?_)
    have n403 : v403 = nI (i + 1) := by rw [e403]; exact gx_add (rfl : (nI i) = (nI i)) (rfl : (1 : Int32) = nI 1)
    subst n403
    have i404 : vp_in (nI (i + 1)) L := gx_in (rfl : (nI (i + 1)) = (nI (i + 1))) (by omega) (by omega)
    refine va_sld hx hb hXs hbl hbA hS i404 dL_law_404 ?_
    refine lv_topi (fun v404 e404 => ?_)
    have q404 : v349 = v404 := e349.trans e404.symm
    subst q404
    refine lv_aload_n hx hb dL_law_405 rfl (lv_at hl 0 rfl) ?_
    refine lv_iload_n hx hb dL_law_406 rfl (lv_at hl 3 rfl) ?_
    refine lv_iconst (v := 2) hx hb dL_law_407 (by decide) ?_
    refine lv_iadd hx hb dL_law_408 ?_
    refine lv_topi (fun v408 e408 => ?_)
    have n408 : v408 = nI (i + 2) := by rw [e408]; exact gx_add (rfl : (nI i) = (nI i)) (rfl : (2 : Int32) = nI 2)
    subst n408
    have i409 : vp_in (nI (i + 2)) L := gx_in (rfl : (nI (i + 2)) = (nI (i + 2))) (by omega) (by omega)
    refine va_sld hx hb hXs hbl hbA hS i409 dL_law_409 ?_
    refine lv_topi (fun v409 e409 => ?_)
    have q409 : v354 = v409 := e354.trans e409.symm
    subst q409
    refine lv_aload_n hx hb dL_law_410 rfl (lv_at hl 0 rfl) ?_
    refine lv_iload_n hx hb dL_law_411 rfl (lv_at hl 3 rfl) ?_
    refine lv_iconst (v := 3) hx hb dL_law_412 (by decide) ?_
    refine lv_iadd hx hb dL_law_413 ?_
    refine lv_topi (fun v413 e413 => ?_)
    have n413 : v413 = nI (i + 3) := by rw [e413]; exact gx_add (rfl : (nI i) = (nI i)) (rfl : (3 : Int32) = nI 3)
    subst n413
    have i414 : vp_in (nI (i + 3)) L := gx_in (rfl : (nI (i + 3)) = (nI (i + 3))) (by omega) (by omega)
    refine va_sld hx hb hXs hbl hbA hS i414 dL_law_414 ?_
    refine lv_topi (fun v414 e414 => ?_)
    have q414 : v359 = v414 := e359.trans e414.symm
    subst q414
    refine lv_i2l hx hb dL_law_415 rfl ?_
    refine lv_topl (fun v415 e415 => ?_)
    have q415 : v360 = v415 := e360.trans e415.symm
    subst q415
    refine lv_bipush (v := 32) hx hb dL_law_416 (by decide) ?_
    refine lv_lshl hx hb dL_law_418 rfl ?_
    refine lv_topl (fun v418 e418 => ?_)
    have q418 : v363 = v418 := e363.trans e418.symm
    subst q418
    refine lv_aload_n hx hb dL_law_419 rfl (lv_at hl 0 rfl) ?_
    refine lv_iload_n hx hb dL_law_420 rfl (lv_at hl 3 rfl) ?_
    refine lv_iconst (v := 4) hx hb dL_law_421 (by decide) ?_
    refine lv_iadd hx hb dL_law_422 ?_
    refine lv_topi (fun v422 e422 => ?_)
    have n422 : v422 = nI (i + 4) := by rw [e422]; exact gx_add (rfl : (nI i) = (nI i)) (rfl : (4 : Int32) = nI 4)
    subst n422
    have i423 : vp_in (nI (i + 4)) L := gx_in (rfl : (nI (i + 4)) = (nI (i + 4))) (by omega) (by omega)
    refine va_sld hx hb hXs hbl hbA hS i423 dL_law_423 ?_
    refine lv_topi (fun v423 e423 => ?_)
    have q423 : v368 = v423 := e368.trans e423.symm
    subst q423
    refine lv_i2l hx hb dL_law_424 rfl ?_
    refine lv_topl (fun v424 e424 => ?_)
    have q424 : v369 = v424 := e369.trans e424.symm
    subst q424
    refine lv_ldc2 (v := 4294967295) hx hb hown (ht _ m_699) dL_law_425 ?_
    refine lv_land hx hb dL_law_428 ?_
    refine lv_topl (fun v428 e428 => ?_)
    have q428 : v373 = v428 := e373.trans e428.symm
    subst q428
    refine lv_lor hx hb dL_law_429 ?_
    refine lv_topl (fun v429 e429 => ?_)
    have q429 : v374 = v429 := e374.trans e429.symm
    subst q429
    refine lv_aload_n hx hb dL_law_430 rfl (lv_at hl 0 rfl) ?_
    refine lv_iload_n hx hb dL_law_431 rfl (lv_at hl 3 rfl) ?_
    refine lv_iconst (v := 5) hx hb dL_law_432 (by decide) ?_
    refine lv_iadd hx hb dL_law_433 ?_
    refine lv_topi (fun v433 e433 => ?_)
    have n433 : v433 = nI (i + 5) := by rw [e433]; exact gx_add (rfl : (nI i) = (nI i)) (rfl : (5 : Int32) = nI 5)
    subst n433
    have i434 : vp_in (nI (i + 5)) L := gx_in (rfl : (nI (i + 5)) = (nI (i + 5))) (by omega) (by omega)
    refine va_sld hx hb hXs hbl hbA hS i434 dL_law_434 ?_
    refine lv_topi (fun v434 e434 => ?_)
    have q434 : v379 = v434 := e379.trans e434.symm
    subst q434
    refine lv_i2l hx hb dL_law_435 rfl ?_
    refine lv_topl (fun v435 e435 => ?_)
    have q435 : v380 = v435 := e380.trans e435.symm
    subst q435
    refine lv_bipush (v := 32) hx hb dL_law_436 (by decide) ?_
    refine lv_lshl hx hb dL_law_438 rfl ?_
    refine lv_topl (fun v438 e438 => ?_)
    have q438 : v383 = v438 := e383.trans e438.symm
    subst q438
    refine lv_aload_n hx hb dL_law_439 rfl (lv_at hl 0 rfl) ?_
    refine lv_iload_n hx hb dL_law_440 rfl (lv_at hl 3 rfl) ?_
    refine lv_bipush (v := 6) hx hb dL_law_441 (by decide) ?_
    refine lv_iadd hx hb dL_law_443 ?_
    refine lv_topi (fun v443 e443 => ?_)
    have n443 : v443 = nI (i + 6) := by rw [e443]; exact gx_add (rfl : (nI i) = (nI i)) (rfl : (6 : Int32) = nI 6)
    subst n443
    have i444 : vp_in (nI (i + 6)) L := gx_in (rfl : (nI (i + 6)) = (nI (i + 6))) (by omega) (by omega)
    refine va_sld hx hb hXs hbl hbA hS i444 dL_law_444 ?_
    refine lv_topi (fun v444 e444 => ?_)
    have q444 : v389 = v444 := e389.trans e444.symm
    subst q444
    refine lv_i2l hx hb dL_law_445 rfl ?_
    refine lv_topl (fun v445 e445 => ?_)
    have q445 : v390 = v445 := e390.trans e445.symm
    subst q445
    refine lv_ldc2 (v := 4294967295) hx hb hown (ht _ m_699) dL_law_446 ?_
    refine lv_land hx hb dL_law_449 ?_
    refine lv_topl (fun v449 e449 => ?_)
    have q449 : v394 = v449 := e394.trans e449.symm
    subst q449
    refine lv_lor hx hb dL_law_450 ?_
    refine lv_topl (fun v450 e450 => ?_)
    have q450 : v395 = v450 := e395.trans e450.symm
    subst q450
    obtain ⟨hP, hD⟩ := pm_20 hP hD
    refine gc_ml (lf := []) (W0 := [(mo, .inr (6, [.ref (mq 0), .ref (mq 1), .ref (mq 2), .ref (mq 3), .int (nI X.2.2.2.2), .ref (mq 5), .ref (mq 6), .int (nI F), .ref (mq 8), .ref (mq 9), .ref (mq 10), .ref (mq 11), .ref (mq 12), .ref (mq 13), .ref (mq 14), .ref (mq 15), .ref (mq 16), .ref (mq 17), .ref (mq 18), .ref (mq 19), .ref (mq 20), .ref (mq 21), .ref (mq 22), .int (nI M.1)])), ((mq 5), .inl (cI, 8, .inl of9))]) (rt := ([(h, .inr (5, [.ref g, .ref ko, .ref (hq 0), .ref (hq 1), .ref (hq 2), .ref (hq 3), .int (nI F)])), ((hq 3), .inl (cI, 8, .inl (fun z9 => nI (od z9)))), (g, .inr (3, [.ref eo, .ref bo, .ref t, .ref co])), (eo, .inr (2, [.ref (eq 0), .ref (eq 1), .ref (eq 2), .ref (eq 3), .int (nI X.2.2.2.2)])), ((eq 0), .inl (cI, 80, .inl X.1)), ((eq 1), .inl (cI, 80, .inl X.2.1)), ((eq 2), .inl (cI, 80, .inl X.2.2.1)), ((eq 3), .inl (cI, 80, .inl X.2.2.2.1)), (bo, .inl (cB, 8, .inr (.inr (.inr (.inr (pd_a pd)))))), (t, .inr (4, [.ref (tq 0), .ref (tq 1), .ref (tq 2), .ref (tq 3), .ref (tq 4), .ref (tq 5), .ref (tq 6), .ref (tq 7), .int (nI S.1.2.2.2.2)])), ((tq 0), .inl (cI, 64, .inl (fun z9 => nI (S.1.1 z9)))), ((tq 1), .inl (cI, 64, .inl (fun z9 => nI (S.1.2.1 z9)))), ((tq 2), .inl (cI, 64, .inl (fun z9 => nI (S.1.2.2.1 z9)))), ((tq 3), .inl (cJ, 64, .inr (.inl S.1.2.2.2.1))), ((tq 4), .inl (cJ, 64, .inr (.inl f1))), ((tq 5), .inl (cJ, 64, .inr (.inl f2))), ((tq 6), .inl (cJ, 64, .inr (.inl f3))), ((tq 7), .inl (cJ, 64, .inr (.inl f4))), (co, .inl (cI, 112, .inl (fun z9 => nI (S.2 z9))))] ++ ((tlp cI pd Bs) ++ [((hq 0), .inl (cI, 8, .inl (fun z9 => nI (ro z9)))), ((hq 1), .inl (cI, 8, .inl (fun z9 => nI (so z9)))), ((hq 2), .inl (cI, 8, .inl (fun z9 => nI (di z9)))), (ko, .inr (1, [.ref (kq 0), .ref (kq 1), .ref (kq 2), .ref (kq 3), .ref (kq 4)])), ((kq 0), .inl (cI, 80, .inl (fun z9 => nI (C.1 z9)))), ((kq 1), .inl (cI, 640, .inl (fun z9 => nI (C.2.1 z9)))), ((kq 2), .inl (cI, 64, .inl (fun z9 => nI (C.2.2.1 z9)))), ((kq 3), .inl (cI, 8, .inl (fun z9 => nI (C.2.2.2.1 z9)))), ((kq 4), .inl (cI, 8, .inl (fun z9 => nI (C.2.2.2.2 z9)))), ((mq 8), .inl (cI, 96, .inl (fun z9 => nI (sk z9)))), ((mq 9), .inl (cI, 96, .inl sa9)), ((mq 10), .inl (cI, 96, .inl sb9)), ((mq 11), .inl (cI, 8, .inl (fun z9 => nI (sz z9)))), ((mq 0), .inl (cI, 80, .inl X.1)), ((mq 1), .inl (cI, 80, .inl X.2.1)), ((mq 2), .inl (cI, 80, .inl X.2.2.1)), ((mq 3), .inl (cI, 80, .inl X.2.2.2.1)), ((mq 17), .inl (cJ, 2560, .inr (.inl M.2.2.2.2.2.2.1))), ((mq 16), .inl (cJ, 448, .inr (.inl M.2.2.2.2.2.1))), ((mq 19), .inl (cI, 8, .inl (fun z9 => nI (M.2.1 z9)))), ((mq 20), .inl (cI, 8, .inl (fun z9 => nI (M.2.2.1 z9)))), ((mq 21), .inl (cI, 8, .inl M.2.2.2.1)), ((mq 18), .inl (cZ, 640, .inl (fun z9 => gb (M.2.2.2.2.2.2.2 z9)))), ((mq 22), .inl (cI, 192, .inl (fun z9 => nI (M.2.2.2.2.1 z9)))), ((mq 6), .inl (cI, 8, .inl by9)), ((mq 12), .inl (cI, 80, .inl (fun z9 => nI (eC z9)))), ((mq 13), .inl (cI, 8, .inl (fun z9 => nI (fC z9)))), ((mq 14), .inl (cZ, 80, .inl (fun z9 => gb (R0 z9)))), ((mq 15), .inl (cZ, 8, .inl (fun z9 => gb (Q0 z9))))]))) (va_runV (As := [.int v349, .int v354, .long v374, .long v395]) (rest := [.long r396]) ⟨hx, hb, hml, hown, ht⟩ (c_M_gradientN l D cI cJ cB cZ mo mq X.2.2.2.2 F M.1 of9 v349 v354 v374 v395 g1 (fun z => ha ⟨(lw_own hG).mp z.1, z.2⟩) H.size) (cwV 4 ht (gw_V m_683 m_684 m_685 m_6 m_686) rfl rfl rfl (by decide +kernel) ⟨Nat.le_of_ble_eq_true rfl, Nat.le_of_ble_eq_true rfl⟩) (gp_V (ci := 6) (q0 := 0) hK hN (gk_midP (lf := []) hP) (gk_midD (lf := []) hD) rfl rfl) rfl rfl hl.1 rfl (lv_room (Nat.le_of_ble_eq_true rfl)) dL_law_451 ⟨by show ((50 + i) + 0) + 0 ≤ 600000; omega, by show ((6510 + 12 * i) + 0) + 0 ≤ 7302250; omega⟩) hP hD hS hA (fun r451 w451 H locs p451 hP hD hS => ?_)
    obtain ⟨hrm, rfl⟩ := p451
    have hP : va_P D vwCl ([(mo, .inr (6, [.ref (mq 0), .ref (mq 1), .ref (mq 2), .ref (mq 3), .int (nI X.2.2.2.2), .ref (mq 5), .ref (mq 6), .int (nI F), .ref (mq 8), .ref (mq 9), .ref (mq 10), .ref (mq 11), .ref (mq 12), .ref (mq 13), .ref (mq 14), .ref (mq 15), .ref (mq 16), .ref (mq 17), .ref (mq 18), .ref (mq 19), .ref (mq 20), .ref (mq 21), .ref (mq 22), .int (nI M.1)])), ((mq 5), .inl (cI, 8, .inl of9)), (h, .inr (5, [.ref g, .ref ko, .ref (hq 0), .ref (hq 1), .ref (hq 2), .ref (hq 3), .int (nI F)])), ((hq 3), .inl (cI, 8, .inl (fun z9 => nI (od z9)))), (g, .inr (3, [.ref eo, .ref bo, .ref t, .ref co])), (eo, .inr (2, [.ref (eq 0), .ref (eq 1), .ref (eq 2), .ref (eq 3), .int (nI X.2.2.2.2)])), ((eq 0), .inl (cI, 80, .inl X.1)), ((eq 1), .inl (cI, 80, .inl X.2.1)), ((eq 2), .inl (cI, 80, .inl X.2.2.1)), ((eq 3), .inl (cI, 80, .inl X.2.2.2.1)), (bo, .inl (cB, 8, .inr (.inr (.inr (.inr (pd_a pd)))))), (t, .inr (4, [.ref (tq 0), .ref (tq 1), .ref (tq 2), .ref (tq 3), .ref (tq 4), .ref (tq 5), .ref (tq 6), .ref (tq 7), .int (nI S.1.2.2.2.2)])), ((tq 0), .inl (cI, 64, .inl (fun z9 => nI (S.1.1 z9)))), ((tq 1), .inl (cI, 64, .inl (fun z9 => nI (S.1.2.1 z9)))), ((tq 2), .inl (cI, 64, .inl (fun z9 => nI (S.1.2.2.1 z9)))), ((tq 3), .inl (cJ, 64, .inr (.inl S.1.2.2.2.1))), ((tq 4), .inl (cJ, 64, .inr (.inl f1))), ((tq 5), .inl (cJ, 64, .inr (.inl f2))), ((tq 6), .inl (cJ, 64, .inr (.inl f3))), ((tq 7), .inl (cJ, 64, .inr (.inl f4))), (co, .inl (cI, 112, .inl (fun z9 => nI (S.2 z9))))] ++ ((tlp cI pd Bs) ++ [((hq 0), .inl (cI, 8, .inl (fun z9 => nI (ro z9)))), ((hq 1), .inl (cI, 8, .inl (fun z9 => nI (so z9)))), ((hq 2), .inl (cI, 8, .inl (fun z9 => nI (di z9)))), (ko, .inr (1, [.ref (kq 0), .ref (kq 1), .ref (kq 2), .ref (kq 3), .ref (kq 4)])), ((kq 0), .inl (cI, 80, .inl (fun z9 => nI (C.1 z9)))), ((kq 1), .inl (cI, 640, .inl (fun z9 => nI (C.2.1 z9)))), ((kq 2), .inl (cI, 64, .inl (fun z9 => nI (C.2.2.1 z9)))), ((kq 3), .inl (cI, 8, .inl (fun z9 => nI (C.2.2.2.1 z9)))), ((kq 4), .inl (cI, 8, .inl (fun z9 => nI (C.2.2.2.2 z9)))), ((mq 8), .inl (cI, 96, .inl (fun z9 => nI (sk z9)))), ((mq 9), .inl (cI, 96, .inl sa9)), ((mq 10), .inl (cI, 96, .inl sb9)), ((mq 11), .inl (cI, 8, .inl (fun z9 => nI (sz z9)))), ((mq 0), .inl (cI, 80, .inl X.1)), ((mq 1), .inl (cI, 80, .inl X.2.1)), ((mq 2), .inl (cI, 80, .inl X.2.2.1)), ((mq 3), .inl (cI, 80, .inl X.2.2.2.1)), ((mq 17), .inl (cJ, 2560, .inr (.inl M.2.2.2.2.2.2.1))), ((mq 16), .inl (cJ, 448, .inr (.inl M.2.2.2.2.2.1))), ((mq 19), .inl (cI, 8, .inl (fun z9 => nI (M.2.1 z9)))), ((mq 20), .inl (cI, 8, .inl (fun z9 => nI (M.2.2.1 z9)))), ((mq 21), .inl (cI, 8, .inl M.2.2.2.1)), ((mq 18), .inl (cZ, 640, .inl (fun z9 => gb (M.2.2.2.2.2.2.2 z9)))), ((mq 22), .inl (cI, 192, .inl (fun z9 => nI (M.2.2.2.2.1 z9)))), ((mq 6), .inl (cI, 8, .inl by9)), ((mq 12), .inl (cI, 80, .inl (fun z9 => nI (eC z9)))), ((mq 13), .inl (cI, 8, .inl (fun z9 => nI (fC z9)))), ((mq 14), .inl (cZ, 80, .inl (fun z9 => gb (R0 z9)))), ((mq 15), .inl (cZ, 8, .inl (fun z9 => gb (Q0 z9))))])) H := hP
    have hD : va_D (fun q : Nat => s.heap.size ≤ q) ([(mo, .inr (6, [.ref (mq 0), .ref (mq 1), .ref (mq 2), .ref (mq 3), .int (nI X.2.2.2.2), .ref (mq 5), .ref (mq 6), .int (nI F), .ref (mq 8), .ref (mq 9), .ref (mq 10), .ref (mq 11), .ref (mq 12), .ref (mq 13), .ref (mq 14), .ref (mq 15), .ref (mq 16), .ref (mq 17), .ref (mq 18), .ref (mq 19), .ref (mq 20), .ref (mq 21), .ref (mq 22), .int (nI M.1)])), ((mq 5), .inl (cI, 8, .inl of9)), (h, .inr (5, [.ref g, .ref ko, .ref (hq 0), .ref (hq 1), .ref (hq 2), .ref (hq 3), .int (nI F)])), ((hq 3), .inl (cI, 8, .inl (fun z9 => nI (od z9)))), (g, .inr (3, [.ref eo, .ref bo, .ref t, .ref co])), (eo, .inr (2, [.ref (eq 0), .ref (eq 1), .ref (eq 2), .ref (eq 3), .int (nI X.2.2.2.2)])), ((eq 0), .inl (cI, 80, .inl X.1)), ((eq 1), .inl (cI, 80, .inl X.2.1)), ((eq 2), .inl (cI, 80, .inl X.2.2.1)), ((eq 3), .inl (cI, 80, .inl X.2.2.2.1)), (bo, .inl (cB, 8, .inr (.inr (.inr (.inr (pd_a pd)))))), (t, .inr (4, [.ref (tq 0), .ref (tq 1), .ref (tq 2), .ref (tq 3), .ref (tq 4), .ref (tq 5), .ref (tq 6), .ref (tq 7), .int (nI S.1.2.2.2.2)])), ((tq 0), .inl (cI, 64, .inl (fun z9 => nI (S.1.1 z9)))), ((tq 1), .inl (cI, 64, .inl (fun z9 => nI (S.1.2.1 z9)))), ((tq 2), .inl (cI, 64, .inl (fun z9 => nI (S.1.2.2.1 z9)))), ((tq 3), .inl (cJ, 64, .inr (.inl S.1.2.2.2.1))), ((tq 4), .inl (cJ, 64, .inr (.inl f1))), ((tq 5), .inl (cJ, 64, .inr (.inl f2))), ((tq 6), .inl (cJ, 64, .inr (.inl f3))), ((tq 7), .inl (cJ, 64, .inr (.inl f4))), (co, .inl (cI, 112, .inl (fun z9 => nI (S.2 z9))))] ++ ((tlp cI pd Bs) ++ [((hq 0), .inl (cI, 8, .inl (fun z9 => nI (ro z9)))), ((hq 1), .inl (cI, 8, .inl (fun z9 => nI (so z9)))), ((hq 2), .inl (cI, 8, .inl (fun z9 => nI (di z9)))), (ko, .inr (1, [.ref (kq 0), .ref (kq 1), .ref (kq 2), .ref (kq 3), .ref (kq 4)])), ((kq 0), .inl (cI, 80, .inl (fun z9 => nI (C.1 z9)))), ((kq 1), .inl (cI, 640, .inl (fun z9 => nI (C.2.1 z9)))), ((kq 2), .inl (cI, 64, .inl (fun z9 => nI (C.2.2.1 z9)))), ((kq 3), .inl (cI, 8, .inl (fun z9 => nI (C.2.2.2.1 z9)))), ((kq 4), .inl (cI, 8, .inl (fun z9 => nI (C.2.2.2.2 z9)))), ((mq 8), .inl (cI, 96, .inl (fun z9 => nI (sk z9)))), ((mq 9), .inl (cI, 96, .inl sa9)), ((mq 10), .inl (cI, 96, .inl sb9)), ((mq 11), .inl (cI, 8, .inl (fun z9 => nI (sz z9)))), ((mq 0), .inl (cI, 80, .inl X.1)), ((mq 1), .inl (cI, 80, .inl X.2.1)), ((mq 2), .inl (cI, 80, .inl X.2.2.1)), ((mq 3), .inl (cI, 80, .inl X.2.2.2.1)), ((mq 17), .inl (cJ, 2560, .inr (.inl M.2.2.2.2.2.2.1))), ((mq 16), .inl (cJ, 448, .inr (.inl M.2.2.2.2.2.1))), ((mq 19), .inl (cI, 8, .inl (fun z9 => nI (M.2.1 z9)))), ((mq 20), .inl (cI, 8, .inl (fun z9 => nI (M.2.2.1 z9)))), ((mq 21), .inl (cI, 8, .inl M.2.2.2.1)), ((mq 18), .inl (cZ, 640, .inl (fun z9 => gb (M.2.2.2.2.2.2.2 z9)))), ((mq 22), .inl (cI, 192, .inl (fun z9 => nI (M.2.2.2.2.1 z9)))), ((mq 6), .inl (cI, 8, .inl by9)), ((mq 12), .inl (cI, 80, .inl (fun z9 => nI (eC z9)))), ((mq 13), .inl (cI, 8, .inl (fun z9 => nI (fC z9)))), ((mq 14), .inl (cZ, 80, .inl (fun z9 => gb (R0 z9)))), ((mq 15), .inl (cZ, 8, .inl (fun z9 => gb (Q0 z9))))])) := hD
    refine W.lcmp hx hb dL_law_454 ?_
    refine lv_topi (fun v454 e454 => ?_)
    refine lv_if_eq (tgt := 562) hx hb dL_law_455 (by decide) (fun c455 => ?_) (fun c455 => ?_)
    · refine W.widen (k := 50 + i + 7) (n := 6510 + 12 * i + 81) (show (((50 + i) + 0) + 0) ≤ 50 + i + 7 by omega) (show (((6510 + 12 * i) + 0) + 0) ≤ 6510 + 12 * i + 81 by omega) ?_
      obtain ⟨hP, hD⟩ := pm_21 hP hD
      have hP : va_P D vwCl (lw_W cI cJ cB cZ h g ko eo bo t co mo hq kq eq tq mq F ro so di od C X pd Bs S f1 f2 f3 f4 of9 by9 sk sa9 sb9 sz eC fC R0 Q0 M) H := hP
      have hD : va_D (fun q : Nat => s.heap.size ≤ q) (lw_W cI cJ cB cZ h g ko eo bo t co mo hq kq eq tq mq F ro so di od C X pd Bs S f1 f2 f3 f4 of9 by9 sk sa9 sb9 sz eC fC R0 Q0 M) := hD
      exact hJ F ro so di od C X pd Bs S f1 f2 f3 f4 of9 by9 sk sa9 sb9 sz eC fC R0 Q0 M ⟨hG, hSx, heC, hfC, hp8⟩ _ _ _ hP hD hS (lv_sub hl [0, 1, 2, 3] rfl)
    · exact absurd (by rw [e454]; exact (gl_eq _ _).mpr (by rw [hr9, hrm])) c455

