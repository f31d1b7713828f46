def kfLc_0 (x1 x2 x3 x4 : Int) (μ : knMem) : Option knMem :=
 Option.bind (kfL_addCurl x1 (if x2 = 0 then 0 else 1 : Int) (if x3 = 0 then 0 else 1 : Int) μ) (fun q7 =>
  Option.bind (kfX13_addCurl x1 (if x2 = 0 then 0 else 1 : Int) (if x3 = 0 then 0 else 1 : Int) q7.2) (fun q16 =>
   Option.bind (kfX13_thrown  q16.2) (fun q19 =>
    if q19 = q7.1 then
     (fun (k26 : (Unit) → Option (knMem)) =>
      if q7.1 = 0 then
       if (knLcmp (q16.2 159 0) q16.1) = 0 then
        k26 ()
       else
        none
      else
       k26 ())
      (fun _ =>
      some q16.2)
    else
     none)))

set_option maxHeartbeats 4000000 in
set_option maxRecDepth 100000 in
theorem kcLc_0 {G : knGT} {p : Program} {l : Launch} {e : Env} {s : State} {m : MethodId} {args : Array Value} {below : List Frame} {meth : Method} {c : Code} {Q : State → Prop} {b N : Nat} {xs : Nat → Int32} (hl : l.stackTraces = false) (X : knX p m c code 10 s args RL) (K : knK G s s.heap) (S : knSc G b N xs s) {i x1 x2 x3 x4 : Int} (hi : knC i) (hs : knSi N xs i x1 x2 x3 x4) {cells slots : Nat} (hc9 : cells + 2 ≤ room_1.cells) (hs9 : slots + 12 ≤ room_1.slots) {μ q : knMem} (hf : kfLc_0 x1 x2 x3 x4 μ = some q)
  (kk : knJ G p l e room_1 s m args below meth c 10 (cells + 2) (slots + 12) Q 2804 [(0, Value.ref b), (1, knO G 0), (2, knO G 142), (3, knO G 159), (4, knO G 160), (5, knV i)] [] q) : knJ G p l e room_1 s m args below meth c 10 cells slots Q 292 [(0, Value.ref b), (1, knO G 0), (2, knO G 142), (3, knO G 159), (4, knO G 160), (5, knV i)] [] μ := by
  unfold kfLc_0 at hf
  refine kj_aloadn X 1 dL_law_292 rfl ?_
  refine kj_aloadn X 0 dL_law_293 rfl ?_
  refine kj_iload X 5 dL_law_294 rfl ?_
  refine kj_iconst X dL_law_296 ?_
  refine kj_iadd X dL_law_297 ?_
  refine kj_sld X S (knCw _) hs.1.2 hs.1.1 dL_law_298 ?_
  refine kj_aloadn X 0 dL_law_299 rfl ?_
  refine kj_iload X 5 dL_law_300 rfl ?_
  refine kj_iconst X dL_law_302 ?_
  refine kj_iadd X dL_law_303 ?_
  refine kj_sld X S (knCw _) hs.2.1.2 hs.2.1.1 dL_law_304 ?_
  have j2 : ∀ (t2_0 : Int) (et2_0 : t2_0 = (if x2 = 0 then 0 else 1 : Int)) (ht2_0 : knZ t2_0), knJ G p l e room_1 s m args below meth c 10 (cells) (slots) Q 313 [(0, Value.ref b), (1, knO G 0), (2, knO G 142), (3, knO G 159), (4, knO G 160), (5, knV i)] [knV t2_0, knV x1, knO G 0] μ := by
    intro t2_0 et2_0 ht2_0
    subst et2_0
    refine kj_aloadn X 0 dL_law_313 rfl ?_
    refine kj_iload X 5 dL_law_314 rfl ?_
    refine kj_iconst X dL_law_316 ?_
    refine kj_iadd X dL_law_317 ?_
    refine kj_sld X S (knCw _) hs.2.2.1.2 hs.2.2.1.1 dL_law_318 ?_
    have j5 : ∀ (t5_0 : Int) (et5_0 : t5_0 = (if x3 = 0 then 0 else 1 : Int)) (ht5_0 : knZ t5_0), knJ G p l e room_1 s m args below meth c 10 (cells) (slots) Q 327 [(0, Value.ref b), (1, knO G 0), (2, knO G 142), (3, knO G 159), (4, knO G 160), (5, knV i)] [knV t5_0, knV (if x2 = 0 then 0 else 1 : Int), knV x1, knO G 0] μ := by
      intro t5_0 et5_0 ht5_0
      subst et5_0
      refine kj_aloadn X 3 dL_law_327 rfl ?_
      obtain ⟨q7, h8, hf⟩ := knBd_inv hf
      refine kj_callSH (As := [knO G 0, knV x1, knV (if x2 = 0 then 0 else 1 : Int), knV (if x3 = 0 then 0 else 1 : Int), knO G 159]) (rest := []) X K (kcL_addCurl l hl (knC_sx hs.1.2) ht2_0 ht5_0 h8) knWhL_addCurl (knGm 915 (by decide +kernel) rfl) (by decide) rfl (Nat.le_of_ble_eq_true rfl) ⟨by omega, by omega⟩ dL_law_328 rfl (fun h9 => ?_)
      refine kj_istore X (L' := [(6, knV q7.1), (0, Value.ref b), (1, knO G 0), (2, knO G 142), (3, knO G 159), (4, knO G 160), (5, knV i)]) dL_law_331 (by decide) rfl ?_
      refine kj_aloadn X 3 dL_law_333 rfl ?_
      refine kj_aloadn X 1 dL_law_334 rfl ?_
      refine kj_iload X 6 dL_law_335 rfl ?_
      refine kj_iconst X dL_law_337 ?_
      refine kj_iadd X dL_law_338 ?_
      refine kj_sld X S (knCw _) hs.1.2 hs.1.1 dL_law_339 ?_
      refine kj_aloadn X 1 dL_law_340 rfl ?_
      refine kj_iload X 6 dL_law_341 rfl ?_
      refine kj_iconst X dL_law_343 ?_
      refine kj_iadd X dL_law_344 ?_
      refine kj_sld X S (knCw _) hs.2.1.2 hs.2.1.1 dL_law_345 ?_
      have j11 : ∀ (t11_0 : Int) (et11_0 : t11_0 = (if x2 = 0 then 0 else 1 : Int)) (ht11_0 : knZ t11_0), knJ G p l e room_1 s m args below meth c 10 (cells + 1) (slots + 6) Q 354 [(0, Value.ref b), (1, knO G 0), (2, knO G 142), (3, knO G 159), (4, knO G 160), (5, knV i), (6, knV q7.1)] [knV t11_0, knV x1, knO G 142] q7.2 := by
        intro t11_0 et11_0 ht11_0
        subst et11_0
        refine kj_aloadn X 0 dL_law_354 rfl ?_
        refine kj_iload X 5 dL_law_355 rfl ?_
        refine kj_iconst X dL_law_357 ?_
        refine kj_iadd X dL_law_358 ?_
        refine kj_sld X S (knCw _) hs.2.2.1.2 hs.2.2.1.1 dL_law_359 ?_
        have j14 : ∀ (t14_0 : Int) (et14_0 : t14_0 = (if x3 = 0 then 0 else 1 : Int)) (ht14_0 : knZ t14_0), knJ G p l e room_1 s m args below meth c 10 (cells + 1) (slots + 6) Q 368 [(0, Value.ref b), (1, knO G 0), (2, knO G 142), (3, knO G 159), (4, knO G 160), (5, knV i), (6, knV q7.1)] [knV t14_0, knV (if x2 = 0 then 0 else 1 : Int), knV x1, knO G 142] q7.2 := by
          intro t14_0 et14_0 ht14_0
          subst et14_0
          obtain ⟨q16, h17, hf⟩ := knBd_inv hf
          refine kj_callV (As := [knV x1, knV (if x2 = 0 then 0 else 1 : Int), knV (if x3 = 0 then 0 else 1 : Int)]) (rest := []) X K (kcX13_addCurl l (knC_sx hs.1.2) ht11_0 ht14_0 h17) knWvX13_addCurl (knGm 1593 (by decide +kernel) rfl) (by decide) (knKd_in kdc_142 (by decide)) (knEnt_10 kdc_142) rfl rfl rfl (Nat.le_of_ble_eq_true rfl) ⟨by omega, by omega⟩ dL_law_368 rfl (fun h18 => ?_)
          refine kj_istore X (L' := [(7, knV q16.1), (0, Value.ref b), (1, knO G 0), (2, knO G 142), (3, knO G 159), (4, knO G 160), (5, knV i), (6, knV q7.1)]) dL_law_371 (by decide) rfl ?_
          refine kj_aloadn X 3 dL_law_373 rfl ?_
          obtain ⟨q19, h20, hf⟩ := knBd_inv hf
          refine kj_callV (As := []) (rest := []) X K (kcX13_thrown l  h20) knWvX13_thrown (knGm 1589 (by decide +kernel) rfl) (by decide) (knKd_in kdc_142 (by decide)) (knEnt_10 kdc_142) rfl rfl rfl (Nat.le_of_ble_eq_true rfl) ⟨by omega, by omega⟩ dL_law_374 rfl (fun h21 => ?_)
          refine kj_iload X 7 dL_law_377 rfl ?_
          refine kj_ic_eq X (tgt := 384) dL_law_379 (by decide) h21 h9 (fun h22 => ?_) (fun h22 => ?_)
          · replace hf := knIp hf h22
            refine kj_iload X 7 dL_law_384 rfl ?_
            have j26 : (fun _ =>
             some q16.2) () = some q → knJ G p l e room_1 s m args below meth c 10 (cells + 1) (slots + 6) Q 401 [(0, Value.ref b), (1, knO G 0), (2, knO G 142), (3, knO G 159), (4, knO G 160), (5, knV i)] [] q16.2 := by
              intro hf
              refine kj_goto X (tgt := 2804) dL_law_401 (by decide) ?_
              cases hf
              refine kj_sub (L' := [(0, Value.ref b), (1, knO G 0), (2, knO G 142), (3, knO G 159), (4, knO G 160), (5, knV i)]) [0, 1, 2, 3, 4, 5] rfl ?_
              exact kj_wd (by omega) (by omega) kk
            refine kj_if_ne X (tgt := 401) dL_law_386 (by decide) h9 (fun h28 => ?_) (fun h28 => ?_)
            · replace hf := knIq hf h28
              refine kj_sub (L' := [(0, Value.ref b), (1, knO G 0), (2, knO G 142), (3, knO G 159), (4, knO G 160), (5, knV i)]) [1, 2, 3, 4, 5, 6] rfl ?_
              exact j26  hf
            · replace hf := knIp hf h28
              refine kj_aloadn X 4 dL_law_389 rfl ?_
              refine kj_iconst X dL_law_390 ?_
              refine kj_lald X K dL_law_391 (fun h29 => ?_)
              refine kj_iload X 0 dL_law_392 rfl ?_
              refine kj_i2l X dL_law_394 h18 ?_
              refine kj_lcmp X dL_law_395 h29 h18 ?_
              refine kj_if_eq X (tgt := 401) dL_law_396 (by decide) (knC_lcmp _ _) (fun h30 => ?_) (fun h30 => ?_)
              · replace hf := knIp hf h30
                refine kj_sub (L' := [(0, Value.ref b), (1, knO G 0), (2, knO G 142), (3, knO G 159), (4, knO G 160), (5, knV i)]) [1, 2, 3, 4, 5, 6] rfl ?_
                exact j26  hf
              · replace hf := knIq hf h30
                refine kj_iconst X dL_law_399 ?_
                cases hf
          · replace hf := knIq hf h22
            refine kj_iconst X dL_law_382 ?_
            cases hf
        refine kj_if_eq X (tgt := 367) dL_law_360 (by decide) (knC_sx hs.2.2.1.2) (fun h31 => ?_) (fun h31 => ?_)
        · refine kj_iconst X dL_law_367 ?_
          refine kj_sub (L' := [(0, Value.ref b), (1, knO G 0), (2, knO G 142), (3, knO G 159), (4, knO G 160), (5, knV i), (6, knV q7.1)]) [0, 1, 2, 3, 4, 5, 6] rfl ?_
          exact j14 0 (by rw [if_pos h31]) (Or.inl rfl)
        · refine kj_iconst X dL_law_363 ?_
          refine kj_goto X (tgt := 368) dL_law_364 (by decide) ?_
          refine kj_sub (L' := [(0, Value.ref b), (1, knO G 0), (2, knO G 142), (3, knO G 159), (4, knO G 160), (5, knV i), (6, knV q7.1)]) [0, 1, 2, 3, 4, 5, 6] rfl ?_
          exact j14 1 (by rw [if_neg h31]) (Or.inr rfl)
      refine kj_if_eq X (tgt := 353) dL_law_346 (by decide) (knC_sx hs.2.1.2) (fun h32 => ?_) (fun h32 => ?_)
      · refine kj_iconst X dL_law_353 ?_
        refine kj_sub (L' := [(0, Value.ref b), (1, knO G 0), (2, knO G 142), (3, knO G 159), (4, knO G 160), (5, knV i), (6, knV q7.1)]) [1, 2, 3, 4, 5, 6, 0] rfl ?_
        exact j11 0 (by rw [if_pos h32]) (Or.inl rfl)
      · refine kj_iconst X dL_law_349 ?_
        refine kj_goto X (tgt := 354) dL_law_350 (by decide) ?_
        refine kj_sub (L' := [(0, Value.ref b), (1, knO G 0), (2, knO G 142), (3, knO G 159), (4, knO G 160), (5, knV i), (6, knV q7.1)]) [1, 2, 3, 4, 5, 6, 0] rfl ?_
        exact j11 1 (by rw [if_neg h32]) (Or.inr rfl)
    refine kj_if_eq X (tgt := 326) dL_law_319 (by decide) (knC_sx hs.2.2.1.2) (fun h33 => ?_) (fun h33 => ?_)
    · refine kj_iconst X dL_law_326 ?_
      refine kj_sub (L' := [(0, Value.ref b), (1, knO G 0), (2, knO G 142), (3, knO G 159), (4, knO G 160), (5, knV i)]) [0, 1, 2, 3, 4, 5] rfl ?_
      exact j5 0 (by rw [if_pos h33]) (Or.inl rfl)
    · refine kj_iconst X dL_law_322 ?_
      refine kj_goto X (tgt := 327) dL_law_323 (by decide) ?_
      refine kj_sub (L' := [(0, Value.ref b), (1, knO G 0), (2, knO G 142), (3, knO G 159), (4, knO G 160), (5, knV i)]) [0, 1, 2, 3, 4, 5] rfl ?_
      exact j5 1 (by rw [if_neg h33]) (Or.inr rfl)
  refine kj_if_eq X (tgt := 312) dL_law_305 (by decide) (knC_sx hs.2.1.2) (fun h34 => ?_) (fun h34 => ?_)
  · refine kj_iconst X dL_law_312 ?_
    refine kj_sub (L' := [(0, Value.ref b), (1, knO G 0), (2, knO G 142), (3, knO G 159), (4, knO G 160), (5, knV i)]) [0, 1, 2, 3, 4, 5] rfl ?_
    exact j2 0 (by rw [if_pos h34]) (Or.inl rfl)
  · refine kj_iconst X dL_law_308 ?_
    refine kj_goto X (tgt := 313) dL_law_309 (by decide) ?_
    refine kj_sub (L' := [(0, Value.ref b), (1, knO G 0), (2, knO G 142), (3, knO G 159), (4, knO G 160), (5, knV i)]) [0, 1, 2, 3, 4, 5] rfl ?_
    exact j2 1 (by rw [if_neg h34]) (Or.inr rfl)

def kfLc_1 (x1 x2 x3 x4 : Int) (μ : knMem) : Option knMem :=
 Option.bind (kfL_removeCurl x1 μ) (fun q1 =>
  Option.bind (kfX13_removeCurl x1 q1.2) (fun q4 =>
   Option.bind (kfX13_thrown  q4.2) (fun q7 =>
    if q7 = q1.1 then
     (fun (k14 : (Unit) → Option (knMem)) =>
      if q1.1 = 0 then
       if (knLcmp (q4.2 159 0) q4.1) = 0 then
        k14 ()
       else
        none
      else
       k14 ())
      (fun _ =>
      some q4.2)
    else
     none)))

set_option maxHeartbeats 4000000 in
set_option maxRecDepth 100000 in
theorem kcLc_1 {G : knGT} {p : Program} {l : Launch} {e : Env} {s : State} {m : MethodId} {args : Array Value} {below : List Frame} {meth : Method} {c : Code} {Q : State → Prop} {b N : Nat} {xs : Nat → Int32} (hl : l.stackTraces = false) (X : knX p m c code 10 s args RL) (K : knK G s s.heap) (S : knSc G b N xs s) {i x1 x2 x3 x4 : Int} (hi : knC i) (hs : knSi N xs i x1 x2 x3 x4) {cells slots : Nat} (hc9 : cells + 2 ≤ room_1.cells) (hs9 : slots + 12 ≤ room_1.slots) {μ q : knMem} (hf : kfLc_1 x1 x2 x3 x4 μ = some q)
  (kk : knJ G p l e room_1 s m args below meth c 10 (cells + 2) (slots + 12) Q 2804 [(0, Value.ref b), (1, knO G 0), (2, knO G 142), (3, knO G 159), (4, knO G 160), (5, knV i)] [] q) : knJ G p l e room_1 s m args below meth c 10 cells slots Q 404 [(0, Value.ref b), (1, knO G 0), (2, knO G 142), (3, knO G 159), (4, knO G 160), (5, knV i)] [] μ := by
  unfold kfLc_1 at hf
  refine kj_aloadn X 1 dL_law_404 rfl ?_
  refine kj_aloadn X 0 dL_law_405 rfl ?_
  refine kj_iload X 5 dL_law_406 rfl ?_
  refine kj_iconst X dL_law_408 ?_
  refine kj_iadd X dL_law_409 ?_
  refine kj_sld X S (knCw _) hs.1.2 hs.1.1 dL_law_410 ?_
  refine kj_aloadn X 3 dL_law_411 rfl ?_
  obtain ⟨q1, h2, hf⟩ := knBd_inv hf
  refine kj_callSH (As := [knO G 0, knV x1, knO G 159]) (rest := []) X K (kcL_removeCurl l hl (knC_sx hs.1.2) h2) knWhL_removeCurl (knGm 962 (by decide +kernel) rfl) (by decide) rfl (Nat.le_of_ble_eq_true rfl) ⟨by omega, by omega⟩ dL_law_412 rfl (fun h3 => ?_)
  refine kj_istore X (L' := [(6, knV q1.1), (0, Value.ref b), (1, knO G 0), (2, knO G 142), (3, knO G 159), (4, knO G 160), (5, knV i)]) dL_law_415 (by decide) rfl ?_
  refine kj_aloadn X 3 dL_law_417 rfl ?_
  refine kj_aloadn X 1 dL_law_418 rfl ?_
  refine kj_iload X 6 dL_law_419 rfl ?_
  refine kj_iconst X dL_law_421 ?_
  refine kj_iadd X dL_law_422 ?_
  refine kj_sld X S (knCw _) hs.1.2 hs.1.1 dL_law_423 ?_
  obtain ⟨q4, h5, hf⟩ := knBd_inv hf
  refine kj_callV (As := [knV x1]) (rest := []) X K (kcX13_removeCurl l (knC_sx hs.1.2) h5) knWvX13_removeCurl (knGm 1636 (by decide +kernel) rfl) (by decide) (knKd_in kdc_142 (by decide)) (knEnt_10 kdc_142) rfl rfl rfl (Nat.le_of_ble_eq_true rfl) ⟨by omega, by omega⟩ dL_law_424 rfl (fun h6 => ?_)
  refine kj_istore X (L' := [(7, knV q4.1), (6, knV q1.1), (0, Value.ref b), (1, knO G 0), (2, knO G 142), (3, knO G 159), (4, knO G 160), (5, knV i)]) dL_law_427 (by decide) rfl ?_
  refine kj_aloadn X 4 dL_law_429 rfl ?_
  obtain ⟨q7, h8, hf⟩ := knBd_inv hf
  refine kj_callV (As := []) (rest := []) X K (kcX13_thrown l  h8) knWvX13_thrown (knGm 1589 (by decide +kernel) rfl) (by decide) (knKd_in kdc_142 (by decide)) (knEnt_10 kdc_142) rfl rfl rfl (Nat.le_of_ble_eq_true rfl) ⟨by omega, by omega⟩ dL_law_430 rfl (fun h9 => ?_)
  refine kj_iload X 1 dL_law_433 rfl ?_
  refine kj_ic_eq X (tgt := 440) dL_law_435 (by decide) h9 h3 (fun h10 => ?_) (fun h10 => ?_)
  · replace hf := knIp hf h10
    refine kj_iload X 1 dL_law_440 rfl ?_
    have j14 : (fun _ =>
     some q4.2) () = some q → knJ G p l e room_1 s m args below meth c 10 (cells + 1) (slots + 6) Q 457 [(0, Value.ref b), (1, knO G 0), (2, knO G 142), (3, knO G 159), (4, knO G 160), (5, knV i)] [] q4.2 := by
      intro hf
      refine kj_goto X (tgt := 2804) dL_law_457 (by decide) ?_
      cases hf
      refine kj_sub (L' := [(0, Value.ref b), (1, knO G 0), (2, knO G 142), (3, knO G 159), (4, knO G 160), (5, knV i)]) [0, 1, 2, 3, 4, 5] rfl ?_
      exact kj_wd (by omega) (by omega) kk
    refine kj_if_ne X (tgt := 457) dL_law_442 (by decide) h3 (fun h16 => ?_) (fun h16 => ?_)
    · replace hf := knIq hf h16
      refine kj_sub (L' := [(0, Value.ref b), (1, knO G 0), (2, knO G 142), (3, knO G 159), (4, knO G 160), (5, knV i)]) [2, 3, 4, 5, 6, 7] rfl ?_
      exact j14  hf
    · replace hf := knIp hf h16
      refine kj_aloadn X 5 dL_law_445 rfl ?_
      refine kj_iconst X dL_law_446 ?_
      refine kj_lald X K dL_law_447 (fun h17 => ?_)
      refine kj_iload X 0 dL_law_448 rfl ?_
      refine kj_i2l X dL_law_450 h6 ?_
      refine kj_lcmp X dL_law_451 h17 h6 ?_
      refine kj_if_eq X (tgt := 457) dL_law_452 (by decide) (knC_lcmp _ _) (fun h18 => ?_) (fun h18 => ?_)
      · replace hf := knIp hf h18
        refine kj_sub (L' := [(0, Value.ref b), (1, knO G 0), (2, knO G 142), (3, knO G 159), (4, knO G 160), (5, knV i)]) [2, 3, 4, 5, 6, 7] rfl ?_
        exact j14  hf
      · replace hf := knIq hf h18
        refine kj_iconst X dL_law_455 ?_
        cases hf
  · replace hf := knIq hf h10
    refine kj_iconst X dL_law_438 ?_
    cases hf

def kfLc_2 (x1 x2 x3 x4 : Int) (μ : knMem) : Option knMem :=
 Option.bind (kfL_addPoke x1 x2 (if x3 = 0 then 0 else 1 : Int) (if x4 = 0 then 0 else 1 : Int) μ) (fun q7 =>
  Option.bind (kfX13_addPoke x1 x2 (if x3 = 0 then 0 else 1 : Int) (if x4 = 0 then 0 else 1 : Int) q7.2) (fun q16 =>
   Option.bind (kfX13_thrown  q16.2) (fun q19 =>
    if q19 = q7.1 then
     (fun (k26 : (Unit) → Option (knMem)) =>
      if q7.1 = 0 then
       if (knLcmp (q16.2 159 0) q16.1) = 0 then
        k26 ()
       else
        none
      else
       k26 ())
      (fun _ =>
      some q16.2)
    else
     none)))

set_option maxHeartbeats 4000000 in
set_option maxRecDepth 100000 in
theorem kcLc_2 {G : knGT} {p : Program} {l : Launch} {e : Env} {s : State} {m : MethodId} {args : Array Value} {below : List Frame} {meth : Method} {c : Code} {Q : State → Prop} {b N : Nat} {xs : Nat → Int32} (hl : l.stackTraces = false) (X : knX p m c code 10 s args RL) (K : knK G s s.heap) (S : knSc G b N xs s) {i x1 x2 x3 x4 : Int} (hi : knC i) (hs : knSi N xs i x1 x2 x3 x4) {cells slots : Nat} (hc9 : cells + 2 ≤ room_1.cells) (hs9 : slots + 12 ≤ room_1.slots) {μ q : knMem} (hf : kfLc_2 x1 x2 x3 x4 μ = some q)
  (kk : knJ G p l e room_1 s m args below meth c 10 (cells + 2) (slots + 12) Q 2804 [(0, Value.ref b), (1, knO G 0), (2, knO G 142), (3, knO G 159), (4, knO G 160), (5, knV i)] [] q) : knJ G p l e room_1 s m args below meth c 10 cells slots Q 460 [(0, Value.ref b), (1, knO G 0), (2, knO G 142), (3, knO G 159), (4, knO G 160), (5, knV i)] [] μ := by
  unfold kfLc_2 at hf
  refine kj_aloadn X 1 dL_law_460 rfl ?_
  refine kj_aloadn X 0 dL_law_461 rfl ?_
  refine kj_iload X 5 dL_law_462 rfl ?_
  refine kj_iconst X dL_law_464 ?_
  refine kj_iadd X dL_law_465 ?_
  refine kj_sld X S (knCw _) hs.1.2 hs.1.1 dL_law_466 ?_
  refine kj_aloadn X 0 dL_law_467 rfl ?_
  refine kj_iload X 5 dL_law_468 rfl ?_
  refine kj_iconst X dL_law_470 ?_
  refine kj_iadd X dL_law_471 ?_
  refine kj_sld X S (knCw _) hs.2.1.2 hs.2.1.1 dL_law_472 ?_
  refine kj_aloadn X 0 dL_law_473 rfl ?_
  refine kj_iload X 5 dL_law_474 rfl ?_
  refine kj_iconst X dL_law_476 ?_
  refine kj_iadd X dL_law_477 ?_
  refine kj_sld X S (knCw _) hs.2.2.1.2 hs.2.2.1.1 dL_law_478 ?_
  have j2 : ∀ (t2_0 : Int) (et2_0 : t2_0 = (if x3 = 0 then 0 else 1 : Int)) (ht2_0 : knZ t2_0), knJ G p l e room_1 s m args below meth c 10 (cells) (slots) Q 487 [(0, Value.ref b), (1, knO G 0), (2, knO G 142), (3, knO G 159), (4, knO G 160), (5, knV i)] [knV t2_0, knV x2, knV x1, knO G 0] μ := by
    intro t2_0 et2_0 ht2_0
    subst et2_0
    refine kj_aloadn X 0 dL_law_487 rfl ?_
    refine kj_iload X 5 dL_law_488 rfl ?_
    refine kj_iconst X dL_law_490 ?_
    refine kj_iadd X dL_law_491 ?_
    refine kj_sld X S (knCw _) hs.2.2.2.2 hs.2.2.2.1 dL_law_492 ?_
    have j5 : ∀ (t5_0 : Int) (et5_0 : t5_0 = (if x4 = 0 then 0 else 1 : Int)) (ht5_0 : knZ t5_0), knJ G p l e room_1 s m args below meth c 10 (cells) (slots) Q 501 [(0, Value.ref b), (1, knO G 0), (2, knO G 142), (3, knO G 159), (4, knO G 160), (5, knV i)] [knV t5_0, knV (if x3 = 0 then 0 else 1 : Int), knV x2, knV x1, knO G 0] μ := by
      intro t5_0 et5_0 ht5_0
      subst et5_0
      refine kj_aloadn X 3 dL_law_501 rfl ?_
      obtain ⟨q7, h8, hf⟩ := knBd_inv hf
      refine kj_callSH (As := [knO G 0, knV x1, knV x2, knV (if x3 = 0 then 0 else 1 : Int), knV (if x4 = 0 then 0 else 1 : Int), knO G 159]) (rest := []) X K (kcL_addPoke l hl (knC_sx hs.1.2) (knC_sx hs.2.1.2) ht2_0 ht5_0 h8) knWhL_addPoke (knGm 975 (by decide +kernel) rfl) (by decide) rfl (Nat.le_of_ble_eq_true rfl) ⟨by omega, by omega⟩ dL_law_502 rfl (fun h9 => ?_)
      refine kj_istore X (L' := [(6, knV q7.1), (0, Value.ref b), (1, knO G 0), (2, knO G 142), (3, knO G 159), (4, knO G 160), (5, knV i)]) dL_law_505 (by decide) rfl ?_
      refine kj_aloadn X 3 dL_law_507 rfl ?_
      refine kj_aloadn X 1 dL_law_508 rfl ?_
      refine kj_iload X 6 dL_law_509 rfl ?_
      refine kj_iconst X dL_law_511 ?_
      refine kj_iadd X dL_law_512 ?_
      refine kj_sld X S (knCw _) hs.1.2 hs.1.1 dL_law_513 ?_
      refine kj_aloadn X 1 dL_law_514 rfl ?_
      refine kj_iload X 6 dL_law_515 rfl ?_
      refine kj_iconst X dL_law_517 ?_
      refine kj_iadd X dL_law_518 ?_
      refine kj_sld X S (knCw _) hs.2.1.2 hs.2.1.1 dL_law_519 ?_
      refine kj_aloadn X 1 dL_law_520 rfl ?_
      refine kj_iload X 6 dL_law_521 rfl ?_
      refine kj_iconst X dL_law_523 ?_
      refine kj_iadd X dL_law_524 ?_
      refine kj_sld X S (knCw _) hs.2.2.1.2 hs.2.2.1.1 dL_law_525 ?_
      have j11 : ∀ (t11_0 : Int) (et11_0 : t11_0 = (if x3 = 0 then 0 else 1 : Int)) (ht11_0 : knZ t11_0), knJ G p l e room_1 s m args below meth c 10 (cells + 1) (slots + 6) Q 534 [(0, Value.ref b), (1, knO G 0), (2, knO G 142), (3, knO G 159), (4, knO G 160), (5, knV i), (6, knV q7.1)] [knV t11_0, knV x2, knV x1, knO G 142] q7.2 := by
        intro t11_0 et11_0 ht11_0
        subst et11_0
        refine kj_aloadn X 0 dL_law_534 rfl ?_
        refine kj_iload X 5 dL_law_535 rfl ?_
        refine kj_iconst X dL_law_537 ?_
        refine kj_iadd X dL_law_538 ?_
        refine kj_sld X S (knCw _) hs.2.2.2.2 hs.2.2.2.1 dL_law_539 ?_
        have j14 : ∀ (t14_0 : Int) (et14_0 : t14_0 = (if x4 = 0 then 0 else 1 : Int)) (ht14_0 : knZ t14_0), knJ G p l e room_1 s m args below meth c 10 (cells + 1) (slots + 6) Q 548 [(0, Value.ref b), (1, knO G 0), (2, knO G 142), (3, knO G 159), (4, knO G 160), (5, knV i), (6, knV q7.1)] [knV t14_0, knV (if x3 = 0 then 0 else 1 : Int), knV x2, knV x1, knO G 142] q7.2 := by
          intro t14_0 et14_0 ht14_0
          subst et14_0
          obtain ⟨q16, h17, hf⟩ := knBd_inv hf
          refine kj_callV (As := [knV x1, knV x2, knV (if x3 = 0 then 0 else 1 : Int), knV (if x4 = 0 then 0 else 1 : Int)]) (rest := []) X K (kcX13_addPoke l (knC_sx hs.1.2) (knC_sx hs.2.1.2) ht11_0 ht14_0 h17) knWvX13_addPoke (knGm 1668 (by decide +kernel) rfl) (by decide) (knKd_in kdc_142 (by decide)) (knEnt_10 kdc_142) rfl rfl rfl (Nat.le_of_ble_eq_true rfl) ⟨by omega, by omega⟩ dL_law_548 rfl (fun h18 => ?_)
          refine kj_istore X (L' := [(7, knV q16.1), (0, Value.ref b), (1, knO G 0), (2, knO G 142), (3, knO G 159), (4, knO G 160), (5, knV i), (6, knV q7.1)]) dL_law_551 (by decide) rfl ?_
          refine kj_aloadn X 3 dL_law_553 rfl ?_
          obtain ⟨q19, h20, hf⟩ := knBd_inv hf
          refine kj_callV (As := []) (rest := []) X K (kcX13_thrown l  h20) knWvX13_thrown (knGm 1589 (by decide +kernel) rfl) (by decide) (knKd_in kdc_142 (by decide)) (knEnt_10 kdc_142) rfl rfl rfl (Nat.le_of_ble_eq_true rfl) ⟨by omega, by omega⟩ dL_law_554 rfl (fun h21 => ?_)
          refine kj_iload X 7 dL_law_557 rfl ?_
          refine kj_ic_eq X (tgt := 564) dL_law_559 (by decide) h21 h9 (fun h22 => ?_) (fun h22 => ?_)
          · replace hf := knIp hf h22
            refine kj_iload X 7 dL_law_564 rfl ?_
            have j26 : (fun _ =>
             some q16.2) () = some q → knJ G p l e room_1 s m args below meth c 10 (cells + 1) (slots + 6) Q 581 [(0, Value.ref b), (1, knO G 0), (2, knO G 142), (3, knO G 159), (4, knO G 160), (5, knV i)] [] q16.2 := by
              intro hf
              refine kj_goto X (tgt := 2804) dL_law_581 (by decide) ?_
              cases hf
              refine kj_sub (L' := [(0, Value.ref b), (1, knO G 0), (2, knO G 142), (3, knO G 159), (4, knO G 160), (5, knV i)]) [0, 1, 2, 3, 4, 5] rfl ?_
              exact kj_wd (by omega) (by omega) kk
            refine kj_if_ne X (tgt := 581) dL_law_566 (by decide) h9 (fun h28 => ?_) (fun h28 => ?_)
            · replace hf := knIq hf h28
              refine kj_sub (L' := [(0, Value.ref b), (1, knO G 0), (2, knO G 142), (3, knO G 159), (4, knO G 160), (5, knV i)]) [1, 2, 3, 4, 5, 6] rfl ?_
              exact j26  hf
            · replace hf := knIp hf h28
              refine kj_aloadn X 4 dL_law_569 rfl ?_
              refine kj_iconst X dL_law_570 ?_
              refine kj_lald X K dL_law_571 (fun h29 => ?_)
              refine kj_iload X 0 dL_law_572 rfl ?_
              refine kj_i2l X dL_law_574 h18 ?_
              refine kj_lcmp X dL_law_575 h29 h18 ?_
              refine kj_if_eq X (tgt := 581) dL_law_576 (by decide) (knC_lcmp _ _) (fun h30 => ?_) (fun h30 => ?_)
              · replace hf := knIp hf h30
                refine kj_sub (L' := [(0, Value.ref b), (1, knO G 0), (2, knO G 142), (3, knO G 159), (4, knO G 160), (5, knV i)]) [1, 2, 3, 4, 5, 6] rfl ?_
                exact j26  hf
              · replace hf := knIq hf h30
                refine kj_iconst X dL_law_579 ?_
                cases hf
          · replace hf := knIq hf h22
            refine kj_iconst X dL_law_562 ?_
            cases hf
        refine kj_if_eq X (tgt := 547) dL_law_540 (by decide) (knC_sx hs.2.2.2.2) (fun h31 => ?_) (fun h31 => ?_)
        · refine kj_iconst X dL_law_547 ?_
          refine kj_sub (L' := [(0, Value.ref b), (1, knO G 0), (2, knO G 142), (3, knO G 159), (4, knO G 160), (5, knV i), (6, knV q7.1)]) [0, 1, 2, 3, 4, 5, 6] rfl ?_
          exact j14 0 (by rw [if_pos h31]) (Or.inl rfl)
        · refine kj_iconst X dL_law_543 ?_
          refine kj_goto X (tgt := 548) dL_law_544 (by decide) ?_
          refine kj_sub (L' := [(0, Value.ref b), (1, knO G 0), (2, knO G 142), (3, knO G 159), (4, knO G 160), (5, knV i), (6, knV q7.1)]) [0, 1, 2, 3, 4, 5, 6] rfl ?_
          exact j14 1 (by rw [if_neg h31]) (Or.inr rfl)
      refine kj_if_eq X (tgt := 533) dL_law_526 (by decide) (knC_sx hs.2.2.1.2) (fun h32 => ?_) (fun h32 => ?_)
      · refine kj_iconst X dL_law_533 ?_
        refine kj_sub (L' := [(0, Value.ref b), (1, knO G 0), (2, knO G 142), (3, knO G 159), (4, knO G 160), (5, knV i), (6, knV q7.1)]) [1, 2, 3, 4, 5, 6, 0] rfl ?_
        exact j11 0 (by rw [if_pos h32]) (Or.inl rfl)
      · refine kj_iconst X dL_law_529 ?_
        refine kj_goto X (tgt := 534) dL_law_530 (by decide) ?_
        refine kj_sub (L' := [(0, Value.ref b), (1, knO G 0), (2, knO G 142), (3, knO G 159), (4, knO G 160), (5, knV i), (6, knV q7.1)]) [1, 2, 3, 4, 5, 6, 0] rfl ?_
        exact j11 1 (by rw [if_neg h32]) (Or.inr rfl)
    refine kj_if_eq X (tgt := 500) dL_law_493 (by decide) (knC_sx hs.2.2.2.2) (fun h33 => ?_) (fun h33 => ?_)
    · refine kj_iconst X dL_law_500 ?_
      refine kj_sub (L' := [(0, Value.ref b), (1, knO G 0), (2, knO G 142), (3, knO G 159), (4, knO G 160), (5, knV i)]) [0, 1, 2, 3, 4, 5] rfl ?_
      exact j5 0 (by rw [if_pos h33]) (Or.inl rfl)
    · refine kj_iconst X dL_law_496 ?_
      refine kj_goto X (tgt := 501) dL_law_497 (by decide) ?_
      refine kj_sub (L' := [(0, Value.ref b), (1, knO G 0), (2, knO G 142), (3, knO G 159), (4, knO G 160), (5, knV i)]) [0, 1, 2, 3, 4, 5] rfl ?_
      exact j5 1 (by rw [if_neg h33]) (Or.inr rfl)
  refine kj_if_eq X (tgt := 486) dL_law_479 (by decide) (knC_sx hs.2.2.1.2) (fun h34 => ?_) (fun h34 => ?_)
  · refine kj_iconst X dL_law_486 ?_
    refine kj_sub (L' := [(0, Value.ref b), (1, knO G 0), (2, knO G 142), (3, knO G 159), (4, knO G 160), (5, knV i)]) [0, 1, 2, 3, 4, 5] rfl ?_
    exact j2 0 (by rw [if_pos h34]) (Or.inl rfl)
  · refine kj_iconst X dL_law_482 ?_
    refine kj_goto X (tgt := 487) dL_law_483 (by decide) ?_
    refine kj_sub (L' := [(0, Value.ref b), (1, knO G 0), (2, knO G 142), (3, knO G 159), (4, knO G 160), (5, knV i)]) [0, 1, 2, 3, 4, 5] rfl ?_
    exact j2 1 (by rw [if_neg h34]) (Or.inr rfl)

def kfLc_3 (x1 x2 x3 x4 : Int) (μ : knMem) : Option knMem :=
 Option.bind (kfL_removePoke x1 x2 μ) (fun q1 =>
  Option.bind (kfX13_removePoke x1 x2 q1.2) (fun q4 =>
   Option.bind (kfX13_thrown  q4.2) (fun q7 =>
    if q7 = q1.1 then
     (fun (k14 : (Unit) → Option (knMem)) =>
      if q1.1 = 0 then
       if (knLcmp (q4.2 159 0) q4.1) = 0 then
        k14 ()
       else
        none
      else
       k14 ())
      (fun _ =>
      some q4.2)
    else
     none)))

set_option maxHeartbeats 4000000 in
set_option maxRecDepth 100000 in
theorem kcLc_3 {G : knGT} {p : Program} {l : Launch} {e : Env} {s : State} {m : MethodId} {args : Array Value} {below : List Frame} {meth : Method} {c : Code} {Q : State → Prop} {b N : Nat} {xs : Nat → Int32} (hl : l.stackTraces = false) (X : knX p m c code 10 s args RL) (K : knK G s s.heap) (S : knSc G b N xs s) {i x1 x2 x3 x4 : Int} (hi : knC i) (hs : knSi N xs i x1 x2 x3 x4) {cells slots : Nat} (hc9 : cells + 2 ≤ room_1.cells) (hs9 : slots + 12 ≤ room_1.slots) {μ q : knMem} (hf : kfLc_3 x1 x2 x3 x4 μ = some q)
  (kk : knJ G p l e room_1 s m args below meth c 10 (cells + 2) (slots + 12) Q 2804 [(0, Value.ref b), (1, knO G 0), (2, knO G 142), (3, knO G 159), (4, knO G 160), (5, knV i)] [] q) : knJ G p l e room_1 s m args below meth c 10 cells slots Q 584 [(0, Value.ref b), (1, knO G 0), (2, knO G 142), (3, knO G 159), (4, knO G 160), (5, knV i)] [] μ := by
  unfold kfLc_3 at hf
  refine kj_aloadn X 1 dL_law_584 rfl ?_
  refine kj_aloadn X 0 dL_law_585 rfl ?_
  refine kj_iload X 5 dL_law_586 rfl ?_
  refine kj_iconst X dL_law_588 ?_
  refine kj_iadd X dL_law_589 ?_
  refine kj_sld X S (knCw _) hs.1.2 hs.1.1 dL_law_590 ?_
  refine kj_aloadn X 0 dL_law_591 rfl ?_
  refine kj_iload X 5 dL_law_592 rfl ?_
  refine kj_iconst X dL_law_594 ?_
  refine kj_iadd X dL_law_595 ?_
  refine kj_sld X S (knCw _) hs.2.1.2 hs.2.1.1 dL_law_596 ?_
  refine kj_aloadn X 3 dL_law_597 rfl ?_
  obtain ⟨q1, h2, hf⟩ := knBd_inv hf
  refine kj_callSH (As := [knO G 0, knV x1, knV x2, knO G 159]) (rest := []) X K (kcL_removePoke l hl (knC_sx hs.1.2) (knC_sx hs.2.1.2) h2) knWhL_removePoke (knGm 988 (by decide +kernel) rfl) (by decide) rfl (Nat.le_of_ble_eq_true rfl) ⟨by omega, by omega⟩ dL_law_598 rfl (fun h3 => ?_)
  refine kj_istore X (L' := [(6, knV q1.1), (0, Value.ref b), (1, knO G 0), (2, knO G 142), (3, knO G 159), (4, knO G 160), (5, knV i)]) dL_law_601 (by decide) rfl ?_
  refine kj_aloadn X 3 dL_law_603 rfl ?_
  refine kj_aloadn X 1 dL_law_604 rfl ?_
  refine kj_iload X 6 dL_law_605 rfl ?_
  refine kj_iconst X dL_law_607 ?_
  refine kj_iadd X dL_law_608 ?_
  refine kj_sld X S (knCw _) hs.1.2 hs.1.1 dL_law_609 ?_
  refine kj_aloadn X 1 dL_law_610 rfl ?_
  refine kj_iload X 6 dL_law_611 rfl ?_
  refine kj_iconst X dL_law_613 ?_
  refine kj_iadd X dL_law_614 ?_
  refine kj_sld X S (knCw _) hs.2.1.2 hs.2.1.1 dL_law_615 ?_
  obtain ⟨q4, h5, hf⟩ := knBd_inv hf
  refine kj_callV (As := [knV x1, knV x2]) (rest := []) X K (kcX13_removePoke l (knC_sx hs.1.2) (knC_sx hs.2.1.2) h5) knWvX13_removePoke (knGm 1684 (by decide +kernel) rfl) (by decide) (knKd_in kdc_142 (by decide)) (knEnt_10 kdc_142) rfl rfl rfl (Nat.le_of_ble_eq_true rfl) ⟨by omega, by omega⟩ dL_law_616 rfl (fun h6 => ?_)
  refine kj_istore X (L' := [(7, knV q4.1), (6, knV q1.1), (0, Value.ref b), (1, knO G 0), (2, knO G 142), (3, knO G 159), (4, knO G 160), (5, knV i)]) dL_law_619 (by decide) rfl ?_
  refine kj_aloadn X 4 dL_law_621 rfl ?_
  obtain ⟨q7, h8, hf⟩ := knBd_inv hf
  refine kj_callV (As := []) (rest := []) X K (kcX13_thrown l  h8) knWvX13_thrown (knGm 1589 (by decide +kernel) rfl) (by decide) (knKd_in kdc_142 (by decide)) (knEnt_10 kdc_142) rfl rfl rfl (Nat.le_of_ble_eq_true rfl) ⟨by omega, by omega⟩ dL_law_622 rfl (fun h9 => ?_)
  refine kj_iload X 1 dL_law_625 rfl ?_
  refine kj_ic_eq X (tgt := 632) dL_law_627 (by decide) h9 h3 (fun h10 => ?_) (fun h10 => ?_)
  · replace hf := knIp hf h10
    refine kj_iload X 1 dL_law_632 rfl ?_
    have j14 : (fun _ =>
     some q4.2) () = some q → knJ G p l e room_1 s m args below meth c 10 (cells + 1) (slots + 6) Q 649 [(0, Value.ref b), (1, knO G 0), (2, knO G 142), (3, knO G 159), (4, knO G 160), (5, knV i)] [] q4.2 := by
      intro hf
      refine kj_goto X (tgt := 2804) dL_law_649 (by decide) ?_
      cases hf
      refine kj_sub (L' := [(0, Value.ref b), (1, knO G 0), (2, knO G 142), (3, knO G 159), (4, knO G 160), (5, knV i)]) [0, 1, 2, 3, 4, 5] rfl ?_
      exact kj_wd (by omega) (by omega) kk
    refine kj_if_ne X (tgt := 649) dL_law_634 (by decide) h3 (fun h16 => ?_) (fun h16 => ?_)
    · replace hf := knIq hf h16
      refine kj_sub (L' := [(0, Value.ref b), (1, knO G 0), (2, knO G 142), (3, knO G 159), (4, knO G 160), (5, knV i)]) [2, 3, 4, 5, 6, 7] rfl ?_
      exact j14  hf
    · replace hf := knIp hf h16
      refine kj_aloadn X 5 dL_law_637 rfl ?_
      refine kj_iconst X dL_law_638 ?_
      refine kj_lald X K dL_law_639 (fun h17 => ?_)
      refine kj_iload X 0 dL_law_640 rfl ?_
      refine kj_i2l X dL_law_642 h6 ?_
      refine kj_lcmp X dL_law_643 h17 h6 ?_
      refine kj_if_eq X (tgt := 649) dL_law_644 (by decide) (knC_lcmp _ _) (fun h18 => ?_) (fun h18 => ?_)
      · replace hf := knIp hf h18
        refine kj_sub (L' := [(0, Value.ref b), (1, knO G 0), (2, knO G 142), (3, knO G 159), (4, knO G 160), (5, knV i)]) [2, 3, 4, 5, 6, 7] rfl ?_
        exact j14  hf
      · replace hf := knIq hf h18
        refine kj_iconst X dL_law_647 ?_
        cases hf
  · replace hf := knIq hf h10
    refine kj_iconst X dL_law_630 ?_
    cases hf

def kfLc_4 (x1 x2 x3 x4 : Int) (μ : knMem) : Option knMem :=
 Option.bind (kfL_switchCrossing x1 μ) (fun q1 =>
  Option.bind (kfX13_switchCrossing x1 q1.2) (fun q4 =>
   Option.bind (kfX13_thrown  q4.2) (fun q7 =>
    if q7 = q1.1 then
     (fun (k18 : (Unit) → Option (knMem)) =>
      if q1.1 = 0 then
       if (knLcmp (q4.2 159 0) (if q4.1 = 0 then 0 else 1 : Int)) = 0 then
        k18 ()
       else
        none
      else
       k18 ())
      (fun _ =>
      some q4.2)
    else
     none)))

set_option maxHeartbeats 4000000 in
set_option maxRecDepth 100000 in
theorem kcLc_4 {G : knGT} {p : Program} {l : Launch} {e : Env} {s : State} {m : MethodId} {args : Array Value} {below : List Frame} {meth : Method} {c : Code} {Q : State → Prop} {b N : Nat} {xs : Nat → Int32} (hl : l.stackTraces = false) (X : knX p m c code 10 s args RL) (K : knK G s s.heap) (S : knSc G b N xs s) {i x1 x2 x3 x4 : Int} (hi : knC i) (hs : knSi N xs i x1 x2 x3 x4) {cells slots : Nat} (hc9 : cells + 2 ≤ room_1.cells) (hs9 : slots + 12 ≤ room_1.slots) {μ q : knMem} (hf : kfLc_4 x1 x2 x3 x4 μ = some q)
  (kk : knJ G p l e room_1 s m args below meth c 10 (cells + 2) (slots + 12) Q 2804 [(0, Value.ref b), (1, knO G 0), (2, knO G 142), (3, knO G 159), (4, knO G 160), (5, knV i)] [] q) : knJ G p l e room_1 s m args below meth c 10 cells slots Q 652 [(0, Value.ref b), (1, knO G 0), (2, knO G 142), (3, knO G 159), (4, knO G 160), (5, knV i)] [] μ := by
  unfold kfLc_4 at hf
  refine kj_aloadn X 1 dL_law_652 rfl ?_
  refine kj_aloadn X 0 dL_law_653 rfl ?_
  refine kj_iload X 5 dL_law_654 rfl ?_
  refine kj_iconst X dL_law_656 ?_
  refine kj_iadd X dL_law_657 ?_
  refine kj_sld X S (knCw _) hs.1.2 hs.1.1 dL_law_658 ?_
  refine kj_aloadn X 3 dL_law_659 rfl ?_
  obtain ⟨q1, h2, hf⟩ := knBd_inv hf
  refine kj_callSH (As := [knO G 0, knV x1, knO G 159]) (rest := []) X K (kcL_switchCrossing l hl (knC_sx hs.1.2) h2) knWhL_switchCrossing (knGm 999 (by decide +kernel) rfl) (by decide) rfl (Nat.le_of_ble_eq_true rfl) ⟨by omega, by omega⟩ dL_law_660 rfl (fun h3 => ?_)
  refine kj_istore X (L' := [(6, knV q1.1), (0, Value.ref b), (1, knO G 0), (2, knO G 142), (3, knO G 159), (4, knO G 160), (5, knV i)]) dL_law_663 (by decide) rfl ?_
  refine kj_aloadn X 3 dL_law_665 rfl ?_
  refine kj_aloadn X 1 dL_law_666 rfl ?_
  refine kj_iload X 6 dL_law_667 rfl ?_
  refine kj_iconst X dL_law_669 ?_
  refine kj_iadd X dL_law_670 ?_
  refine kj_sld X S (knCw _) hs.1.2 hs.1.1 dL_law_671 ?_
  obtain ⟨q4, h5, hf⟩ := knBd_inv hf
  refine kj_callV (As := [knV x1]) (rest := []) X K (kcX13_switchCrossing l (knC_sx hs.1.2) h5) knWvX13_switchCrossing (knGm 1700 (by decide +kernel) rfl) (by decide) (knKd_in kdc_142 (by decide)) (knEnt_10 kdc_142) rfl rfl rfl (Nat.le_of_ble_eq_true rfl) ⟨by omega, by omega⟩ dL_law_672 rfl (fun h6 => ?_)
  refine kj_istore X (L' := [(7, knV q4.1), (6, knV q1.1), (0, Value.ref b), (1, knO G 0), (2, knO G 142), (3, knO G 159), (4, knO G 160), (5, knV i)]) dL_law_675 (by decide) rfl ?_
  refine kj_aloadn X 4 dL_law_677 rfl ?_
  obtain ⟨q7, h8, hf⟩ := knBd_inv hf
  refine kj_callV (As := []) (rest := []) X K (kcX13_thrown l  h8) knWvX13_thrown (knGm 1589 (by decide +kernel) rfl) (by decide) (knKd_in kdc_142 (by decide)) (knEnt_10 kdc_142) rfl rfl rfl (Nat.le_of_ble_eq_true rfl) ⟨by omega, by omega⟩ dL_law_678 rfl (fun h9 => ?_)
  refine kj_iload X 1 dL_law_681 rfl ?_
  refine kj_ic_eq X (tgt := 688) dL_law_683 (by decide) h9 h3 (fun h10 => ?_) (fun h10 => ?_)
  · replace hf := knIp hf h10
    refine kj_iload X 1 dL_law_688 rfl ?_
    have j18 : (fun _ =>
     some q4.2) () = some q → knJ G p l e room_1 s m args below meth c 10 (cells + 1) (slots + 6) Q 712 [(0, Value.ref b), (1, knO G 0), (2, knO G 142), (3, knO G 159), (4, knO G 160), (5, knV i)] [] q4.2 := by
      intro hf
      refine kj_goto X (tgt := 2804) dL_law_712 (by decide) ?_
      cases hf
      refine kj_sub (L' := [(0, Value.ref b), (1, knO G 0), (2, knO G 142), (3, knO G 159), (4, knO G 160), (5, knV i)]) [0, 1, 2, 3, 4, 5] rfl ?_
      exact kj_wd (by omega) (by omega) kk
    refine kj_if_ne X (tgt := 712) dL_law_690 (by decide) h3 (fun h20 => ?_) (fun h20 => ?_)
    · replace hf := knIq hf h20
      refine kj_sub (L' := [(0, Value.ref b), (1, knO G 0), (2, knO G 142), (3, knO G 159), (4, knO G 160), (5, knV i)]) [2, 3, 4, 5, 6, 7] rfl ?_
      exact j18  hf
    · replace hf := knIp hf h20
      refine kj_aloadn X 5 dL_law_693 rfl ?_
      refine kj_iconst X dL_law_694 ?_
      refine kj_lald X K dL_law_695 (fun h21 => ?_)
      refine kj_iload X 0 dL_law_696 rfl ?_
      have j23 : ∀ (t23_0 : Int) (et23_0 : t23_0 = (if q4.1 = 0 then 0 else 1 : Int)) (ht23_0 : knC t23_0), knJ G p l e room_1 s m args below meth c 10 (cells + 1) (slots + 6) Q 706 [(0, Value.ref b), (1, knO G 0), (2, knO G 142), (3, knO G 159), (4, knO G 160), (5, knV i)] [knVl t23_0, knVl (q4.2 159 0)] q4.2 := by
        intro t23_0 et23_0 ht23_0
        subst et23_0
        refine kj_lcmp X dL_law_706 h21 ht23_0 ?_
        refine kj_if_eq X (tgt := 712) dL_law_707 (by decide) (knC_lcmp _ _) (fun h25 => ?_) (fun h25 => ?_)
        · replace hf := knIp hf h25
          refine kj_sub (L' := [(0, Value.ref b), (1, knO G 0), (2, knO G 142), (3, knO G 159), (4, knO G 160), (5, knV i)]) [0, 1, 2, 3, 4, 5] rfl ?_
          exact j18  hf
        · replace hf := knIq hf h25
          refine kj_iconst X dL_law_710 ?_
          cases hf
      refine kj_if_eq X (tgt := 705) dL_law_698 (by decide) (knZ_c h6) (fun h26 => ?_) (fun h26 => ?_)
      · refine kj_lconst X (x := 0) dL_law_705 rfl ?_
        refine kj_sub (L' := [(0, Value.ref b), (1, knO G 0), (2, knO G 142), (3, knO G 159), (4, knO G 160), (5, knV i)]) [2, 3, 4, 5, 6, 7] rfl ?_
        exact j23 0 (by rw [if_pos h26]) (show knC (0) from ⟨by omega, by omega⟩)
      · refine kj_lconst X (x := 1) dL_law_701 rfl ?_
        refine kj_goto X (tgt := 706) dL_law_702 (by decide) ?_
        refine kj_sub (L' := [(0, Value.ref b), (1, knO G 0), (2, knO G 142), (3, knO G 159), (4, knO G 160), (5, knV i)]) [2, 3, 4, 5, 6, 7] rfl ?_
        exact j23 1 (by rw [if_neg h26]) (show knC (1) from ⟨by omega, by omega⟩)
  · replace hf := knIq hf h10
    refine kj_iconst X dL_law_686 ?_
    cases hf

def kfLc_5 (x1 x2 x3 x4 : Int) (μ : knMem) : Option knMem :=
 Option.bind (kfX12_mirror  μ) (fun q1 =>
  if q1.1 = 0 then
  Option.bind (kfX13_mirror  q1.2.2) (fun q7 =>
   if q1.2.1 = q7.1 then
    some q7.2
   else
    none)
  else
  none)

set_option maxHeartbeats 4000000 in
set_option maxRecDepth 100000 in
theorem kcLc_5 {G : knGT} {p : Program} {l : Launch} {e : Env} {s : State} {m : MethodId} {args : Array Value} {below : List Frame} {meth : Method} {c : Code} {Q : State → Prop} {b N : Nat} {xs : Nat → Int32} (hl : l.stackTraces = false) (X : knX p m c code 10 s args RL) (K : knK G s s.heap) (S : knSc G b N xs s) {i x1 x2 x3 x4 : Int} (hi : knC i) (hs : knSi N xs i x1 x2 x3 x4) {cells slots : Nat} (hc9 : cells + 2 ≤ room_1.cells) (hs9 : slots + 12 ≤ room_1.slots) {μ q : knMem} (hf : kfLc_5 x1 x2 x3 x4 μ = some q)
  (kk : knJ G p l e room_1 s m args below meth c 10 (cells + 2) (slots + 12) Q 2804 [(0, Value.ref b), (1, knO G 0), (2, knO G 142), (3, knO G 159), (4, knO G 160), (5, knV i)] [] q) : knJ G p l e room_1 s m args below meth c 10 cells slots Q 715 [(0, Value.ref b), (1, knO G 0), (2, knO G 142), (3, knO G 159), (4, knO G 160), (5, knV i)] [] μ := by
  unfold kfLc_5 at hf
  refine kj_aloadn X 1 dL_law_715 rfl ?_
  obtain ⟨q1, h2, hf⟩ := knBd_inv hf
  refine kjx_callV (As := []) (rest := []) X K (kcX12_mirror l hl  h2) knWvX12_mirror (knGm 404 (by decide +kernel) rfl) (by decide) (knKd_in kdc_0 (by decide)) (knEnt_9 kdc_0) rfl rfl rfl (Nat.le_of_ble_eq_true rfl) ⟨by omega, by omega⟩ dL_law_716 rfl (fun h4 h3 => ?_) (fun E5 h4 h6 => ?_)
  · replace hf := knIp hf h4
    refine kj_aloadn X 2 dL_law_719 rfl ?_
    obtain ⟨q7, h8, hf⟩ := knBd_inv hf
    refine kj_callV (As := []) (rest := [knV q1.2.1]) X K (kcX13_mirror l  h8) knWvX13_mirror (knGm 1716 (by decide +kernel) rfl) (by decide) (knKd_in kdc_142 (by decide)) (knEnt_10 kdc_142) rfl rfl rfl (Nat.le_of_ble_eq_true rfl) ⟨by omega, by omega⟩ dL_law_720 rfl (fun h9 => ?_)
    refine kj_ic_eq X (tgt := 2804) dL_law_723 (by decide) h3 h9 (fun h10 => ?_) (fun h10 => ?_)
    · replace hf := knIp hf h10
      cases hf
      refine kj_sub (L' := [(0, Value.ref b), (1, knO G 0), (2, knO G 142), (3, knO G 159), (4, knO G 160), (5, knV i)]) [0, 1, 2, 3, 4, 5] rfl ?_
      exact kj_wd (by omega) (by omega) kk
    · replace hf := knIq hf h10
      refine kj_iconst X dL_law_726 ?_
      cases hf
  · replace hf := knIq hf h4
    cases hf

def kfLc_6 (x1 x2 x3 x4 : Int) (μ : knMem) : Option knMem :=
 Option.bind (kfX12_reverse  μ) (fun q1 =>
  if q1.1 = 0 then
  Option.bind (kfX13_reverse  q1.2.2) (fun q7 =>
   if q1.2.1 = q7.1 then
    some q7.2
   else
    none)
  else
  none)

set_option maxHeartbeats 4000000 in
set_option maxRecDepth 100000 in
theorem kcLc_6 {G : knGT} {p : Program} {l : Launch} {e : Env} {s : State} {m : MethodId} {args : Array Value} {below : List Frame} {meth : Method} {c : Code} {Q : State → Prop} {b N : Nat} {xs : Nat → Int32} (hl : l.stackTraces = false) (X : knX p m c code 10 s args RL) (K : knK G s s.heap) (S : knSc G b N xs s) {i x1 x2 x3 x4 : Int} (hi : knC i) (hs : knSi N xs i x1 x2 x3 x4) {cells slots : Nat} (hc9 : cells + 2 ≤ room_1.cells) (hs9 : slots + 12 ≤ room_1.slots) {μ q : knMem} (hf : kfLc_6 x1 x2 x3 x4 μ = some q)
  (kk : knJ G p l e room_1 s m args below meth c 10 (cells + 2) (slots + 12) Q 2804 [(0, Value.ref b), (1, knO G 0), (2, knO G 142), (3, knO G 159), (4, knO G 160), (5, knV i)] [] q) : knJ G p l e room_1 s m args below meth c 10 cells slots Q 728 [(0, Value.ref b), (1, knO G 0), (2, knO G 142), (3, knO G 159), (4, knO G 160), (5, knV i)] [] μ := by
  unfold kfLc_6 at hf
  refine kj_aloadn X 1 dL_law_728 rfl ?_
  obtain ⟨q1, h2, hf⟩ := knBd_inv hf
  refine kjx_callV (As := []) (rest := []) X K (kcX12_reverse l hl  h2) knWvX12_reverse (knGm 598 (by decide +kernel) rfl) (by decide) (knKd_in kdc_0 (by decide)) (knEnt_9 kdc_0) rfl rfl rfl (Nat.le_of_ble_eq_true rfl) ⟨by omega, by omega⟩ dL_law_729 rfl (fun h4 h3 => ?_) (fun E5 h4 h6 => ?_)
  · replace hf := knIp hf h4
    refine kj_aloadn X 2 dL_law_732 rfl ?_
    obtain ⟨q7, h8, hf⟩ := knBd_inv hf
    refine kj_callV (As := []) (rest := [knV q1.2.1]) X K (kcX13_reverse l  h8) knWvX13_reverse (knGm 1728 (by decide +kernel) rfl) (by decide) (knKd_in kdc_142 (by decide)) (knEnt_10 kdc_142) rfl rfl rfl (Nat.le_of_ble_eq_true rfl) ⟨by omega, by omega⟩ dL_law_733 rfl (fun h9 => ?_)
    refine kj_ic_eq X (tgt := 2804) dL_law_736 (by decide) h3 h9 (fun h10 => ?_) (fun h10 => ?_)
    · replace hf := knIp hf h10
      cases hf
      refine kj_sub (L' := [(0, Value.ref b), (1, knO G 0), (2, knO G 142), (3, knO G 159), (4, knO G 160), (5, knV i)]) [0, 1, 2, 3, 4, 5] rfl ?_
      exact kj_wd (by omega) (by omega) kk
    · replace hf := knIq hf h10
      refine kj_iconst X dL_law_739 ?_
      cases hf
  · replace hf := knIq hf h4
    cases hf

def kfLc_7 (x1 x2 x3 x4 : Int) (μ : knMem) : Option knMem :=
 Option.bind (kfL_turn x1 μ) (fun q1 =>
  Option.bind (kfX13_turn x1 q1.2) (fun q4 =>
   Option.bind (kfX13_thrown  q4.2) (fun q7 =>
    if q7 = q1.1 then
     (fun (k14 : (Unit) → Option (knMem)) =>
      if q1.1 = 0 then
       if (knLcmp (q4.2 159 0) q4.1) = 0 then
        k14 ()
       else
        none
      else
       k14 ())
      (fun _ =>
      some q4.2)
    else
     none)))

set_option maxHeartbeats 4000000 in
set_option maxRecDepth 100000 in
theorem kcLc_7 {G : knGT} {p : Program} {l : Launch} {e : Env} {s : State} {m : MethodId} {args : Array Value} {below : List Frame} {meth : Method} {c : Code} {Q : State → Prop} {b N : Nat} {xs : Nat → Int32} (hl : l.stackTraces = false) (X : knX p m c code 10 s args RL) (K : knK G s s.heap) (S : knSc G b N xs s) {i x1 x2 x3 x4 : Int} (hi : knC i) (hs : knSi N xs i x1 x2 x3 x4) {cells slots : Nat} (hc9 : cells + 2 ≤ room_1.cells) (hs9 : slots + 12 ≤ room_1.slots) {μ q : knMem} (hf : kfLc_7 x1 x2 x3 x4 μ = some q)
  (kk : knJ G p l e room_1 s m args below meth c 10 (cells + 2) (slots + 12) Q 2804 [(0, Value.ref b), (1, knO G 0), (2, knO G 142), (3, knO G 159), (4, knO G 160), (5, knV i)] [] q) : knJ G p l e room_1 s m args below meth c 10 cells slots Q 741 [(0, Value.ref b), (1, knO G 0), (2, knO G 142), (3, knO G 159), (4, knO G 160), (5, knV i)] [] μ := by
  unfold kfLc_7 at hf
  refine kj_aloadn X 1 dL_law_741 rfl ?_
  refine kj_aloadn X 0 dL_law_742 rfl ?_
  refine kj_iload X 5 dL_law_743 rfl ?_
  refine kj_iconst X dL_law_745 ?_
  refine kj_iadd X dL_law_746 ?_
  refine kj_sld X S (knCw _) hs.1.2 hs.1.1 dL_law_747 ?_
  refine kj_aloadn X 3 dL_law_748 rfl ?_
  obtain ⟨q1, h2, hf⟩ := knBd_inv hf
  refine kj_callSH (As := [knO G 0, knV x1, knO G 159]) (rest := []) X K (kcL_turn l hl (knC_sx hs.1.2) h2) knWhL_turn (knGm 1010 (by decide +kernel) rfl) (by decide) rfl (Nat.le_of_ble_eq_true rfl) ⟨by omega, by omega⟩ dL_law_749 rfl (fun h3 => ?_)
  refine kj_istore X (L' := [(6, knV q1.1), (0, Value.ref b), (1, knO G 0), (2, knO G 142), (3, knO G 159), (4, knO G 160), (5, knV i)]) dL_law_752 (by decide) rfl ?_
  refine kj_aloadn X 3 dL_law_754 rfl ?_
  refine kj_aloadn X 1 dL_law_755 rfl ?_
  refine kj_iload X 6 dL_law_756 rfl ?_
  refine kj_iconst X dL_law_758 ?_
  refine kj_iadd X dL_law_759 ?_
  refine kj_sld X S (knCw _) hs.1.2 hs.1.1 dL_law_760 ?_
  obtain ⟨q4, h5, hf⟩ := knBd_inv hf
  refine kj_callV (As := [knV x1]) (rest := []) X K (kcX13_turn l (knC_sx hs.1.2) h5) knWvX13_turn (knGm 1736 (by decide +kernel) rfl) (by decide) (knKd_in kdc_142 (by decide)) (knEnt_10 kdc_142) rfl rfl rfl (Nat.le_of_ble_eq_true rfl) ⟨by omega, by omega⟩ dL_law_761 rfl (fun h6 => ?_)
  refine kj_istore X (L' := [(7, knV q4.1), (6, knV q1.1), (0, Value.ref b), (1, knO G 0), (2, knO G 142), (3, knO G 159), (4, knO G 160), (5, knV i)]) dL_law_764 (by decide) rfl ?_
  refine kj_aloadn X 4 dL_law_766 rfl ?_
  obtain ⟨q7, h8, hf⟩ := knBd_inv hf
  refine kj_callV (As := []) (rest := []) X K (kcX13_thrown l  h8) knWvX13_thrown (knGm 1589 (by decide +kernel) rfl) (by decide) (knKd_in kdc_142 (by decide)) (knEnt_10 kdc_142) rfl rfl rfl (Nat.le_of_ble_eq_true rfl) ⟨by omega, by omega⟩ dL_law_767 rfl (fun h9 => ?_)
  refine kj_iload X 1 dL_law_770 rfl ?_
  refine kj_ic_eq X (tgt := 777) dL_law_772 (by decide) h9 h3 (fun h10 => ?_) (fun h10 => ?_)
  · replace hf := knIp hf h10
    refine kj_iload X 1 dL_law_777 rfl ?_
    have j14 : (fun _ =>
     some q4.2) () = some q → knJ G p l e room_1 s m args below meth c 10 (cells + 1) (slots + 6) Q 794 [(0, Value.ref b), (1, knO G 0), (2, knO G 142), (3, knO G 159), (4, knO G 160), (5, knV i)] [] q4.2 := by
      intro hf
      refine kj_goto X (tgt := 2804) dL_law_794 (by decide) ?_
      cases hf
      refine kj_sub (L' := [(0, Value.ref b), (1, knO G 0), (2, knO G 142), (3, knO G 159), (4, knO G 160), (5, knV i)]) [0, 1, 2, 3, 4, 5] rfl ?_
      exact kj_wd (by omega) (by omega) kk
    refine kj_if_ne X (tgt := 794) dL_law_779 (by decide) h3 (fun h16 => ?_) (fun h16 => ?_)
    · replace hf := knIq hf h16
      refine kj_sub (L' := [(0, Value.ref b), (1, knO G 0), (2, knO G 142), (3, knO G 159), (4, knO G 160), (5, knV i)]) [2, 3, 4, 5, 6, 7] rfl ?_
      exact j14  hf
    · replace hf := knIp hf h16
      refine kj_aloadn X 5 dL_law_782 rfl ?_
      refine kj_iconst X dL_law_783 ?_
      refine kj_lald X K dL_law_784 (fun h17 => ?_)
      refine kj_iload X 0 dL_law_785 rfl ?_
      refine kj_i2l X dL_law_787 h6 ?_
      refine kj_lcmp X dL_law_788 h17 h6 ?_
      refine kj_if_eq X (tgt := 794) dL_law_789 (by decide) (knC_lcmp _ _) (fun h18 => ?_) (fun h18 => ?_)
      · replace hf := knIp hf h18
        refine kj_sub (L' := [(0, Value.ref b), (1, knO G 0), (2, knO G 142), (3, knO G 159), (4, knO G 160), (5, knV i)]) [2, 3, 4, 5, 6, 7] rfl ?_
        exact j14  hf
      · replace hf := knIq hf h18
        refine kj_iconst X dL_law_792 ?_
        cases hf
  · replace hf := knIq hf h10
    refine kj_iconst X dL_law_775 ?_
    cases hf

def kfLc_8 (x1 x2 x3 x4 : Int) (μ : knMem) : Option knMem :=
 Option.bind (kfX12_reduce  μ) (fun q1 =>
  if q1.1 = 0 then
  Option.bind (kfX13_reduce  q1.2.2) (fun q7 =>
   if q1.2.1 = q7.1 then
    some q7.2
   else
    none)
  else
  none)

set_option maxHeartbeats 4000000 in
set_option maxRecDepth 100000 in
theorem kcLc_8 {G : knGT} {p : Program} {l : Launch} {e : Env} {s : State} {m : MethodId} {args : Array Value} {below : List Frame} {meth : Method} {c : Code} {Q : State → Prop} {b N : Nat} {xs : Nat → Int32} (hl : l.stackTraces = false) (X : knX p m c code 10 s args RL) (K : knK G s s.heap) (S : knSc G b N xs s) {i x1 x2 x3 x4 : Int} (hi : knC i) (hs : knSi N xs i x1 x2 x3 x4) {cells slots : Nat} (hc9 : cells + 2 ≤ room_1.cells) (hs9 : slots + 12 ≤ room_1.slots) {μ q : knMem} (hf : kfLc_8 x1 x2 x3 x4 μ = some q)
  (kk : knJ G p l e room_1 s m args below meth c 10 (cells + 2) (slots + 12) Q 2804 [(0, Value.ref b), (1, knO G 0), (2, knO G 142), (3, knO G 159), (4, knO G 160), (5, knV i)] [] q) : knJ G p l e room_1 s m args below meth c 10 cells slots Q 797 [(0, Value.ref b), (1, knO G 0), (2, knO G 142), (3, knO G 159), (4, knO G 160), (5, knV i)] [] μ := by
  unfold kfLc_8 at hf
  refine kj_aloadn X 1 dL_law_797 rfl ?_
  obtain ⟨q1, h2, hf⟩ := knBd_inv hf
  refine kjx_callV (As := []) (rest := []) X K (kcX12_reduce l hl  h2) knWvX12_reduce (knGm 610 (by decide +kernel) rfl) (by decide) (knKd_in kdc_0 (by decide)) (knEnt_9 kdc_0) rfl rfl rfl (Nat.le_of_ble_eq_true rfl) ⟨by omega, by omega⟩ dL_law_798 rfl (fun h4 h3 => ?_) (fun E5 h4 h6 => ?_)
  · replace hf := knIp hf h4
    refine kj_aloadn X 2 dL_law_801 rfl ?_
    obtain ⟨q7, h8, hf⟩ := knBd_inv hf
    refine kj_callV (As := []) (rest := [knV q1.2.1]) X K (kcX13_reduce l  h8) knWvX13_reduce (knGm 1752 (by decide +kernel) rfl) (by decide) (knKd_in kdc_142 (by decide)) (knEnt_10 kdc_142) rfl rfl rfl (Nat.le_of_ble_eq_true rfl) ⟨by omega, by omega⟩ dL_law_802 rfl (fun h9 => ?_)
    refine kj_ic_eq X (tgt := 2804) dL_law_805 (by decide) h3 h9 (fun h10 => ?_) (fun h10 => ?_)
    · replace hf := knIp hf h10
      cases hf
      refine kj_sub (L' := [(0, Value.ref b), (1, knO G 0), (2, knO G 142), (3, knO G 159), (4, knO G 160), (5, knV i)]) [0, 1, 2, 3, 4, 5] rfl ?_
      exact kj_wd (by omega) (by omega) kk
    · replace hf := knIq hf h10
      refine kj_iconst X dL_law_808 ?_
      cases hf
  · replace hf := knIq hf h4
    cases hf

def kfLc_9 (x1 x2 x3 x4 : Int) (μ : knMem) : Option knMem :=
 Option.bind (kfX12_crossingCount  μ) (fun q1 =>
  Option.bind (kfX13_crossingCount  μ) (fun q4 =>
   if q1 = q4.1 then
    some q4.2
   else
    none))

set_option maxHeartbeats 4000000 in
set_option maxRecDepth 100000 in
theorem kcLc_9 {G : knGT} {p : Program} {l : Launch} {e : Env} {s : State} {m : MethodId} {args : Array Value} {below : List Frame} {meth : Method} {c : Code} {Q : State → Prop} {b N : Nat} {xs : Nat → Int32} (hl : l.stackTraces = false) (X : knX p m c code 10 s args RL) (K : knK G s s.heap) (S : knSc G b N xs s) {i x1 x2 x3 x4 : Int} (hi : knC i) (hs : knSi N xs i x1 x2 x3 x4) {cells slots : Nat} (hc9 : cells + 2 ≤ room_1.cells) (hs9 : slots + 12 ≤ room_1.slots) {μ q : knMem} (hf : kfLc_9 x1 x2 x3 x4 μ = some q)
  (kk : knJ G p l e room_1 s m args below meth c 10 (cells + 2) (slots + 12) Q 2804 [(0, Value.ref b), (1, knO G 0), (2, knO G 142), (3, knO G 159), (4, knO G 160), (5, knV i)] [] q) : knJ G p l e room_1 s m args below meth c 10 cells slots Q 810 [(0, Value.ref b), (1, knO G 0), (2, knO G 142), (3, knO G 159), (4, knO G 160), (5, knV i)] [] μ := by
  unfold kfLc_9 at hf
  refine kj_aloadn X 1 dL_law_810 rfl ?_
  obtain ⟨q1, h2, hf⟩ := knBd_inv hf
  refine kj_callV (As := []) (rest := []) X K (kcX12_crossingCount l  h2) knWvX12_crossingCount (knGm 645 (by decide +kernel) rfl) (by decide) (knKd_in kdc_0 (by decide)) (knEnt_9 kdc_0) rfl rfl rfl (Nat.le_of_ble_eq_true rfl) ⟨by omega, by omega⟩ dL_law_811 rfl (fun h3 => ?_)
  refine kj_aloadn X 2 dL_law_814 rfl ?_
  obtain ⟨q4, h5, hf⟩ := knBd_inv hf
  refine kj_callV (As := []) (rest := [knV q1]) X K (kcX13_crossingCount l  h5) knWvX13_crossingCount (knGm 1768 (by decide +kernel) rfl) (by decide) (knKd_in kdc_142 (by decide)) (knEnt_10 kdc_142) rfl rfl rfl (Nat.le_of_ble_eq_true rfl) ⟨by omega, by omega⟩ dL_law_815 rfl (fun h6 => ?_)
  refine kj_ic_eq X (tgt := 2804) dL_law_818 (by decide) h3 h6 (fun h7 => ?_) (fun h7 => ?_)
  · replace hf := knIp hf h7
    cases hf
    refine kj_sub (L' := [(0, Value.ref b), (1, knO G 0), (2, knO G 142), (3, knO G 159), (4, knO G 160), (5, knV i)]) [0, 1, 2, 3, 4, 5] rfl ?_
    exact kj_wd (by omega) (by omega) kk
  · replace hf := knIq hf h7
    refine kj_iconst X dL_law_821 ?_
    cases hf

def kfLc_10 (x1 x2 x3 x4 : Int) (μ : knMem) : Option knMem :=
 Option.bind (kfL_crossingAt x1 μ) (fun q1 =>
  Option.bind (kfX13_crossingAt x1 q1.2) (fun q4 =>
   Option.bind (kfX13_thrown  q4.2) (fun q7 =>
    if q7 = q1.1 then
     (fun (k14 : (Unit) → Option (knMem)) =>
      if q1.1 = 0 then
       if (knLcmp (q4.2 159 0) q4.1) = 0 then
        k14 ()
       else
        none
      else
       k14 ())
      (fun _ =>
      some q4.2)
    else
     none)))

set_option maxHeartbeats 4000000 in
set_option maxRecDepth 100000 in
theorem kcLc_10 {G : knGT} {p : Program} {l : Launch} {e : Env} {s : State} {m : MethodId} {args : Array Value} {below : List Frame} {meth : Method} {c : Code} {Q : State → Prop} {b N : Nat} {xs : Nat → Int32} (hl : l.stackTraces = false) (X : knX p m c code 10 s args RL) (K : knK G s s.heap) (S : knSc G b N xs s) {i x1 x2 x3 x4 : Int} (hi : knC i) (hs : knSi N xs i x1 x2 x3 x4) {cells slots : Nat} (hc9 : cells + 2 ≤ room_1.cells) (hs9 : slots + 12 ≤ room_1.slots) {μ q : knMem} (hf : kfLc_10 x1 x2 x3 x4 μ = some q)
  (kk : knJ G p l e room_1 s m args below meth c 10 (cells + 2) (slots + 12) Q 2804 [(0, Value.ref b), (1, knO G 0), (2, knO G 142), (3, knO G 159), (4, knO G 160), (5, knV i)] [] q) : knJ G p l e room_1 s m args below meth c 10 cells slots Q 823 [(0, Value.ref b), (1, knO G 0), (2, knO G 142), (3, knO G 159), (4, knO G 160), (5, knV i)] [] μ := by
  unfold kfLc_10 at hf
  refine kj_aloadn X 1 dL_law_823 rfl ?_
  refine kj_aloadn X 0 dL_law_824 rfl ?_
  refine kj_iload X 5 dL_law_825 rfl ?_
  refine kj_iconst X dL_law_827 ?_
  refine kj_iadd X dL_law_828 ?_
  refine kj_sld X S (knCw _) hs.1.2 hs.1.1 dL_law_829 ?_
  refine kj_aloadn X 3 dL_law_830 rfl ?_
  obtain ⟨q1, h2, hf⟩ := knBd_inv hf
  refine kj_callSH (As := [knO G 0, knV x1, knO G 159]) (rest := []) X K (kcL_crossingAt l hl (knC_sx hs.1.2) h2) knWhL_crossingAt (knGm 1026 (by decide +kernel) rfl) (by decide) rfl (Nat.le_of_ble_eq_true rfl) ⟨by omega, by omega⟩ dL_law_831 rfl (fun h3 => ?_)
  refine kj_istore X (L' := [(6, knV q1.1), (0, Value.ref b), (1, knO G 0), (2, knO G 142), (3, knO G 159), (4, knO G 160), (5, knV i)]) dL_law_834 (by decide) rfl ?_
  refine kj_aloadn X 3 dL_law_836 rfl ?_
  refine kj_aloadn X 1 dL_law_837 rfl ?_
  refine kj_iload X 6 dL_law_838 rfl ?_
  refine kj_iconst X dL_law_840 ?_
  refine kj_iadd X dL_law_841 ?_
  refine kj_sld X S (knCw _) hs.1.2 hs.1.1 dL_law_842 ?_
  obtain ⟨q4, h5, hf⟩ := knBd_inv hf
  refine kj_callV (As := [knV x1]) (rest := []) X K (kcX13_crossingAt l (knC_sx hs.1.2) h5) knWvX13_crossingAt (knGm 1776 (by decide +kernel) rfl) (by decide) (knKd_in kdc_142 (by decide)) (knEnt_10 kdc_142) rfl rfl rfl (Nat.le_of_ble_eq_true rfl) ⟨by omega, by omega⟩ dL_law_843 rfl (fun h6 => ?_)
  refine kj_istore X (L' := [(7, knV q4.1), (6, knV q1.1), (0, Value.ref b), (1, knO G 0), (2, knO G 142), (3, knO G 159), (4, knO G 160), (5, knV i)]) dL_law_846 (by decide) rfl ?_
  refine kj_aloadn X 4 dL_law_848 rfl ?_
  obtain ⟨q7, h8, hf⟩ := knBd_inv hf
  refine kj_callV (As := []) (rest := []) X K (kcX13_thrown l  h8) knWvX13_thrown (knGm 1589 (by decide +kernel) rfl) (by decide) (knKd_in kdc_142 (by decide)) (knEnt_10 kdc_142) rfl rfl rfl (Nat.le_of_ble_eq_true rfl) ⟨by omega, by omega⟩ dL_law_849 rfl (fun h9 => ?_)
  refine kj_iload X 1 dL_law_852 rfl ?_
  refine kj_ic_eq X (tgt := 859) dL_law_854 (by decide) h9 h3 (fun h10 => ?_) (fun h10 => ?_)
  · replace hf := knIp hf h10
    refine kj_iload X 1 dL_law_859 rfl ?_
    have j14 : (fun _ =>
     some q4.2) () = some q → knJ G p l e room_1 s m args below meth c 10 (cells + 1) (slots + 6) Q 876 [(0, Value.ref b), (1, knO G 0), (2, knO G 142), (3, knO G 159), (4, knO G 160), (5, knV i)] [] q4.2 := by
      intro hf
      refine kj_goto X (tgt := 2804) dL_law_876 (by decide) ?_
      cases hf
      refine kj_sub (L' := [(0, Value.ref b), (1, knO G 0), (2, knO G 142), (3, knO G 159), (4, knO G 160), (5, knV i)]) [0, 1, 2, 3, 4, 5] rfl ?_
      exact kj_wd (by omega) (by omega) kk
    refine kj_if_ne X (tgt := 876) dL_law_861 (by decide) h3 (fun h16 => ?_) (fun h16 => ?_)
    · replace hf := knIq hf h16
      refine kj_sub (L' := [(0, Value.ref b), (1, knO G 0), (2, knO G 142), (3, knO G 159), (4, knO G 160), (5, knV i)]) [2, 3, 4, 5, 6, 7] rfl ?_
      exact j14  hf
    · replace hf := knIp hf h16
      refine kj_aloadn X 5 dL_law_864 rfl ?_
      refine kj_iconst X dL_law_865 ?_
      refine kj_lald X K dL_law_866 (fun h17 => ?_)
      refine kj_iload X 0 dL_law_867 rfl ?_
      refine kj_i2l X dL_law_869 h6 ?_
      refine kj_lcmp X dL_law_870 h17 h6 ?_
      refine kj_if_eq X (tgt := 876) dL_law_871 (by decide) (knC_lcmp _ _) (fun h18 => ?_) (fun h18 => ?_)
      · replace hf := knIp hf h18
        refine kj_sub (L' := [(0, Value.ref b), (1, knO G 0), (2, knO G 142), (3, knO G 159), (4, knO G 160), (5, knV i)]) [2, 3, 4, 5, 6, 7] rfl ?_
        exact j14  hf
      · replace hf := knIq hf h18
        refine kj_iconst X dL_law_874 ?_
        cases hf
  · replace hf := knIq hf h10
    refine kj_iconst X dL_law_857 ?_
    cases hf

def kfLc_11 (x1 x2 x3 x4 : Int) (μ : knMem) : Option knMem :=
 Option.bind (kfL_isOver x1 μ) (fun q1 =>
  Option.bind (kfX13_isOver x1 q1.2) (fun q4 =>
   Option.bind (kfX13_thrown  q4.2) (fun q7 =>
    if q7 = q1.1 then
     (fun (k18 : (Unit) → Option (knMem)) =>
      if q1.1 = 0 then
       if (knLcmp (q4.2 159 0) (if q4.1 = 0 then 0 else 1 : Int)) = 0 then
        k18 ()
       else
        none
      else
       k18 ())
      (fun _ =>
      some q4.2)
    else
     none)))

set_option maxHeartbeats 4000000 in
set_option maxRecDepth 100000 in
theorem kcLc_11 {G : knGT} {p : Program} {l : Launch} {e : Env} {s : State} {m : MethodId} {args : Array Value} {below : List Frame} {meth : Method} {c : Code} {Q : State → Prop} {b N : Nat} {xs : Nat → Int32} (hl : l.stackTraces = false) (X : knX p m c code 10 s args RL) (K : knK G s s.heap) (S : knSc G b N xs s) {i x1 x2 x3 x4 : Int} (hi : knC i) (hs : knSi N xs i x1 x2 x3 x4) {cells slots : Nat} (hc9 : cells + 2 ≤ room_1.cells) (hs9 : slots + 12 ≤ room_1.slots) {μ q : knMem} (hf : kfLc_11 x1 x2 x3 x4 μ = some q)
  (kk : knJ G p l e room_1 s m args below meth c 10 (cells + 2) (slots + 12) Q 2804 [(0, Value.ref b), (1, knO G 0), (2, knO G 142), (3, knO G 159), (4, knO G 160), (5, knV i)] [] q) : knJ G p l e room_1 s m args below meth c 10 cells slots Q 879 [(0, Value.ref b), (1, knO G 0), (2, knO G 142), (3, knO G 159), (4, knO G 160), (5, knV i)] [] μ := by
  unfold kfLc_11 at hf
  refine kj_aloadn X 1 dL_law_879 rfl ?_
  refine kj_aloadn X 0 dL_law_880 rfl ?_
  refine kj_iload X 5 dL_law_881 rfl ?_
  refine kj_iconst X dL_law_883 ?_
  refine kj_iadd X dL_law_884 ?_
  refine kj_sld X S (knCw _) hs.1.2 hs.1.1 dL_law_885 ?_
  refine kj_aloadn X 3 dL_law_886 rfl ?_
  obtain ⟨q1, h2, hf⟩ := knBd_inv hf
  refine kj_callSH (As := [knO G 0, knV x1, knO G 159]) (rest := []) X K (kcL_isOver l hl (knC_sx hs.1.2) h2) knWhL_isOver (knGm 1039 (by decide +kernel) rfl) (by decide) rfl (Nat.le_of_ble_eq_true rfl) ⟨by omega, by omega⟩ dL_law_887 rfl (fun h3 => ?_)
  refine kj_istore X (L' := [(6, knV q1.1), (0, Value.ref b), (1, knO G 0), (2, knO G 142), (3, knO G 159), (4, knO G 160), (5, knV i)]) dL_law_890 (by decide) rfl ?_
  refine kj_aloadn X 3 dL_law_892 rfl ?_
  refine kj_aloadn X 1 dL_law_893 rfl ?_
  refine kj_iload X 6 dL_law_894 rfl ?_
  refine kj_iconst X dL_law_896 ?_
  refine kj_iadd X dL_law_897 ?_
  refine kj_sld X S (knCw _) hs.1.2 hs.1.1 dL_law_898 ?_
  obtain ⟨q4, h5, hf⟩ := knBd_inv hf
  refine kj_callV (As := [knV x1]) (rest := []) X K (kcX13_isOver l (knC_sx hs.1.2) h5) knWvX13_isOver (knGm 1780 (by decide +kernel) rfl) (by decide) (knKd_in kdc_142 (by decide)) (knEnt_10 kdc_142) rfl rfl rfl (Nat.le_of_ble_eq_true rfl) ⟨by omega, by omega⟩ dL_law_899 rfl (fun h6 => ?_)
  refine kj_istore X (L' := [(7, knV q4.1), (6, knV q1.1), (0, Value.ref b), (1, knO G 0), (2, knO G 142), (3, knO G 159), (4, knO G 160), (5, knV i)]) dL_law_902 (by decide) rfl ?_
  refine kj_aloadn X 4 dL_law_904 rfl ?_
  obtain ⟨q7, h8, hf⟩ := knBd_inv hf
  refine kj_callV (As := []) (rest := []) X K (kcX13_thrown l  h8) knWvX13_thrown (knGm 1589 (by decide +kernel) rfl) (by decide) (knKd_in kdc_142 (by decide)) (knEnt_10 kdc_142) rfl rfl rfl (Nat.le_of_ble_eq_true rfl) ⟨by omega, by omega⟩ dL_law_905 rfl (fun h9 => ?_)
  refine kj_iload X 1 dL_law_908 rfl ?_
  refine kj_ic_eq X (tgt := 915) dL_law_910 (by decide) h9 h3 (fun h10 => ?_) (fun h10 => ?_)
  · replace hf := knIp hf h10
    refine kj_iload X 1 dL_law_915 rfl ?_
    have j18 : (fun _ =>
     some q4.2) () = some q → knJ G p l e room_1 s m args below meth c 10 (cells + 1) (slots + 6) Q 939 [(0, Value.ref b), (1, knO G 0), (2, knO G 142), (3, knO G 159), (4, knO G 160), (5, knV i)] [] q4.2 := by
      intro hf
      refine kj_goto X (tgt := 2804) dL_law_939 (by decide) ?_
      cases hf
      refine kj_sub (L' := [(0, Value.ref b), (1, knO G 0), (2, knO G 142), (3, knO G 159), (4, knO G 160), (5, knV i)]) [0, 1, 2, 3, 4, 5] rfl ?_
      exact kj_wd (by omega) (by omega) kk
    refine kj_if_ne X (tgt := 939) dL_law_917 (by decide) h3 (fun h20 => ?_) (fun h20 => ?_)
    · replace hf := knIq hf h20
      refine kj_sub (L' := [(0, Value.ref b), (1, knO G 0), (2, knO G 142), (3, knO G 159), (4, knO G 160), (5, knV i)]) [2, 3, 4, 5, 6, 7] rfl ?_
      exact j18  hf
    · replace hf := knIp hf h20
      refine kj_aloadn X 5 dL_law_920 rfl ?_
      refine kj_iconst X dL_law_921 ?_
      refine kj_lald X K dL_law_922 (fun h21 => ?_)
      refine kj_iload X 0 dL_law_923 rfl ?_
      have j23 : ∀ (t23_0 : Int) (et23_0 : t23_0 = (if q4.1 = 0 then 0 else 1 : Int)) (ht23_0 : knC t23_0), knJ G p l e room_1 s m args below meth c 10 (cells + 1) (slots + 6) Q 933 [(0, Value.ref b), (1, knO G 0), (2, knO G 142), (3, knO G 159), (4, knO G 160), (5, knV i)] [knVl t23_0, knVl (q4.2 159 0)] q4.2 := by
        intro t23_0 et23_0 ht23_0
        subst et23_0
        refine kj_lcmp X dL_law_933 h21 ht23_0 ?_
        refine kj_if_eq X (tgt := 939) dL_law_934 (by decide) (knC_lcmp _ _) (fun h25 => ?_) (fun h25 => ?_)
        · replace hf := knIp hf h25
          refine kj_sub (L' := [(0, Value.ref b), (1, knO G 0), (2, knO G 142), (3, knO G 159), (4, knO G 160), (5, knV i)]) [0, 1, 2, 3, 4, 5] rfl ?_
          exact j18  hf
        · replace hf := knIq hf h25
          refine kj_iconst X dL_law_937 ?_
          cases hf
      refine kj_if_eq X (tgt := 932) dL_law_925 (by decide) (knZ_c h6) (fun h26 => ?_) (fun h26 => ?_)
      · refine kj_lconst X (x := 0) dL_law_932 rfl ?_
        refine kj_sub (L' := [(0, Value.ref b), (1, knO G 0), (2, knO G 142), (3, knO G 159), (4, knO G 160), (5, knV i)]) [2, 3, 4, 5, 6, 7] rfl ?_
        exact j23 0 (by rw [if_pos h26]) (show knC (0) from ⟨by omega, by omega⟩)
      · refine kj_lconst X (x := 1) dL_law_928 rfl ?_
        refine kj_goto X (tgt := 933) dL_law_929 (by decide) ?_
        refine kj_sub (L' := [(0, Value.ref b), (1, knO G 0), (2, knO G 142), (3, knO G 159), (4, knO G 160), (5, knV i)]) [2, 3, 4, 5, 6, 7] rfl ?_
        exact j23 1 (by rw [if_neg h26]) (show knC (1) from ⟨by omega, by omega⟩)
  · replace hf := knIq hf h10
    refine kj_iconst X dL_law_913 ?_
    cases hf

def kfLc_12 (x1 x2 x3 x4 : Int) (μ : knMem) : Option knMem :=
 Option.bind (kfL_isPositive x1 μ) (fun q1 =>
  Option.bind (kfX13_isPositive x1 q1.2) (fun q4 =>
   Option.bind (kfX13_thrown  q4.2) (fun q7 =>
    if q7 = q1.1 then
     (fun (k18 : (Unit) → Option (knMem)) =>
      if q1.1 = 0 then
       if (knLcmp (q4.2 159 0) (if q4.1 = 0 then 0 else 1 : Int)) = 0 then
        k18 ()
       else
        none
      else
       k18 ())
      (fun _ =>
      some q4.2)
    else
     none)))

set_option maxHeartbeats 4000000 in
set_option maxRecDepth 100000 in
theorem kcLc_12 {G : knGT} {p : Program} {l : Launch} {e : Env} {s : State} {m : MethodId} {args : Array Value} {below : List Frame} {meth : Method} {c : Code} {Q : State → Prop} {b N : Nat} {xs : Nat → Int32} (hl : l.stackTraces = false) (X : knX p m c code 10 s args RL) (K : knK G s s.heap) (S : knSc G b N xs s) {i x1 x2 x3 x4 : Int} (hi : knC i) (hs : knSi N xs i x1 x2 x3 x4) {cells slots : Nat} (hc9 : cells + 2 ≤ room_1.cells) (hs9 : slots + 12 ≤ room_1.slots) {μ q : knMem} (hf : kfLc_12 x1 x2 x3 x4 μ = some q)
  (kk : knJ G p l e room_1 s m args below meth c 10 (cells + 2) (slots + 12) Q 2804 [(0, Value.ref b), (1, knO G 0), (2, knO G 142), (3, knO G 159), (4, knO G 160), (5, knV i)] [] q) : knJ G p l e room_1 s m args below meth c 10 cells slots Q 942 [(0, Value.ref b), (1, knO G 0), (2, knO G 142), (3, knO G 159), (4, knO G 160), (5, knV i)] [] μ := by
  unfold kfLc_12 at hf
  refine kj_aloadn X 1 dL_law_942 rfl ?_
  refine kj_aloadn X 0 dL_law_943 rfl ?_
  refine kj_iload X 5 dL_law_944 rfl ?_
  refine kj_iconst X dL_law_946 ?_
  refine kj_iadd X dL_law_947 ?_
  refine kj_sld X S (knCw _) hs.1.2 hs.1.1 dL_law_948 ?_
  refine kj_aloadn X 3 dL_law_949 rfl ?_
  obtain ⟨q1, h2, hf⟩ := knBd_inv hf
  refine kj_callSH (As := [knO G 0, knV x1, knO G 159]) (rest := []) X K (kcL_isPositive l hl (knC_sx hs.1.2) h2) knWhL_isPositive (knGm 1046 (by decide +kernel) rfl) (by decide) rfl (Nat.le_of_ble_eq_true rfl) ⟨by omega, by omega⟩ dL_law_950 rfl (fun h3 => ?_)
  refine kj_istore X (L' := [(6, knV q1.1), (0, Value.ref b), (1, knO G 0), (2, knO G 142), (3, knO G 159), (4, knO G 160), (5, knV i)]) dL_law_953 (by decide) rfl ?_
  refine kj_aloadn X 3 dL_law_955 rfl ?_
  refine kj_aloadn X 1 dL_law_956 rfl ?_
  refine kj_iload X 6 dL_law_957 rfl ?_
  refine kj_iconst X dL_law_959 ?_
  refine kj_iadd X dL_law_960 ?_
  refine kj_sld X S (knCw _) hs.1.2 hs.1.1 dL_law_961 ?_
  obtain ⟨q4, h5, hf⟩ := knBd_inv hf
  refine kj_callV (As := [knV x1]) (rest := []) X K (kcX13_isPositive l (knC_sx hs.1.2) h5) knWvX13_isPositive (knGm 1784 (by decide +kernel) rfl) (by decide) (knKd_in kdc_142 (by decide)) (knEnt_10 kdc_142) rfl rfl rfl (Nat.le_of_ble_eq_true rfl) ⟨by omega, by omega⟩ dL_law_962 rfl (fun h6 => ?_)
  refine kj_istore X (L' := [(7, knV q4.1), (6, knV q1.1), (0, Value.ref b), (1, knO G 0), (2, knO G 142), (3, knO G 159), (4, knO G 160), (5, knV i)]) dL_law_965 (by decide) rfl ?_
  refine kj_aloadn X 4 dL_law_967 rfl ?_
  obtain ⟨q7, h8, hf⟩ := knBd_inv hf
  refine kj_callV (As := []) (rest := []) X K (kcX13_thrown l  h8) knWvX13_thrown (knGm 1589 (by decide +kernel) rfl) (by decide) (knKd_in kdc_142 (by decide)) (knEnt_10 kdc_142) rfl rfl rfl (Nat.le_of_ble_eq_true rfl) ⟨by omega, by omega⟩ dL_law_968 rfl (fun h9 => ?_)
  refine kj_iload X 1 dL_law_971 rfl ?_
  refine kj_ic_eq X (tgt := 978) dL_law_973 (by decide) h9 h3 (fun h10 => ?_) (fun h10 => ?_)
  · replace hf := knIp hf h10
    refine kj_iload X 1 dL_law_978 rfl ?_
    have j18 : (fun _ =>
     some q4.2) () = some q → knJ G p l e room_1 s m args below meth c 10 (cells + 1) (slots + 6) Q 1002 [(0, Value.ref b), (1, knO G 0), (2, knO G 142), (3, knO G 159), (4, knO G 160), (5, knV i)] [] q4.2 := by
      intro hf
      refine kj_goto X (tgt := 2804) dL_law_1002 (by decide) ?_
      cases hf
      refine kj_sub (L' := [(0, Value.ref b), (1, knO G 0), (2, knO G 142), (3, knO G 159), (4, knO G 160), (5, knV i)]) [0, 1, 2, 3, 4, 5] rfl ?_
      exact kj_wd (by omega) (by omega) kk
    refine kj_if_ne X (tgt := 1002) dL_law_980 (by decide) h3 (fun h20 => ?_) (fun h20 => ?_)
    · replace hf := knIq hf h20
      refine kj_sub (L' := [(0, Value.ref b), (1, knO G 0), (2, knO G 142), (3, knO G 159), (4, knO G 160), (5, knV i)]) [2, 3, 4, 5, 6, 7] rfl ?_
      exact j18  hf
    · replace hf := knIp hf h20
      refine kj_aloadn X 5 dL_law_983 rfl ?_
      refine kj_iconst X dL_law_984 ?_
      refine kj_lald X K dL_law_985 (fun h21 => ?_)
      refine kj_iload X 0 dL_law_986 rfl ?_
      have j23 : ∀ (t23_0 : Int) (et23_0 : t23_0 = (if q4.1 = 0 then 0 else 1 : Int)) (ht23_0 : knC t23_0), knJ G p l e room_1 s m args below meth c 10 (cells + 1) (slots + 6) Q 996 [(0, Value.ref b), (1, knO G 0), (2, knO G 142), (3, knO G 159), (4, knO G 160), (5, knV i)] [knVl t23_0, knVl (q4.2 159 0)] q4.2 := by
        intro t23_0 et23_0 ht23_0
        subst et23_0
        refine kj_lcmp X dL_law_996 h21 ht23_0 ?_
        refine kj_if_eq X (tgt := 1002) dL_law_997 (by decide) (knC_lcmp _ _) (fun h25 => ?_) (fun h25 => ?_)
        · replace hf := knIp hf h25
          refine kj_sub (L' := [(0, Value.ref b), (1, knO G 0), (2, knO G 142), (3, knO G 159), (4, knO G 160), (5, knV i)]) [0, 1, 2, 3, 4, 5] rfl ?_
          exact j18  hf
        · replace hf := knIq hf h25
          refine kj_iconst X dL_law_1000 ?_
          cases hf
      refine kj_if_eq X (tgt := 995) dL_law_988 (by decide) (knZ_c h6) (fun h26 => ?_) (fun h26 => ?_)
      · refine kj_lconst X (x := 0) dL_law_995 rfl ?_
        refine kj_sub (L' := [(0, Value.ref b), (1, knO G 0), (2, knO G 142), (3, knO G 159), (4, knO G 160), (5, knV i)]) [2, 3, 4, 5, 6, 7] rfl ?_
        exact j23 0 (by rw [if_pos h26]) (show knC (0) from ⟨by omega, by omega⟩)
      · refine kj_lconst X (x := 1) dL_law_991 rfl ?_
        refine kj_goto X (tgt := 996) dL_law_992 (by decide) ?_
        refine kj_sub (L' := [(0, Value.ref b), (1, knO G 0), (2, knO G 142), (3, knO G 159), (4, knO G 160), (5, knV i)]) [2, 3, 4, 5, 6, 7] rfl ?_
        exact j23 1 (by rw [if_neg h26]) (show knC (1) from ⟨by omega, by omega⟩)
  · replace hf := knIq hf h10
    refine kj_iconst X dL_law_976 ?_
    cases hf

def kfLc_13 (x1 x2 x3 x4 : Int) (μ : knMem) : Option knMem :=
 Option.bind (kfL_overPosition x1 μ) (fun q1 =>
  Option.bind (kfX13_overPosition x1 q1.2) (fun q4 =>
   Option.bind (kfX13_thrown  q4.2) (fun q7 =>
    if q7 = q1.1 then
     (fun (k14 : (Unit) → Option (knMem)) =>
      if q1.1 = 0 then
       if (knLcmp (q4.2 159 0) q4.1) = 0 then
        k14 ()
       else
        none
      else
       k14 ())
      (fun _ =>
      some q4.2)
    else
     none)))

set_option maxHeartbeats 4000000 in
set_option maxRecDepth 100000 in
theorem kcLc_13 {G : knGT} {p : Program} {l : Launch} {e : Env} {s : State} {m : MethodId} {args : Array Value} {below : List Frame} {meth : Method} {c : Code} {Q : State → Prop} {b N : Nat} {xs : Nat → Int32} (hl : l.stackTraces = false) (X : knX p m c code 10 s args RL) (K : knK G s s.heap) (S : knSc G b N xs s) {i x1 x2 x3 x4 : Int} (hi : knC i) (hs : knSi N xs i x1 x2 x3 x4) {cells slots : Nat} (hc9 : cells + 2 ≤ room_1.cells) (hs9 : slots + 12 ≤ room_1.slots) {μ q : knMem} (hf : kfLc_13 x1 x2 x3 x4 μ = some q)
  (kk : knJ G p l e room_1 s m args below meth c 10 (cells + 2) (slots + 12) Q 2804 [(0, Value.ref b), (1, knO G 0), (2, knO G 142), (3, knO G 159), (4, knO G 160), (5, knV i)] [] q) : knJ G p l e room_1 s m args below meth c 10 cells slots Q 1005 [(0, Value.ref b), (1, knO G 0), (2, knO G 142), (3, knO G 159), (4, knO G 160), (5, knV i)] [] μ := by
  unfold kfLc_13 at hf
  refine kj_aloadn X 1 dL_law_1005 rfl ?_
  refine kj_aloadn X 0 dL_law_1006 rfl ?_
  refine kj_iload X 5 dL_law_1007 rfl ?_
  refine kj_iconst X dL_law_1009 ?_
  refine kj_iadd X dL_law_1010 ?_
  refine kj_sld X S (knCw _) hs.1.2 hs.1.1 dL_law_1011 ?_
  refine kj_aloadn X 3 dL_law_1012 rfl ?_
  obtain ⟨q1, h2, hf⟩ := knBd_inv hf
  refine kj_callSH (As := [knO G 0, knV x1, knO G 159]) (rest := []) X K (kcL_overPosition l hl (knC_sx hs.1.2) h2) knWhL_overPosition (knGm 1059 (by decide +kernel) rfl) (by decide) rfl (Nat.le_of_ble_eq_true rfl) ⟨by omega, by omega⟩ dL_law_1013 rfl (fun h3 => ?_)
  refine kj_istore X (L' := [(6, knV q1.1), (0, Value.ref b), (1, knO G 0), (2, knO G 142), (3, knO G 159), (4, knO G 160), (5, knV i)]) dL_law_1016 (by decide) rfl ?_
  refine kj_aloadn X 3 dL_law_1018 rfl ?_
  refine kj_aloadn X 1 dL_law_1019 rfl ?_
  refine kj_iload X 6 dL_law_1020 rfl ?_
  refine kj_iconst X dL_law_1022 ?_
  refine kj_iadd X dL_law_1023 ?_
  refine kj_sld X S (knCw _) hs.1.2 hs.1.1 dL_law_1024 ?_
  obtain ⟨q4, h5, hf⟩ := knBd_inv hf
  refine kj_callV (As := [knV x1]) (rest := []) X K (kcX13_overPosition l (knC_sx hs.1.2) h5) knWvX13_overPosition (knGm 1788 (by decide +kernel) rfl) (by decide) (knKd_in kdc_142 (by decide)) (knEnt_10 kdc_142) rfl rfl rfl (Nat.le_of_ble_eq_true rfl) ⟨by omega, by omega⟩ dL_law_1025 rfl (fun h6 => ?_)
  refine kj_istore X (L' := [(7, knV q4.1), (6, knV q1.1), (0, Value.ref b), (1, knO G 0), (2, knO G 142), (3, knO G 159), (4, knO G 160), (5, knV i)]) dL_law_1028 (by decide) rfl ?_
  refine kj_aloadn X 4 dL_law_1030 rfl ?_
  obtain ⟨q7, h8, hf⟩ := knBd_inv hf
  refine kj_callV (As := []) (rest := []) X K (kcX13_thrown l  h8) knWvX13_thrown (knGm 1589 (by decide +kernel) rfl) (by decide) (knKd_in kdc_142 (by decide)) (knEnt_10 kdc_142) rfl rfl rfl (Nat.le_of_ble_eq_true rfl) ⟨by omega, by omega⟩ dL_law_1031 rfl (fun h9 => ?_)
  refine kj_iload X 1 dL_law_1034 rfl ?_
  refine kj_ic_eq X (tgt := 1041) dL_law_1036 (by decide) h9 h3 (fun h10 => ?_) (fun h10 => ?_)
  · replace hf := knIp hf h10
    refine kj_iload X 1 dL_law_1041 rfl ?_
    have j14 : (fun _ =>
     some q4.2) () = some q → knJ G p l e room_1 s m args below meth c 10 (cells + 1) (slots + 6) Q 1058 [(0, Value.ref b), (1, knO G 0), (2, knO G 142), (3, knO G 159), (4, knO G 160), (5, knV i)] [] q4.2 := by
      intro hf
      refine kj_goto X (tgt := 2804) dL_law_1058 (by decide) ?_
      cases hf
      refine kj_sub (L' := [(0, Value.ref b), (1, knO G 0), (2, knO G 142), (3, knO G 159), (4, knO G 160), (5, knV i)]) [0, 1, 2, 3, 4, 5] rfl ?_
      exact kj_wd (by omega) (by omega) kk
    refine kj_if_ne X (tgt := 1058) dL_law_1043 (by decide) h3 (fun h16 => ?_) (fun h16 => ?_)
    · replace hf := knIq hf h16
      refine kj_sub (L' := [(0, Value.ref b), (1, knO G 0), (2, knO G 142), (3, knO G 159), (4, knO G 160), (5, knV i)]) [2, 3, 4, 5, 6, 7] rfl ?_
      exact j14  hf
    · replace hf := knIp hf h16
      refine kj_aloadn X 5 dL_law_1046 rfl ?_
      refine kj_iconst X dL_law_1047 ?_
      refine kj_lald X K dL_law_1048 (fun h17 => ?_)
      refine kj_iload X 0 dL_law_1049 rfl ?_
      refine kj_i2l X dL_law_1051 h6 ?_
      refine kj_lcmp X dL_law_1052 h17 h6 ?_
      refine kj_if_eq X (tgt := 1058) dL_law_1053 (by decide) (knC_lcmp _ _) (fun h18 => ?_) (fun h18 => ?_)
      · replace hf := knIp hf h18
        refine kj_sub (L' := [(0, Value.ref b), (1, knO G 0), (2, knO G 142), (3, knO G 159), (4, knO G 160), (5, knV i)]) [2, 3, 4, 5, 6, 7] rfl ?_
        exact j14  hf
      · replace hf := knIq hf h18
        refine kj_iconst X dL_law_1056 ?_
        cases hf
  · replace hf := knIq hf h10
    refine kj_iconst X dL_law_1039 ?_
    cases hf

def kfLc_14 (x1 x2 x3 x4 : Int) (μ : knMem) : Option knMem :=
 Option.bind (kfL_underPosition x1 μ) (fun q1 =>
  Option.bind (kfX13_underPosition x1 q1.2) (fun q4 =>
   Option.bind (kfX13_thrown  q4.2) (fun q7 =>
    if q7 = q1.1 then
     (fun (k14 : (Unit) → Option (knMem)) =>
      if q1.1 = 0 then
       if (knLcmp (q4.2 159 0) q4.1) = 0 then
        k14 ()
       else
        none
      else
       k14 ())
      (fun _ =>
      some q4.2)
    else
     none)))

set_option maxHeartbeats 4000000 in
set_option maxRecDepth 100000 in
theorem kcLc_14 {G : knGT} {p : Program} {l : Launch} {e : Env} {s : State} {m : MethodId} {args : Array Value} {below : List Frame} {meth : Method} {c : Code} {Q : State → Prop} {b N : Nat} {xs : Nat → Int32} (hl : l.stackTraces = false) (X : knX p m c code 10 s args RL) (K : knK G s s.heap) (S : knSc G b N xs s) {i x1 x2 x3 x4 : Int} (hi : knC i) (hs : knSi N xs i x1 x2 x3 x4) {cells slots : Nat} (hc9 : cells + 2 ≤ room_1.cells) (hs9 : slots + 12 ≤ room_1.slots) {μ q : knMem} (hf : kfLc_14 x1 x2 x3 x4 μ = some q)
  (kk : knJ G p l e room_1 s m args below meth c 10 (cells + 2) (slots + 12) Q 2804 [(0, Value.ref b), (1, knO G 0), (2, knO G 142), (3, knO G 159), (4, knO G 160), (5, knV i)] [] q) : knJ G p l e room_1 s m args below meth c 10 cells slots Q 1061 [(0, Value.ref b), (1, knO G 0), (2, knO G 142), (3, knO G 159), (4, knO G 160), (5, knV i)] [] μ := by
  unfold kfLc_14 at hf
  refine kj_aloadn X 1 dL_law_1061 rfl ?_
  refine kj_aloadn X 0 dL_law_1062 rfl ?_
  refine kj_iload X 5 dL_law_1063 rfl ?_
  refine kj_iconst X dL_law_1065 ?_
  refine kj_iadd X dL_law_1066 ?_
  refine kj_sld X S (knCw _) hs.1.2 hs.1.1 dL_law_1067 ?_
  refine kj_aloadn X 3 dL_law_1068 rfl ?_
  obtain ⟨q1, h2, hf⟩ := knBd_inv hf
  refine kj_callSH (As := [knO G 0, knV x1, knO G 159]) (rest := []) X K (kcL_underPosition l hl (knC_sx hs.1.2) h2) knWhL_underPosition (knGm 1066 (by decide +kernel) rfl) (by decide) rfl (Nat.le_of_ble_eq_true rfl) ⟨by omega, by omega⟩ dL_law_1069 rfl (fun h3 => ?_)
  refine kj_istore X (L' := [(6, knV q1.1), (0, Value.ref b), (1, knO G 0), (2, knO G 142), (3, knO G 159), (4, knO G 160), (5, knV i)]) dL_law_1072 (by decide) rfl ?_
  refine kj_aloadn X 3 dL_law_1074 rfl ?_
  refine kj_aloadn X 1 dL_law_1075 rfl ?_
  refine kj_iload X 6 dL_law_1076 rfl ?_
  refine kj_iconst X dL_law_1078 ?_
  refine kj_iadd X dL_law_1079 ?_
  refine kj_sld X S (knCw _) hs.1.2 hs.1.1 dL_law_1080 ?_
  obtain ⟨q4, h5, hf⟩ := knBd_inv hf
  refine kj_callV (As := [knV x1]) (rest := []) X K (kcX13_underPosition l (knC_sx hs.1.2) h5) knWvX13_underPosition (knGm 1796 (by decide +kernel) rfl) (by decide) (knKd_in kdc_142 (by decide)) (knEnt_10 kdc_142) rfl rfl rfl (Nat.le_of_ble_eq_true rfl) ⟨by omega, by omega⟩ dL_law_1081 rfl (fun h6 => ?_)
  refine kj_istore X (L' := [(7, knV q4.1), (6, knV q1.1), (0, Value.ref b), (1, knO G 0), (2, knO G 142), (3, knO G 159), (4, knO G 160), (5, knV i)]) dL_law_1084 (by decide) rfl ?_
  refine kj_aloadn X 4 dL_law_1086 rfl ?_
  obtain ⟨q7, h8, hf⟩ := knBd_inv hf
  refine kj_callV (As := []) (rest := []) X K (kcX13_thrown l  h8) knWvX13_thrown (knGm 1589 (by decide +kernel) rfl) (by decide) (knKd_in kdc_142 (by decide)) (knEnt_10 kdc_142) rfl rfl rfl (Nat.le_of_ble_eq_true rfl) ⟨by omega, by omega⟩ dL_law_1087 rfl (fun h9 => ?_)
  refine kj_iload X 1 dL_law_1090 rfl ?_
  refine kj_ic_eq X (tgt := 1097) dL_law_1092 (by decide) h9 h3 (fun h10 => ?_) (fun h10 => ?_)
  · replace hf := knIp hf h10
    refine kj_iload X 1 dL_law_1097 rfl ?_
    have j14 : (fun _ =>
     some q4.2) () = some q → knJ G p l e room_1 s m args below meth c 10 (cells + 1) (slots + 6) Q 1114 [(0, Value.ref b), (1, knO G 0), (2, knO G 142), (3, knO G 159), (4, knO G 160), (5, knV i)] [] q4.2 := by
      intro hf
      refine kj_goto X (tgt := 2804) dL_law_1114 (by decide) ?_
      cases hf
      refine kj_sub (L' := [(0, Value.ref b), (1, knO G 0), (2, knO G 142), (3, knO G 159), (4, knO G 160), (5, knV i)]) [0, 1, 2, 3, 4, 5] rfl ?_
      exact kj_wd (by omega) (by omega) kk
    refine kj_if_ne X (tgt := 1114) dL_law_1099 (by decide) h3 (fun h16 => ?_) (fun h16 => ?_)
    · replace hf := knIq hf h16
      refine kj_sub (L' := [(0, Value.ref b), (1, knO G 0), (2, knO G 142), (3, knO G 159), (4, knO G 160), (5, knV i)]) [2, 3, 4, 5, 6, 7] rfl ?_
      exact j14  hf
    · replace hf := knIp hf h16
      refine kj_aloadn X 5 dL_law_1102 rfl ?_
      refine kj_iconst X dL_law_1103 ?_
      refine kj_lald X K dL_law_1104 (fun h17 => ?_)
      refine kj_iload X 0 dL_law_1105 rfl ?_
      refine kj_i2l X dL_law_1107 h6 ?_
      refine kj_lcmp X dL_law_1108 h17 h6 ?_
      refine kj_if_eq X (tgt := 1114) dL_law_1109 (by decide) (knC_lcmp _ _) (fun h18 => ?_) (fun h18 => ?_)
      · replace hf := knIp hf h18
        refine kj_sub (L' := [(0, Value.ref b), (1, knO G 0), (2, knO G 142), (3, knO G 159), (4, knO G 160), (5, knV i)]) [2, 3, 4, 5, 6, 7] rfl ?_
        exact j14  hf
      · replace hf := knIq hf h18
        refine kj_iconst X dL_law_1112 ?_
        cases hf
  · replace hf := knIq hf h10
    refine kj_iconst X dL_law_1095 ?_
    cases hf

def kfLc_15 (x1 x2 x3 x4 : Int) (μ : knMem) : Option knMem :=
 Option.bind (kfX12_writhe  μ) (fun q1 =>
  Option.bind (kfX13_writhe  μ) (fun q4 =>
   if q1 = q4.1 then
    some q4.2
   else
    none))

set_option maxHeartbeats 4000000 in
set_option maxRecDepth 100000 in
theorem kcLc_15 {G : knGT} {p : Program} {l : Launch} {e : Env} {s : State} {m : MethodId} {args : Array Value} {below : List Frame} {meth : Method} {c : Code} {Q : State → Prop} {b N : Nat} {xs : Nat → Int32} (hl : l.stackTraces = false) (X : knX p m c code 10 s args RL) (K : knK G s s.heap) (S : knSc G b N xs s) {i x1 x2 x3 x4 : Int} (hi : knC i) (hs : knSi N xs i x1 x2 x3 x4) {cells slots : Nat} (hc9 : cells + 2 ≤ room_1.cells) (hs9 : slots + 12 ≤ room_1.slots) {μ q : knMem} (hf : kfLc_15 x1 x2 x3 x4 μ = some q)
  (kk : knJ G p l e room_1 s m args below meth c 10 (cells + 2) (slots + 12) Q 2804 [(0, Value.ref b), (1, knO G 0), (2, knO G 142), (3, knO G 159), (4, knO G 160), (5, knV i)] [] q) : knJ G p l e room_1 s m args below meth c 10 cells slots Q 1117 [(0, Value.ref b), (1, knO G 0), (2, knO G 142), (3, knO G 159), (4, knO G 160), (5, knV i)] [] μ := by
  unfold kfLc_15 at hf
  refine kj_aloadn X 1 dL_law_1117 rfl ?_
  obtain ⟨q1, h2, hf⟩ := knBd_inv hf
  refine kj_callV (As := []) (rest := []) X K (kcX12_writhe l  h2) knWvX12_writhe (knGm 649 (by decide +kernel) rfl) (by decide) (knKd_in kdc_0 (by decide)) (knEnt_9 kdc_0) rfl rfl rfl (Nat.le_of_ble_eq_true rfl) ⟨by omega, by omega⟩ dL_law_1118 rfl (fun h3 => ?_)
  refine kj_aloadn X 2 dL_law_1121 rfl ?_
  obtain ⟨q4, h5, hf⟩ := knBd_inv hf
  refine kj_callV (As := []) (rest := [knV q1]) X K (kcX13_writhe l  h5) knWvX13_writhe (knGm 1800 (by decide +kernel) rfl) (by decide) (knKd_in kdc_142 (by decide)) (knEnt_10 kdc_142) rfl rfl rfl (Nat.le_of_ble_eq_true rfl) ⟨by omega, by omega⟩ dL_law_1122 rfl (fun h6 => ?_)
  refine kj_ic_eq X (tgt := 2804) dL_law_1125 (by decide) h3 h6 (fun h7 => ?_) (fun h7 => ?_)
  · replace hf := knIp hf h7
    cases hf
    refine kj_sub (L' := [(0, Value.ref b), (1, knO G 0), (2, knO G 142), (3, knO G 159), (4, knO G 160), (5, knV i)]) [0, 1, 2, 3, 4, 5] rfl ?_
    exact kj_wd (by omega) (by omega) kk
  · replace hf := knIq hf h7
    refine kj_iconst X dL_law_1128 ?_
    cases hf

def kfLc_16 (x1 x2 x3 x4 : Int) (μ : knMem) : Option knMem :=
 Option.bind (kfL_isCurl x1 μ) (fun q1 =>
  Option.bind (kfX13_isCurl x1 q1.2) (fun q4 =>
   Option.bind (kfX13_thrown  q4.2) (fun q7 =>
    if q7 = q1.1 then
     (fun (k18 : (Unit) → Option (knMem)) =>
      if q1.1 = 0 then
       if (knLcmp (q4.2 159 0) (if q4.1 = 0 then 0 else 1 : Int)) = 0 then
        k18 ()
       else
        none
      else
       k18 ())
      (fun _ =>
      some q4.2)
    else
     none)))

set_option maxHeartbeats 4000000 in
set_option maxRecDepth 100000 in
theorem kcLc_16 {G : knGT} {p : Program} {l : Launch} {e : Env} {s : State} {m : MethodId} {args : Array Value} {below : List Frame} {meth : Method} {c : Code} {Q : State → Prop} {b N : Nat} {xs : Nat → Int32} (hl : l.stackTraces = false) (X : knX p m c code 10 s args RL) (K : knK G s s.heap) (S : knSc G b N xs s) {i x1 x2 x3 x4 : Int} (hi : knC i) (hs : knSi N xs i x1 x2 x3 x4) {cells slots : Nat} (hc9 : cells + 2 ≤ room_1.cells) (hs9 : slots + 12 ≤ room_1.slots) {μ q : knMem} (hf : kfLc_16 x1 x2 x3 x4 μ = some q)
  (kk : knJ G p l e room_1 s m args below meth c 10 (cells + 2) (slots + 12) Q 2804 [(0, Value.ref b), (1, knO G 0), (2, knO G 142), (3, knO G 159), (4, knO G 160), (5, knV i)] [] q) : knJ G p l e room_1 s m args below meth c 10 cells slots Q 1130 [(0, Value.ref b), (1, knO G 0), (2, knO G 142), (3, knO G 159), (4, knO G 160), (5, knV i)] [] μ := by
  unfold kfLc_16 at hf
  refine kj_aloadn X 1 dL_law_1130 rfl ?_
  refine kj_aloadn X 0 dL_law_1131 rfl ?_
  refine kj_iload X 5 dL_law_1132 rfl ?_
  refine kj_iconst X dL_law_1134 ?_
  refine kj_iadd X dL_law_1135 ?_
  refine kj_sld X S (knCw _) hs.1.2 hs.1.1 dL_law_1136 ?_
  refine kj_aloadn X 3 dL_law_1137 rfl ?_
  obtain ⟨q1, h2, hf⟩ := knBd_inv hf
  refine kj_callSH (As := [knO G 0, knV x1, knO G 159]) (rest := []) X K (kcL_isCurl l hl (knC_sx hs.1.2) h2) knWhL_isCurl (knGm 1073 (by decide +kernel) rfl) (by decide) rfl (Nat.le_of_ble_eq_true rfl) ⟨by omega, by omega⟩ dL_law_1138 rfl (fun h3 => ?_)
  refine kj_istore X (L' := [(6, knV q1.1), (0, Value.ref b), (1, knO G 0), (2, knO G 142), (3, knO G 159), (4, knO G 160), (5, knV i)]) dL_law_1141 (by decide) rfl ?_
  refine kj_aloadn X 3 dL_law_1143 rfl ?_
  refine kj_aloadn X 1 dL_law_1144 rfl ?_
  refine kj_iload X 6 dL_law_1145 rfl ?_
  refine kj_iconst X dL_law_1147 ?_
  refine kj_iadd X dL_law_1148 ?_
  refine kj_sld X S (knCw _) hs.1.2 hs.1.1 dL_law_1149 ?_
  obtain ⟨q4, h5, hf⟩ := knBd_inv hf
  refine kj_callV (As := [knV x1]) (rest := []) X K (kcX13_isCurl l (knC_sx hs.1.2) h5) knWvX13_isCurl (knGm 1804 (by decide +kernel) rfl) (by decide) (knKd_in kdc_142 (by decide)) (knEnt_10 kdc_142) rfl rfl rfl (Nat.le_of_ble_eq_true rfl) ⟨by omega, by omega⟩ dL_law_1150 rfl (fun h6 => ?_)
  refine kj_istore X (L' := [(7, knV q4.1), (6, knV q1.1), (0, Value.ref b), (1, knO G 0), (2, knO G 142), (3, knO G 159), (4, knO G 160), (5, knV i)]) dL_law_1153 (by decide) rfl ?_
  refine kj_aloadn X 4 dL_law_1155 rfl ?_
  obtain ⟨q7, h8, hf⟩ := knBd_inv hf
  refine kj_callV (As := []) (rest := []) X K (kcX13_thrown l  h8) knWvX13_thrown (knGm 1589 (by decide +kernel) rfl) (by decide) (knKd_in kdc_142 (by decide)) (knEnt_10 kdc_142) rfl rfl rfl (Nat.le_of_ble_eq_true rfl) ⟨by omega, by omega⟩ dL_law_1156 rfl (fun h9 => ?_)
  refine kj_iload X 1 dL_law_1159 rfl ?_
  refine kj_ic_eq X (tgt := 1166) dL_law_1161 (by decide) h9 h3 (fun h10 => ?_) (fun h10 => ?_)
  · replace hf := knIp hf h10
    refine kj_iload X 1 dL_law_1166 rfl ?_
    have j18 : (fun _ =>
     some q4.2) () = some q → knJ G p l e room_1 s m args below meth c 10 (cells + 1) (slots + 6) Q 1190 [(0, Value.ref b), (1, knO G 0), (2, knO G 142), (3, knO G 159), (4, knO G 160), (5, knV i)] [] q4.2 := by
      intro hf
      refine kj_goto X (tgt := 2804) dL_law_1190 (by decide) ?_
      cases hf
      refine kj_sub (L' := [(0, Value.ref b), (1, knO G 0), (2, knO G 142), (3, knO G 159), (4, knO G 160), (5, knV i)]) [0, 1, 2, 3, 4, 5] rfl ?_
      exact kj_wd (by omega) (by omega) kk
    refine kj_if_ne X (tgt := 1190) dL_law_1168 (by decide) h3 (fun h20 => ?_) (fun h20 => ?_)
    · replace hf := knIq hf h20
      refine kj_sub (L' := [(0, Value.ref b), (1, knO G 0), (2, knO G 142), (3, knO G 159), (4, knO G 160), (5, knV i)]) [2, 3, 4, 5, 6, 7] rfl ?_
      exact j18  hf
    · replace hf := knIp hf h20
      refine kj_aloadn X 5 dL_law_1171 rfl ?_
      refine kj_iconst X dL_law_1172 ?_
      refine kj_lald X K dL_law_1173 (fun h21 => ?_)
      refine kj_iload X 0 dL_law_1174 rfl ?_
      have j23 : ∀ (t23_0 : Int) (et23_0 : t23_0 = (if q4.1 = 0 then 0 else 1 : Int)) (ht23_0 : knC t23_0), knJ G p l e room_1 s m args below meth c 10 (cells + 1) (slots + 6) Q 1184 [(0, Value.ref b), (1, knO G 0), (2, knO G 142), (3, knO G 159), (4, knO G 160), (5, knV i)] [knVl t23_0, knVl (q4.2 159 0)] q4.2 := by
        intro t23_0 et23_0 ht23_0
        subst et23_0
        refine kj_lcmp X dL_law_1184 h21 ht23_0 ?_
        refine kj_if_eq X (tgt := 1190) dL_law_1185 (by decide) (knC_lcmp _ _) (fun h25 => ?_) (fun h25 => ?_)
        · replace hf := knIp hf h25
          refine kj_sub (L' := [(0, Value.ref b), (1, knO G 0), (2, knO G 142), (3, knO G 159), (4, knO G 160), (5, knV i)]) [0, 1, 2, 3, 4, 5] rfl ?_
          exact j18  hf
        · replace hf := knIq hf h25
          refine kj_iconst X dL_law_1188 ?_
          cases hf
      refine kj_if_eq X (tgt := 1183) dL_law_1176 (by decide) (knZ_c h6) (fun h26 => ?_) (fun h26 => ?_)
      · refine kj_lconst X (x := 0) dL_law_1183 rfl ?_
        refine kj_sub (L' := [(0, Value.ref b), (1, knO G 0), (2, knO G 142), (3, knO G 159), (4, knO G 160), (5, knV i)]) [2, 3, 4, 5, 6, 7] rfl ?_
        exact j23 0 (by rw [if_pos h26]) (show knC (0) from ⟨by omega, by omega⟩)
      · refine kj_lconst X (x := 1) dL_law_1179 rfl ?_
        refine kj_goto X (tgt := 1184) dL_law_1180 (by decide) ?_
        refine kj_sub (L' := [(0, Value.ref b), (1, knO G 0), (2, knO G 142), (3, knO G 159), (4, knO G 160), (5, knV i)]) [2, 3, 4, 5, 6, 7] rfl ?_
        exact j23 1 (by rw [if_neg h26]) (show knC (1) from ⟨by omega, by omega⟩)
  · replace hf := knIq hf h10
    refine kj_iconst X dL_law_1164 ?_
    cases hf

def kfLc_17 (x1 x2 x3 x4 : Int) (μ : knMem) : Option knMem :=
 Option.bind (kfL_isPoke x1 x2 μ) (fun q1 =>
  Option.bind (kfX13_isPoke x1 x2 q1.2) (fun q4 =>
   Option.bind (kfX13_thrown  q4.2) (fun q7 =>
    if q7 = q1.1 then
     (fun (k18 : (Unit) → Option (knMem)) =>
      if q1.1 = 0 then
       if (knLcmp (q4.2 159 0) (if q4.1 = 0 then 0 else 1 : Int)) = 0 then
        k18 ()
       else
        none
      else
       k18 ())
      (fun _ =>
      some q4.2)
    else
     none)))

set_option maxHeartbeats 4000000 in
set_option maxRecDepth 100000 in
theorem kcLc_17 {G : knGT} {p : Program} {l : Launch} {e : Env} {s : State} {m : MethodId} {args : Array Value} {below : List Frame} {meth : Method} {c : Code} {Q : State → Prop} {b N : Nat} {xs : Nat → Int32} (hl : l.stackTraces = false) (X : knX p m c code 10 s args RL) (K : knK G s s.heap) (S : knSc G b N xs s) {i x1 x2 x3 x4 : Int} (hi : knC i) (hs : knSi N xs i x1 x2 x3 x4) {cells slots : Nat} (hc9 : cells + 2 ≤ room_1.cells) (hs9 : slots + 12 ≤ room_1.slots) {μ q : knMem} (hf : kfLc_17 x1 x2 x3 x4 μ = some q)
  (kk : knJ G p l e room_1 s m args below meth c 10 (cells + 2) (slots + 12) Q 2804 [(0, Value.ref b), (1, knO G 0), (2, knO G 142), (3, knO G 159), (4, knO G 160), (5, knV i)] [] q) : knJ G p l e room_1 s m args below meth c 10 cells slots Q 1193 [(0, Value.ref b), (1, knO G 0), (2, knO G 142), (3, knO G 159), (4, knO G 160), (5, knV i)] [] μ := by
  unfold kfLc_17 at hf
  refine kj_aloadn X 1 dL_law_1193 rfl ?_
  refine kj_aloadn X 0 dL_law_1194 rfl ?_
  refine kj_iload X 5 dL_law_1195 rfl ?_
  refine kj_iconst X dL_law_1197 ?_
  refine kj_iadd X dL_law_1198 ?_
  refine kj_sld X S (knCw _) hs.1.2 hs.1.1 dL_law_1199 ?_
  refine kj_aloadn X 0 dL_law_1200 rfl ?_
  refine kj_iload X 5 dL_law_1201 rfl ?_
  refine kj_iconst X dL_law_1203 ?_
  refine kj_iadd X dL_law_1204 ?_
  refine kj_sld X S (knCw _) hs.2.1.2 hs.2.1.1 dL_law_1205 ?_
  refine kj_aloadn X 3 dL_law_1206 rfl ?_
  obtain ⟨q1, h2, hf⟩ := knBd_inv hf
  refine kj_callSH (As := [knO G 0, knV x1, knV x2, knO G 159]) (rest := []) X K (kcL_isPoke l hl (knC_sx hs.1.2) (knC_sx hs.2.1.2) h2) knWhL_isPoke (knGm 1081 (by decide +kernel) rfl) (by decide) rfl (Nat.le_of_ble_eq_true rfl) ⟨by omega, by omega⟩ dL_law_1207 rfl (fun h3 => ?_)
  refine kj_istore X (L' := [(6, knV q1.1), (0, Value.ref b), (1, knO G 0), (2, knO G 142), (3, knO G 159), (4, knO G 160), (5, knV i)]) dL_law_1210 (by decide) rfl ?_
  refine kj_aloadn X 3 dL_law_1212 rfl ?_
  refine kj_aloadn X 1 dL_law_1213 rfl ?_
  refine kj_iload X 6 dL_law_1214 rfl ?_
  refine kj_iconst X dL_law_1216 ?_
  refine kj_iadd X dL_law_1217 ?_
  refine kj_sld X S (knCw _) hs.1.2 hs.1.1 dL_law_1218 ?_
  refine kj_aloadn X 1 dL_law_1219 rfl ?_
  refine kj_iload X 6 dL_law_1220 rfl ?_
  refine kj_iconst X dL_law_1222 ?_
  refine kj_iadd X dL_law_1223 ?_
  refine kj_sld X S (knCw _) hs.2.1.2 hs.2.1.1 dL_law_1224 ?_
  obtain ⟨q4, h5, hf⟩ := knBd_inv hf
  refine kj_callV (As := [knV x1, knV x2]) (rest := []) X K (kcX13_isPoke l (knC_sx hs.1.2) (knC_sx hs.2.1.2) h5) knWvX13_isPoke (knGm 1808 (by decide +kernel) rfl) (by decide) (knKd_in kdc_142 (by decide)) (knEnt_10 kdc_142) rfl rfl rfl (Nat.le_of_ble_eq_true rfl) ⟨by omega, by omega⟩ dL_law_1225 rfl (fun h6 => ?_)
  refine kj_istore X (L' := [(7, knV q4.1), (6, knV q1.1), (0, Value.ref b), (1, knO G 0), (2, knO G 142), (3, knO G 159), (4, knO G 160), (5, knV i)]) dL_law_1228 (by decide) rfl ?_
  refine kj_aloadn X 4 dL_law_1230 rfl ?_
  obtain ⟨q7, h8, hf⟩ := knBd_inv hf
  refine kj_callV (As := []) (rest := []) X K (kcX13_thrown l  h8) knWvX13_thrown (knGm 1589 (by decide +kernel) rfl) (by decide) (knKd_in kdc_142 (by decide)) (knEnt_10 kdc_142) rfl rfl rfl (Nat.le_of_ble_eq_true rfl) ⟨by omega, by omega⟩ dL_law_1231 rfl (fun h9 => ?_)
  refine kj_iload X 1 dL_law_1234 rfl ?_
  refine kj_ic_eq X (tgt := 1241) dL_law_1236 (by decide) h9 h3 (fun h10 => ?_) (fun h10 => ?_)
  · replace hf := knIp hf h10
    refine kj_iload X 1 dL_law_1241 rfl ?_
    have j18 : (fun _ =>
     some q4.2) () = some q → knJ G p l e room_1 s m args below meth c 10 (cells + 2) (slots + 12) Q 1265 [(0, Value.ref b), (1, knO G 0), (2, knO G 142), (3, knO G 159), (4, knO G 160), (5, knV i)] [] q4.2 := by
      intro hf
      refine kj_goto X (tgt := 2804) dL_law_1265 (by decide) ?_
      cases hf
      refine kj_sub (L' := [(0, Value.ref b), (1, knO G 0), (2, knO G 142), (3, knO G 159), (4, knO G 160), (5, knV i)]) [0, 1, 2, 3, 4, 5] rfl ?_
      exact kj_wd (by omega) (by omega) kk
    refine kj_if_ne X (tgt := 1265) dL_law_1243 (by decide) h3 (fun h20 => ?_) (fun h20 => ?_)
    · replace hf := knIq hf h20
      refine kj_sub (L' := [(0, Value.ref b), (1, knO G 0), (2, knO G 142), (3, knO G 159), (4, knO G 160), (5, knV i)]) [2, 3, 4, 5, 6, 7] rfl ?_
      exact j18  hf
    · replace hf := knIp hf h20
      refine kj_aloadn X 5 dL_law_1246 rfl ?_
      refine kj_iconst X dL_law_1247 ?_
      refine kj_lald X K dL_law_1248 (fun h21 => ?_)
      refine kj_iload X 0 dL_law_1249 rfl ?_
      have j23 : ∀ (t23_0 : Int) (et23_0 : t23_0 = (if q4.1 = 0 then 0 else 1 : Int)) (ht23_0 : knC t23_0), knJ G p l e room_1 s m args below meth c 10 (cells + 2) (slots + 12) Q 1259 [(0, Value.ref b), (1, knO G 0), (2, knO G 142), (3, knO G 159), (4, knO G 160), (5, knV i)] [knVl t23_0, knVl (q4.2 159 0)] q4.2 := by
        intro t23_0 et23_0 ht23_0
        subst et23_0
        refine kj_lcmp X dL_law_1259 h21 ht23_0 ?_
        refine kj_if_eq X (tgt := 1265) dL_law_1260 (by decide) (knC_lcmp _ _) (fun h25 => ?_) (fun h25 => ?_)
        · replace hf := knIp hf h25
          refine kj_sub (L' := [(0, Value.ref b), (1, knO G 0), (2, knO G 142), (3, knO G 159), (4, knO G 160), (5, knV i)]) [0, 1, 2, 3, 4, 5] rfl ?_
          exact j18  hf
        · replace hf := knIq hf h25
          refine kj_iconst X dL_law_1263 ?_
          cases hf
      refine kj_if_eq X (tgt := 1258) dL_law_1251 (by decide) (knZ_c h6) (fun h26 => ?_) (fun h26 => ?_)
      · refine kj_lconst X (x := 0) dL_law_1258 rfl ?_
        refine kj_sub (L' := [(0, Value.ref b), (1, knO G 0), (2, knO G 142), (3, knO G 159), (4, knO G 160), (5, knV i)]) [2, 3, 4, 5, 6, 7] rfl ?_
        exact j23 0 (by rw [if_pos h26]) (show knC (0) from ⟨by omega, by omega⟩)
      · refine kj_lconst X (x := 1) dL_law_1254 rfl ?_
        refine kj_goto X (tgt := 1259) dL_law_1255 (by decide) ?_
        refine kj_sub (L' := [(0, Value.ref b), (1, knO G 0), (2, knO G 142), (3, knO G 159), (4, knO G 160), (5, knV i)]) [2, 3, 4, 5, 6, 7] rfl ?_
        exact j23 1 (by rw [if_neg h26]) (show knC (1) from ⟨by omega, by omega⟩)
  · replace hf := knIq hf h10
    refine kj_iconst X dL_law_1239 ?_
    cases hf

def kfLc_18 (x1 x2 x3 x4 : Int) (μ : knMem) : Option knMem :=
 Option.bind (kfX12_isAlternating  μ) (fun q1 =>
  Option.bind (kfX13_isAlternating  μ) (fun q4 =>
   if q1 = q4.1 then
    some q4.2
   else
    none))

set_option maxHeartbeats 4000000 in
set_option maxRecDepth 100000 in
theorem kcLc_18 {G : knGT} {p : Program} {l : Launch} {e : Env} {s : State} {m : MethodId} {args : Array Value} {below : List Frame} {meth : Method} {c : Code} {Q : State → Prop} {b N : Nat} {xs : Nat → Int32} (hl : l.stackTraces = false) (X : knX p m c code 10 s args RL) (K : knK G s s.heap) (S : knSc G b N xs s) {i x1 x2 x3 x4 : Int} (hi : knC i) (hs : knSi N xs i x1 x2 x3 x4) {cells slots : Nat} (hc9 : cells + 2 ≤ room_1.cells) (hs9 : slots + 12 ≤ room_1.slots) {μ q : knMem} (hf : kfLc_18 x1 x2 x3 x4 μ = some q)
  (kk : knJ G p l e room_1 s m args below meth c 10 (cells + 2) (slots + 12) Q 2804 [(0, Value.ref b), (1, knO G 0), (2, knO G 142), (3, knO G 159), (4, knO G 160), (5, knV i)] [] q) : knJ G p l e room_1 s m args below meth c 10 cells slots Q 1268 [(0, Value.ref b), (1, knO G 0), (2, knO G 142), (3, knO G 159), (4, knO G 160), (5, knV i)] [] μ := by
  unfold kfLc_18 at hf
  refine kj_aloadn X 1 dL_law_1268 rfl ?_
  obtain ⟨q1, h2, hf⟩ := knBd_inv hf
  refine kj_callV (As := []) (rest := []) X K (kcX12_isAlternating l  h2) knWvX12_isAlternating (knGm 653 (by decide +kernel) rfl) (by decide) (knKd_in kdc_0 (by decide)) (knEnt_9 kdc_0) rfl rfl rfl (Nat.le_of_ble_eq_true rfl) ⟨by omega, by omega⟩ dL_law_1269 rfl (fun h3 => ?_)
  refine kj_aloadn X 2 dL_law_1272 rfl ?_
  obtain ⟨q4, h5, hf⟩ := knBd_inv hf
  refine kj_callV (As := []) (rest := [knV q1]) X K (kcX13_isAlternating l  h5) knWvX13_isAlternating (knGm 1812 (by decide +kernel) rfl) (by decide) (knKd_in kdc_142 (by decide)) (knEnt_10 kdc_142) rfl rfl rfl (Nat.le_of_ble_eq_true rfl) ⟨by omega, by omega⟩ dL_law_1273 rfl (fun h6 => ?_)
  refine kj_ic_eq X (tgt := 2804) dL_law_1276 (by decide) (knZ_c h3) (knZ_c h6) (fun h7 => ?_) (fun h7 => ?_)
  · replace hf := knIp hf h7
    cases hf
    refine kj_sub (L' := [(0, Value.ref b), (1, knO G 0), (2, knO G 142), (3, knO G 159), (4, knO G 160), (5, knV i)]) [0, 1, 2, 3, 4, 5] rfl ?_
    exact kj_wd (by omega) (by omega) kk
  · replace hf := knIq hf h7
    refine kj_iconst X dL_law_1279 ?_
    cases hf

def kfLc_19 (x1 x2 x3 x4 : Int) (μ : knMem) : Option knMem :=
 Option.bind (kfX12_reducedCrossings  μ) (fun q1 =>
  Option.bind (kfX13_reducedCrossings  q1.2) (fun q4 =>
   if q1.1 = q4.1 then
    some q4.2
   else
    none))

set_option maxHeartbeats 4000000 in
set_option maxRecDepth 100000 in
theorem kcLc_19 {G : knGT} {p : Program} {l : Launch} {e : Env} {s : State} {m : MethodId} {args : Array Value} {below : List Frame} {meth : Method} {c : Code} {Q : State → Prop} {b N : Nat} {xs : Nat → Int32} (hl : l.stackTraces = false) (X : knX p m c code 10 s args RL) (K : knK G s s.heap) (S : knSc G b N xs s) {i x1 x2 x3 x4 : Int} (hi : knC i) (hs : knSi N xs i x1 x2 x3 x4) {cells slots : Nat} (hc9 : cells + 2 ≤ room_1.cells) (hs9 : slots + 12 ≤ room_1.slots) {μ q : knMem} (hf : kfLc_19 x1 x2 x3 x4 μ = some q)
  (kk : knJ G p l e room_1 s m args below meth c 10 (cells + 2) (slots + 12) Q 2804 [(0, Value.ref b), (1, knO G 0), (2, knO G 142), (3, knO G 159), (4, knO G 160), (5, knV i)] [] q) : knJ G p l e room_1 s m args below meth c 10 cells slots Q 1281 [(0, Value.ref b), (1, knO G 0), (2, knO G 142), (3, knO G 159), (4, knO G 160), (5, knV i)] [] μ := by
  unfold kfLc_19 at hf
  refine kj_aloadn X 1 dL_law_1281 rfl ?_
  obtain ⟨q1, h2, hf⟩ := knBd_inv hf
  refine kj_callV (As := []) (rest := []) X K (kcX12_reducedCrossings l  h2) knWvX12_reducedCrossings (knGm 669 (by decide +kernel) rfl) (by decide) (knKd_in kdc_0 (by decide)) (knEnt_9 kdc_0) rfl rfl rfl (Nat.le_of_ble_eq_true rfl) ⟨by omega, by omega⟩ dL_law_1282 rfl (fun h3 => ?_)
  refine kj_aloadn X 2 dL_law_1285 rfl ?_
  obtain ⟨q4, h5, hf⟩ := knBd_inv hf
  refine kj_callV (As := []) (rest := [knV q1.1]) X K (kcX13_reducedCrossings l  h5) knWvX13_reducedCrossings (knGm 1816 (by decide +kernel) rfl) (by decide) (knKd_in kdc_142 (by decide)) (knEnt_10 kdc_142) rfl rfl rfl (Nat.le_of_ble_eq_true rfl) ⟨by omega, by omega⟩ dL_law_1286 rfl (fun h6 => ?_)
  refine kj_ic_eq X (tgt := 2804) dL_law_1289 (by decide) h3 h6 (fun h7 => ?_) (fun h7 => ?_)
  · replace hf := knIp hf h7
    cases hf
    refine kj_sub (L' := [(0, Value.ref b), (1, knO G 0), (2, knO G 142), (3, knO G 159), (4, knO G 160), (5, knV i)]) [0, 1, 2, 3, 4, 5] rfl ?_
    exact kj_wd (by omega) (by omega) kk
  · replace hf := knIq hf h7
    refine kj_iconst X dL_law_1292 ?_
    cases hf

def kfLc_20 (x1 x2 x3 x4 : Int) (μ : knMem) : Option knMem :=
 Option.bind (kfL_crossingByChord x1 μ) (fun q1 =>
  Option.bind (kfX13_crossingByChord x1 q1.2) (fun q4 =>
   Option.bind (kfX13_thrown  q4.2) (fun q7 =>
    if q7 = q1.1 then
     (fun (k14 : (Unit) → Option (knMem)) =>
      if q1.1 = 0 then
       if (knLcmp (q4.2 159 0) q4.1) = 0 then
        k14 ()
       else
        none
      else
       k14 ())
      (fun _ =>
      some q4.2)
    else
     none)))

set_option maxHeartbeats 4000000 in
set_option maxRecDepth 100000 in
theorem kcLc_20 {G : knGT} {p : Program} {l : Launch} {e : Env} {s : State} {m : MethodId} {args : Array Value} {below : List Frame} {meth : Method} {c : Code} {Q : State → Prop} {b N : Nat} {xs : Nat → Int32} (hl : l.stackTraces = false) (X : knX p m c code 10 s args RL) (K : knK G s s.heap) (S : knSc G b N xs s) {i x1 x2 x3 x4 : Int} (hi : knC i) (hs : knSi N xs i x1 x2 x3 x4) {cells slots : Nat} (hc9 : cells + 2 ≤ room_1.cells) (hs9 : slots + 12 ≤ room_1.slots) {μ q : knMem} (hf : kfLc_20 x1 x2 x3 x4 μ = some q)
  (kk : knJ G p l e room_1 s m args below meth c 10 (cells + 2) (slots + 12) Q 2804 [(0, Value.ref b), (1, knO G 0), (2, knO G 142), (3, knO G 159), (4, knO G 160), (5, knV i)] [] q) : knJ G p l e room_1 s m args below meth c 10 cells slots Q 1294 [(0, Value.ref b), (1, knO G 0), (2, knO G 142), (3, knO G 159), (4, knO G 160), (5, knV i)] [] μ := by
  unfold kfLc_20 at hf
  refine kj_aloadn X 1 dL_law_1294 rfl ?_
  refine kj_aloadn X 0 dL_law_1295 rfl ?_
  refine kj_iload X 5 dL_law_1296 rfl ?_
  refine kj_iconst X dL_law_1298 ?_
  refine kj_iadd X dL_law_1299 ?_
  refine kj_sld X S (knCw _) hs.1.2 hs.1.1 dL_law_1300 ?_
  refine kj_aloadn X 3 dL_law_1301 rfl ?_
  obtain ⟨q1, h2, hf⟩ := knBd_inv hf
  refine kj_callSH (As := [knO G 0, knV x1, knO G 159]) (rest := []) X K (kcL_crossingByChord l hl (knC_sx hs.1.2) h2) knWhL_crossingByChord (knGm 1089 (by decide +kernel) rfl) (by decide) rfl (Nat.le_of_ble_eq_true rfl) ⟨by omega, by omega⟩ dL_law_1302 rfl (fun h3 => ?_)
  refine kj_istore X (L' := [(6, knV q1.1), (0, Value.ref b), (1, knO G 0), (2, knO G 142), (3, knO G 159), (4, knO G 160), (5, knV i)]) dL_law_1305 (by decide) rfl ?_
  refine kj_aloadn X 3 dL_law_1307 rfl ?_
  refine kj_aloadn X 1 dL_law_1308 rfl ?_
  refine kj_iload X 6 dL_law_1309 rfl ?_
  refine kj_iconst X dL_law_1311 ?_
  refine kj_iadd X dL_law_1312 ?_
  refine kj_sld X S (knCw _) hs.1.2 hs.1.1 dL_law_1313 ?_
  obtain ⟨q4, h5, hf⟩ := knBd_inv hf
  refine kj_callV (As := [knV x1]) (rest := []) X K (kcX13_crossingByChord l (knC_sx hs.1.2) h5) knWvX13_crossingByChord (knGm 1820 (by decide +kernel) rfl) (by decide) (knKd_in kdc_142 (by decide)) (knEnt_10 kdc_142) rfl rfl rfl (Nat.le_of_ble_eq_true rfl) ⟨by omega, by omega⟩ dL_law_1314 rfl (fun h6 => ?_)
  refine kj_istore X (L' := [(7, knV q4.1), (6, knV q1.1), (0, Value.ref b), (1, knO G 0), (2, knO G 142), (3, knO G 159), (4, knO G 160), (5, knV i)]) dL_law_1317 (by decide) rfl ?_
  refine kj_aloadn X 4 dL_law_1319 rfl ?_
  obtain ⟨q7, h8, hf⟩ := knBd_inv hf
  refine kj_callV (As := []) (rest := []) X K (kcX13_thrown l  h8) knWvX13_thrown (knGm 1589 (by decide +kernel) rfl) (by decide) (knKd_in kdc_142 (by decide)) (knEnt_10 kdc_142) rfl rfl rfl (Nat.le_of_ble_eq_true rfl) ⟨by omega, by omega⟩ dL_law_1320 rfl (fun h9 => ?_)
  refine kj_iload X 1 dL_law_1323 rfl ?_
  refine kj_ic_eq X (tgt := 1330) dL_law_1325 (by decide) h9 h3 (fun h10 => ?_) (fun h10 => ?_)
  · replace hf := knIp hf h10
    refine kj_iload X 1 dL_law_1330 rfl ?_
    have j14 : (fun _ =>
     some q4.2) () = some q → knJ G p l e room_1 s m args below meth c 10 (cells + 1) (slots + 6) Q 1347 [(0, Value.ref b), (1, knO G 0), (2, knO G 142), (3, knO G 159), (4, knO G 160), (5, knV i)] [] q4.2 := by
      intro hf
      refine kj_goto X (tgt := 2804) dL_law_1347 (by decide) ?_
      cases hf
      refine kj_sub (L' := [(0, Value.ref b), (1, knO G 0), (2, knO G 142), (3, knO G 159), (4, knO G 160), (5, knV i)]) [0, 1, 2, 3, 4, 5] rfl ?_
      exact kj_wd (by omega) (by omega) kk
    refine kj_if_ne X (tgt := 1347) dL_law_1332 (by decide) h3 (fun h16 => ?_) (fun h16 => ?_)
    · replace hf := knIq hf h16
      refine kj_sub (L' := [(0, Value.ref b), (1, knO G 0), (2, knO G 142), (3, knO G 159), (4, knO G 160), (5, knV i)]) [2, 3, 4, 5, 6, 7] rfl ?_
      exact j14  hf
    · replace hf := knIp hf h16
      refine kj_aloadn X 5 dL_law_1335 rfl ?_
      refine kj_iconst X dL_law_1336 ?_
      refine kj_lald X K dL_law_1337 (fun h17 => ?_)
      refine kj_iload X 0 dL_law_1338 rfl ?_
      refine kj_i2l X dL_law_1340 h6 ?_
      refine kj_lcmp X dL_law_1341 h17 h6 ?_
      refine kj_if_eq X (tgt := 1347) dL_law_1342 (by decide) (knC_lcmp _ _) (fun h18 => ?_) (fun h18 => ?_)
      · replace hf := knIp hf h18
        refine kj_sub (L' := [(0, Value.ref b), (1, knO G 0), (2, knO G 142), (3, knO G 159), (4, knO G 160), (5, knV i)]) [2, 3, 4, 5, 6, 7] rfl ?_
        exact j14  hf
      · replace hf := knIq hf h18
        refine kj_iconst X dL_law_1345 ?_
        cases hf
  · replace hf := knIq hf h10
    refine kj_iconst X dL_law_1328 ?_
    cases hf

def kfLc_21 (x1 x2 x3 x4 : Int) (μ : knMem) : Option knMem :=
 Option.bind (kfX12_arcCount  μ) (fun q1 =>
  Option.bind (kfX13_arcCount  μ) (fun q4 =>
   if q1 = q4.1 then
    some q4.2
   else
    none))

set_option maxHeartbeats 4000000 in
set_option maxRecDepth 100000 in
theorem kcLc_21 {G : knGT} {p : Program} {l : Launch} {e : Env} {s : State} {m : MethodId} {args : Array Value} {below : List Frame} {meth : Method} {c : Code} {Q : State → Prop} {b N : Nat} {xs : Nat → Int32} (hl : l.stackTraces = false) (X : knX p m c code 10 s args RL) (K : knK G s s.heap) (S : knSc G b N xs s) {i x1 x2 x3 x4 : Int} (hi : knC i) (hs : knSi N xs i x1 x2 x3 x4) {cells slots : Nat} (hc9 : cells + 2 ≤ room_1.cells) (hs9 : slots + 12 ≤ room_1.slots) {μ q : knMem} (hf : kfLc_21 x1 x2 x3 x4 μ = some q)
  (kk : knJ G p l e room_1 s m args below meth c 10 (cells + 2) (slots + 12) Q 2804 [(0, Value.ref b), (1, knO G 0), (2, knO G 142), (3, knO G 159), (4, knO G 160), (5, knV i)] [] q) : knJ G p l e room_1 s m args below meth c 10 cells slots Q 1350 [(0, Value.ref b), (1, knO G 0), (2, knO G 142), (3, knO G 159), (4, knO G 160), (5, knV i)] [] μ := by
  unfold kfLc_21 at hf
  refine kj_aloadn X 1 dL_law_1350 rfl ?_
  obtain ⟨q1, h2, hf⟩ := knBd_inv hf
  refine kj_callV (As := []) (rest := []) X K (kcX12_arcCount l  h2) knWvX12_arcCount (knGm 674 (by decide +kernel) rfl) (by decide) (knKd_in kdc_0 (by decide)) (knEnt_9 kdc_0) rfl rfl rfl (Nat.le_of_ble_eq_true rfl) ⟨by omega, by omega⟩ dL_law_1351 rfl (fun h3 => ?_)
  refine kj_aloadn X 2 dL_law_1354 rfl ?_
  obtain ⟨q4, h5, hf⟩ := knBd_inv hf
  refine kj_callV (As := []) (rest := [knV q1]) X K (kcX13_arcCount l  h5) knWvX13_arcCount (knGm 1828 (by decide +kernel) rfl) (by decide) (knKd_in kdc_142 (by decide)) (knEnt_10 kdc_142) rfl rfl rfl (Nat.le_of_ble_eq_true rfl) ⟨by omega, by omega⟩ dL_law_1355 rfl (fun h6 => ?_)
  refine kj_ic_eq X (tgt := 2804) dL_law_1358 (by decide) h3 h6 (fun h7 => ?_) (fun h7 => ?_)
  · replace hf := knIp hf h7
    cases hf
    refine kj_sub (L' := [(0, Value.ref b), (1, knO G 0), (2, knO G 142), (3, knO G 159), (4, knO G 160), (5, knV i)]) [0, 1, 2, 3, 4, 5] rfl ?_
    exact kj_wd (by omega) (by omega) kk
  · replace hf := knIq hf h7
    refine kj_iconst X dL_law_1361 ?_
    cases hf

def kfLc_22 (x1 x2 x3 x4 : Int) (μ : knMem) : Option knMem :=
 Option.bind (kfL_arcAt x1 μ) (fun q1 =>
  Option.bind (kfX13_arcAt x1 q1.2) (fun q4 =>
   Option.bind (kfX13_thrown  q4.2) (fun q7 =>
    if q7 = q1.1 then
     (fun (k14 : (Unit) → Option (knMem)) =>
      if q1.1 = 0 then
       if (knLcmp (q4.2 159 0) q4.1) = 0 then
        k14 ()
       else
        none
      else
       k14 ())
      (fun _ =>
      some q4.2)
    else
     none)))

set_option maxHeartbeats 4000000 in
set_option maxRecDepth 100000 in
theorem kcLc_22 {G : knGT} {p : Program} {l : Launch} {e : Env} {s : State} {m : MethodId} {args : Array Value} {below : List Frame} {meth : Method} {c : Code} {Q : State → Prop} {b N : Nat} {xs : Nat → Int32} (hl : l.stackTraces = false) (X : knX p m c code 10 s args RL) (K : knK G s s.heap) (S : knSc G b N xs s) {i x1 x2 x3 x4 : Int} (hi : knC i) (hs : knSi N xs i x1 x2 x3 x4) {cells slots : Nat} (hc9 : cells + 2 ≤ room_1.cells) (hs9 : slots + 12 ≤ room_1.slots) {μ q : knMem} (hf : kfLc_22 x1 x2 x3 x4 μ = some q)
  (kk : knJ G p l e room_1 s m args below meth c 10 (cells + 2) (slots + 12) Q 2804 [(0, Value.ref b), (1, knO G 0), (2, knO G 142), (3, knO G 159), (4, knO G 160), (5, knV i)] [] q) : knJ G p l e room_1 s m args below meth c 10 cells slots Q 1363 [(0, Value.ref b), (1, knO G 0), (2, knO G 142), (3, knO G 159), (4, knO G 160), (5, knV i)] [] μ := by
  unfold kfLc_22 at hf
  refine kj_aloadn X 1 dL_law_1363 rfl ?_
  refine kj_aloadn X 0 dL_law_1364 rfl ?_
  refine kj_iload X 5 dL_law_1365 rfl ?_
  refine kj_iconst X dL_law_1367 ?_
  refine kj_iadd X dL_law_1368 ?_
  refine kj_sld X S (knCw _) hs.1.2 hs.1.1 dL_law_1369 ?_
  refine kj_aloadn X 3 dL_law_1370 rfl ?_
  obtain ⟨q1, h2, hf⟩ := knBd_inv hf
  refine kj_callSH (As := [knO G 0, knV x1, knO G 159]) (rest := []) X K (kcL_arcAt l hl (knC_sx hs.1.2) h2) knWhL_arcAt (knGm 1106 (by decide +kernel) rfl) (by decide) rfl (Nat.le_of_ble_eq_true rfl) ⟨by omega, by omega⟩ dL_law_1371 rfl (fun h3 => ?_)
  refine kj_istore X (L' := [(6, knV q1.1), (0, Value.ref b), (1, knO G 0), (2, knO G 142), (3, knO G 159), (4, knO G 160), (5, knV i)]) dL_law_1374 (by decide) rfl ?_
  refine kj_aloadn X 3 dL_law_1376 rfl ?_
  refine kj_aloadn X 1 dL_law_1377 rfl ?_
  refine kj_iload X 6 dL_law_1378 rfl ?_
  refine kj_iconst X dL_law_1380 ?_
  refine kj_iadd X dL_law_1381 ?_
  refine kj_sld X S (knCw _) hs.1.2 hs.1.1 dL_law_1382 ?_
  obtain ⟨q4, h5, hf⟩ := knBd_inv hf
  refine kj_callV (As := [knV x1]) (rest := []) X K (kcX13_arcAt l (knC_sx hs.1.2) h5) knWvX13_arcAt (knGm 1836 (by decide +kernel) rfl) (by decide) (knKd_in kdc_142 (by decide)) (knEnt_10 kdc_142) rfl rfl rfl (Nat.le_of_ble_eq_true rfl) ⟨by omega, by omega⟩ dL_law_1383 rfl (fun h6 => ?_)
  refine kj_istore X (L' := [(7, knV q4.1), (6, knV q1.1), (0, Value.ref b), (1, knO G 0), (2, knO G 142), (3, knO G 159), (4, knO G 160), (5, knV i)]) dL_law_1386 (by decide) rfl ?_
  refine kj_aloadn X 4 dL_law_1388 rfl ?_
  obtain ⟨q7, h8, hf⟩ := knBd_inv hf
  refine kj_callV (As := []) (rest := []) X K (kcX13_thrown l  h8) knWvX13_thrown (knGm 1589 (by decide +kernel) rfl) (by decide) (knKd_in kdc_142 (by decide)) (knEnt_10 kdc_142) rfl rfl rfl (Nat.le_of_ble_eq_true rfl) ⟨by omega, by omega⟩ dL_law_1389 rfl (fun h9 => ?_)
  refine kj_iload X 1 dL_law_1392 rfl ?_
  refine kj_ic_eq X (tgt := 1399) dL_law_1394 (by decide) h9 h3 (fun h10 => ?_) (fun h10 => ?_)
  · replace hf := knIp hf h10
    refine kj_iload X 1 dL_law_1399 rfl ?_
    have j14 : (fun _ =>
     some q4.2) () = some q → knJ G p l e room_1 s m args below meth c 10 (cells + 1) (slots + 6) Q 1416 [(0, Value.ref b), (1, knO G 0), (2, knO G 142), (3, knO G 159), (4, knO G 160), (5, knV i)] [] q4.2 := by
      intro hf
      refine kj_goto X (tgt := 2804) dL_law_1416 (by decide) ?_
      cases hf
      refine kj_sub (L' := [(0, Value.ref b), (1, knO G 0), (2, knO G 142), (3, knO G 159), (4, knO G 160), (5, knV i)]) [0, 1, 2, 3, 4, 5] rfl ?_
      exact kj_wd (by omega) (by omega) kk
    refine kj_if_ne X (tgt := 1416) dL_law_1401 (by decide) h3 (fun h16 => ?_) (fun h16 => ?_)
    · replace hf := knIq hf h16
      refine kj_sub (L' := [(0, Value.ref b), (1, knO G 0), (2, knO G 142), (3, knO G 159), (4, knO G 160), (5, knV i)]) [2, 3, 4, 5, 6, 7] rfl ?_
      exact j14  hf
    · replace hf := knIp hf h16
      refine kj_aloadn X 5 dL_law_1404 rfl ?_
      refine kj_iconst X dL_law_1405 ?_
      refine kj_lald X K dL_law_1406 (fun h17 => ?_)
      refine kj_iload X 0 dL_law_1407 rfl ?_
      refine kj_i2l X dL_law_1409 h6 ?_
      refine kj_lcmp X dL_law_1410 h17 h6 ?_
      refine kj_if_eq X (tgt := 1416) dL_law_1411 (by decide) (knC_lcmp _ _) (fun h18 => ?_) (fun h18 => ?_)
      · replace hf := knIp hf h18
        refine kj_sub (L' := [(0, Value.ref b), (1, knO G 0), (2, knO G 142), (3, knO G 159), (4, knO G 160), (5, knV i)]) [2, 3, 4, 5, 6, 7] rfl ?_
        exact j14  hf
      · replace hf := knIq hf h18
        refine kj_iconst X dL_law_1414 ?_
        cases hf
  · replace hf := knIq hf h10
    refine kj_iconst X dL_law_1397 ?_
    cases hf

def kfLc_23 (x1 x2 x3 x4 : Int) (μ : knMem) : Option knMem :=
 Option.bind (kfL_colourings x1 μ) (fun q1 =>
  Option.bind (kfX13_colourings x1 q1.2) (fun q4 =>
   Option.bind (kfX13_thrown  q4.2) (fun q7 =>
    if q7 = q1.1 then
     (fun (k14 : (Unit) → Option (knMem)) =>
      if q1.1 = 0 then
       if (knLcmp (q4.2 159 0) q4.1) = 0 then
        k14 ()
       else
        none
      else
       k14 ())
      (fun _ =>
      some q4.2)
    else
     none)))

set_option maxHeartbeats 4000000 in
set_option maxRecDepth 100000 in
theorem kcLc_23 {G : knGT} {p : Program} {l : Launch} {e : Env} {s : State} {m : MethodId} {args : Array Value} {below : List Frame} {meth : Method} {c : Code} {Q : State → Prop} {b N : Nat} {xs : Nat → Int32} (hl : l.stackTraces = false) (X : knX p m c code 10 s args RL) (K : knK G s s.heap) (S : knSc G b N xs s) {i x1 x2 x3 x4 : Int} (hi : knC i) (hs : knSi N xs i x1 x2 x3 x4) {cells slots : Nat} (hc9 : cells + 2 ≤ room_1.cells) (hs9 : slots + 12 ≤ room_1.slots) {μ q : knMem} (hf : kfLc_23 x1 x2 x3 x4 μ = some q)
  (kk : knJ G p l e room_1 s m args below meth c 10 (cells + 2) (slots + 12) Q 2804 [(0, Value.ref b), (1, knO G 0), (2, knO G 142), (3, knO G 159), (4, knO G 160), (5, knV i)] [] q) : knJ G p l e room_1 s m args below meth c 10 cells slots Q 1419 [(0, Value.ref b), (1, knO G 0), (2, knO G 142), (3, knO G 159), (4, knO G 160), (5, knV i)] [] μ := by
  unfold kfLc_23 at hf
  refine kj_aloadn X 1 dL_law_1419 rfl ?_
  refine kj_aloadn X 0 dL_law_1420 rfl ?_
  refine kj_iload X 5 dL_law_1421 rfl ?_
  refine kj_iconst X dL_law_1423 ?_
  refine kj_iadd X dL_law_1424 ?_
  refine kj_sld X S (knCw _) hs.1.2 hs.1.1 dL_law_1425 ?_
  refine kj_aloadn X 3 dL_law_1426 rfl ?_
  obtain ⟨q1, h2, hf⟩ := knBd_inv hf
  refine kj_callSH (As := [knO G 0, knV x1, knO G 159]) (rest := []) X K (kcL_colourings l hl (knC_sx hs.1.2) h2) knWhL_colourings (knGm 1114 (by decide +kernel) rfl) (by decide) rfl (Nat.le_of_ble_eq_true rfl) ⟨by omega, by omega⟩ dL_law_1427 rfl (fun h3 => ?_)
  refine kj_istore X (L' := [(6, knV q1.1), (0, Value.ref b), (1, knO G 0), (2, knO G 142), (3, knO G 159), (4, knO G 160), (5, knV i)]) dL_law_1430 (by decide) rfl ?_
  refine kj_aloadn X 3 dL_law_1432 rfl ?_
  refine kj_aloadn X 1 dL_law_1433 rfl ?_
  refine kj_iload X 6 dL_law_1434 rfl ?_
  refine kj_iconst X dL_law_1436 ?_
  refine kj_iadd X dL_law_1437 ?_
  refine kj_sld X S (knCw _) hs.1.2 hs.1.1 dL_law_1438 ?_
  obtain ⟨q4, h5, hf⟩ := knBd_inv hf
  refine kj_callV (As := [knV x1]) (rest := []) X K (kcX13_colourings l (knC_sx hs.1.2) h5) knWvX13_colourings (knGm 1844 (by decide +kernel) rfl) (by decide) (knKd_in kdc_142 (by decide)) (knEnt_10 kdc_142) rfl rfl rfl (Nat.le_of_ble_eq_true rfl) ⟨by omega, by omega⟩ dL_law_1439 rfl (fun h6 => ?_)
  refine kj_istore X (L' := [(7, knV q4.1), (6, knV q1.1), (0, Value.ref b), (1, knO G 0), (2, knO G 142), (3, knO G 159), (4, knO G 160), (5, knV i)]) dL_law_1442 (by decide) rfl ?_
  refine kj_aloadn X 4 dL_law_1444 rfl ?_
  obtain ⟨q7, h8, hf⟩ := knBd_inv hf
  refine kj_callV (As := []) (rest := []) X K (kcX13_thrown l  h8) knWvX13_thrown (knGm 1589 (by decide +kernel) rfl) (by decide) (knKd_in kdc_142 (by decide)) (knEnt_10 kdc_142) rfl rfl rfl (Nat.le_of_ble_eq_true rfl) ⟨by omega, by omega⟩ dL_law_1445 rfl (fun h9 => ?_)
  refine kj_iload X 1 dL_law_1448 rfl ?_
  refine kj_ic_eq X (tgt := 1455) dL_law_1450 (by decide) h9 h3 (fun h10 => ?_) (fun h10 => ?_)
  · replace hf := knIp hf h10
    refine kj_iload X 1 dL_law_1455 rfl ?_
    have j14 : (fun _ =>
     some q4.2) () = some q → knJ G p l e room_1 s m args below meth c 10 (cells + 1) (slots + 6) Q 1472 [(0, Value.ref b), (1, knO G 0), (2, knO G 142), (3, knO G 159), (4, knO G 160), (5, knV i)] [] q4.2 := by
      intro hf
      refine kj_goto X (tgt := 2804) dL_law_1472 (by decide) ?_
      cases hf
      refine kj_sub (L' := [(0, Value.ref b), (1, knO G 0), (2, knO G 142), (3, knO G 159), (4, knO G 160), (5, knV i)]) [0, 1, 2, 3, 4, 5] rfl ?_
      exact kj_wd (by omega) (by omega) kk
    refine kj_if_ne X (tgt := 1472) dL_law_1457 (by decide) h3 (fun h16 => ?_) (fun h16 => ?_)
    · replace hf := knIq hf h16
      refine kj_sub (L' := [(0, Value.ref b), (1, knO G 0), (2, knO G 142), (3, knO G 159), (4, knO G 160), (5, knV i)]) [2, 3, 4, 5, 6, 7] rfl ?_
      exact j14  hf
    · replace hf := knIp hf h16
      refine kj_aloadn X 5 dL_law_1460 rfl ?_
      refine kj_iconst X dL_law_1461 ?_
      refine kj_lald X K dL_law_1462 (fun h17 => ?_)
      refine kj_iload X 0 dL_law_1463 rfl ?_
      refine kj_i2l X dL_law_1465 h6 ?_
      refine kj_lcmp X dL_law_1466 h17 h6 ?_
      refine kj_if_eq X (tgt := 1472) dL_law_1467 (by decide) (knC_lcmp _ _) (fun h18 => ?_) (fun h18 => ?_)
      · replace hf := knIp hf h18
        refine kj_sub (L' := [(0, Value.ref b), (1, knO G 0), (2, knO G 142), (3, knO G 159), (4, knO G 160), (5, knV i)]) [2, 3, 4, 5, 6, 7] rfl ?_
        exact j14  hf
      · replace hf := knIq hf h18
        refine kj_iconst X dL_law_1470 ?_
        cases hf
  · replace hf := knIq hf h10
    refine kj_iconst X dL_law_1453 ?_
    cases hf

def kfLc_24 (x1 x2 x3 x4 : Int) (μ : knMem) : Option knMem :=
 Option.bind (kfX12_colouringsByTrying  μ) (fun q1 =>
  Option.bind (kfX13_colouringsByTrying  q1.2) (fun q4 =>
   if q1.1 = q4.1 then
    some q4.2
   else
    none))

set_option maxHeartbeats 4000000 in
set_option maxRecDepth 100000 in
theorem kcLc_24 {G : knGT} {p : Program} {l : Launch} {e : Env} {s : State} {m : MethodId} {args : Array Value} {below : List Frame} {meth : Method} {c : Code} {Q : State → Prop} {b N : Nat} {xs : Nat → Int32} (hl : l.stackTraces = false) (X : knX p m c code 10 s args RL) (K : knK G s s.heap) (S : knSc G b N xs s) {i x1 x2 x3 x4 : Int} (hi : knC i) (hs : knSi N xs i x1 x2 x3 x4) {cells slots : Nat} (hc9 : cells + 2 ≤ room_1.cells) (hs9 : slots + 12 ≤ room_1.slots) {μ q : knMem} (hf : kfLc_24 x1 x2 x3 x4 μ = some q)
  (kk : knJ G p l e room_1 s m args below meth c 10 (cells + 2) (slots + 12) Q 2804 [(0, Value.ref b), (1, knO G 0), (2, knO G 142), (3, knO G 159), (4, knO G 160), (5, knV i)] [] q) : knJ G p l e room_1 s m args below meth c 10 cells slots Q 1475 [(0, Value.ref b), (1, knO G 0), (2, knO G 142), (3, knO G 159), (4, knO G 160), (5, knV i)] [] μ := by
  unfold kfLc_24 at hf
  refine kj_aloadn X 1 dL_law_1475 rfl ?_
  obtain ⟨q1, h2, hf⟩ := knBd_inv hf
  refine kj_callV (As := []) (rest := []) X K (kcX12_colouringsByTrying l  h2) knWvX12_colouringsByTrying (knGm 682 (by decide +kernel) rfl) (by decide) (knKd_in kdc_0 (by decide)) (knEnt_9 kdc_0) rfl rfl rfl (Nat.le_of_ble_eq_true rfl) ⟨by omega, by omega⟩ dL_law_1476 rfl (fun h3 => ?_)
  refine kj_aloadn X 2 dL_law_1479 rfl ?_
  obtain ⟨q4, h5, hf⟩ := knBd_inv hf
  refine kj_callV (As := []) (rest := [knV q1.1]) X K (kcX13_colouringsByTrying l  h5) knWvX13_colouringsByTrying (knGm 1871 (by decide +kernel) rfl) (by decide) (knKd_in kdc_142 (by decide)) (knEnt_10 kdc_142) rfl rfl rfl (Nat.le_of_ble_eq_true rfl) ⟨by omega, by omega⟩ dL_law_1480 rfl (fun h6 => ?_)
  refine kj_ic_eq X (tgt := 2804) dL_law_1483 (by decide) h3 h6 (fun h7 => ?_) (fun h7 => ?_)
  · replace hf := knIp hf h7
    cases hf
    refine kj_sub (L' := [(0, Value.ref b), (1, knO G 0), (2, knO G 142), (3, knO G 159), (4, knO G 160), (5, knV i)]) [0, 1, 2, 3, 4, 5] rfl ?_
    exact kj_wd (by omega) (by omega) kk
  · replace hf := knIq hf h7
    refine kj_iconst X dL_law_1486 ?_
    cases hf

def kfLc_25 (x1 x2 x3 x4 : Int) (μ : knMem) : Option knMem :=
 Option.bind (kfL_loops x1 μ) (fun q1 =>
  Option.bind (kfX13_loops x1 q1.2) (fun q4 =>
   Option.bind (kfX13_thrown  q4.2) (fun q7 =>
    if q7 = q1.1 then
     (fun (k14 : (Unit) → Option (knMem)) =>
      if q1.1 = 0 then
       if (knLcmp (q4.2 159 0) q4.1) = 0 then
        k14 ()
       else
        none
      else
       k14 ())
      (fun _ =>
      some q4.2)
    else
     none)))

set_option maxHeartbeats 4000000 in
set_option maxRecDepth 100000 in
theorem kcLc_25 {G : knGT} {p : Program} {l : Launch} {e : Env} {s : State} {m : MethodId} {args : Array Value} {below : List Frame} {meth : Method} {c : Code} {Q : State → Prop} {b N : Nat} {xs : Nat → Int32} (hl : l.stackTraces = false) (X : knX p m c code 10 s args RL) (K : knK G s s.heap) (S : knSc G b N xs s) {i x1 x2 x3 x4 : Int} (hi : knC i) (hs : knSi N xs i x1 x2 x3 x4) {cells slots : Nat} (hc9 : cells + 2 ≤ room_1.cells) (hs9 : slots + 12 ≤ room_1.slots) {μ q : knMem} (hf : kfLc_25 x1 x2 x3 x4 μ = some q)
  (kk : knJ G p l e room_1 s m args below meth c 10 (cells + 2) (slots + 12) Q 2804 [(0, Value.ref b), (1, knO G 0), (2, knO G 142), (3, knO G 159), (4, knO G 160), (5, knV i)] [] q) : knJ G p l e room_1 s m args below meth c 10 cells slots Q 1488 [(0, Value.ref b), (1, knO G 0), (2, knO G 142), (3, knO G 159), (4, knO G 160), (5, knV i)] [] μ := by
  unfold kfLc_25 at hf
  refine kj_aloadn X 1 dL_law_1488 rfl ?_
  refine kj_aloadn X 0 dL_law_1489 rfl ?_
  refine kj_iload X 5 dL_law_1490 rfl ?_
  refine kj_iconst X dL_law_1492 ?_
  refine kj_iadd X dL_law_1493 ?_
  refine kj_sld X S (knCw _) hs.1.2 hs.1.1 dL_law_1494 ?_
  refine kj_aloadn X 3 dL_law_1495 rfl ?_
  obtain ⟨q1, h2, hf⟩ := knBd_inv hf
  refine kj_callSH (As := [knO G 0, knV x1, knO G 159]) (rest := []) X K (kcL_loops l hl (knC_sx hs.1.2) h2) knWhL_loops (knGm 1123 (by decide +kernel) rfl) (by decide) rfl (Nat.le_of_ble_eq_true rfl) ⟨by omega, by omega⟩ dL_law_1496 rfl (fun h3 => ?_)
  refine kj_istore X (L' := [(6, knV q1.1), (0, Value.ref b), (1, knO G 0), (2, knO G 142), (3, knO G 159), (4, knO G 160), (5, knV i)]) dL_law_1499 (by decide) rfl ?_
  refine kj_aloadn X 3 dL_law_1501 rfl ?_
  refine kj_aloadn X 1 dL_law_1502 rfl ?_
  refine kj_iload X 6 dL_law_1503 rfl ?_
  refine kj_iconst X dL_law_1505 ?_
  refine kj_iadd X dL_law_1506 ?_
  refine kj_sld X S (knCw _) hs.1.2 hs.1.1 dL_law_1507 ?_
  obtain ⟨q4, h5, hf⟩ := knBd_inv hf
  refine kj_callV (As := [knV x1]) (rest := []) X K (kcX13_loops l (knC_sx hs.1.2) h5) knWvX13_loops (knGm 1876 (by decide +kernel) rfl) (by decide) (knKd_in kdc_142 (by decide)) (knEnt_10 kdc_142) rfl rfl rfl (Nat.le_of_ble_eq_true rfl) ⟨by omega, by omega⟩ dL_law_1508 rfl (fun h6 => ?_)
  refine kj_istore X (L' := [(7, knV q4.1), (6, knV q1.1), (0, Value.ref b), (1, knO G 0), (2, knO G 142), (3, knO G 159), (4, knO G 160), (5, knV i)]) dL_law_1511 (by decide) rfl ?_
  refine kj_aloadn X 4 dL_law_1513 rfl ?_
  obtain ⟨q7, h8, hf⟩ := knBd_inv hf
  refine kj_callV (As := []) (rest := []) X K (kcX13_thrown l  h8) knWvX13_thrown (knGm 1589 (by decide +kernel) rfl) (by decide) (knKd_in kdc_142 (by decide)) (knEnt_10 kdc_142) rfl rfl rfl (Nat.le_of_ble_eq_true rfl) ⟨by omega, by omega⟩ dL_law_1514 rfl (fun h9 => ?_)
  refine kj_iload X 1 dL_law_1517 rfl ?_
  refine kj_ic_eq X (tgt := 1524) dL_law_1519 (by decide) h9 h3 (fun h10 => ?_) (fun h10 => ?_)
  · replace hf := knIp hf h10
    refine kj_iload X 1 dL_law_1524 rfl ?_
    have j14 : (fun _ =>
     some q4.2) () = some q → knJ G p l e room_1 s m args below meth c 10 (cells + 1) (slots + 6) Q 1541 [(0, Value.ref b), (1, knO G 0), (2, knO G 142), (3, knO G 159), (4, knO G 160), (5, knV i)] [] q4.2 := by
      intro hf
      refine kj_goto X (tgt := 2804) dL_law_1541 (by decide) ?_
      cases hf
      refine kj_sub (L' := [(0, Value.ref b), (1, knO G 0), (2, knO G 142), (3, knO G 159), (4, knO G 160), (5, knV i)]) [0, 1, 2, 3, 4, 5] rfl ?_
      exact kj_wd (by omega) (by omega) kk
    refine kj_if_ne X (tgt := 1541) dL_law_1526 (by decide) h3 (fun h16 => ?_) (fun h16 => ?_)
    · replace hf := knIq hf h16
      refine kj_sub (L' := [(0, Value.ref b), (1, knO G 0), (2, knO G 142), (3, knO G 159), (4, knO G 160), (5, knV i)]) [2, 3, 4, 5, 6, 7] rfl ?_
      exact j14  hf
    · replace hf := knIp hf h16
      refine kj_aloadn X 5 dL_law_1529 rfl ?_
      refine kj_iconst X dL_law_1530 ?_
      refine kj_lald X K dL_law_1531 (fun h17 => ?_)
      refine kj_iload X 0 dL_law_1532 rfl ?_
      refine kj_i2l X dL_law_1534 h6 ?_
      refine kj_lcmp X dL_law_1535 h17 h6 ?_
      refine kj_if_eq X (tgt := 1541) dL_law_1536 (by decide) (knC_lcmp _ _) (fun h18 => ?_) (fun h18 => ?_)
      · replace hf := knIp hf h18
        refine kj_sub (L' := [(0, Value.ref b), (1, knO G 0), (2, knO G 142), (3, knO G 159), (4, knO G 160), (5, knV i)]) [2, 3, 4, 5, 6, 7] rfl ?_
        exact j14  hf
      · replace hf := knIq hf h18
        refine kj_iconst X dL_law_1539 ?_
        cases hf
  · replace hf := knIq hf h10
    refine kj_iconst X dL_law_1522 ?_
    cases hf

def kfLc_26 (x1 x2 x3 x4 : Int) (μ : knMem) : Option knMem :=
 Option.bind (kfL_bracketCoefficient x1 μ) (fun q1 =>
  Option.bind (kfX13_bracketCoefficient x1 q1.2) (fun q4 =>
   Option.bind (kfX13_thrown  q4.2) (fun q7 =>
    if q7 = q1.1 then
     (fun (k14 : (Unit) → Option (knMem)) =>
      if q1.1 = 0 then
       if (knLcmp (q4.2 159 0) q4.1) = 0 then
        k14 ()
       else
        none
      else
       k14 ())
      (fun _ =>
      some q4.2)
    else
     none)))

set_option maxHeartbeats 4000000 in
set_option maxRecDepth 100000 in
theorem kcLc_26 {G : knGT} {p : Program} {l : Launch} {e : Env} {s : State} {m : MethodId} {args : Array Value} {below : List Frame} {meth : Method} {c : Code} {Q : State → Prop} {b N : Nat} {xs : Nat → Int32} (hl : l.stackTraces = false) (X : knX p m c code 10 s args RL) (K : knK G s s.heap) (S : knSc G b N xs s) {i x1 x2 x3 x4 : Int} (hi : knC i) (hs : knSi N xs i x1 x2 x3 x4) {cells slots : Nat} (hc9 : cells + 2 ≤ room_1.cells) (hs9 : slots + 12 ≤ room_1.slots) {μ q : knMem} (hf : kfLc_26 x1 x2 x3 x4 μ = some q)
  (kk : knJ G p l e room_1 s m args below meth c 10 (cells + 2) (slots + 12) Q 2804 [(0, Value.ref b), (1, knO G 0), (2, knO G 142), (3, knO G 159), (4, knO G 160), (5, knV i)] [] q) : knJ G p l e room_1 s m args below meth c 10 cells slots Q 1544 [(0, Value.ref b), (1, knO G 0), (2, knO G 142), (3, knO G 159), (4, knO G 160), (5, knV i)] [] μ := by
  unfold kfLc_26 at hf
  refine kj_aloadn X 1 dL_law_1544 rfl ?_
  refine kj_aloadn X 0 dL_law_1545 rfl ?_
  refine kj_iload X 5 dL_law_1546 rfl ?_
  refine kj_iconst X dL_law_1548 ?_
  refine kj_iadd X dL_law_1549 ?_
  refine kj_sld X S (knCw _) hs.1.2 hs.1.1 dL_law_1550 ?_
  refine kj_aloadn X 3 dL_law_1551 rfl ?_
  obtain ⟨q1, h2, hf⟩ := knBd_inv hf
  refine kj_callSH (As := [knO G 0, knV x1, knO G 159]) (rest := []) X K (kcL_bracketCoefficient l hl (knC_sx hs.1.2) h2) knWhL_bracketCoefficient (knGm 1133 (by decide +kernel) rfl) (by decide) rfl (Nat.le_of_ble_eq_true rfl) ⟨by omega, by omega⟩ dL_law_1552 rfl (fun h3 => ?_)
  refine kj_istore X (L' := [(6, knV q1.1), (0, Value.ref b), (1, knO G 0), (2, knO G 142), (3, knO G 159), (4, knO G 160), (5, knV i)]) dL_law_1555 (by decide) rfl ?_
  refine kj_aloadn X 3 dL_law_1557 rfl ?_
  refine kj_aloadn X 1 dL_law_1558 rfl ?_
  refine kj_iload X 6 dL_law_1559 rfl ?_
  refine kj_iconst X dL_law_1561 ?_
  refine kj_iadd X dL_law_1562 ?_
  refine kj_sld X S (knCw _) hs.1.2 hs.1.1 dL_law_1563 ?_
  obtain ⟨q4, h5, hf⟩ := knBd_inv hf
  refine kj_callV (As := [knV x1]) (rest := []) X K (kcX13_bracketCoefficient l (knC_sx hs.1.2) h5) knWvX13_bracketCoefficient (knGm 1892 (by decide +kernel) rfl) (by decide) (knKd_in kdc_142 (by decide)) (knEnt_10 kdc_142) rfl rfl rfl (Nat.le_of_ble_eq_true rfl) ⟨by omega, by omega⟩ dL_law_1564 rfl (fun h6 => ?_)
  refine kj_istore X (L' := [(7, knV q4.1), (6, knV q1.1), (0, Value.ref b), (1, knO G 0), (2, knO G 142), (3, knO G 159), (4, knO G 160), (5, knV i)]) dL_law_1567 (by decide) rfl ?_
  refine kj_aloadn X 4 dL_law_1569 rfl ?_
  obtain ⟨q7, h8, hf⟩ := knBd_inv hf
  refine kj_callV (As := []) (rest := []) X K (kcX13_thrown l  h8) knWvX13_thrown (knGm 1589 (by decide +kernel) rfl) (by decide) (knKd_in kdc_142 (by decide)) (knEnt_10 kdc_142) rfl rfl rfl (Nat.le_of_ble_eq_true rfl) ⟨by omega, by omega⟩ dL_law_1570 rfl (fun h9 => ?_)
  refine kj_iload X 1 dL_law_1573 rfl ?_
  refine kj_ic_eq X (tgt := 1580) dL_law_1575 (by decide) h9 h3 (fun h10 => ?_) (fun h10 => ?_)
  · replace hf := knIp hf h10
    refine kj_iload X 1 dL_law_1580 rfl ?_
    have j14 : (fun _ =>
     some q4.2) () = some q → knJ G p l e room_1 s m args below meth c 10 (cells + 1) (slots + 6) Q 1597 [(0, Value.ref b), (1, knO G 0), (2, knO G 142), (3, knO G 159), (4, knO G 160), (5, knV i)] [] q4.2 := by
      intro hf
      refine kj_goto X (tgt := 2804) dL_law_1597 (by decide) ?_
      cases hf
      refine kj_sub (L' := [(0, Value.ref b), (1, knO G 0), (2, knO G 142), (3, knO G 159), (4, knO G 160), (5, knV i)]) [0, 1, 2, 3, 4, 5] rfl ?_
      exact kj_wd (by omega) (by omega) kk
    refine kj_if_ne X (tgt := 1597) dL_law_1582 (by decide) h3 (fun h16 => ?_) (fun h16 => ?_)
    · replace hf := knIq hf h16
      refine kj_sub (L' := [(0, Value.ref b), (1, knO G 0), (2, knO G 142), (3, knO G 159), (4, knO G 160), (5, knV i)]) [2, 3, 4, 5, 6, 7] rfl ?_
      exact j14  hf
    · replace hf := knIp hf h16
      refine kj_aloadn X 5 dL_law_1585 rfl ?_
      refine kj_iconst X dL_law_1586 ?_
      refine kj_lald X K dL_law_1587 (fun h17 => ?_)
      refine kj_iload X 0 dL_law_1588 rfl ?_
      refine kj_i2l X dL_law_1590 h6 ?_
      refine kj_lcmp X dL_law_1591 h17 h6 ?_
      refine kj_if_eq X (tgt := 1597) dL_law_1592 (by decide) (knC_lcmp _ _) (fun h18 => ?_) (fun h18 => ?_)
      · replace hf := knIp hf h18
        refine kj_sub (L' := [(0, Value.ref b), (1, knO G 0), (2, knO G 142), (3, knO G 159), (4, knO G 160), (5, knV i)]) [2, 3, 4, 5, 6, 7] rfl ?_
        exact j14  hf
      · replace hf := knIq hf h18
        refine kj_iconst X dL_law_1595 ?_
        cases hf
  · replace hf := knIq hf h10
    refine kj_iconst X dL_law_1578 ?_
    cases hf

def kfLc_27 (x1 x2 x3 x4 : Int) (μ : knMem) : Option knMem :=
 Option.bind (kfL_bracketCoefficientByResolving x1 μ) (fun q1 =>
  Option.bind (kfX13_bracketCoefficientByResolving x1 q1.2) (fun q4 =>
   Option.bind (kfX13_thrown  q4.2) (fun q7 =>
    if q7 = q1.1 then
     (fun (k14 : (Unit) → Option (knMem)) =>
      if q1.1 = 0 then
       if (knLcmp (q4.2 159 0) q4.1) = 0 then
        k14 ()
       else
        none
      else
       k14 ())
      (fun _ =>
      some q4.2)
    else
     none)))

set_option maxHeartbeats 4000000 in
set_option maxRecDepth 100000 in
theorem kcLc_27 {G : knGT} {p : Program} {l : Launch} {e : Env} {s : State} {m : MethodId} {args : Array Value} {below : List Frame} {meth : Method} {c : Code} {Q : State → Prop} {b N : Nat} {xs : Nat → Int32} (hl : l.stackTraces = false) (X : knX p m c code 10 s args RL) (K : knK G s s.heap) (S : knSc G b N xs s) {i x1 x2 x3 x4 : Int} (hi : knC i) (hs : knSi N xs i x1 x2 x3 x4) {cells slots : Nat} (hc9 : cells + 2 ≤ room_1.cells) (hs9 : slots + 12 ≤ room_1.slots) {μ q : knMem} (hf : kfLc_27 x1 x2 x3 x4 μ = some q)
  (kk : knJ G p l e room_1 s m args below meth c 10 (cells + 2) (slots + 12) Q 2804 [(0, Value.ref b), (1, knO G 0), (2, knO G 142), (3, knO G 159), (4, knO G 160), (5, knV i)] [] q) : knJ G p l e room_1 s m args below meth c 10 cells slots Q 1600 [(0, Value.ref b), (1, knO G 0), (2, knO G 142), (3, knO G 159), (4, knO G 160), (5, knV i)] [] μ := by
  unfold kfLc_27 at hf
  refine kj_aloadn X 1 dL_law_1600 rfl ?_
  refine kj_aloadn X 0 dL_law_1601 rfl ?_
  refine kj_iload X 5 dL_law_1602 rfl ?_
  refine kj_iconst X dL_law_1604 ?_
  refine kj_iadd X dL_law_1605 ?_
  refine kj_sld X S (knCw _) hs.1.2 hs.1.1 dL_law_1606 ?_
  refine kj_aloadn X 3 dL_law_1607 rfl ?_
  obtain ⟨q1, h2, hf⟩ := knBd_inv hf
  refine kj_callSH (As := [knO G 0, knV x1, knO G 159]) (rest := []) X K (kcL_bracketCoefficientByResolving l hl (knC_sx hs.1.2) h2) knWhL_bracketCoefficientByResolving (knGm 1144 (by decide +kernel) rfl) (by decide) rfl (Nat.le_of_ble_eq_true rfl) ⟨by omega, by omega⟩ dL_law_1608 rfl (fun h3 => ?_)
  refine kj_istore X (L' := [(6, knV q1.1), (0, Value.ref b), (1, knO G 0), (2, knO G 142), (3, knO G 159), (4, knO G 160), (5, knV i)]) dL_law_1611 (by decide) rfl ?_
  refine kj_aloadn X 3 dL_law_1613 rfl ?_
  refine kj_aloadn X 1 dL_law_1614 rfl ?_
  refine kj_iload X 6 dL_law_1615 rfl ?_
  refine kj_iconst X dL_law_1617 ?_
  refine kj_iadd X dL_law_1618 ?_
  refine kj_sld X S (knCw _) hs.1.2 hs.1.1 dL_law_1619 ?_
  obtain ⟨q4, h5, hf⟩ := knBd_inv hf
  refine kj_callV (As := [knV x1]) (rest := []) X K (kcX13_bracketCoefficientByResolving l (knC_sx hs.1.2) h5) knWvX13_bracketCoefficientByResolving (knGm 1907 (by decide +kernel) rfl) (by decide) (knKd_in kdc_142 (by decide)) (knEnt_10 kdc_142) rfl rfl rfl (Nat.le_of_ble_eq_true rfl) ⟨by omega, by omega⟩ dL_law_1620 rfl (fun h6 => ?_)
  refine kj_istore X (L' := [(7, knV q4.1), (6, knV q1.1), (0, Value.ref b), (1, knO G 0), (2, knO G 142), (3, knO G 159), (4, knO G 160), (5, knV i)]) dL_law_1623 (by decide) rfl ?_
  refine kj_aloadn X 4 dL_law_1625 rfl ?_
  obtain ⟨q7, h8, hf⟩ := knBd_inv hf
  refine kj_callV (As := []) (rest := []) X K (kcX13_thrown l  h8) knWvX13_thrown (knGm 1589 (by decide +kernel) rfl) (by decide) (knKd_in kdc_142 (by decide)) (knEnt_10 kdc_142) rfl rfl rfl (Nat.le_of_ble_eq_true rfl) ⟨by omega, by omega⟩ dL_law_1626 rfl (fun h9 => ?_)
  refine kj_iload X 1 dL_law_1629 rfl ?_
  refine kj_ic_eq X (tgt := 1636) dL_law_1631 (by decide) h9 h3 (fun h10 => ?_) (fun h10 => ?_)
  · replace hf := knIp hf h10
    refine kj_iload X 1 dL_law_1636 rfl ?_
    have j14 : (fun _ =>
     some q4.2) () = some q → knJ G p l e room_1 s m args below meth c 10 (cells + 1) (slots + 6) Q 1653 [(0, Value.ref b), (1, knO G 0), (2, knO G 142), (3, knO G 159), (4, knO G 160), (5, knV i)] [] q4.2 := by
      intro hf
      refine kj_goto X (tgt := 2804) dL_law_1653 (by decide) ?_
      cases hf
      refine kj_sub (L' := [(0, Value.ref b), (1, knO G 0), (2, knO G 142), (3, knO G 159), (4, knO G 160), (5, knV i)]) [0, 1, 2, 3, 4, 5] rfl ?_
      exact kj_wd (by omega) (by omega) kk
    refine kj_if_ne X (tgt := 1653) dL_law_1638 (by decide) h3 (fun h16 => ?_) (fun h16 => ?_)
    · replace hf := knIq hf h16
      refine kj_sub (L' := [(0, Value.ref b), (1, knO G 0), (2, knO G 142), (3, knO G 159), (4, knO G 160), (5, knV i)]) [2, 3, 4, 5, 6, 7] rfl ?_
      exact j14  hf
    · replace hf := knIp hf h16
      refine kj_aloadn X 5 dL_law_1641 rfl ?_
      refine kj_iconst X dL_law_1642 ?_
      refine kj_lald X K dL_law_1643 (fun h17 => ?_)
      refine kj_iload X 0 dL_law_1644 rfl ?_
      refine kj_i2l X dL_law_1646 h6 ?_
      refine kj_lcmp X dL_law_1647 h17 h6 ?_
      refine kj_if_eq X (tgt := 1653) dL_law_1648 (by decide) (knC_lcmp _ _) (fun h18 => ?_) (fun h18 => ?_)
      · replace hf := knIp hf h18
        refine kj_sub (L' := [(0, Value.ref b), (1, knO G 0), (2, knO G 142), (3, knO G 159), (4, knO G 160), (5, knV i)]) [2, 3, 4, 5, 6, 7] rfl ?_
        exact j14  hf
      · replace hf := knIq hf h18
        refine kj_iconst X dL_law_1651 ?_
        cases hf
  · replace hf := knIq hf h10
    refine kj_iconst X dL_law_1634 ?_
    cases hf

def kfLc_28 (x1 x2 x3 x4 : Int) (μ : knMem) : Option knMem :=
 Option.bind (kfL_coefficient x1 μ) (fun q1 =>
  Option.bind (kfX13_coefficient x1 q1.2) (fun q4 =>
   Option.bind (kfX13_thrown  q4.2) (fun q7 =>
    if q7 = q1.1 then
     (fun (k14 : (Unit) → Option (knMem)) =>
      if q1.1 = 0 then
       if (knLcmp (q4.2 159 0) q4.1) = 0 then
        k14 ()
       else
        none
      else
       k14 ())
      (fun _ =>
      some q4.2)
    else
     none)))

set_option maxHeartbeats 4000000 in
set_option maxRecDepth 100000 in
theorem kcLc_28 {G : knGT} {p : Program} {l : Launch} {e : Env} {s : State} {m : MethodId} {args : Array Value} {below : List Frame} {meth : Method} {c : Code} {Q : State → Prop} {b N : Nat} {xs : Nat → Int32} (hl : l.stackTraces = false) (X : knX p m c code 10 s args RL) (K : knK G s s.heap) (S : knSc G b N xs s) {i x1 x2 x3 x4 : Int} (hi : knC i) (hs : knSi N xs i x1 x2 x3 x4) {cells slots : Nat} (hc9 : cells + 2 ≤ room_1.cells) (hs9 : slots + 12 ≤ room_1.slots) {μ q : knMem} (hf : kfLc_28 x1 x2 x3 x4 μ = some q)
  (kk : knJ G p l e room_1 s m args below meth c 10 (cells + 2) (slots + 12) Q 2804 [(0, Value.ref b), (1, knO G 0), (2, knO G 142), (3, knO G 159), (4, knO G 160), (5, knV i)] [] q) : knJ G p l e room_1 s m args below meth c 10 cells slots Q 1656 [(0, Value.ref b), (1, knO G 0), (2, knO G 142), (3, knO G 159), (4, knO G 160), (5, knV i)] [] μ := by
  unfold kfLc_28 at hf
  refine kj_aloadn X 1 dL_law_1656 rfl ?_
  refine kj_aloadn X 0 dL_law_1657 rfl ?_
  refine kj_iload X 5 dL_law_1658 rfl ?_
  refine kj_iconst X dL_law_1660 ?_
  refine kj_iadd X dL_law_1661 ?_
  refine kj_sld X S (knCw _) hs.1.2 hs.1.1 dL_law_1662 ?_
  refine kj_aloadn X 3 dL_law_1663 rfl ?_
  obtain ⟨q1, h2, hf⟩ := knBd_inv hf
  refine kj_callSH (As := [knO G 0, knV x1, knO G 159]) (rest := []) X K (kcL_coefficient l hl (knC_sx hs.1.2) h2) knWhL_coefficient (knGm 1151 (by decide +kernel) rfl) (by decide) rfl (Nat.le_of_ble_eq_true rfl) ⟨by omega, by omega⟩ dL_law_1664 rfl (fun h3 => ?_)
  refine kj_istore X (L' := [(6, knV q1.1), (0, Value.ref b), (1, knO G 0), (2, knO G 142), (3, knO G 159), (4, knO G 160), (5, knV i)]) dL_law_1667 (by decide) rfl ?_
  refine kj_aloadn X 3 dL_law_1669 rfl ?_
  refine kj_aloadn X 1 dL_law_1670 rfl ?_
  refine kj_iload X 6 dL_law_1671 rfl ?_
  refine kj_iconst X dL_law_1673 ?_
  refine kj_iadd X dL_law_1674 ?_
  refine kj_sld X S (knCw _) hs.1.2 hs.1.1 dL_law_1675 ?_
  obtain ⟨q4, h5, hf⟩ := knBd_inv hf
  refine kj_callV (As := [knV x1]) (rest := []) X K (kcX13_coefficient l (knC_sx hs.1.2) h5) knWvX13_coefficient (knGm 1912 (by decide +kernel) rfl) (by decide) (knKd_in kdc_142 (by decide)) (knEnt_10 kdc_142) rfl rfl rfl (Nat.le_of_ble_eq_true rfl) ⟨by omega, by omega⟩ dL_law_1676 rfl (fun h6 => ?_)
  refine kj_istore X (L' := [(7, knV q4.1), (6, knV q1.1), (0, Value.ref b), (1, knO G 0), (2, knO G 142), (3, knO G 159), (4, knO G 160), (5, knV i)]) dL_law_1679 (by decide) rfl ?_
  refine kj_aloadn X 4 dL_law_1681 rfl ?_
  obtain ⟨q7, h8, hf⟩ := knBd_inv hf
  refine kj_callV (As := []) (rest := []) X K (kcX13_thrown l  h8) knWvX13_thrown (knGm 1589 (by decide +kernel) rfl) (by decide) (knKd_in kdc_142 (by decide)) (knEnt_10 kdc_142) rfl rfl rfl (Nat.le_of_ble_eq_true rfl) ⟨by omega, by omega⟩ dL_law_1682 rfl (fun h9 => ?_)
  refine kj_iload X 1 dL_law_1685 rfl ?_
  refine kj_ic_eq X (tgt := 1692) dL_law_1687 (by decide) h9 h3 (fun h10 => ?_) (fun h10 => ?_)
  · replace hf := knIp hf h10
    refine kj_iload X 1 dL_law_1692 rfl ?_
    have j14 : (fun _ =>
     some q4.2) () = some q → knJ G p l e room_1 s m args below meth c 10 (cells + 1) (slots + 6) Q 1709 [(0, Value.ref b), (1, knO G 0), (2, knO G 142), (3, knO G 159), (4, knO G 160), (5, knV i)] [] q4.2 := by
      intro hf
      refine kj_goto X (tgt := 2804) dL_law_1709 (by decide) ?_
      cases hf
      refine kj_sub (L' := [(0, Value.ref b), (1, knO G 0), (2, knO G 142), (3, knO G 159), (4, knO G 160), (5, knV i)]) [0, 1, 2, 3, 4, 5] rfl ?_
      exact kj_wd (by omega) (by omega) kk
    refine kj_if_ne X (tgt := 1709) dL_law_1694 (by decide) h3 (fun h16 => ?_) (fun h16 => ?_)
    · replace hf := knIq hf h16
      refine kj_sub (L' := [(0, Value.ref b), (1, knO G 0), (2, knO G 142), (3, knO G 159), (4, knO G 160), (5, knV i)]) [2, 3, 4, 5, 6, 7] rfl ?_
      exact j14  hf
    · replace hf := knIp hf h16
      refine kj_aloadn X 5 dL_law_1697 rfl ?_
      refine kj_iconst X dL_law_1698 ?_
      refine kj_lald X K dL_law_1699 (fun h17 => ?_)
      refine kj_iload X 0 dL_law_1700 rfl ?_
      refine kj_i2l X dL_law_1702 h6 ?_
      refine kj_lcmp X dL_law_1703 h17 h6 ?_
      refine kj_if_eq X (tgt := 1709) dL_law_1704 (by decide) (knC_lcmp _ _) (fun h18 => ?_) (fun h18 => ?_)
      · replace hf := knIp hf h18
        refine kj_sub (L' := [(0, Value.ref b), (1, knO G 0), (2, knO G 142), (3, knO G 159), (4, knO G 160), (5, knV i)]) [2, 3, 4, 5, 6, 7] rfl ?_
        exact j14  hf
      · replace hf := knIq hf h18
        refine kj_iconst X dL_law_1707 ?_
        cases hf
  · replace hf := knIq hf h10
    refine kj_iconst X dL_law_1690 ?_
    cases hf

def kfLc_29 (x1 x2 x3 x4 : Int) (μ : knMem) : Option knMem :=
 Option.bind (kfX12_lowestExponent  μ) (fun q1 =>
  Option.bind (kfX13_lowestExponent  q1.2) (fun q4 =>
   if q1.1 = q4.1 then
    some q4.2
   else
    none))

set_option maxHeartbeats 4000000 in
set_option maxRecDepth 100000 in
theorem kcLc_29 {G : knGT} {p : Program} {l : Launch} {e : Env} {s : State} {m : MethodId} {args : Array Value} {below : List Frame} {meth : Method} {c : Code} {Q : State → Prop} {b N : Nat} {xs : Nat → Int32} (hl : l.stackTraces = false) (X : knX p m c code 10 s args RL) (K : knK G s s.heap) (S : knSc G b N xs s) {i x1 x2 x3 x4 : Int} (hi : knC i) (hs : knSi N xs i x1 x2 x3 x4) {cells slots : Nat} (hc9 : cells + 2 ≤ room_1.cells) (hs9 : slots + 12 ≤ room_1.slots) {μ q : knMem} (hf : kfLc_29 x1 x2 x3 x4 μ = some q)
  (kk : knJ G p l e room_1 s m args below meth c 10 (cells + 2) (slots + 12) Q 2804 [(0, Value.ref b), (1, knO G 0), (2, knO G 142), (3, knO G 159), (4, knO G 160), (5, knV i)] [] q) : knJ G p l e room_1 s m args below meth c 10 cells slots Q 1712 [(0, Value.ref b), (1, knO G 0), (2, knO G 142), (3, knO G 159), (4, knO G 160), (5, knV i)] [] μ := by
  unfold kfLc_29 at hf
  refine kj_aloadn X 1 dL_law_1712 rfl ?_
  obtain ⟨q1, h2, hf⟩ := knBd_inv hf
  refine kj_callV (As := []) (rest := []) X K (kcX12_lowestExponent l  h2) knWvX12_lowestExponent (knGm 712 (by decide +kernel) rfl) (by decide) (knKd_in kdc_0 (by decide)) (knEnt_9 kdc_0) rfl rfl rfl (Nat.le_of_ble_eq_true rfl) ⟨by omega, by omega⟩ dL_law_1713 rfl (fun h3 => ?_)
  refine kj_aloadn X 2 dL_law_1716 rfl ?_
  obtain ⟨q4, h5, hf⟩ := knBd_inv hf
  refine kj_callV (As := []) (rest := [knV q1.1]) X K (kcX13_lowestExponent l  h5) knWvX13_lowestExponent (knGm 1920 (by decide +kernel) rfl) (by decide) (knKd_in kdc_142 (by decide)) (knEnt_10 kdc_142) rfl rfl rfl (Nat.le_of_ble_eq_true rfl) ⟨by omega, by omega⟩ dL_law_1717 rfl (fun h6 => ?_)
  refine kj_ic_eq X (tgt := 2804) dL_law_1720 (by decide) h3 h6 (fun h7 => ?_) (fun h7 => ?_)
  · replace hf := knIp hf h7
    cases hf
    refine kj_sub (L' := [(0, Value.ref b), (1, knO G 0), (2, knO G 142), (3, knO G 159), (4, knO G 160), (5, knV i)]) [0, 1, 2, 3, 4, 5] rfl ?_
    exact kj_wd (by omega) (by omega) kk
  · replace hf := knIq hf h7
    refine kj_iconst X dL_law_1723 ?_
    cases hf

def kfLc_30 (x1 x2 x3 x4 : Int) (μ : knMem) : Option knMem :=
 Option.bind (kfX12_highestExponent  μ) (fun q1 =>
  Option.bind (kfX13_highestExponent  q1.2) (fun q4 =>
   if q1.1 = q4.1 then
    some q4.2
   else
    none))

set_option maxHeartbeats 4000000 in
set_option maxRecDepth 100000 in
theorem kcLc_30 {G : knGT} {p : Program} {l : Launch} {e : Env} {s : State} {m : MethodId} {args : Array Value} {below : List Frame} {meth : Method} {c : Code} {Q : State → Prop} {b N : Nat} {xs : Nat → Int32} (hl : l.stackTraces = false) (X : knX p m c code 10 s args RL) (K : knK G s s.heap) (S : knSc G b N xs s) {i x1 x2 x3 x4 : Int} (hi : knC i) (hs : knSi N xs i x1 x2 x3 x4) {cells slots : Nat} (hc9 : cells + 2 ≤ room_1.cells) (hs9 : slots + 12 ≤ room_1.slots) {μ q : knMem} (hf : kfLc_30 x1 x2 x3 x4 μ = some q)
  (kk : knJ G p l e room_1 s m args below meth c 10 (cells + 2) (slots + 12) Q 2804 [(0, Value.ref b), (1, knO G 0), (2, knO G 142), (3, knO G 159), (4, knO G 160), (5, knV i)] [] q) : knJ G p l e room_1 s m args below meth c 10 cells slots Q 1725 [(0, Value.ref b), (1, knO G 0), (2, knO G 142), (3, knO G 159), (4, knO G 160), (5, knV i)] [] μ := by
  unfold kfLc_30 at hf
  refine kj_aloadn X 1 dL_law_1725 rfl ?_
  obtain ⟨q1, h2, hf⟩ := knBd_inv hf
  refine kj_callV (As := []) (rest := []) X K (kcX12_highestExponent l  h2) knWvX12_highestExponent (knGm 761 (by decide +kernel) rfl) (by decide) (knKd_in kdc_0 (by decide)) (knEnt_9 kdc_0) rfl rfl rfl (Nat.le_of_ble_eq_true rfl) ⟨by omega, by omega⟩ dL_law_1726 rfl (fun h3 => ?_)
  refine kj_aloadn X 2 dL_law_1729 rfl ?_
  obtain ⟨q4, h5, hf⟩ := knBd_inv hf
  refine kj_callV (As := []) (rest := [knV q1.1]) X K (kcX13_highestExponent l  h5) knWvX13_highestExponent (knGm 1924 (by decide +kernel) rfl) (by decide) (knKd_in kdc_142 (by decide)) (knEnt_10 kdc_142) rfl rfl rfl (Nat.le_of_ble_eq_true rfl) ⟨by omega, by omega⟩ dL_law_1730 rfl (fun h6 => ?_)
  refine kj_ic_eq X (tgt := 2804) dL_law_1733 (by decide) h3 h6 (fun h7 => ?_) (fun h7 => ?_)
  · replace hf := knIp hf h7
    cases hf
    refine kj_sub (L' := [(0, Value.ref b), (1, knO G 0), (2, knO G 142), (3, knO G 159), (4, knO G 160), (5, knV i)]) [0, 1, 2, 3, 4, 5] rfl ?_
    exact kj_wd (by omega) (by omega) kk
  · replace hf := knIq hf h7
    refine kj_iconst X dL_law_1736 ?_
    cases hf

def kfLc_31 (x1 x2 x3 x4 : Int) (μ : knMem) : Option knMem :=
 Option.bind (kfX12_isPolynomialTrivial  μ) (fun q1 =>
  Option.bind (kfX13_isPolynomialTrivial  q1.2) (fun q4 =>
   if q1.1 = q4.1 then
    some q4.2
   else
    none))

set_option maxHeartbeats 4000000 in
set_option maxRecDepth 100000 in
theorem kcLc_31 {G : knGT} {p : Program} {l : Launch} {e : Env} {s : State} {m : MethodId} {args : Array Value} {below : List Frame} {meth : Method} {c : Code} {Q : State → Prop} {b N : Nat} {xs : Nat → Int32} (hl : l.stackTraces = false) (X : knX p m c code 10 s args RL) (K : knK G s s.heap) (S : knSc G b N xs s) {i x1 x2 x3 x4 : Int} (hi : knC i) (hs : knSi N xs i x1 x2 x3 x4) {cells slots : Nat} (hc9 : cells + 2 ≤ room_1.cells) (hs9 : slots + 12 ≤ room_1.slots) {μ q : knMem} (hf : kfLc_31 x1 x2 x3 x4 μ = some q)
  (kk : knJ G p l e room_1 s m args below meth c 10 (cells + 2) (slots + 12) Q 2804 [(0, Value.ref b), (1, knO G 0), (2, knO G 142), (3, knO G 159), (4, knO G 160), (5, knV i)] [] q) : knJ G p l e room_1 s m args below meth c 10 cells slots Q 1738 [(0, Value.ref b), (1, knO G 0), (2, knO G 142), (3, knO G 159), (4, knO G 160), (5, knV i)] [] μ := by
  unfold kfLc_31 at hf
  refine kj_aloadn X 1 dL_law_1738 rfl ?_
  obtain ⟨q1, h2, hf⟩ := knBd_inv hf
  refine kj_callV (As := []) (rest := []) X K (kcX12_isPolynomialTrivial l  h2) knWvX12_isPolynomialTrivial (knGm 765 (by decide +kernel) rfl) (by decide) (knKd_in kdc_0 (by decide)) (knEnt_9 kdc_0) rfl rfl rfl (Nat.le_of_ble_eq_true rfl) ⟨by omega, by omega⟩ dL_law_1739 rfl (fun h3 => ?_)
  refine kj_aloadn X 2 dL_law_1742 rfl ?_
  obtain ⟨q4, h5, hf⟩ := knBd_inv hf
  refine kj_callV (As := []) (rest := [knV q1.1]) X K (kcX13_isPolynomialTrivial l  h5) knWvX13_isPolynomialTrivial (knGm 1928 (by decide +kernel) rfl) (by decide) (knKd_in kdc_142 (by decide)) (knEnt_10 kdc_142) rfl rfl rfl (Nat.le_of_ble_eq_true rfl) ⟨by omega, by omega⟩ dL_law_1743 rfl (fun h6 => ?_)
  refine kj_ic_eq X (tgt := 2804) dL_law_1746 (by decide) (knZ_c h3) (knZ_c h6) (fun h7 => ?_) (fun h7 => ?_)
  · replace hf := knIp hf h7
    cases hf
    refine kj_sub (L' := [(0, Value.ref b), (1, knO G 0), (2, knO G 142), (3, knO G 159), (4, knO G 160), (5, knV i)]) [0, 1, 2, 3, 4, 5] rfl ?_
    exact kj_wd (by omega) (by omega) kk
  · replace hf := knIq hf h7
    refine kj_iconst X dL_law_1749 ?_
    cases hf

def kfLc_32 (x1 x2 x3 x4 : Int) (μ : knMem) : Option knMem :=
 Option.bind (kfX12_value (if x1 = 0 then 0 else 1 : Int) μ) (fun q4 =>
  Option.bind (kfX13_value (if x1 = 0 then 0 else 1 : Int) q4.2) (fun q10 =>
   (fun (k20 : (Unit) → Option (knMem)) =>
    if (knDcmp .l q4.1 q10.1) = 0 then
     k20 ()
    else
     (fun (k25 : (Unit) → Option (knMem)) =>
      if (knDcmp .l q4.1 q4.1) = 0 then
       k25 ()
      else
       if (knDcmp .l q10.1 q10.1) = 0 then
        k25 ()
       else
        k20 ())
      (fun _ =>
      none))
    (fun _ =>
    some q10.2)))

set_option maxHeartbeats 4000000 in
set_option maxRecDepth 100000 in
theorem kcLc_32 {G : knGT} {p : Program} {l : Launch} {e : Env} {s : State} {m : MethodId} {args : Array Value} {below : List Frame} {meth : Method} {c : Code} {Q : State → Prop} {b N : Nat} {xs : Nat → Int32} (hl : l.stackTraces = false) (X : knX p m c code 10 s args RL) (K : knK G s s.heap) (S : knSc G b N xs s) {i x1 x2 x3 x4 : Int} (hi : knC i) (hs : knSi N xs i x1 x2 x3 x4) {cells slots : Nat} (hc9 : cells + 2 ≤ room_1.cells) (hs9 : slots + 12 ≤ room_1.slots) {μ q : knMem} (hf : kfLc_32 x1 x2 x3 x4 μ = some q)
  (kk : knJ G p l e room_1 s m args below meth c 10 (cells + 2) (slots + 12) Q 2804 [(0, Value.ref b), (1, knO G 0), (2, knO G 142), (3, knO G 159), (4, knO G 160), (5, knV i)] [] q) : knJ G p l e room_1 s m args below meth c 10 cells slots Q 1751 [(0, Value.ref b), (1, knO G 0), (2, knO G 142), (3, knO G 159), (4, knO G 160), (5, knV i)] [] μ := by
  unfold kfLc_32 at hf
  refine kj_aloadn X 1 dL_law_1751 rfl ?_
  refine kj_aloadn X 0 dL_law_1752 rfl ?_
  refine kj_iload X 5 dL_law_1753 rfl ?_
  refine kj_iconst X dL_law_1755 ?_
  refine kj_iadd X dL_law_1756 ?_
  refine kj_sld X S (knCw _) hs.1.2 hs.1.1 dL_law_1757 ?_
  have j2 : ∀ (t2_0 : Int) (et2_0 : t2_0 = (if x1 = 0 then 0 else 1 : Int)) (ht2_0 : knZ t2_0), knJ G p l e room_1 s m args below meth c 10 (cells) (slots) Q 1766 [(0, Value.ref b), (1, knO G 0), (2, knO G 142), (3, knO G 159), (4, knO G 160), (5, knV i)] [knV t2_0, knO G 0] μ := by
    intro t2_0 et2_0 ht2_0
    subst et2_0
    obtain ⟨q4, h5, hf⟩ := knBd_inv hf
    refine kj_callV (As := [knV (if x1 = 0 then 0 else 1 : Int)]) (rest := []) X K (kcX12_value l ht2_0 h5) knWvX12_value (knGm 769 (by decide +kernel) rfl) (by decide) (knKd_in kdc_0 (by decide)) (knEnt_9 kdc_0) rfl rfl rfl (Nat.le_of_ble_eq_true rfl) ⟨by omega, by omega⟩ dL_law_1766 rfl (fun h6 => ?_)
    refine kj_dstore X (L' := [(6, knVd q4.1), (0, Value.ref b), (1, knO G 0), (2, knO G 142), (3, knO G 159), (4, knO G 160), (5, knV i)]) dL_law_1769 (by decide) rfl ?_
    refine kj_aloadn X 3 dL_law_1771 rfl ?_
    refine kj_aloadn X 1 dL_law_1772 rfl ?_
    refine kj_iload X 6 dL_law_1773 rfl ?_
    refine kj_iconst X dL_law_1775 ?_
    refine kj_iadd X dL_law_1776 ?_
    refine kj_sld X S (knCw _) hs.1.2 hs.1.1 dL_law_1777 ?_
    have j8 : ∀ (t8_0 : Int) (et8_0 : t8_0 = (if x1 = 0 then 0 else 1 : Int)) (ht8_0 : knZ t8_0), knJ G p l e room_1 s m args below meth c 10 (cells) (slots) Q 1786 [(0, Value.ref b), (1, knO G 0), (2, knO G 142), (3, knO G 159), (4, knO G 160), (5, knV i), (6, knVd q4.1)] [knV t8_0, knO G 142] q4.2 := by
      intro t8_0 et8_0 ht8_0
      subst et8_0
      obtain ⟨q10, h11, hf⟩ := knBd_inv hf
      refine kj_callV (As := [knV (if x1 = 0 then 0 else 1 : Int)]) (rest := []) X K (kcX13_value l ht8_0 h11) knWvX13_value (knGm 1932 (by decide +kernel) rfl) (by decide) (knKd_in kdc_142 (by decide)) (knEnt_10 kdc_142) rfl rfl rfl (Nat.le_of_ble_eq_true rfl) ⟨by omega, by omega⟩ dL_law_1786 rfl (fun h12 => ?_)
      refine kj_dstore X (L' := [(8, knVd q10.1), (0, Value.ref b), (1, knO G 0), (2, knO G 142), (3, knO G 159), (4, knO G 160), (5, knV i), (6, knVd q4.1)]) dL_law_1789 (by decide) rfl ?_
      refine kj_dload X 7 dL_law_1791 rfl ?_
      refine kj_dload X 0 dL_law_1793 rfl ?_
      refine kj_dcmp X dL_law_1795 ?_
      have j20 : (fun _ =>
       some q10.2) () = some q → knJ G p l e room_1 s m args below meth c 10 (cells) (slots) Q 1817 [(0, Value.ref b), (1, knO G 0), (2, knO G 142), (3, knO G 159), (4, knO G 160), (5, knV i)] [] q10.2 := by
        intro hf
        refine kj_goto X (tgt := 2804) dL_law_1817 (by decide) ?_
        cases hf
        refine kj_sub (L' := [(0, Value.ref b), (1, knO G 0), (2, knO G 142), (3, knO G 159), (4, knO G 160), (5, knV i)]) [0, 1, 2, 3, 4, 5] rfl ?_
        exact kj_wd (by omega) (by omega) kk
      refine kj_if_eq X (tgt := 1817) dL_law_1796 (by decide) (knCt _) (fun h22 => ?_) (fun h22 => ?_)
      · replace hf := knIp hf h22
        refine kj_sub (L' := [(0, Value.ref b), (1, knO G 0), (2, knO G 142), (3, knO G 159), (4, knO G 160), (5, knV i)]) [1, 2, 3, 4, 5, 6] rfl ?_
        exact j20  hf
      · replace hf := knIq hf h22
        refine kj_dload X 7 dL_law_1799 rfl ?_
        refine kj_dload X 7 dL_law_1801 rfl ?_
        refine kj_dcmp X dL_law_1803 ?_
        have j25 : (fun _ =>
         none) () = some q → knJ G p l e room_1 s m args below meth c 10 (cells) (slots) Q 1815 [] [] q10.2 := by
          intro hf
          refine kj_iconst X dL_law_1815 ?_
          cases hf
        refine kj_if_eq X (tgt := 1815) dL_law_1804 (by decide) (knCt _) (fun h27 => ?_) (fun h27 => ?_)
        · replace hf := knIp hf h27
          refine kj_sub (L' := []) [] rfl ?_
          exact j25  hf
        · replace hf := knIq hf h27
          refine kj_dload X 0 dL_law_1807 rfl ?_
          refine kj_dload X 0 dL_law_1809 rfl ?_
          refine kj_dcmp X dL_law_1811 ?_
          refine kj_if_ne X (tgt := 1817) dL_law_1812 (by decide) (knCt _) (fun h28 => ?_) (fun h28 => ?_)
          · replace hf := knIq hf h28
            refine kj_sub (L' := [(0, Value.ref b), (1, knO G 0), (2, knO G 142), (3, knO G 159), (4, knO G 160), (5, knV i)]) [1, 2, 3, 4, 5, 6] rfl ?_
            exact j20  hf
          · replace hf := knIp hf h28
            refine kj_sub (L' := []) [] rfl ?_
            exact j25  hf
    refine kj_if_eq X (tgt := 1785) dL_law_1778 (by decide) (knC_sx hs.1.2) (fun h29 => ?_) (fun h29 => ?_)
    · refine kj_iconst X dL_law_1785 ?_
      refine kj_sub (L' := [(0, Value.ref b), (1, knO G 0), (2, knO G 142), (3, knO G 159), (4, knO G 160), (5, knV i), (6, knVd q4.1)]) [1, 2, 3, 4, 5, 6, 0] rfl ?_
      exact j8 0 (by rw [if_pos h29]) (Or.inl rfl)
    · refine kj_iconst X dL_law_1781 ?_
      refine kj_goto X (tgt := 1786) dL_law_1782 (by decide) ?_
      refine kj_sub (L' := [(0, Value.ref b), (1, knO G 0), (2, knO G 142), (3, knO G 159), (4, knO G 160), (5, knV i), (6, knVd q4.1)]) [1, 2, 3, 4, 5, 6, 0] rfl ?_
      exact j8 1 (by rw [if_neg h29]) (Or.inr rfl)
  refine kj_if_eq X (tgt := 1765) dL_law_1758 (by decide) (knC_sx hs.1.2) (fun h30 => ?_) (fun h30 => ?_)
  · refine kj_iconst X dL_law_1765 ?_
    refine kj_sub (L' := [(0, Value.ref b), (1, knO G 0), (2, knO G 142), (3, knO G 159), (4, knO G 160), (5, knV i)]) [0, 1, 2, 3, 4, 5] rfl ?_
    exact j2 0 (by rw [if_pos h30]) (Or.inl rfl)
  · refine kj_iconst X dL_law_1761 ?_
    refine kj_goto X (tgt := 1766) dL_law_1762 (by decide) ?_
    refine kj_sub (L' := [(0, Value.ref b), (1, knO G 0), (2, knO G 142), (3, knO G 159), (4, knO G 160), (5, knV i)]) [0, 1, 2, 3, 4, 5] rfl ?_
    exact j2 1 (by rw [if_neg h30]) (Or.inr rfl)

def kfLc_33 (x1 x2 x3 x4 : Int) (μ : knMem) : Option knMem :=
 Option.bind (kfX12_isPlainlyUnknotted  μ) (fun q1 =>
  Option.bind (kfX13_isPlainlyUnknotted  q1.2) (fun q4 =>
   if q1.1 = q4.1 then
    some q4.2
   else
    none))

set_option maxHeartbeats 4000000 in
set_option maxRecDepth 100000 in
theorem kcLc_33 {G : knGT} {p : Program} {l : Launch} {e : Env} {s : State} {m : MethodId} {args : Array Value} {below : List Frame} {meth : Method} {c : Code} {Q : State → Prop} {b N : Nat} {xs : Nat → Int32} (hl : l.stackTraces = false) (X : knX p m c code 10 s args RL) (K : knK G s s.heap) (S : knSc G b N xs s) {i x1 x2 x3 x4 : Int} (hi : knC i) (hs : knSi N xs i x1 x2 x3 x4) {cells slots : Nat} (hc9 : cells + 2 ≤ room_1.cells) (hs9 : slots + 12 ≤ room_1.slots) {μ q : knMem} (hf : kfLc_33 x1 x2 x3 x4 μ = some q)
  (kk : knJ G p l e room_1 s m args below meth c 10 (cells + 2) (slots + 12) Q 2804 [(0, Value.ref b), (1, knO G 0), (2, knO G 142), (3, knO G 159), (4, knO G 160), (5, knV i)] [] q) : knJ G p l e room_1 s m args below meth c 10 cells slots Q 1820 [(0, Value.ref b), (1, knO G 0), (2, knO G 142), (3, knO G 159), (4, knO G 160), (5, knV i)] [] μ := by
  unfold kfLc_33 at hf
  refine kj_aloadn X 1 dL_law_1820 rfl ?_
  obtain ⟨q1, h2, hf⟩ := knBd_inv hf
  refine kj_callV (As := []) (rest := []) X K (kcX12_isPlainlyUnknotted l  h2) knWvX12_isPlainlyUnknotted (knGm 775 (by decide +kernel) rfl) (by decide) (knKd_in kdc_0 (by decide)) (knEnt_9 kdc_0) rfl rfl rfl (Nat.le_of_ble_eq_true rfl) ⟨by omega, by omega⟩ dL_law_1821 rfl (fun h3 => ?_)
  refine kj_aloadn X 2 dL_law_1824 rfl ?_
  obtain ⟨q4, h5, hf⟩ := knBd_inv hf
  refine kj_callV (As := []) (rest := [knV q1.1]) X K (kcX13_isPlainlyUnknotted l  h5) knWvX13_isPlainlyUnknotted (knGm 1941 (by decide +kernel) rfl) (by decide) (knKd_in kdc_142 (by decide)) (knEnt_10 kdc_142) rfl rfl rfl (Nat.le_of_ble_eq_true rfl) ⟨by omega, by omega⟩ dL_law_1825 rfl (fun h6 => ?_)
  refine kj_ic_eq X (tgt := 2804) dL_law_1828 (by decide) (knZ_c h3) (knZ_c h6) (fun h7 => ?_) (fun h7 => ?_)
  · replace hf := knIp hf h7
    cases hf
    refine kj_sub (L' := [(0, Value.ref b), (1, knO G 0), (2, knO G 142), (3, knO G 159), (4, knO G 160), (5, knV i)]) [0, 1, 2, 3, 4, 5] rfl ?_
    exact kj_wd (by omega) (by omega) kk
  · replace hf := knIq hf h7
    refine kj_iconst X dL_law_1831 ?_
    cases hf

def kfLc_34 (x1 x2 x3 x4 : Int) (μ : knMem) : Option knMem :=
 Option.bind (kfL_switches  μ) (fun q1 =>
  Option.bind (kfX13_switches  q1.2) (fun q4 =>
   Option.bind (kfX13_thrown  q4.2) (fun q7 =>
    if q7 = q1.1 then
     (fun (k14 : (Unit) → Option (knMem)) =>
      if q1.1 = 0 then
       if (knLcmp (q4.2 159 0) q4.1) = 0 then
        k14 ()
       else
        none
      else
       k14 ())
      (fun _ =>
      some q4.2)
    else
     none)))

set_option maxHeartbeats 4000000 in
set_option maxRecDepth 100000 in
theorem kcLc_34 {G : knGT} {p : Program} {l : Launch} {e : Env} {s : State} {m : MethodId} {args : Array Value} {below : List Frame} {meth : Method} {c : Code} {Q : State → Prop} {b N : Nat} {xs : Nat → Int32} (hl : l.stackTraces = false) (X : knX p m c code 10 s args RL) (K : knK G s s.heap) (S : knSc G b N xs s) {i x1 x2 x3 x4 : Int} (hi : knC i) (hs : knSi N xs i x1 x2 x3 x4) {cells slots : Nat} (hc9 : cells + 2 ≤ room_1.cells) (hs9 : slots + 12 ≤ room_1.slots) {μ q : knMem} (hf : kfLc_34 x1 x2 x3 x4 μ = some q)
  (kk : knJ G p l e room_1 s m args below meth c 10 (cells + 2) (slots + 12) Q 2804 [(0, Value.ref b), (1, knO G 0), (2, knO G 142), (3, knO G 159), (4, knO G 160), (5, knV i)] [] q) : knJ G p l e room_1 s m args below meth c 10 cells slots Q 1833 [(0, Value.ref b), (1, knO G 0), (2, knO G 142), (3, knO G 159), (4, knO G 160), (5, knV i)] [] μ := by
  unfold kfLc_34 at hf
  refine kj_aloadn X 1 dL_law_1833 rfl ?_
  refine kj_aloadn X 3 dL_law_1834 rfl ?_
  obtain ⟨q1, h2, hf⟩ := knBd_inv hf
  refine kj_callSH (As := [knO G 0, knO G 159]) (rest := []) X K (kcL_switches l hl  h2) knWhL_switches (knGm 1158 (by decide +kernel) rfl) (by decide) rfl (Nat.le_of_ble_eq_true rfl) ⟨by omega, by omega⟩ dL_law_1835 rfl (fun h3 => ?_)
  refine kj_istore X (L' := [(6, knV q1.1), (0, Value.ref b), (1, knO G 0), (2, knO G 142), (3, knO G 159), (4, knO G 160), (5, knV i)]) dL_law_1838 (by decide) rfl ?_
  refine kj_aloadn X 3 dL_law_1840 rfl ?_
  obtain ⟨q4, h5, hf⟩ := knBd_inv hf
  refine kj_callV (As := []) (rest := []) X K (kcX13_switches l  h5) knWvX13_switches (knGm 1949 (by decide +kernel) rfl) (by decide) (knKd_in kdc_142 (by decide)) (knEnt_10 kdc_142) rfl rfl rfl (Nat.le_of_ble_eq_true rfl) ⟨by omega, by omega⟩ dL_law_1841 rfl (fun h6 => ?_)
  refine kj_istore X (L' := [(7, knV q4.1), (6, knV q1.1), (0, Value.ref b), (1, knO G 0), (2, knO G 142), (3, knO G 159), (4, knO G 160), (5, knV i)]) dL_law_1844 (by decide) rfl ?_
  refine kj_aloadn X 4 dL_law_1846 rfl ?_
  obtain ⟨q7, h8, hf⟩ := knBd_inv hf
  refine kj_callV (As := []) (rest := []) X K (kcX13_thrown l  h8) knWvX13_thrown (knGm 1589 (by decide +kernel) rfl) (by decide) (knKd_in kdc_142 (by decide)) (knEnt_10 kdc_142) rfl rfl rfl (Nat.le_of_ble_eq_true rfl) ⟨by omega, by omega⟩ dL_law_1847 rfl (fun h9 => ?_)
  refine kj_iload X 1 dL_law_1850 rfl ?_
  refine kj_ic_eq X (tgt := 1857) dL_law_1852 (by decide) h9 h3 (fun h10 => ?_) (fun h10 => ?_)
  · replace hf := knIp hf h10
    refine kj_iload X 1 dL_law_1857 rfl ?_
    have j14 : (fun _ =>
     some q4.2) () = some q → knJ G p l e room_1 s m args below meth c 10 (cells + 1) (slots + 6) Q 1874 [(0, Value.ref b), (1, knO G 0), (2, knO G 142), (3, knO G 159), (4, knO G 160), (5, knV i)] [] q4.2 := by
      intro hf
      refine kj_goto X (tgt := 2804) dL_law_1874 (by decide) ?_
      cases hf
      refine kj_sub (L' := [(0, Value.ref b), (1, knO G 0), (2, knO G 142), (3, knO G 159), (4, knO G 160), (5, knV i)]) [0, 1, 2, 3, 4, 5] rfl ?_
      exact kj_wd (by omega) (by omega) kk
    refine kj_if_ne X (tgt := 1874) dL_law_1859 (by decide) h3 (fun h16 => ?_) (fun h16 => ?_)
    · replace hf := knIq hf h16
      refine kj_sub (L' := [(0, Value.ref b), (1, knO G 0), (2, knO G 142), (3, knO G 159), (4, knO G 160), (5, knV i)]) [2, 3, 4, 5, 6, 7] rfl ?_
      exact j14  hf
    · replace hf := knIp hf h16
      refine kj_aloadn X 5 dL_law_1862 rfl ?_
      refine kj_iconst X dL_law_1863 ?_
      refine kj_lald X K dL_law_1864 (fun h17 => ?_)
      refine kj_iload X 0 dL_law_1865 rfl ?_
      refine kj_i2l X dL_law_1867 h6 ?_
      refine kj_lcmp X dL_law_1868 h17 h6 ?_
      refine kj_if_eq X (tgt := 1874) dL_law_1869 (by decide) (knC_lcmp _ _) (fun h18 => ?_) (fun h18 => ?_)
      · replace hf := knIp hf h18
        refine kj_sub (L' := [(0, Value.ref b), (1, knO G 0), (2, knO G 142), (3, knO G 159), (4, knO G 160), (5, knV i)]) [2, 3, 4, 5, 6, 7] rfl ?_
        exact j14  hf
      · replace hf := knIq hf h18
        refine kj_iconst X dL_law_1872 ?_
        cases hf
  · replace hf := knIq hf h10
    refine kj_iconst X dL_law_1855 ?_
    cases hf

def kfLc_35 (x1 x2 x3 x4 : Int) (μ : knMem) : Option knMem :=
 Option.bind (kfL_switchesByDepth  μ) (fun q1 =>
  Option.bind (kfX13_switchesByDepth  q1.2) (fun q4 =>
   Option.bind (kfX13_thrown  q4.2) (fun q7 =>
    if q7 = q1.1 then
     (fun (k14 : (Unit) → Option (knMem)) =>
      if q1.1 = 0 then
       if (knLcmp (q4.2 159 0) q4.1) = 0 then
        k14 ()
       else
        none
      else
       k14 ())
      (fun _ =>
      some q4.2)
    else
     none)))

set_option maxHeartbeats 4000000 in
set_option maxRecDepth 100000 in
theorem kcLc_35 {G : knGT} {p : Program} {l : Launch} {e : Env} {s : State} {m : MethodId} {args : Array Value} {below : List Frame} {meth : Method} {c : Code} {Q : State → Prop} {b N : Nat} {xs : Nat → Int32} (hl : l.stackTraces = false) (X : knX p m c code 10 s args RL) (K : knK G s s.heap) (S : knSc G b N xs s) {i x1 x2 x3 x4 : Int} (hi : knC i) (hs : knSi N xs i x1 x2 x3 x4) {cells slots : Nat} (hc9 : cells + 2 ≤ room_1.cells) (hs9 : slots + 12 ≤ room_1.slots) {μ q : knMem} (hf : kfLc_35 x1 x2 x3 x4 μ = some q)
  (kk : knJ G p l e room_1 s m args below meth c 10 (cells + 2) (slots + 12) Q 2804 [(0, Value.ref b), (1, knO G 0), (2, knO G 142), (3, knO G 159), (4, knO G 160), (5, knV i)] [] q) : knJ G p l e room_1 s m args below meth c 10 cells slots Q 1877 [(0, Value.ref b), (1, knO G 0), (2, knO G 142), (3, knO G 159), (4, knO G 160), (5, knV i)] [] μ := by
  unfold kfLc_35 at hf
  refine kj_aloadn X 1 dL_law_1877 rfl ?_
  refine kj_aloadn X 3 dL_law_1878 rfl ?_
  obtain ⟨q1, h2, hf⟩ := knBd_inv hf
  refine kj_callSH (As := [knO G 0, knO G 159]) (rest := []) X K (kcL_switchesByDepth l hl  h2) knWhL_switchesByDepth (knGm 1168 (by decide +kernel) rfl) (by decide) rfl (Nat.le_of_ble_eq_true rfl) ⟨by omega, by omega⟩ dL_law_1879 rfl (fun h3 => ?_)
  refine kj_istore X (L' := [(6, knV q1.1), (0, Value.ref b), (1, knO G 0), (2, knO G 142), (3, knO G 159), (4, knO G 160), (5, knV i)]) dL_law_1882 (by decide) rfl ?_
  refine kj_aloadn X 3 dL_law_1884 rfl ?_
  obtain ⟨q4, h5, hf⟩ := knBd_inv hf
  refine kj_callV (As := []) (rest := []) X K (kcX13_switchesByDepth l  h5) knWvX13_switchesByDepth (knGm 1960 (by decide +kernel) rfl) (by decide) (knKd_in kdc_142 (by decide)) (knEnt_10 kdc_142) rfl rfl rfl (Nat.le_of_ble_eq_true rfl) ⟨by omega, by omega⟩ dL_law_1885 rfl (fun h6 => ?_)
  refine kj_istore X (L' := [(7, knV q4.1), (6, knV q1.1), (0, Value.ref b), (1, knO G 0), (2, knO G 142), (3, knO G 159), (4, knO G 160), (5, knV i)]) dL_law_1888 (by decide) rfl ?_
  refine kj_aloadn X 4 dL_law_1890 rfl ?_
  obtain ⟨q7, h8, hf⟩ := knBd_inv hf
  refine kj_callV (As := []) (rest := []) X K (kcX13_thrown l  h8) knWvX13_thrown (knGm 1589 (by decide +kernel) rfl) (by decide) (knKd_in kdc_142 (by decide)) (knEnt_10 kdc_142) rfl rfl rfl (Nat.le_of_ble_eq_true rfl) ⟨by omega, by omega⟩ dL_law_1891 rfl (fun h9 => ?_)
  refine kj_iload X 1 dL_law_1894 rfl ?_
  refine kj_ic_eq X (tgt := 1901) dL_law_1896 (by decide) h9 h3 (fun h10 => ?_) (fun h10 => ?_)
  · replace hf := knIp hf h10
    refine kj_iload X 1 dL_law_1901 rfl ?_
    have j14 : (fun _ =>
     some q4.2) () = some q → knJ G p l e room_1 s m args below meth c 10 (cells + 1) (slots + 6) Q 1918 [(0, Value.ref b), (1, knO G 0), (2, knO G 142), (3, knO G 159), (4, knO G 160), (5, knV i)] [] q4.2 := by
      intro hf
      refine kj_goto X (tgt := 2804) dL_law_1918 (by decide) ?_
      cases hf
      refine kj_sub (L' := [(0, Value.ref b), (1, knO G 0), (2, knO G 142), (3, knO G 159), (4, knO G 160), (5, knV i)]) [0, 1, 2, 3, 4, 5] rfl ?_
      exact kj_wd (by omega) (by omega) kk
    refine kj_if_ne X (tgt := 1918) dL_law_1903 (by decide) h3 (fun h16 => ?_) (fun h16 => ?_)
    · replace hf := knIq hf h16
      refine kj_sub (L' := [(0, Value.ref b), (1, knO G 0), (2, knO G 142), (3, knO G 159), (4, knO G 160), (5, knV i)]) [2, 3, 4, 5, 6, 7] rfl ?_
      exact j14  hf
    · replace hf := knIp hf h16
      refine kj_aloadn X 5 dL_law_1906 rfl ?_
      refine kj_iconst X dL_law_1907 ?_
      refine kj_lald X K dL_law_1908 (fun h17 => ?_)
      refine kj_iload X 0 dL_law_1909 rfl ?_
      refine kj_i2l X dL_law_1911 h6 ?_
      refine kj_lcmp X dL_law_1912 h17 h6 ?_
      refine kj_if_eq X (tgt := 1918) dL_law_1913 (by decide) (knC_lcmp _ _) (fun h18 => ?_) (fun h18 => ?_)
      · replace hf := knIp hf h18
        refine kj_sub (L' := [(0, Value.ref b), (1, knO G 0), (2, knO G 142), (3, knO G 159), (4, knO G 160), (5, knV i)]) [2, 3, 4, 5, 6, 7] rfl ?_
        exact j14  hf
      · replace hf := knIq hf h18
        refine kj_iconst X dL_law_1916 ?_
        cases hf
  · replace hf := knIq hf h10
    refine kj_iconst X dL_law_1899 ?_
    cases hf

def kfLc_36 (x1 x2 x3 x4 : Int) (μ : knMem) : Option knMem :=
 Option.bind (kfL_firstSwitch  μ) (fun q1 =>
  Option.bind (kfX13_firstSwitch  q1.2) (fun q4 =>
   Option.bind (kfX13_thrown  q4.2) (fun q7 =>
    if q7 = q1.1 then
     (fun (k14 : (Unit) → Option (knMem)) =>
      if q1.1 = 0 then
       if (knLcmp (q4.2 159 0) q4.1) = 0 then
        k14 ()
       else
        none
      else
       k14 ())
      (fun _ =>
      some q4.2)
    else
     none)))

set_option maxHeartbeats 4000000 in
set_option maxRecDepth 100000 in
theorem kcLc_36 {G : knGT} {p : Program} {l : Launch} {e : Env} {s : State} {m : MethodId} {args : Array Value} {below : List Frame} {meth : Method} {c : Code} {Q : State → Prop} {b N : Nat} {xs : Nat → Int32} (hl : l.stackTraces = false) (X : knX p m c code 10 s args RL) (K : knK G s s.heap) (S : knSc G b N xs s) {i x1 x2 x3 x4 : Int} (hi : knC i) (hs : knSi N xs i x1 x2 x3 x4) {cells slots : Nat} (hc9 : cells + 2 ≤ room_1.cells) (hs9 : slots + 12 ≤ room_1.slots) {μ q : knMem} (hf : kfLc_36 x1 x2 x3 x4 μ = some q)
  (kk : knJ G p l e room_1 s m args below meth c 10 (cells + 2) (slots + 12) Q 2804 [(0, Value.ref b), (1, knO G 0), (2, knO G 142), (3, knO G 159), (4, knO G 160), (5, knV i)] [] q) : knJ G p l e room_1 s m args below meth c 10 cells slots Q 1921 [(0, Value.ref b), (1, knO G 0), (2, knO G 142), (3, knO G 159), (4, knO G 160), (5, knV i)] [] μ := by
  unfold kfLc_36 at hf
  refine kj_aloadn X 1 dL_law_1921 rfl ?_
  refine kj_aloadn X 3 dL_law_1922 rfl ?_
  obtain ⟨q1, h2, hf⟩ := knBd_inv hf
  refine kj_callSH (As := [knO G 0, knO G 159]) (rest := []) X K (kcL_firstSwitch l hl  h2) knWhL_firstSwitch (knGm 1175 (by decide +kernel) rfl) (by decide) rfl (Nat.le_of_ble_eq_true rfl) ⟨by omega, by omega⟩ dL_law_1923 rfl (fun h3 => ?_)
  refine kj_istore X (L' := [(6, knV q1.1), (0, Value.ref b), (1, knO G 0), (2, knO G 142), (3, knO G 159), (4, knO G 160), (5, knV i)]) dL_law_1926 (by decide) rfl ?_
  refine kj_aloadn X 3 dL_law_1928 rfl ?_
  obtain ⟨q4, h5, hf⟩ := knBd_inv hf
  refine kj_callV (As := []) (rest := []) X K (kcX13_firstSwitch l  h5) knWvX13_firstSwitch (knGm 1965 (by decide +kernel) rfl) (by decide) (knKd_in kdc_142 (by decide)) (knEnt_10 kdc_142) rfl rfl rfl (Nat.le_of_ble_eq_true rfl) ⟨by omega, by omega⟩ dL_law_1929 rfl (fun h6 => ?_)
  refine kj_istore X (L' := [(7, knV q4.1), (6, knV q1.1), (0, Value.ref b), (1, knO G 0), (2, knO G 142), (3, knO G 159), (4, knO G 160), (5, knV i)]) dL_law_1932 (by decide) rfl ?_
  refine kj_aloadn X 4 dL_law_1934 rfl ?_
  obtain ⟨q7, h8, hf⟩ := knBd_inv hf
  refine kj_callV (As := []) (rest := []) X K (kcX13_thrown l  h8) knWvX13_thrown (knGm 1589 (by decide +kernel) rfl) (by decide) (knKd_in kdc_142 (by decide)) (knEnt_10 kdc_142) rfl rfl rfl (Nat.le_of_ble_eq_true rfl) ⟨by omega, by omega⟩ dL_law_1935 rfl (fun h9 => ?_)
  refine kj_iload X 1 dL_law_1938 rfl ?_
  refine kj_ic_eq X (tgt := 1945) dL_law_1940 (by decide) h9 h3 (fun h10 => ?_) (fun h10 => ?_)
  · replace hf := knIp hf h10
    refine kj_iload X 1 dL_law_1945 rfl ?_
    have j14 : (fun _ =>
     some q4.2) () = some q → knJ G p l e room_1 s m args below meth c 10 (cells + 1) (slots + 6) Q 1962 [(0, Value.ref b), (1, knO G 0), (2, knO G 142), (3, knO G 159), (4, knO G 160), (5, knV i)] [] q4.2 := by
      intro hf
      refine kj_goto X (tgt := 2804) dL_law_1962 (by decide) ?_
      cases hf
      refine kj_sub (L' := [(0, Value.ref b), (1, knO G 0), (2, knO G 142), (3, knO G 159), (4, knO G 160), (5, knV i)]) [0, 1, 2, 3, 4, 5] rfl ?_
      exact kj_wd (by omega) (by omega) kk
    refine kj_if_ne X (tgt := 1962) dL_law_1947 (by decide) h3 (fun h16 => ?_) (fun h16 => ?_)
    · replace hf := knIq hf h16
      refine kj_sub (L' := [(0, Value.ref b), (1, knO G 0), (2, knO G 142), (3, knO G 159), (4, knO G 160), (5, knV i)]) [2, 3, 4, 5, 6, 7] rfl ?_
      exact j14  hf
    · replace hf := knIp hf h16
      refine kj_aloadn X 5 dL_law_1950 rfl ?_
      refine kj_iconst X dL_law_1951 ?_
      refine kj_lald X K dL_law_1952 (fun h17 => ?_)
      refine kj_iload X 0 dL_law_1953 rfl ?_
      refine kj_i2l X dL_law_1955 h6 ?_
      refine kj_lcmp X dL_law_1956 h17 h6 ?_
      refine kj_if_eq X (tgt := 1962) dL_law_1957 (by decide) (knC_lcmp _ _) (fun h18 => ?_) (fun h18 => ?_)
      · replace hf := knIp hf h18
        refine kj_sub (L' := [(0, Value.ref b), (1, knO G 0), (2, knO G 142), (3, knO G 159), (4, knO G 160), (5, knV i)]) [2, 3, 4, 5, 6, 7] rfl ?_
        exact j14  hf
      · replace hf := knIq hf h18
        refine kj_iconst X dL_law_1960 ?_
        cases hf
  · replace hf := knIq hf h10
    refine kj_iconst X dL_law_1943 ?_
    cases hf

def kfLc_37 (x1 x2 x3 x4 : Int) (μ : knMem) : Option knMem :=
 Option.bind (kfL_addPlayer  μ) (fun q1 =>
  Option.bind (kfX13_addPlayer  q1.2) (fun q4 =>
   Option.bind (kfX13_thrown  q4.2) (fun q7 =>
    if q7 = q1.1 then
     (fun (k14 : (Unit) → Option (knMem)) =>
      if q1.1 = 0 then
       if (knLcmp (q4.2 159 0) q4.1) = 0 then
        k14 ()
       else
        none
      else
       k14 ())
      (fun _ =>
      some q4.2)
    else
     none)))

set_option maxHeartbeats 4000000 in
set_option maxRecDepth 100000 in
theorem kcLc_37 {G : knGT} {p : Program} {l : Launch} {e : Env} {s : State} {m : MethodId} {args : Array Value} {below : List Frame} {meth : Method} {c : Code} {Q : State → Prop} {b N : Nat} {xs : Nat → Int32} (hl : l.stackTraces = false) (X : knX p m c code 10 s args RL) (K : knK G s s.heap) (S : knSc G b N xs s) {i x1 x2 x3 x4 : Int} (hi : knC i) (hs : knSi N xs i x1 x2 x3 x4) {cells slots : Nat} (hc9 : cells + 2 ≤ room_1.cells) (hs9 : slots + 12 ≤ room_1.slots) {μ q : knMem} (hf : kfLc_37 x1 x2 x3 x4 μ = some q)
  (kk : knJ G p l e room_1 s m args below meth c 10 (cells + 2) (slots + 12) Q 2804 [(0, Value.ref b), (1, knO G 0), (2, knO G 142), (3, knO G 159), (4, knO G 160), (5, knV i)] [] q) : knJ G p l e room_1 s m args below meth c 10 cells slots Q 1965 [(0, Value.ref b), (1, knO G 0), (2, knO G 142), (3, knO G 159), (4, knO G 160), (5, knV i)] [] μ := by
  unfold kfLc_37 at hf
  refine kj_aloadn X 1 dL_law_1965 rfl ?_
  refine kj_aloadn X 3 dL_law_1966 rfl ?_
  obtain ⟨q1, h2, hf⟩ := knBd_inv hf
  refine kj_callSH (As := [knO G 0, knO G 159]) (rest := []) X K (kcL_addPlayer l hl  h2) knWhL_addPlayer (knGm 1183 (by decide +kernel) rfl) (by decide) rfl (Nat.le_of_ble_eq_true rfl) ⟨by omega, by omega⟩ dL_law_1967 rfl (fun h3 => ?_)
  refine kj_istore X (L' := [(6, knV q1.1), (0, Value.ref b), (1, knO G 0), (2, knO G 142), (3, knO G 159), (4, knO G 160), (5, knV i)]) dL_law_1970 (by decide) rfl ?_
  refine kj_aloadn X 3 dL_law_1972 rfl ?_
  obtain ⟨q4, h5, hf⟩ := knBd_inv hf
  refine kj_callV (As := []) (rest := []) X K (kcX13_addPlayer l  h5) knWvX13_addPlayer (knGm 1969 (by decide +kernel) rfl) (by decide) (knKd_in kdc_142 (by decide)) (knEnt_10 kdc_142) rfl rfl rfl (Nat.le_of_ble_eq_true rfl) ⟨by omega, by omega⟩ dL_law_1973 rfl (fun h6 => ?_)
  refine kj_istore X (L' := [(7, knV q4.1), (6, knV q1.1), (0, Value.ref b), (1, knO G 0), (2, knO G 142), (3, knO G 159), (4, knO G 160), (5, knV i)]) dL_law_1976 (by decide) rfl ?_
  refine kj_aloadn X 4 dL_law_1978 rfl ?_
  obtain ⟨q7, h8, hf⟩ := knBd_inv hf
  refine kj_callV (As := []) (rest := []) X K (kcX13_thrown l  h8) knWvX13_thrown (knGm 1589 (by decide +kernel) rfl) (by decide) (knKd_in kdc_142 (by decide)) (knEnt_10 kdc_142) rfl rfl rfl (Nat.le_of_ble_eq_true rfl) ⟨by omega, by omega⟩ dL_law_1979 rfl (fun h9 => ?_)
  refine kj_iload X 1 dL_law_1982 rfl ?_
  refine kj_ic_eq X (tgt := 1989) dL_law_1984 (by decide) h9 h3 (fun h10 => ?_) (fun h10 => ?_)
  · replace hf := knIp hf h10
    refine kj_iload X 1 dL_law_1989 rfl ?_
    have j14 : (fun _ =>
     some q4.2) () = some q → knJ G p l e room_1 s m args below meth c 10 (cells + 1) (slots + 6) Q 2006 [(0, Value.ref b), (1, knO G 0), (2, knO G 142), (3, knO G 159), (4, knO G 160), (5, knV i)] [] q4.2 := by
      intro hf
      refine kj_goto X (tgt := 2804) dL_law_2006 (by decide) ?_
      cases hf
      refine kj_sub (L' := [(0, Value.ref b), (1, knO G 0), (2, knO G 142), (3, knO G 159), (4, knO G 160), (5, knV i)]) [0, 1, 2, 3, 4, 5] rfl ?_
      exact kj_wd (by omega) (by omega) kk
    refine kj_if_ne X (tgt := 2006) dL_law_1991 (by decide) h3 (fun h16 => ?_) (fun h16 => ?_)
    · replace hf := knIq hf h16
      refine kj_sub (L' := [(0, Value.ref b), (1, knO G 0), (2, knO G 142), (3, knO G 159), (4, knO G 160), (5, knV i)]) [2, 3, 4, 5, 6, 7] rfl ?_
      exact j14  hf
    · replace hf := knIp hf h16
      refine kj_aloadn X 5 dL_law_1994 rfl ?_
      refine kj_iconst X dL_law_1995 ?_
      refine kj_lald X K dL_law_1996 (fun h17 => ?_)
      refine kj_iload X 0 dL_law_1997 rfl ?_
      refine kj_i2l X dL_law_1999 h6 ?_
      refine kj_lcmp X dL_law_2000 h17 h6 ?_
      refine kj_if_eq X (tgt := 2006) dL_law_2001 (by decide) (knC_lcmp _ _) (fun h18 => ?_) (fun h18 => ?_)
      · replace hf := knIp hf h18
        refine kj_sub (L' := [(0, Value.ref b), (1, knO G 0), (2, knO G 142), (3, knO G 159), (4, knO G 160), (5, knV i)]) [2, 3, 4, 5, 6, 7] rfl ?_
        exact j14  hf
      · replace hf := knIq hf h18
        refine kj_iconst X dL_law_2004 ?_
        cases hf
  · replace hf := knIq hf h10
    refine kj_iconst X dL_law_1987 ?_
    cases hf

def kfLc_38 (x1 x2 x3 x4 : Int) (μ : knMem) : Option knMem :=
 Option.bind (kfL_bet x1 x2 x3 μ) (fun q1 =>
  Option.bind (kfX13_bet x1 x2 x3 q1.2) (fun q4 =>
   Option.bind (kfX13_thrown  q4.2) (fun q7 =>
    if q7 = q1.1 then
     (fun (k14 : (Unit) → Option (knMem)) =>
      if q1.1 = 0 then
       if (knLcmp (q4.2 159 0) q4.1) = 0 then
        k14 ()
       else
        none
      else
       k14 ())
      (fun _ =>
      some q4.2)
    else
     none)))

set_option maxHeartbeats 4000000 in
set_option maxRecDepth 100000 in
theorem kcLc_38 {G : knGT} {p : Program} {l : Launch} {e : Env} {s : State} {m : MethodId} {args : Array Value} {below : List Frame} {meth : Method} {c : Code} {Q : State → Prop} {b N : Nat} {xs : Nat → Int32} (hl : l.stackTraces = false) (X : knX p m c code 10 s args RL) (K : knK G s s.heap) (S : knSc G b N xs s) {i x1 x2 x3 x4 : Int} (hi : knC i) (hs : knSi N xs i x1 x2 x3 x4) {cells slots : Nat} (hc9 : cells + 2 ≤ room_1.cells) (hs9 : slots + 12 ≤ room_1.slots) {μ q : knMem} (hf : kfLc_38 x1 x2 x3 x4 μ = some q)
  (kk : knJ G p l e room_1 s m args below meth c 10 (cells + 2) (slots + 12) Q 2804 [(0, Value.ref b), (1, knO G 0), (2, knO G 142), (3, knO G 159), (4, knO G 160), (5, knV i)] [] q) : knJ G p l e room_1 s m args below meth c 10 cells slots Q 2009 [(0, Value.ref b), (1, knO G 0), (2, knO G 142), (3, knO G 159), (4, knO G 160), (5, knV i)] [] μ := by
  unfold kfLc_38 at hf
  refine kj_aloadn X 1 dL_law_2009 rfl ?_
  refine kj_aloadn X 0 dL_law_2010 rfl ?_
  refine kj_iload X 5 dL_law_2011 rfl ?_
  refine kj_iconst X dL_law_2013 ?_
  refine kj_iadd X dL_law_2014 ?_
  refine kj_sld X S (knCw _) hs.1.2 hs.1.1 dL_law_2015 ?_
  refine kj_aloadn X 0 dL_law_2016 rfl ?_
  refine kj_iload X 5 dL_law_2017 rfl ?_
  refine kj_iconst X dL_law_2019 ?_
  refine kj_iadd X dL_law_2020 ?_
  refine kj_sld X S (knCw _) hs.2.1.2 hs.2.1.1 dL_law_2021 ?_
  refine kj_aloadn X 0 dL_law_2022 rfl ?_
  refine kj_iload X 5 dL_law_2023 rfl ?_
  refine kj_iconst X dL_law_2025 ?_
  refine kj_iadd X dL_law_2026 ?_
  refine kj_sld X S (knCw _) hs.2.2.1.2 hs.2.2.1.1 dL_law_2027 ?_
  refine kj_aloadn X 3 dL_law_2028 rfl ?_
  obtain ⟨q1, h2, hf⟩ := knBd_inv hf
  refine kj_callSH (As := [knO G 0, knV x1, knV x2, knV x3, knO G 159]) (rest := []) X K (kcL_bet l hl (knC_sx hs.1.2) (knC_sx hs.2.1.2) (knC_sx hs.2.2.1.2) h2) knWhL_bet (knGm 1196 (by decide +kernel) rfl) (by decide) rfl (Nat.le_of_ble_eq_true rfl) ⟨by omega, by omega⟩ dL_law_2029 rfl (fun h3 => ?_)
  refine kj_istore X (L' := [(6, knV q1.1), (0, Value.ref b), (1, knO G 0), (2, knO G 142), (3, knO G 159), (4, knO G 160), (5, knV i)]) dL_law_2032 (by decide) rfl ?_
  refine kj_aloadn X 3 dL_law_2034 rfl ?_
  refine kj_aloadn X 1 dL_law_2035 rfl ?_
  refine kj_iload X 6 dL_law_2036 rfl ?_
  refine kj_iconst X dL_law_2038 ?_
  refine kj_iadd X dL_law_2039 ?_
  refine kj_sld X S (knCw _) hs.1.2 hs.1.1 dL_law_2040 ?_
  refine kj_aloadn X 1 dL_law_2041 rfl ?_
  refine kj_iload X 6 dL_law_2042 rfl ?_
  refine kj_iconst X dL_law_2044 ?_
  refine kj_iadd X dL_law_2045 ?_
  refine kj_sld X S (knCw _) hs.2.1.2 hs.2.1.1 dL_law_2046 ?_
  refine kj_aloadn X 1 dL_law_2047 rfl ?_
  refine kj_iload X 6 dL_law_2048 rfl ?_
  refine kj_iconst X dL_law_2050 ?_
  refine kj_iadd X dL_law_2051 ?_
  refine kj_sld X S (knCw _) hs.2.2.1.2 hs.2.2.1.1 dL_law_2052 ?_
  obtain ⟨q4, h5, hf⟩ := knBd_inv hf
  refine kj_callV (As := [knV x1, knV x2, knV x3]) (rest := []) X K (kcX13_bet l (knC_sx hs.1.2) (knC_sx hs.2.1.2) (knC_sx hs.2.2.1.2) h5) knWvX13_bet (knGm 1981 (by decide +kernel) rfl) (by decide) (knKd_in kdc_142 (by decide)) (knEnt_10 kdc_142) rfl rfl rfl (Nat.le_of_ble_eq_true rfl) ⟨by omega, by omega⟩ dL_law_2053 rfl (fun h6 => ?_)
  refine kj_istore X (L' := [(7, knV q4.1), (6, knV q1.1), (0, Value.ref b), (1, knO G 0), (2, knO G 142), (3, knO G 159), (4, knO G 160), (5, knV i)]) dL_law_2056 (by decide) rfl ?_
  refine kj_aloadn X 4 dL_law_2058 rfl ?_
  obtain ⟨q7, h8, hf⟩ := knBd_inv hf
  refine kj_callV (As := []) (rest := []) X K (kcX13_thrown l  h8) knWvX13_thrown (knGm 1589 (by decide +kernel) rfl) (by decide) (knKd_in kdc_142 (by decide)) (knEnt_10 kdc_142) rfl rfl rfl (Nat.le_of_ble_eq_true rfl) ⟨by omega, by omega⟩ dL_law_2059 rfl (fun h9 => ?_)
  refine kj_iload X 1 dL_law_2062 rfl ?_
  refine kj_ic_eq X (tgt := 2069) dL_law_2064 (by decide) h9 h3 (fun h10 => ?_) (fun h10 => ?_)
  · replace hf := knIp hf h10
    refine kj_iload X 1 dL_law_2069 rfl ?_
    have j14 : (fun _ =>
     some q4.2) () = some q → knJ G p l e room_1 s m args below meth c 10 (cells + 1) (slots + 6) Q 2086 [(0, Value.ref b), (1, knO G 0), (2, knO G 142), (3, knO G 159), (4, knO G 160), (5, knV i)] [] q4.2 := by
      intro hf
      refine kj_goto X (tgt := 2804) dL_law_2086 (by decide) ?_
      cases hf
      refine kj_sub (L' := [(0, Value.ref b), (1, knO G 0), (2, knO G 142), (3, knO G 159), (4, knO G 160), (5, knV i)]) [0, 1, 2, 3, 4, 5] rfl ?_
      exact kj_wd (by omega) (by omega) kk
    refine kj_if_ne X (tgt := 2086) dL_law_2071 (by decide) h3 (fun h16 => ?_) (fun h16 => ?_)
    · replace hf := knIq hf h16
      refine kj_sub (L' := [(0, Value.ref b), (1, knO G 0), (2, knO G 142), (3, knO G 159), (4, knO G 160), (5, knV i)]) [2, 3, 4, 5, 6, 7] rfl ?_
      exact j14  hf
    · replace hf := knIp hf h16
      refine kj_aloadn X 5 dL_law_2074 rfl ?_
      refine kj_iconst X dL_law_2075 ?_
      refine kj_lald X K dL_law_2076 (fun h17 => ?_)
      refine kj_iload X 0 dL_law_2077 rfl ?_
      refine kj_i2l X dL_law_2079 h6 ?_
      refine kj_lcmp X dL_law_2080 h17 h6 ?_
      refine kj_if_eq X (tgt := 2086) dL_law_2081 (by decide) (knC_lcmp _ _) (fun h18 => ?_) (fun h18 => ?_)
      · replace hf := knIp hf h18
        refine kj_sub (L' := [(0, Value.ref b), (1, knO G 0), (2, knO G 142), (3, knO G 159), (4, knO G 160), (5, knV i)]) [2, 3, 4, 5, 6, 7] rfl ?_
        exact j14  hf
      · replace hf := knIq hf h18
        refine kj_iconst X dL_law_2084 ?_
        cases hf
  · replace hf := knIq hf h10
    refine kj_iconst X dL_law_2067 ?_
    cases hf

def kfLc_39 (x1 x2 x3 x4 : Int) (μ : knMem) : Option knMem :=
 Option.bind (kfL_settle  μ) (fun q1 =>
  Option.bind (kfX13_settle  q1.2) (fun q4 =>
   Option.bind (kfX13_thrown  q4.2) (fun q7 =>
    if q7 = q1.1 then
     (fun (k14 : (Unit) → Option (knMem)) =>
      if q1.1 = 0 then
       if (knLcmp (q4.2 159 0) q4.1) = 0 then
        k14 ()
       else
        none
      else
       k14 ())
      (fun _ =>
      some q4.2)
    else
     none)))

set_option maxHeartbeats 4000000 in
set_option maxRecDepth 100000 in
theorem kcLc_39 {G : knGT} {p : Program} {l : Launch} {e : Env} {s : State} {m : MethodId} {args : Array Value} {below : List Frame} {meth : Method} {c : Code} {Q : State → Prop} {b N : Nat} {xs : Nat → Int32} (hl : l.stackTraces = false) (X : knX p m c code 10 s args RL) (K : knK G s s.heap) (S : knSc G b N xs s) {i x1 x2 x3 x4 : Int} (hi : knC i) (hs : knSi N xs i x1 x2 x3 x4) {cells slots : Nat} (hc9 : cells + 2 ≤ room_1.cells) (hs9 : slots + 12 ≤ room_1.slots) {μ q : knMem} (hf : kfLc_39 x1 x2 x3 x4 μ = some q)
  (kk : knJ G p l e room_1 s m args below meth c 10 (cells + 2) (slots + 12) Q 2804 [(0, Value.ref b), (1, knO G 0), (2, knO G 142), (3, knO G 159), (4, knO G 160), (5, knV i)] [] q) : knJ G p l e room_1 s m args below meth c 10 cells slots Q 2089 [(0, Value.ref b), (1, knO G 0), (2, knO G 142), (3, knO G 159), (4, knO G 160), (5, knV i)] [] μ := by
  unfold kfLc_39 at hf
  refine kj_aloadn X 1 dL_law_2089 rfl ?_
  refine kj_aloadn X 3 dL_law_2090 rfl ?_
  obtain ⟨q1, h2, hf⟩ := knBd_inv hf
  refine kj_callSH (As := [knO G 0, knO G 159]) (rest := []) X K (kcL_settle l hl  h2) knWhL_settle (knGm 1214 (by decide +kernel) rfl) (by decide) rfl (Nat.le_of_ble_eq_true rfl) ⟨by omega, by omega⟩ dL_law_2091 rfl (fun h3 => ?_)
  refine kj_istore X (L' := [(6, knV q1.1), (0, Value.ref b), (1, knO G 0), (2, knO G 142), (3, knO G 159), (4, knO G 160), (5, knV i)]) dL_law_2094 (by decide) rfl ?_
  refine kj_aloadn X 3 dL_law_2096 rfl ?_
  obtain ⟨q4, h5, hf⟩ := knBd_inv hf
  refine kj_callV (As := []) (rest := []) X K (kcX13_settle l  h5) knWvX13_settle (knGm 1997 (by decide +kernel) rfl) (by decide) (knKd_in kdc_142 (by decide)) (knEnt_10 kdc_142) rfl rfl rfl (Nat.le_of_ble_eq_true rfl) ⟨by omega, by omega⟩ dL_law_2097 rfl (fun h6 => ?_)
  refine kj_istore X (L' := [(7, knV q4.1), (6, knV q1.1), (0, Value.ref b), (1, knO G 0), (2, knO G 142), (3, knO G 159), (4, knO G 160), (5, knV i)]) dL_law_2100 (by decide) rfl ?_
  refine kj_aloadn X 4 dL_law_2102 rfl ?_
  obtain ⟨q7, h8, hf⟩ := knBd_inv hf
  refine kj_callV (As := []) (rest := []) X K (kcX13_thrown l  h8) knWvX13_thrown (knGm 1589 (by decide +kernel) rfl) (by decide) (knKd_in kdc_142 (by decide)) (knEnt_10 kdc_142) rfl rfl rfl (Nat.le_of_ble_eq_true rfl) ⟨by omega, by omega⟩ dL_law_2103 rfl (fun h9 => ?_)
  refine kj_iload X 1 dL_law_2106 rfl ?_
  refine kj_ic_eq X (tgt := 2113) dL_law_2108 (by decide) h9 h3 (fun h10 => ?_) (fun h10 => ?_)
  · replace hf := knIp hf h10
    refine kj_iload X 1 dL_law_2113 rfl ?_
    have j14 : (fun _ =>
     some q4.2) () = some q → knJ G p l e room_1 s m args below meth c 10 (cells + 1) (slots + 6) Q 2130 [(0, Value.ref b), (1, knO G 0), (2, knO G 142), (3, knO G 159), (4, knO G 160), (5, knV i)] [] q4.2 := by
      intro hf
      refine kj_goto X (tgt := 2804) dL_law_2130 (by decide) ?_
      cases hf
      refine kj_sub (L' := [(0, Value.ref b), (1, knO G 0), (2, knO G 142), (3, knO G 159), (4, knO G 160), (5, knV i)]) [0, 1, 2, 3, 4, 5] rfl ?_
      exact kj_wd (by omega) (by omega) kk
    refine kj_if_ne X (tgt := 2130) dL_law_2115 (by decide) h3 (fun h16 => ?_) (fun h16 => ?_)
    · replace hf := knIq hf h16
      refine kj_sub (L' := [(0, Value.ref b), (1, knO G 0), (2, knO G 142), (3, knO G 159), (4, knO G 160), (5, knV i)]) [2, 3, 4, 5, 6, 7] rfl ?_
      exact j14  hf
    · replace hf := knIp hf h16
      refine kj_aloadn X 5 dL_law_2118 rfl ?_
      refine kj_iconst X dL_law_2119 ?_
      refine kj_lald X K dL_law_2120 (fun h17 => ?_)
      refine kj_iload X 0 dL_law_2121 rfl ?_
      refine kj_i2l X dL_law_2123 h6 ?_
      refine kj_lcmp X dL_law_2124 h17 h6 ?_
      refine kj_if_eq X (tgt := 2130) dL_law_2125 (by decide) (knC_lcmp _ _) (fun h18 => ?_) (fun h18 => ?_)
      · replace hf := knIp hf h18
        refine kj_sub (L' := [(0, Value.ref b), (1, knO G 0), (2, knO G 142), (3, knO G 159), (4, knO G 160), (5, knV i)]) [2, 3, 4, 5, 6, 7] rfl ?_
        exact j14  hf
      · replace hf := knIq hf h18
        refine kj_iconst X dL_law_2128 ?_
        cases hf
  · replace hf := knIq hf h10
    refine kj_iconst X dL_law_2111 ?_
    cases hf

def kfLc_40 (x1 x2 x3 x4 : Int) (μ : knMem) : Option knMem :=
 Option.bind (kfX12_playerCount  μ) (fun q1 =>
  Option.bind (kfX13_playerCount  μ) (fun q4 =>
   if q1 = q4.1 then
    some q4.2
   else
    none))

set_option maxHeartbeats 4000000 in
set_option maxRecDepth 100000 in
theorem kcLc_40 {G : knGT} {p : Program} {l : Launch} {e : Env} {s : State} {m : MethodId} {args : Array Value} {below : List Frame} {meth : Method} {c : Code} {Q : State → Prop} {b N : Nat} {xs : Nat → Int32} (hl : l.stackTraces = false) (X : knX p m c code 10 s args RL) (K : knK G s s.heap) (S : knSc G b N xs s) {i x1 x2 x3 x4 : Int} (hi : knC i) (hs : knSi N xs i x1 x2 x3 x4) {cells slots : Nat} (hc9 : cells + 2 ≤ room_1.cells) (hs9 : slots + 12 ≤ room_1.slots) {μ q : knMem} (hf : kfLc_40 x1 x2 x3 x4 μ = some q)
  (kk : knJ G p l e room_1 s m args below meth c 10 (cells + 2) (slots + 12) Q 2804 [(0, Value.ref b), (1, knO G 0), (2, knO G 142), (3, knO G 159), (4, knO G 160), (5, knV i)] [] q) : knJ G p l e room_1 s m args below meth c 10 cells slots Q 2133 [(0, Value.ref b), (1, knO G 0), (2, knO G 142), (3, knO G 159), (4, knO G 160), (5, knV i)] [] μ := by
  unfold kfLc_40 at hf
  refine kj_aloadn X 1 dL_law_2133 rfl ?_
  obtain ⟨q1, h2, hf⟩ := knBd_inv hf
  refine kj_callV (As := []) (rest := []) X K (kcX12_playerCount l  h2) knWvX12_playerCount (knGm 780 (by decide +kernel) rfl) (by decide) (knKd_in kdc_0 (by decide)) (knEnt_9 kdc_0) rfl rfl rfl (Nat.le_of_ble_eq_true rfl) ⟨by omega, by omega⟩ dL_law_2134 rfl (fun h3 => ?_)
  refine kj_aloadn X 2 dL_law_2137 rfl ?_
  obtain ⟨q4, h5, hf⟩ := knBd_inv hf
  refine kj_callV (As := []) (rest := [knV q1]) X K (kcX13_playerCount l  h5) knWvX13_playerCount (knGm 2013 (by decide +kernel) rfl) (by decide) (knKd_in kdc_142 (by decide)) (knEnt_10 kdc_142) rfl rfl rfl (Nat.le_of_ble_eq_true rfl) ⟨by omega, by omega⟩ dL_law_2138 rfl (fun h6 => ?_)
  refine kj_ic_eq X (tgt := 2804) dL_law_2141 (by decide) h3 h6 (fun h7 => ?_) (fun h7 => ?_)
  · replace hf := knIp hf h7
    cases hf
    refine kj_sub (L' := [(0, Value.ref b), (1, knO G 0), (2, knO G 142), (3, knO G 159), (4, knO G 160), (5, knV i)]) [0, 1, 2, 3, 4, 5] rfl ?_
    exact kj_wd (by omega) (by omega) kk
  · replace hf := knIq hf h7
    refine kj_iconst X dL_law_2144 ?_
    cases hf

def kfLc_41 (x1 x2 x3 x4 : Int) (μ : knMem) : Option knMem :=
 Option.bind (kfL_coins x1 μ) (fun q1 =>
  Option.bind (kfX13_coins x1 q1.2) (fun q4 =>
   Option.bind (kfX13_thrown  q4.2) (fun q7 =>
    if q7 = q1.1 then
     (fun (k14 : (Unit) → Option (knMem)) =>
      if q1.1 = 0 then
       if (knLcmp (q4.2 159 0) q4.1) = 0 then
        k14 ()
       else
        none
      else
       k14 ())
      (fun _ =>
      some q4.2)
    else
     none)))

set_option maxHeartbeats 4000000 in
set_option maxRecDepth 100000 in
theorem kcLc_41 {G : knGT} {p : Program} {l : Launch} {e : Env} {s : State} {m : MethodId} {args : Array Value} {below : List Frame} {meth : Method} {c : Code} {Q : State → Prop} {b N : Nat} {xs : Nat → Int32} (hl : l.stackTraces = false) (X : knX p m c code 10 s args RL) (K : knK G s s.heap) (S : knSc G b N xs s) {i x1 x2 x3 x4 : Int} (hi : knC i) (hs : knSi N xs i x1 x2 x3 x4) {cells slots : Nat} (hc9 : cells + 2 ≤ room_1.cells) (hs9 : slots + 12 ≤ room_1.slots) {μ q : knMem} (hf : kfLc_41 x1 x2 x3 x4 μ = some q)
  (kk : knJ G p l e room_1 s m args below meth c 10 (cells + 2) (slots + 12) Q 2804 [(0, Value.ref b), (1, knO G 0), (2, knO G 142), (3, knO G 159), (4, knO G 160), (5, knV i)] [] q) : knJ G p l e room_1 s m args below meth c 10 cells slots Q 2146 [(0, Value.ref b), (1, knO G 0), (2, knO G 142), (3, knO G 159), (4, knO G 160), (5, knV i)] [] μ := by
  unfold kfLc_41 at hf
  refine kj_aloadn X 1 dL_law_2146 rfl ?_
  refine kj_aloadn X 0 dL_law_2147 rfl ?_
  refine kj_iload X 5 dL_law_2148 rfl ?_
  refine kj_iconst X dL_law_2150 ?_
  refine kj_iadd X dL_law_2151 ?_
  refine kj_sld X S (knCw _) hs.1.2 hs.1.1 dL_law_2152 ?_
  refine kj_aloadn X 3 dL_law_2153 rfl ?_
  obtain ⟨q1, h2, hf⟩ := knBd_inv hf
  refine kj_callSH (As := [knO G 0, knV x1, knO G 159]) (rest := []) X K (kcL_coins l hl (knC_sx hs.1.2) h2) knWhL_coins (knGm 1235 (by decide +kernel) rfl) (by decide) rfl (Nat.le_of_ble_eq_true rfl) ⟨by omega, by omega⟩ dL_law_2154 rfl (fun h3 => ?_)
  refine kj_istore X (L' := [(6, knV q1.1), (0, Value.ref b), (1, knO G 0), (2, knO G 142), (3, knO G 159), (4, knO G 160), (5, knV i)]) dL_law_2157 (by decide) rfl ?_
  refine kj_aloadn X 3 dL_law_2159 rfl ?_
  refine kj_aloadn X 1 dL_law_2160 rfl ?_
  refine kj_iload X 6 dL_law_2161 rfl ?_
  refine kj_iconst X dL_law_2163 ?_
  refine kj_iadd X dL_law_2164 ?_
  refine kj_sld X S (knCw _) hs.1.2 hs.1.1 dL_law_2165 ?_
  obtain ⟨q4, h5, hf⟩ := knBd_inv hf
  refine kj_callV (As := [knV x1]) (rest := []) X K (kcX13_coins l (knC_sx hs.1.2) h5) knWvX13_coins (knGm 2017 (by decide +kernel) rfl) (by decide) (knKd_in kdc_142 (by decide)) (knEnt_10 kdc_142) rfl rfl rfl (Nat.le_of_ble_eq_true rfl) ⟨by omega, by omega⟩ dL_law_2166 rfl (fun h6 => ?_)
  refine kj_istore X (L' := [(7, knV q4.1), (6, knV q1.1), (0, Value.ref b), (1, knO G 0), (2, knO G 142), (3, knO G 159), (4, knO G 160), (5, knV i)]) dL_law_2169 (by decide) rfl ?_
  refine kj_aloadn X 4 dL_law_2171 rfl ?_
  obtain ⟨q7, h8, hf⟩ := knBd_inv hf
  refine kj_callV (As := []) (rest := []) X K (kcX13_thrown l  h8) knWvX13_thrown (knGm 1589 (by decide +kernel) rfl) (by decide) (knKd_in kdc_142 (by decide)) (knEnt_10 kdc_142) rfl rfl rfl (Nat.le_of_ble_eq_true rfl) ⟨by omega, by omega⟩ dL_law_2172 rfl (fun h9 => ?_)
  refine kj_iload X 1 dL_law_2175 rfl ?_
  refine kj_ic_eq X (tgt := 2182) dL_law_2177 (by decide) h9 h3 (fun h10 => ?_) (fun h10 => ?_)
  · replace hf := knIp hf h10
    refine kj_iload X 1 dL_law_2182 rfl ?_
    have j14 : (fun _ =>
     some q4.2) () = some q → knJ G p l e room_1 s m args below meth c 10 (cells + 1) (slots + 6) Q 2199 [(0, Value.ref b), (1, knO G 0), (2, knO G 142), (3, knO G 159), (4, knO G 160), (5, knV i)] [] q4.2 := by
      intro hf
      refine kj_goto X (tgt := 2804) dL_law_2199 (by decide) ?_
      cases hf
      refine kj_sub (L' := [(0, Value.ref b), (1, knO G 0), (2, knO G 142), (3, knO G 159), (4, knO G 160), (5, knV i)]) [0, 1, 2, 3, 4, 5] rfl ?_
      exact kj_wd (by omega) (by omega) kk
    refine kj_if_ne X (tgt := 2199) dL_law_2184 (by decide) h3 (fun h16 => ?_) (fun h16 => ?_)
    · replace hf := knIq hf h16
      refine kj_sub (L' := [(0, Value.ref b), (1, knO G 0), (2, knO G 142), (3, knO G 159), (4, knO G 160), (5, knV i)]) [2, 3, 4, 5, 6, 7] rfl ?_
      exact j14  hf
    · replace hf := knIp hf h16
      refine kj_aloadn X 5 dL_law_2187 rfl ?_
      refine kj_iconst X dL_law_2188 ?_
      refine kj_lald X K dL_law_2189 (fun h17 => ?_)
      refine kj_iload X 0 dL_law_2190 rfl ?_
      refine kj_i2l X dL_law_2192 h6 ?_
      refine kj_lcmp X dL_law_2193 h17 h6 ?_
      refine kj_if_eq X (tgt := 2199) dL_law_2194 (by decide) (knC_lcmp _ _) (fun h18 => ?_) (fun h18 => ?_)
      · replace hf := knIp hf h18
        refine kj_sub (L' := [(0, Value.ref b), (1, knO G 0), (2, knO G 142), (3, knO G 159), (4, knO G 160), (5, knV i)]) [2, 3, 4, 5, 6, 7] rfl ?_
        exact j14  hf
      · replace hf := knIq hf h18
        refine kj_iconst X dL_law_2197 ?_
        cases hf
  · replace hf := knIq hf h10
    refine kj_iconst X dL_law_2180 ?_
    cases hf

def kfLc_42 (x1 x2 x3 x4 : Int) (μ : knMem) : Option knMem :=
 Option.bind (kfL_guess x1 μ) (fun q1 =>
  Option.bind (kfX13_guess x1 q1.2) (fun q4 =>
   Option.bind (kfX13_thrown  q4.2) (fun q7 =>
    if q7 = q1.1 then
     (fun (k14 : (Unit) → Option (knMem)) =>
      if q1.1 = 0 then
       if (knLcmp (q4.2 159 0) q4.1) = 0 then
        k14 ()
       else
        none
      else
       k14 ())
      (fun _ =>
      some q4.2)
    else
     none)))

set_option maxHeartbeats 4000000 in
set_option maxRecDepth 100000 in
theorem kcLc_42 {G : knGT} {p : Program} {l : Launch} {e : Env} {s : State} {m : MethodId} {args : Array Value} {below : List Frame} {meth : Method} {c : Code} {Q : State → Prop} {b N : Nat} {xs : Nat → Int32} (hl : l.stackTraces = false) (X : knX p m c code 10 s args RL) (K : knK G s s.heap) (S : knSc G b N xs s) {i x1 x2 x3 x4 : Int} (hi : knC i) (hs : knSi N xs i x1 x2 x3 x4) {cells slots : Nat} (hc9 : cells + 2 ≤ room_1.cells) (hs9 : slots + 12 ≤ room_1.slots) {μ q : knMem} (hf : kfLc_42 x1 x2 x3 x4 μ = some q)
  (kk : knJ G p l e room_1 s m args below meth c 10 (cells + 2) (slots + 12) Q 2804 [(0, Value.ref b), (1, knO G 0), (2, knO G 142), (3, knO G 159), (4, knO G 160), (5, knV i)] [] q) : knJ G p l e room_1 s m args below meth c 10 cells slots Q 2202 [(0, Value.ref b), (1, knO G 0), (2, knO G 142), (3, knO G 159), (4, knO G 160), (5, knV i)] [] μ := by
  unfold kfLc_42 at hf
  refine kj_aloadn X 1 dL_law_2202 rfl ?_
  refine kj_aloadn X 0 dL_law_2203 rfl ?_
  refine kj_iload X 5 dL_law_2204 rfl ?_
  refine kj_iconst X dL_law_2206 ?_
  refine kj_iadd X dL_law_2207 ?_
  refine kj_sld X S (knCw _) hs.1.2 hs.1.1 dL_law_2208 ?_
  refine kj_aloadn X 3 dL_law_2209 rfl ?_
  obtain ⟨q1, h2, hf⟩ := knBd_inv hf
  refine kj_callSH (As := [knO G 0, knV x1, knO G 159]) (rest := []) X K (kcL_guess l hl (knC_sx hs.1.2) h2) knWhL_guess (knGm 1248 (by decide +kernel) rfl) (by decide) rfl (Nat.le_of_ble_eq_true rfl) ⟨by omega, by omega⟩ dL_law_2210 rfl (fun h3 => ?_)
  refine kj_istore X (L' := [(6, knV q1.1), (0, Value.ref b), (1, knO G 0), (2, knO G 142), (3, knO G 159), (4, knO G 160), (5, knV i)]) dL_law_2213 (by decide) rfl ?_
  refine kj_aloadn X 3 dL_law_2215 rfl ?_
  refine kj_aloadn X 1 dL_law_2216 rfl ?_
  refine kj_iload X 6 dL_law_2217 rfl ?_
  refine kj_iconst X dL_law_2219 ?_
  refine kj_iadd X dL_law_2220 ?_
  refine kj_sld X S (knCw _) hs.1.2 hs.1.1 dL_law_2221 ?_
  obtain ⟨q4, h5, hf⟩ := knBd_inv hf
  refine kj_callV (As := [knV x1]) (rest := []) X K (kcX13_guess l (knC_sx hs.1.2) h5) knWvX13_guess (knGm 2021 (by decide +kernel) rfl) (by decide) (knKd_in kdc_142 (by decide)) (knEnt_10 kdc_142) rfl rfl rfl (Nat.le_of_ble_eq_true rfl) ⟨by omega, by omega⟩ dL_law_2222 rfl (fun h6 => ?_)
  refine kj_istore X (L' := [(7, knV q4.1), (6, knV q1.1), (0, Value.ref b), (1, knO G 0), (2, knO G 142), (3, knO G 159), (4, knO G 160), (5, knV i)]) dL_law_2225 (by decide) rfl ?_
  refine kj_aloadn X 4 dL_law_2227 rfl ?_
  obtain ⟨q7, h8, hf⟩ := knBd_inv hf
  refine kj_callV (As := []) (rest := []) X K (kcX13_thrown l  h8) knWvX13_thrown (knGm 1589 (by decide +kernel) rfl) (by decide) (knKd_in kdc_142 (by decide)) (knEnt_10 kdc_142) rfl rfl rfl (Nat.le_of_ble_eq_true rfl) ⟨by omega, by omega⟩ dL_law_2228 rfl (fun h9 => ?_)
  refine kj_iload X 1 dL_law_2231 rfl ?_
  refine kj_ic_eq X (tgt := 2238) dL_law_2233 (by decide) h9 h3 (fun h10 => ?_) (fun h10 => ?_)
  · replace hf := knIp hf h10
    refine kj_iload X 1 dL_law_2238 rfl ?_
    have j14 : (fun _ =>
     some q4.2) () = some q → knJ G p l e room_1 s m args below meth c 10 (cells + 2) (slots + 12) Q 2255 [(0, Value.ref b), (1, knO G 0), (2, knO G 142), (3, knO G 159), (4, knO G 160), (5, knV i)] [] q4.2 := by
      intro hf
      refine kj_goto X (tgt := 2804) dL_law_2255 (by decide) ?_
      cases hf
      refine kj_sub (L' := [(0, Value.ref b), (1, knO G 0), (2, knO G 142), (3, knO G 159), (4, knO G 160), (5, knV i)]) [0, 1, 2, 3, 4, 5] rfl ?_
      exact kj_wd (by omega) (by omega) kk
    refine kj_if_ne X (tgt := 2255) dL_law_2240 (by decide) h3 (fun h16 => ?_) (fun h16 => ?_)
    · replace hf := knIq hf h16
      refine kj_sub (L' := [(0, Value.ref b), (1, knO G 0), (2, knO G 142), (3, knO G 159), (4, knO G 160), (5, knV i)]) [2, 3, 4, 5, 6, 7] rfl ?_
      exact j14  hf
    · replace hf := knIp hf h16
      refine kj_aloadn X 5 dL_law_2243 rfl ?_
      refine kj_iconst X dL_law_2244 ?_
      refine kj_lald X K dL_law_2245 (fun h17 => ?_)
      refine kj_iload X 0 dL_law_2246 rfl ?_
      refine kj_i2l X dL_law_2248 h6 ?_
      refine kj_lcmp X dL_law_2249 h17 h6 ?_
      refine kj_if_eq X (tgt := 2255) dL_law_2250 (by decide) (knC_lcmp _ _) (fun h18 => ?_) (fun h18 => ?_)
      · replace hf := knIp hf h18
        refine kj_sub (L' := [(0, Value.ref b), (1, knO G 0), (2, knO G 142), (3, knO G 159), (4, knO G 160), (5, knV i)]) [2, 3, 4, 5, 6, 7] rfl ?_
        exact j14  hf
      · replace hf := knIq hf h18
        refine kj_iconst X dL_law_2253 ?_
        cases hf
  · replace hf := knIq hf h10
    refine kj_iconst X dL_law_2236 ?_
    cases hf

def kfLc_43 (x1 x2 x3 x4 : Int) (μ : knMem) : Option knMem :=
 Option.bind (kfX12_pot  μ) (fun q1 =>
  Option.bind (kfX13_pot  μ) (fun q4 =>
   if q1 = q4.1 then
    some q4.2
   else
    none))

set_option maxHeartbeats 4000000 in
set_option maxRecDepth 100000 in
theorem kcLc_43 {G : knGT} {p : Program} {l : Launch} {e : Env} {s : State} {m : MethodId} {args : Array Value} {below : List Frame} {meth : Method} {c : Code} {Q : State → Prop} {b N : Nat} {xs : Nat → Int32} (hl : l.stackTraces = false) (X : knX p m c code 10 s args RL) (K : knK G s s.heap) (S : knSc G b N xs s) {i x1 x2 x3 x4 : Int} (hi : knC i) (hs : knSi N xs i x1 x2 x3 x4) {cells slots : Nat} (hc9 : cells + 2 ≤ room_1.cells) (hs9 : slots + 12 ≤ room_1.slots) {μ q : knMem} (hf : kfLc_43 x1 x2 x3 x4 μ = some q)
  (kk : knJ G p l e room_1 s m args below meth c 10 (cells + 2) (slots + 12) Q 2804 [(0, Value.ref b), (1, knO G 0), (2, knO G 142), (3, knO G 159), (4, knO G 160), (5, knV i)] [] q) : knJ G p l e room_1 s m args below meth c 10 cells slots Q 2258 [(0, Value.ref b), (1, knO G 0), (2, knO G 142), (3, knO G 159), (4, knO G 160), (5, knV i)] [] μ := by
  unfold kfLc_43 at hf
  refine kj_aloadn X 1 dL_law_2258 rfl ?_
  obtain ⟨q1, h2, hf⟩ := knBd_inv hf
  refine kj_callV (As := []) (rest := []) X K (kcX12_pot l  h2) knWvX12_pot (knGm 784 (by decide +kernel) rfl) (by decide) (knKd_in kdc_0 (by decide)) (knEnt_9 kdc_0) rfl rfl rfl (Nat.le_of_ble_eq_true rfl) ⟨by omega, by omega⟩ dL_law_2259 rfl (fun h3 => ?_)
  refine kj_aloadn X 2 dL_law_2262 rfl ?_
  obtain ⟨q4, h5, hf⟩ := knBd_inv hf
  refine kj_callV (As := []) (rest := [knV q1]) X K (kcX13_pot l  h5) knWvX13_pot (knGm 2025 (by decide +kernel) rfl) (by decide) (knKd_in kdc_142 (by decide)) (knEnt_10 kdc_142) rfl rfl rfl (Nat.le_of_ble_eq_true rfl) ⟨by omega, by omega⟩ dL_law_2263 rfl (fun h6 => ?_)
  refine kj_ic_eq X (tgt := 2804) dL_law_2266 (by decide) h3 h6 (fun h7 => ?_) (fun h7 => ?_)
  · replace hf := knIp hf h7
    cases hf
    refine kj_sub (L' := [(0, Value.ref b), (1, knO G 0), (2, knO G 142), (3, knO G 159), (4, knO G 160), (5, knV i)]) [0, 1, 2, 3, 4, 5] rfl ?_
    exact kj_wd (by omega) (by omega) kk
  · replace hf := knIq hf h7
    refine kj_iconst X dL_law_2269 ?_
    cases hf

def kfLc_44 (x1 x2 x3 x4 : Int) (μ : knMem) : Option knMem :=
 Option.bind (kfX12_house  μ) (fun q1 =>
  Option.bind (kfX13_house  μ) (fun q4 =>
   if q1 = q4.1 then
    some q4.2
   else
    none))

set_option maxHeartbeats 4000000 in
set_option maxRecDepth 100000 in
theorem kcLc_44 {G : knGT} {p : Program} {l : Launch} {e : Env} {s : State} {m : MethodId} {args : Array Value} {below : List Frame} {meth : Method} {c : Code} {Q : State → Prop} {b N : Nat} {xs : Nat → Int32} (hl : l.stackTraces = false) (X : knX p m c code 10 s args RL) (K : knK G s s.heap) (S : knSc G b N xs s) {i x1 x2 x3 x4 : Int} (hi : knC i) (hs : knSi N xs i x1 x2 x3 x4) {cells slots : Nat} (hc9 : cells + 2 ≤ room_1.cells) (hs9 : slots + 12 ≤ room_1.slots) {μ q : knMem} (hf : kfLc_44 x1 x2 x3 x4 μ = some q)
  (kk : knJ G p l e room_1 s m args below meth c 10 (cells + 2) (slots + 12) Q 2804 [(0, Value.ref b), (1, knO G 0), (2, knO G 142), (3, knO G 159), (4, knO G 160), (5, knV i)] [] q) : knJ G p l e room_1 s m args below meth c 10 cells slots Q 2271 [(0, Value.ref b), (1, knO G 0), (2, knO G 142), (3, knO G 159), (4, knO G 160), (5, knV i)] [] μ := by
  unfold kfLc_44 at hf
  refine kj_aloadn X 1 dL_law_2271 rfl ?_
  obtain ⟨q1, h2, hf⟩ := knBd_inv hf
  refine kj_callV (As := []) (rest := []) X K (kcX12_house l  h2) knWvX12_house (knGm 792 (by decide +kernel) rfl) (by decide) (knKd_in kdc_0 (by decide)) (knEnt_9 kdc_0) rfl rfl rfl (Nat.le_of_ble_eq_true rfl) ⟨by omega, by omega⟩ dL_law_2272 rfl (fun h3 => ?_)
  refine kj_aloadn X 2 dL_law_2275 rfl ?_
  obtain ⟨q4, h5, hf⟩ := knBd_inv hf
  refine kj_callV (As := []) (rest := [knV q1]) X K (kcX13_house l  h5) knWvX13_house (knGm 2029 (by decide +kernel) rfl) (by decide) (knKd_in kdc_142 (by decide)) (knEnt_10 kdc_142) rfl rfl rfl (Nat.le_of_ble_eq_true rfl) ⟨by omega, by omega⟩ dL_law_2276 rfl (fun h6 => ?_)
  refine kj_ic_eq X (tgt := 2804) dL_law_2279 (by decide) h3 h6 (fun h7 => ?_) (fun h7 => ?_)
  · replace hf := knIp hf h7
    cases hf
    refine kj_sub (L' := [(0, Value.ref b), (1, knO G 0), (2, knO G 142), (3, knO G 159), (4, knO G 160), (5, knV i)]) [0, 1, 2, 3, 4, 5] rfl ?_
    exact kj_wd (by omega) (by omega) kk
  · replace hf := knIq hf h7
    refine kj_iconst X dL_law_2282 ?_
    cases hf

def kfLc_45 (x1 x2 x3 x4 : Int) (μ : knMem) : Option knMem :=
 Option.bind (kfL_playerByCoins x1 μ) (fun q1 =>
  Option.bind (kfX13_playerByCoins x1 q1.2) (fun q4 =>
   Option.bind (kfX13_thrown  q4.2) (fun q7 =>
    if q7 = q1.1 then
     (fun (k14 : (Unit) → Option (knMem)) =>
      if q1.1 = 0 then
       if (knLcmp (q4.2 159 0) q4.1) = 0 then
        k14 ()
       else
        none
      else
       k14 ())
      (fun _ =>
      some q4.2)
    else
     none)))

set_option maxHeartbeats 4000000 in
set_option maxRecDepth 100000 in
theorem kcLc_45 {G : knGT} {p : Program} {l : Launch} {e : Env} {s : State} {m : MethodId} {args : Array Value} {below : List Frame} {meth : Method} {c : Code} {Q : State → Prop} {b N : Nat} {xs : Nat → Int32} (hl : l.stackTraces = false) (X : knX p m c code 10 s args RL) (K : knK G s s.heap) (S : knSc G b N xs s) {i x1 x2 x3 x4 : Int} (hi : knC i) (hs : knSi N xs i x1 x2 x3 x4) {cells slots : Nat} (hc9 : cells + 2 ≤ room_1.cells) (hs9 : slots + 12 ≤ room_1.slots) {μ q : knMem} (hf : kfLc_45 x1 x2 x3 x4 μ = some q)
  (kk : knJ G p l e room_1 s m args below meth c 10 (cells + 2) (slots + 12) Q 2804 [(0, Value.ref b), (1, knO G 0), (2, knO G 142), (3, knO G 159), (4, knO G 160), (5, knV i)] [] q) : knJ G p l e room_1 s m args below meth c 10 cells slots Q 2284 [(0, Value.ref b), (1, knO G 0), (2, knO G 142), (3, knO G 159), (4, knO G 160), (5, knV i)] [] μ := by
  unfold kfLc_45 at hf
  refine kj_aloadn X 1 dL_law_2284 rfl ?_
  refine kj_aloadn X 0 dL_law_2285 rfl ?_
  refine kj_iload X 5 dL_law_2286 rfl ?_
  refine kj_iconst X dL_law_2288 ?_
  refine kj_iadd X dL_law_2289 ?_
  refine kj_sld X S (knCw _) hs.1.2 hs.1.1 dL_law_2290 ?_
  refine kj_aloadn X 3 dL_law_2291 rfl ?_
  obtain ⟨q1, h2, hf⟩ := knBd_inv hf
  refine kj_callSH (As := [knO G 0, knV x1, knO G 159]) (rest := []) X K (kcL_playerByCoins l hl (knC_sx hs.1.2) h2) knWhL_playerByCoins (knGm 1256 (by decide +kernel) rfl) (by decide) rfl (Nat.le_of_ble_eq_true rfl) ⟨by omega, by omega⟩ dL_law_2292 rfl (fun h3 => ?_)
  refine kj_istore X (L' := [(6, knV q1.1), (0, Value.ref b), (1, knO G 0), (2, knO G 142), (3, knO G 159), (4, knO G 160), (5, knV i)]) dL_law_2295 (by decide) rfl ?_
  refine kj_aloadn X 3 dL_law_2297 rfl ?_
  refine kj_aloadn X 1 dL_law_2298 rfl ?_
  refine kj_iload X 6 dL_law_2299 rfl ?_
  refine kj_iconst X dL_law_2301 ?_
  refine kj_iadd X dL_law_2302 ?_
  refine kj_sld X S (knCw _) hs.1.2 hs.1.1 dL_law_2303 ?_
  obtain ⟨q4, h5, hf⟩ := knBd_inv hf
  refine kj_callV (As := [knV x1]) (rest := []) X K (kcX13_playerByCoins l (knC_sx hs.1.2) h5) knWvX13_playerByCoins (knGm 2033 (by decide +kernel) rfl) (by decide) (knKd_in kdc_142 (by decide)) (knEnt_10 kdc_142) rfl rfl rfl (Nat.le_of_ble_eq_true rfl) ⟨by omega, by omega⟩ dL_law_2304 rfl (fun h6 => ?_)
  refine kj_istore X (L' := [(7, knV q4.1), (6, knV q1.1), (0, Value.ref b), (1, knO G 0), (2, knO G 142), (3, knO G 159), (4, knO G 160), (5, knV i)]) dL_law_2307 (by decide) rfl ?_
  refine kj_aloadn X 4 dL_law_2309 rfl ?_
  obtain ⟨q7, h8, hf⟩ := knBd_inv hf
  refine kj_callV (As := []) (rest := []) X K (kcX13_thrown l  h8) knWvX13_thrown (knGm 1589 (by decide +kernel) rfl) (by decide) (knKd_in kdc_142 (by decide)) (knEnt_10 kdc_142) rfl rfl rfl (Nat.le_of_ble_eq_true rfl) ⟨by omega, by omega⟩ dL_law_2310 rfl (fun h9 => ?_)
  refine kj_iload X 1 dL_law_2313 rfl ?_
  refine kj_ic_eq X (tgt := 2320) dL_law_2315 (by decide) h9 h3 (fun h10 => ?_) (fun h10 => ?_)
  · replace hf := knIp hf h10
    refine kj_iload X 1 dL_law_2320 rfl ?_
    have j14 : (fun _ =>
     some q4.2) () = some q → knJ G p l e room_1 s m args below meth c 10 (cells + 1) (slots + 6) Q 2337 [(0, Value.ref b), (1, knO G 0), (2, knO G 142), (3, knO G 159), (4, knO G 160), (5, knV i)] [] q4.2 := by
      intro hf
      refine kj_goto X (tgt := 2804) dL_law_2337 (by decide) ?_
      cases hf
      refine kj_sub (L' := [(0, Value.ref b), (1, knO G 0), (2, knO G 142), (3, knO G 159), (4, knO G 160), (5, knV i)]) [0, 1, 2, 3, 4, 5] rfl ?_
      exact kj_wd (by omega) (by omega) kk
    refine kj_if_ne X (tgt := 2337) dL_law_2322 (by decide) h3 (fun h16 => ?_) (fun h16 => ?_)
    · replace hf := knIq hf h16
      refine kj_sub (L' := [(0, Value.ref b), (1, knO G 0), (2, knO G 142), (3, knO G 159), (4, knO G 160), (5, knV i)]) [2, 3, 4, 5, 6, 7] rfl ?_
      exact j14  hf
    · replace hf := knIp hf h16
      refine kj_aloadn X 5 dL_law_2325 rfl ?_
      refine kj_iconst X dL_law_2326 ?_
      refine kj_lald X K dL_law_2327 (fun h17 => ?_)
      refine kj_iload X 0 dL_law_2328 rfl ?_
      refine kj_i2l X dL_law_2330 h6 ?_
      refine kj_lcmp X dL_law_2331 h17 h6 ?_
      refine kj_if_eq X (tgt := 2337) dL_law_2332 (by decide) (knC_lcmp _ _) (fun h18 => ?_) (fun h18 => ?_)
      · replace hf := knIp hf h18
        refine kj_sub (L' := [(0, Value.ref b), (1, knO G 0), (2, knO G 142), (3, knO G 159), (4, knO G 160), (5, knV i)]) [2, 3, 4, 5, 6, 7] rfl ?_
        exact j14  hf
      · replace hf := knIq hf h18
        refine kj_iconst X dL_law_2335 ?_
        cases hf
  · replace hf := knIq hf h10
    refine kj_iconst X dL_law_2318 ?_
    cases hf

def kfLc_46 (x1 x2 x3 x4 : Int) (μ : knMem) : Option knMem :=
 Option.bind (kfL_stakeShare x1 μ) (fun q1 =>
  Option.bind (kfX13_stakeShare x1 q1.2) (fun q4 =>
   Option.bind (kfX13_thrown  q4.2) (fun q7 =>
    if q7 = q1.1 then
     (fun (k20 : (Unit) → Option (knMem)) =>
      if q1.1 = 0 then
       knGd (knN64 (knF2d q4.1))
        (if (knDcmp .l (q4.2 160 0) (knF2d q4.1)) = 0 then
        k20 ()
       else
        (fun (k27 : (Unit) → Option (knMem)) =>
         if (knDcmp .l (q4.2 160 0) (q4.2 160 0)) = 0 then
          k27 ()
         else
          if (knFcmp .l q4.1 q4.1) = 0 then
           k27 ()
          else
           k20 ())
         (fun _ =>
         none))
      else
       k20 ())
      (fun _ =>
      some q4.2)
    else
     none)))

set_option maxHeartbeats 4000000 in
set_option maxRecDepth 100000 in
theorem kcLc_46 {G : knGT} {p : Program} {l : Launch} {e : Env} {s : State} {m : MethodId} {args : Array Value} {below : List Frame} {meth : Method} {c : Code} {Q : State → Prop} {b N : Nat} {xs : Nat → Int32} (hl : l.stackTraces = false) (X : knX p m c code 10 s args RL) (K : knK G s s.heap) (S : knSc G b N xs s) {i x1 x2 x3 x4 : Int} (hi : knC i) (hs : knSi N xs i x1 x2 x3 x4) {cells slots : Nat} (hc9 : cells + 2 ≤ room_1.cells) (hs9 : slots + 12 ≤ room_1.slots) {μ q : knMem} (hf : kfLc_46 x1 x2 x3 x4 μ = some q)
  (kk : knJ G p l e room_1 s m args below meth c 10 (cells + 2) (slots + 12) Q 2804 [(0, Value.ref b), (1, knO G 0), (2, knO G 142), (3, knO G 159), (4, knO G 160), (5, knV i)] [] q) : knJ G p l e room_1 s m args below meth c 10 cells slots Q 2340 [(0, Value.ref b), (1, knO G 0), (2, knO G 142), (3, knO G 159), (4, knO G 160), (5, knV i)] [] μ := by
  unfold kfLc_46 at hf
  refine kj_aloadn X 1 dL_law_2340 rfl ?_
  refine kj_aloadn X 0 dL_law_2341 rfl ?_
  refine kj_iload X 5 dL_law_2342 rfl ?_
  refine kj_iconst X dL_law_2344 ?_
  refine kj_iadd X dL_law_2345 ?_
  refine kj_sld X S (knCw _) hs.1.2 hs.1.1 dL_law_2346 ?_
  refine kj_aload X 4 dL_law_2347 rfl ?_
  obtain ⟨q1, h2, hf⟩ := knBd_inv hf
  refine kj_callSH (As := [knO G 0, knV x1, knO G 160]) (rest := []) X K (kcL_stakeShare l hl (knC_sx hs.1.2) h2) knWhL_stakeShare (knGm 1271 (by decide +kernel) rfl) (by decide) rfl (Nat.le_of_ble_eq_true rfl) ⟨by omega, by omega⟩ dL_law_2349 rfl (fun h3 => ?_)
  refine kj_istore X (L' := [(6, knV q1.1), (0, Value.ref b), (1, knO G 0), (2, knO G 142), (3, knO G 159), (4, knO G 160), (5, knV i)]) dL_law_2352 (by decide) rfl ?_
  refine kj_aloadn X 3 dL_law_2354 rfl ?_
  refine kj_aloadn X 1 dL_law_2355 rfl ?_
  refine kj_iload X 6 dL_law_2356 rfl ?_
  refine kj_iconst X dL_law_2358 ?_
  refine kj_iadd X dL_law_2359 ?_
  refine kj_sld X S (knCw _) hs.1.2 hs.1.1 dL_law_2360 ?_
  obtain ⟨q4, h5, hf⟩ := knBd_inv hf
  refine kj_callV (As := [knV x1]) (rest := []) X K (kcX13_stakeShare l (knC_sx hs.1.2) h5) knWvX13_stakeShare (knGm 2037 (by decide +kernel) rfl) (by decide) (knKd_in kdc_142 (by decide)) (knEnt_10 kdc_142) rfl rfl rfl (Nat.le_of_ble_eq_true rfl) ⟨by omega, by omega⟩ dL_law_2361 rfl (fun h6 => ?_)
  refine kj_fstore X (L' := [(7, knVf q4.1), (6, knV q1.1), (0, Value.ref b), (1, knO G 0), (2, knO G 142), (3, knO G 159), (4, knO G 160), (5, knV i)]) dL_law_2364 (by decide) rfl ?_
  refine kj_aloadn X 4 dL_law_2366 rfl ?_
  obtain ⟨q7, h8, hf⟩ := knBd_inv hf
  refine kj_callV (As := []) (rest := []) X K (kcX13_thrown l  h8) knWvX13_thrown (knGm 1589 (by decide +kernel) rfl) (by decide) (knKd_in kdc_142 (by decide)) (knEnt_10 kdc_142) rfl rfl rfl (Nat.le_of_ble_eq_true rfl) ⟨by omega, by omega⟩ dL_law_2367 rfl (fun h9 => ?_)
  refine kj_iload X 1 dL_law_2370 rfl ?_
  refine kj_ic_eq X (tgt := 2377) dL_law_2372 (by decide) h9 h3 (fun h10 => ?_) (fun h10 => ?_)
  · replace hf := knIp hf h10
    refine kj_iload X 1 dL_law_2377 rfl ?_
    have j20 : (fun _ =>
     some q4.2) () = some q → knJ G p l e room_1 s m args below meth c 10 (cells + 2) (slots + 12) Q 2415 [(0, Value.ref b), (1, knO G 0), (2, knO G 142), (3, knO G 159), (4, knO G 160), (5, knV i)] [] q4.2 := by
      intro hf
      refine kj_goto X (tgt := 2804) dL_law_2415 (by decide) ?_
      cases hf
      refine kj_sub (L' := [(0, Value.ref b), (1, knO G 0), (2, knO G 142), (3, knO G 159), (4, knO G 160), (5, knV i)]) [0, 1, 2, 3, 4, 5] rfl ?_
      exact kj_wd (by omega) (by omega) kk
    refine kj_if_ne X (tgt := 2415) dL_law_2379 (by decide) h3 (fun h22 => ?_) (fun h22 => ?_)
    · replace hf := knIq hf h22
      refine kj_sub (L' := [(0, Value.ref b), (1, knO G 0), (2, knO G 142), (3, knO G 159), (4, knO G 160), (5, knV i)]) [2, 3, 4, 5, 6, 7] rfl ?_
      exact j20  hf
    · replace hf := knIp hf h22
      refine kj_aload X 6 dL_law_2382 rfl ?_
      refine kj_iconst X dL_law_2384 ?_
      refine kj_dald X K dL_law_2385 ?_
      refine kj_fload X 0 dL_law_2386 rfl ?_
      obtain ⟨h23, hf⟩ := knGd_inv hf
      refine kj_f2d X dL_law_2388 h23 ?_
      refine kj_dcmp X dL_law_2389 ?_
      refine kj_if_eq X (tgt := 2415) dL_law_2390 (by decide) (knCt _) (fun h24 => ?_) (fun h24 => ?_)
      · replace hf := knIp hf h24
        refine kj_sub (L' := [(0, Value.ref b), (1, knO G 0), (2, knO G 142), (3, knO G 159), (4, knO G 160), (5, knV i)]) [2, 3, 4, 5, 6, 7] rfl ?_
        exact j20  hf
      · replace hf := knIq hf h24
        refine kj_aload X 6 dL_law_2393 rfl ?_
        refine kj_iconst X dL_law_2395 ?_
        refine kj_dald X K dL_law_2396 ?_
        refine kj_aload X 6 dL_law_2397 rfl ?_
        refine kj_iconst X dL_law_2399 ?_
        refine kj_dald X K dL_law_2400 ?_
        refine kj_dcmp X dL_law_2401 ?_
        have j27 : (fun _ =>
         none) () = some q → knJ G p l e room_1 s m args below meth c 10 (cells + 2) (slots + 12) Q 2413 [] [] q4.2 := by
          intro hf
          refine kj_iconst X dL_law_2413 ?_
          cases hf
        refine kj_if_eq X (tgt := 2413) dL_law_2402 (by decide) (knCt _) (fun h29 => ?_) (fun h29 => ?_)
        · replace hf := knIp hf h29
          refine kj_sub (L' := []) [] rfl ?_
          exact j27  hf
        · replace hf := knIq hf h29
          refine kj_fload X 0 dL_law_2405 rfl ?_
          refine kj_fload X 0 dL_law_2407 rfl ?_
          refine kj_fcmp X dL_law_2409 ?_
          refine kj_if_ne X (tgt := 2415) dL_law_2410 (by decide) (knCt _) (fun h30 => ?_) (fun h30 => ?_)
          · replace hf := knIq hf h30
            refine kj_sub (L' := [(0, Value.ref b), (1, knO G 0), (2, knO G 142), (3, knO G 159), (4, knO G 160), (5, knV i)]) [2, 3, 4, 5, 6, 7] rfl ?_
            exact j20  hf
          · replace hf := knIp hf h30
            refine kj_sub (L' := []) [] rfl ?_
            exact j27  hf
  · replace hf := knIq hf h10
    refine kj_iconst X dL_law_2375 ?_
    cases hf

def kfLc_47 (x1 x2 x3 x4 : Int) (μ : knMem) : Option knMem :=
 Option.bind (kfX12_isConsistent  μ) (fun q1 =>
  Option.bind (kfX13_isConsistent  q1.2) (fun q4 =>
   if q1.1 = q4.1 then
    some q4.2
   else
    none))

set_option maxHeartbeats 4000000 in
set_option maxRecDepth 100000 in
theorem kcLc_47 {G : knGT} {p : Program} {l : Launch} {e : Env} {s : State} {m : MethodId} {args : Array Value} {below : List Frame} {meth : Method} {c : Code} {Q : State → Prop} {b N : Nat} {xs : Nat → Int32} (hl : l.stackTraces = false) (X : knX p m c code 10 s args RL) (K : knK G s s.heap) (S : knSc G b N xs s) {i x1 x2 x3 x4 : Int} (hi : knC i) (hs : knSi N xs i x1 x2 x3 x4) {cells slots : Nat} (hc9 : cells + 2 ≤ room_1.cells) (hs9 : slots + 12 ≤ room_1.slots) {μ q : knMem} (hf : kfLc_47 x1 x2 x3 x4 μ = some q)
  (kk : knJ G p l e room_1 s m args below meth c 10 (cells + 2) (slots + 12) Q 2804 [(0, Value.ref b), (1, knO G 0), (2, knO G 142), (3, knO G 159), (4, knO G 160), (5, knV i)] [] q) : knJ G p l e room_1 s m args below meth c 10 cells slots Q 2418 [(0, Value.ref b), (1, knO G 0), (2, knO G 142), (3, knO G 159), (4, knO G 160), (5, knV i)] [] μ := by
  unfold kfLc_47 at hf
  refine kj_aloadn X 1 dL_law_2418 rfl ?_
  obtain ⟨q1, h2, hf⟩ := knBd_inv hf
  refine kj_callV (As := []) (rest := []) X K (kcX12_isConsistent l  h2) knWvX12_isConsistent (knGm 796 (by decide +kernel) rfl) (by decide) (knKd_in kdc_0 (by decide)) (knEnt_9 kdc_0) rfl rfl rfl (Nat.le_of_ble_eq_true rfl) ⟨by omega, by omega⟩ dL_law_2419 rfl (fun h3 => ?_)
  refine kj_aloadn X 2 dL_law_2422 rfl ?_
  obtain ⟨q4, h5, hf⟩ := knBd_inv hf
  refine kj_callV (As := []) (rest := [knV q1.1]) X K (kcX13_isConsistent l  h5) knWvX13_isConsistent (knGm 2041 (by decide +kernel) rfl) (by decide) (knKd_in kdc_142 (by decide)) (knEnt_10 kdc_142) rfl rfl rfl (Nat.le_of_ble_eq_true rfl) ⟨by omega, by omega⟩ dL_law_2423 rfl (fun h6 => ?_)
  refine kj_ic_eq X (tgt := 2804) dL_law_2426 (by decide) (knZ_c h3) (knZ_c h6) (fun h7 => ?_) (fun h7 => ?_)
  · replace hf := knIp hf h7
    cases hf
    refine kj_sub (L' := [(0, Value.ref b), (1, knO G 0), (2, knO G 142), (3, knO G 159), (4, knO G 160), (5, knV i)]) [0, 1, 2, 3, 4, 5] rfl ?_
    exact kj_wd (by omega) (by omega) kk
  · replace hf := knIq hf h7
    refine kj_iconst X dL_law_2429 ?_
    cases hf

def kfLc_48 (x1 x2 x3 x4 : Int) (μ : knMem) : Option knMem :=
 Option.bind (kfX12_renderDiagram  μ) (fun q1 =>
  Option.bind (kfX13_renderDiagram  q1.2) (fun q4 =>
   if q1.1 = q4.1 then
    some q4.2
   else
    none))

set_option maxHeartbeats 4000000 in
set_option maxRecDepth 100000 in
theorem kcLc_48 {G : knGT} {p : Program} {l : Launch} {e : Env} {s : State} {m : MethodId} {args : Array Value} {below : List Frame} {meth : Method} {c : Code} {Q : State → Prop} {b N : Nat} {xs : Nat → Int32} (hl : l.stackTraces = false) (X : knX p m c code 10 s args RL) (K : knK G s s.heap) (S : knSc G b N xs s) {i x1 x2 x3 x4 : Int} (hi : knC i) (hs : knSi N xs i x1 x2 x3 x4) {cells slots : Nat} (hc9 : cells + 2 ≤ room_1.cells) (hs9 : slots + 12 ≤ room_1.slots) {μ q : knMem} (hf : kfLc_48 x1 x2 x3 x4 μ = some q)
  (kk : knJ G p l e room_1 s m args below meth c 10 (cells + 2) (slots + 12) Q 2804 [(0, Value.ref b), (1, knO G 0), (2, knO G 142), (3, knO G 159), (4, knO G 160), (5, knV i)] [] q) : knJ G p l e room_1 s m args below meth c 10 cells slots Q 2431 [(0, Value.ref b), (1, knO G 0), (2, knO G 142), (3, knO G 159), (4, knO G 160), (5, knV i)] [] μ := by
  unfold kfLc_48 at hf
  refine kj_aloadn X 1 dL_law_2431 rfl ?_
  obtain ⟨q1, h2, hf⟩ := knBd_inv hf
  refine kj_callV (As := []) (rest := []) X K (kcX12_renderDiagram l  h2) knWvX12_renderDiagram (knGm 874 (by decide +kernel) rfl) (by decide) (knKd_in kdc_0 (by decide)) (knEnt_9 kdc_0) rfl rfl rfl (Nat.le_of_ble_eq_true rfl) ⟨by omega, by omega⟩ dL_law_2432 rfl (fun h3 => ?_)
  refine kj_aloadn X 2 dL_law_2435 rfl ?_
  obtain ⟨q4, h5, hf⟩ := knBd_inv hf
  refine kj_callV (As := []) (rest := [knV q1.1]) X K (kcX13_renderDiagram l  h5) knWvX13_renderDiagram (knGm 2045 (by decide +kernel) rfl) (by decide) (knKd_in kdc_142 (by decide)) (knEnt_10 kdc_142) rfl rfl rfl (Nat.le_of_ble_eq_true rfl) ⟨by omega, by omega⟩ dL_law_2436 rfl (fun h6 => ?_)
  refine kj_ic_eq X (tgt := 2804) dL_law_2439 (by decide) h3 h6 (fun h7 => ?_) (fun h7 => ?_)
  · replace hf := knIp hf h7
    cases hf
    refine kj_sub (L' := [(0, Value.ref b), (1, knO G 0), (2, knO G 142), (3, knO G 159), (4, knO G 160), (5, knV i)]) [0, 1, 2, 3, 4, 5] rfl ?_
    exact kj_wd (by omega) (by omega) kk
  · replace hf := knIq hf h7
    refine kj_iconst X dL_law_2442 ?_
    cases hf

def kfLc_49 (x1 x2 x3 x4 : Int) (μ : knMem) : Option knMem :=
 Option.bind (kfX12_renderPolynomial  μ) (fun q1 =>
  Option.bind (kfX13_renderPolynomial  q1.2) (fun q4 =>
   if q1.1 = q4.1 then
    some q4.2
   else
    none))

set_option maxHeartbeats 4000000 in
set_option maxRecDepth 100000 in
theorem kcLc_49 {G : knGT} {p : Program} {l : Launch} {e : Env} {s : State} {m : MethodId} {args : Array Value} {below : List Frame} {meth : Method} {c : Code} {Q : State → Prop} {b N : Nat} {xs : Nat → Int32} (hl : l.stackTraces = false) (X : knX p m c code 10 s args RL) (K : knK G s s.heap) (S : knSc G b N xs s) {i x1 x2 x3 x4 : Int} (hi : knC i) (hs : knSi N xs i x1 x2 x3 x4) {cells slots : Nat} (hc9 : cells + 2 ≤ room_1.cells) (hs9 : slots + 12 ≤ room_1.slots) {μ q : knMem} (hf : kfLc_49 x1 x2 x3 x4 μ = some q)
  (kk : knJ G p l e room_1 s m args below meth c 10 (cells + 2) (slots + 12) Q 2804 [(0, Value.ref b), (1, knO G 0), (2, knO G 142), (3, knO G 159), (4, knO G 160), (5, knV i)] [] q) : knJ G p l e room_1 s m args below meth c 10 cells slots Q 2444 [(0, Value.ref b), (1, knO G 0), (2, knO G 142), (3, knO G 159), (4, knO G 160), (5, knV i)] [] μ := by
  unfold kfLc_49 at hf
  refine kj_aloadn X 1 dL_law_2444 rfl ?_
  obtain ⟨q1, h2, hf⟩ := knBd_inv hf
  refine kj_callV (As := []) (rest := []) X K (kcX12_renderPolynomial l  h2) knWvX12_renderPolynomial (knGm 906 (by decide +kernel) rfl) (by decide) (knKd_in kdc_0 (by decide)) (knEnt_9 kdc_0) rfl rfl rfl (Nat.le_of_ble_eq_true rfl) ⟨by omega, by omega⟩ dL_law_2445 rfl (fun h3 => ?_)
  refine kj_aloadn X 2 dL_law_2448 rfl ?_
  obtain ⟨q4, h5, hf⟩ := knBd_inv hf
  refine kj_callV (As := []) (rest := [knV q1.1]) X K (kcX13_renderPolynomial l  h5) knWvX13_renderPolynomial (knGm 2057 (by decide +kernel) rfl) (by decide) (knKd_in kdc_142 (by decide)) (knEnt_10 kdc_142) rfl rfl rfl (Nat.le_of_ble_eq_true rfl) ⟨by omega, by omega⟩ dL_law_2449 rfl (fun h6 => ?_)
  refine kj_ic_eq X (tgt := 2804) dL_law_2452 (by decide) h3 h6 (fun h7 => ?_) (fun h7 => ?_)
  · replace hf := knIp hf h7
    cases hf
    refine kj_sub (L' := [(0, Value.ref b), (1, knO G 0), (2, knO G 142), (3, knO G 159), (4, knO G 160), (5, knV i)]) [0, 1, 2, 3, 4, 5] rfl ?_
    exact kj_wd (by omega) (by omega) kk
  · replace hf := knIq hf h7
    refine kj_iconst X dL_law_2455 ?_
    cases hf

def kfLc_50 (x1 x2 x3 x4 : Int) (μ : knMem) : Option knMem :=
 Option.bind (kfL_outputAt x1 μ) (fun q1 =>
  Option.bind (kfX13_outputAt x1 q1.2) (fun q4 =>
   Option.bind (kfX13_thrown  q4.2) (fun q7 =>
    if q7 = q1.1 then
     (fun (k14 : (Unit) → Option (knMem)) =>
      if q1.1 = 0 then
       if (knLcmp (q4.2 159 0) q4.1) = 0 then
        k14 ()
       else
        none
      else
       k14 ())
      (fun _ =>
      some q4.2)
    else
     none)))

set_option maxHeartbeats 4000000 in
set_option maxRecDepth 100000 in
theorem kcLc_50 {G : knGT} {p : Program} {l : Launch} {e : Env} {s : State} {m : MethodId} {args : Array Value} {below : List Frame} {meth : Method} {c : Code} {Q : State → Prop} {b N : Nat} {xs : Nat → Int32} (hl : l.stackTraces = false) (X : knX p m c code 10 s args RL) (K : knK G s s.heap) (S : knSc G b N xs s) {i x1 x2 x3 x4 : Int} (hi : knC i) (hs : knSi N xs i x1 x2 x3 x4) {cells slots : Nat} (hc9 : cells + 2 ≤ room_1.cells) (hs9 : slots + 12 ≤ room_1.slots) {μ q : knMem} (hf : kfLc_50 x1 x2 x3 x4 μ = some q)
  (kk : knJ G p l e room_1 s m args below meth c 10 (cells + 2) (slots + 12) Q 2804 [(0, Value.ref b), (1, knO G 0), (2, knO G 142), (3, knO G 159), (4, knO G 160), (5, knV i)] [] q) : knJ G p l e room_1 s m args below meth c 10 cells slots Q 2457 [(0, Value.ref b), (1, knO G 0), (2, knO G 142), (3, knO G 159), (4, knO G 160), (5, knV i)] [] μ := by
  unfold kfLc_50 at hf
  refine kj_aloadn X 1 dL_law_2457 rfl ?_
  refine kj_aloadn X 0 dL_law_2458 rfl ?_
  refine kj_iload X 5 dL_law_2459 rfl ?_
  refine kj_iconst X dL_law_2461 ?_
  refine kj_iadd X dL_law_2462 ?_
  refine kj_sld X S (knCw _) hs.1.2 hs.1.1 dL_law_2463 ?_
  refine kj_aloadn X 3 dL_law_2464 rfl ?_
  obtain ⟨q1, h2, hf⟩ := knBd_inv hf
  refine kj_callSH (As := [knO G 0, knV x1, knO G 159]) (rest := []) X K (kcL_outputAt l hl (knC_sx hs.1.2) h2) knWhL_outputAt (knGm 1295 (by decide +kernel) rfl) (by decide) rfl (Nat.le_of_ble_eq_true rfl) ⟨by omega, by omega⟩ dL_law_2465 rfl (fun h3 => ?_)
  refine kj_istore X (L' := [(6, knV q1.1), (0, Value.ref b), (1, knO G 0), (2, knO G 142), (3, knO G 159), (4, knO G 160), (5, knV i)]) dL_law_2468 (by decide) rfl ?_
  refine kj_aloadn X 3 dL_law_2470 rfl ?_
  refine kj_aloadn X 1 dL_law_2471 rfl ?_
  refine kj_iload X 6 dL_law_2472 rfl ?_
  refine kj_iconst X dL_law_2474 ?_
  refine kj_iadd X dL_law_2475 ?_
  refine kj_sld X S (knCw _) hs.1.2 hs.1.1 dL_law_2476 ?_
  obtain ⟨q4, h5, hf⟩ := knBd_inv hf
  refine kj_callV (As := [knV x1]) (rest := []) X K (kcX13_outputAt l (knC_sx hs.1.2) h5) knWvX13_outputAt (knGm 2061 (by decide +kernel) rfl) (by decide) (knKd_in kdc_142 (by decide)) (knEnt_10 kdc_142) rfl rfl rfl (Nat.le_of_ble_eq_true rfl) ⟨by omega, by omega⟩ dL_law_2477 rfl (fun h6 => ?_)
  refine kj_istore X (L' := [(7, knV q4.1), (6, knV q1.1), (0, Value.ref b), (1, knO G 0), (2, knO G 142), (3, knO G 159), (4, knO G 160), (5, knV i)]) dL_law_2480 (by decide) rfl ?_
  refine kj_aloadn X 4 dL_law_2482 rfl ?_
  obtain ⟨q7, h8, hf⟩ := knBd_inv hf
  refine kj_callV (As := []) (rest := []) X K (kcX13_thrown l  h8) knWvX13_thrown (knGm 1589 (by decide +kernel) rfl) (by decide) (knKd_in kdc_142 (by decide)) (knEnt_10 kdc_142) rfl rfl rfl (Nat.le_of_ble_eq_true rfl) ⟨by omega, by omega⟩ dL_law_2483 rfl (fun h9 => ?_)
  refine kj_iload X 1 dL_law_2486 rfl ?_
  refine kj_ic_eq X (tgt := 2493) dL_law_2488 (by decide) h9 h3 (fun h10 => ?_) (fun h10 => ?_)
  · replace hf := knIp hf h10
    refine kj_iload X 1 dL_law_2493 rfl ?_
    have j14 : (fun _ =>
     some q4.2) () = some q → knJ G p l e room_1 s m args below meth c 10 (cells + 1) (slots + 6) Q 2510 [(0, Value.ref b), (1, knO G 0), (2, knO G 142), (3, knO G 159), (4, knO G 160), (5, knV i)] [] q4.2 := by
      intro hf
      refine kj_goto X (tgt := 2804) dL_law_2510 (by decide) ?_
      cases hf
      refine kj_sub (L' := [(0, Value.ref b), (1, knO G 0), (2, knO G 142), (3, knO G 159), (4, knO G 160), (5, knV i)]) [0, 1, 2, 3, 4, 5] rfl ?_
      exact kj_wd (by omega) (by omega) kk
    refine kj_if_ne X (tgt := 2510) dL_law_2495 (by decide) h3 (fun h16 => ?_) (fun h16 => ?_)
    · replace hf := knIq hf h16
      refine kj_sub (L' := [(0, Value.ref b), (1, knO G 0), (2, knO G 142), (3, knO G 159), (4, knO G 160), (5, knV i)]) [2, 3, 4, 5, 6, 7] rfl ?_
      exact j14  hf
    · replace hf := knIp hf h16
      refine kj_aloadn X 5 dL_law_2498 rfl ?_
      refine kj_iconst X dL_law_2499 ?_
      refine kj_lald X K dL_law_2500 (fun h17 => ?_)
      refine kj_iload X 0 dL_law_2501 rfl ?_
      refine kj_i2l X dL_law_2503 (knH_c h6) ?_
      refine kj_lcmp X dL_law_2504 h17 (knH_c h6) ?_
      refine kj_if_eq X (tgt := 2510) dL_law_2505 (by decide) (knC_lcmp _ _) (fun h18 => ?_) (fun h18 => ?_)
      · replace hf := knIp hf h18
        refine kj_sub (L' := [(0, Value.ref b), (1, knO G 0), (2, knO G 142), (3, knO G 159), (4, knO G 160), (5, knV i)]) [2, 3, 4, 5, 6, 7] rfl ?_
        exact j14  hf
      · replace hf := knIq hf h18
        refine kj_iconst X dL_law_2508 ?_
        cases hf
  · replace hf := knIq hf h10
    refine kj_iconst X dL_law_2491 ?_
    cases hf

def kfLc_51 (x1 x2 x3 x4 : Int) (μ : knMem) : Option knMem :=
 Option.bind (kfL_type (knI2c x1) μ) (fun q1 =>
  Option.bind (kfX13_type (knI2c x1) q1.2) (fun q4 =>
   Option.bind (kfX13_thrown  q4.2) (fun q7 =>
    if q7 = q1.1 then
     (fun (k14 : (Unit) → Option (knMem)) =>
      if q1.1 = 0 then
       if (knLcmp (q4.2 159 0) q4.1) = 0 then
        k14 ()
       else
        none
      else
       k14 ())
      (fun _ =>
      some q4.2)
    else
     none)))

set_option maxHeartbeats 4000000 in
set_option maxRecDepth 100000 in
theorem kcLc_51 {G : knGT} {p : Program} {l : Launch} {e : Env} {s : State} {m : MethodId} {args : Array Value} {below : List Frame} {meth : Method} {c : Code} {Q : State → Prop} {b N : Nat} {xs : Nat → Int32} (hl : l.stackTraces = false) (X : knX p m c code 10 s args RL) (K : knK G s s.heap) (S : knSc G b N xs s) {i x1 x2 x3 x4 : Int} (hi : knC i) (hs : knSi N xs i x1 x2 x3 x4) {cells slots : Nat} (hc9 : cells + 2 ≤ room_1.cells) (hs9 : slots + 12 ≤ room_1.slots) {μ q : knMem} (hf : kfLc_51 x1 x2 x3 x4 μ = some q)
  (kk : knJ G p l e room_1 s m args below meth c 10 (cells + 2) (slots + 12) Q 2804 [(0, Value.ref b), (1, knO G 0), (2, knO G 142), (3, knO G 159), (4, knO G 160), (5, knV i)] [] q) : knJ G p l e room_1 s m args below meth c 10 cells slots Q 2513 [(0, Value.ref b), (1, knO G 0), (2, knO G 142), (3, knO G 159), (4, knO G 160), (5, knV i)] [] μ := by
  unfold kfLc_51 at hf
  refine kj_aloadn X 1 dL_law_2513 rfl ?_
  refine kj_aloadn X 0 dL_law_2514 rfl ?_
  refine kj_iload X 5 dL_law_2515 rfl ?_
  refine kj_iconst X dL_law_2517 ?_
  refine kj_iadd X dL_law_2518 ?_
  refine kj_sld X S (knCw _) hs.1.2 hs.1.1 dL_law_2519 ?_
  refine kj_i2c X dL_law_2520 ?_
  refine kj_aloadn X 3 dL_law_2521 rfl ?_
  obtain ⟨q1, h2, hf⟩ := knBd_inv hf
  refine kj_callSH (As := [knO G 0, knV (knI2c x1), knO G 159]) (rest := []) X K (kcL_type l hl (knH_i2c _) h2) knWhL_type (knGm 1303 (by decide +kernel) rfl) (by decide) rfl (Nat.le_of_ble_eq_true rfl) ⟨by omega, by omega⟩ dL_law_2522 rfl (fun h3 => ?_)
  refine kj_istore X (L' := [(6, knV q1.1), (0, Value.ref b), (1, knO G 0), (2, knO G 142), (3, knO G 159), (4, knO G 160), (5, knV i)]) dL_law_2525 (by decide) rfl ?_
  refine kj_aloadn X 3 dL_law_2527 rfl ?_
  refine kj_aloadn X 1 dL_law_2528 rfl ?_
  refine kj_iload X 6 dL_law_2529 rfl ?_
  refine kj_iconst X dL_law_2531 ?_
  refine kj_iadd X dL_law_2532 ?_
  refine kj_sld X S (knCw _) hs.1.2 hs.1.1 dL_law_2533 ?_
  refine kj_i2c X dL_law_2534 ?_
  obtain ⟨q4, h5, hf⟩ := knBd_inv hf
  refine kj_callV (As := [knV (knI2c x1)]) (rest := []) X K (kcX13_type l (knH_i2c _) h5) knWvX13_type (knGm 2065 (by decide +kernel) rfl) (by decide) (knKd_in kdc_142 (by decide)) (knEnt_10 kdc_142) rfl rfl rfl (Nat.le_of_ble_eq_true rfl) ⟨by omega, by omega⟩ dL_law_2535 rfl (fun h6 => ?_)
  refine kj_istore X (L' := [(7, knV q4.1), (6, knV q1.1), (0, Value.ref b), (1, knO G 0), (2, knO G 142), (3, knO G 159), (4, knO G 160), (5, knV i)]) dL_law_2538 (by decide) rfl ?_
  refine kj_aloadn X 4 dL_law_2540 rfl ?_
  obtain ⟨q7, h8, hf⟩ := knBd_inv hf
  refine kj_callV (As := []) (rest := []) X K (kcX13_thrown l  h8) knWvX13_thrown (knGm 1589 (by decide +kernel) rfl) (by decide) (knKd_in kdc_142 (by decide)) (knEnt_10 kdc_142) rfl rfl rfl (Nat.le_of_ble_eq_true rfl) ⟨by omega, by omega⟩ dL_law_2541 rfl (fun h9 => ?_)
  refine kj_iload X 1 dL_law_2544 rfl ?_
  refine kj_ic_eq X (tgt := 2551) dL_law_2546 (by decide) h9 h3 (fun h10 => ?_) (fun h10 => ?_)
  · replace hf := knIp hf h10
    refine kj_iload X 1 dL_law_2551 rfl ?_
    have j14 : (fun _ =>
     some q4.2) () = some q → knJ G p l e room_1 s m args below meth c 10 (cells + 1) (slots + 6) Q 2568 [(0, Value.ref b), (1, knO G 0), (2, knO G 142), (3, knO G 159), (4, knO G 160), (5, knV i)] [] q4.2 := by
      intro hf
      refine kj_goto X (tgt := 2804) dL_law_2568 (by decide) ?_
      cases hf
      refine kj_sub (L' := [(0, Value.ref b), (1, knO G 0), (2, knO G 142), (3, knO G 159), (4, knO G 160), (5, knV i)]) [0, 1, 2, 3, 4, 5] rfl ?_
      exact kj_wd (by omega) (by omega) kk
    refine kj_if_ne X (tgt := 2568) dL_law_2553 (by decide) h3 (fun h16 => ?_) (fun h16 => ?_)
    · replace hf := knIq hf h16
      refine kj_sub (L' := [(0, Value.ref b), (1, knO G 0), (2, knO G 142), (3, knO G 159), (4, knO G 160), (5, knV i)]) [2, 3, 4, 5, 6, 7] rfl ?_
      exact j14  hf
    · replace hf := knIp hf h16
      refine kj_aloadn X 5 dL_law_2556 rfl ?_
      refine kj_iconst X dL_law_2557 ?_
      refine kj_lald X K dL_law_2558 (fun h17 => ?_)
      refine kj_iload X 0 dL_law_2559 rfl ?_
      refine kj_i2l X dL_law_2561 h6 ?_
      refine kj_lcmp X dL_law_2562 h17 h6 ?_
      refine kj_if_eq X (tgt := 2568) dL_law_2563 (by decide) (knC_lcmp _ _) (fun h18 => ?_) (fun h18 => ?_)
      · replace hf := knIp hf h18
        refine kj_sub (L' := [(0, Value.ref b), (1, knO G 0), (2, knO G 142), (3, knO G 159), (4, knO G 160), (5, knV i)]) [2, 3, 4, 5, 6, 7] rfl ?_
        exact j14  hf
      · replace hf := knIq hf h18
        refine kj_iconst X dL_law_2566 ?_
        cases hf
  · replace hf := knIq hf h10
    refine kj_iconst X dL_law_2549 ?_
    cases hf

def kfLc_52 (x1 x2 x3 x4 : Int) (μ : knMem) : Option knMem :=
 Option.bind (kfL_runScript  μ) (fun q1 =>
  Option.bind (kfX13_runScript  q1.2) (fun q4 =>
   Option.bind (kfX13_thrown  q4.2) (fun q7 =>
    if q7 = q1.1 then
     (fun (k14 : (Unit) → Option (knMem)) =>
      if q1.1 = 0 then
       if (knLcmp (q4.2 159 0) q4.1) = 0 then
        k14 ()
       else
        none
      else
       k14 ())
      (fun _ =>
      some q4.2)
    else
     none)))

set_option maxHeartbeats 4000000 in
set_option maxRecDepth 100000 in
theorem kcLc_52 {G : knGT} {p : Program} {l : Launch} {e : Env} {s : State} {m : MethodId} {args : Array Value} {below : List Frame} {meth : Method} {c : Code} {Q : State → Prop} {b N : Nat} {xs : Nat → Int32} (hl : l.stackTraces = false) (X : knX p m c code 10 s args RL) (K : knK G s s.heap) (S : knSc G b N xs s) {i x1 x2 x3 x4 : Int} (hi : knC i) (hs : knSi N xs i x1 x2 x3 x4) {cells slots : Nat} (hc9 : cells + 2 ≤ room_1.cells) (hs9 : slots + 12 ≤ room_1.slots) {μ q : knMem} (hf : kfLc_52 x1 x2 x3 x4 μ = some q)
  (kk : knJ G p l e room_1 s m args below meth c 10 (cells + 2) (slots + 12) Q 2804 [(0, Value.ref b), (1, knO G 0), (2, knO G 142), (3, knO G 159), (4, knO G 160), (5, knV i)] [] q) : knJ G p l e room_1 s m args below meth c 10 cells slots Q 2571 [(0, Value.ref b), (1, knO G 0), (2, knO G 142), (3, knO G 159), (4, knO G 160), (5, knV i)] [] μ := by
  unfold kfLc_52 at hf
  refine kj_aloadn X 1 dL_law_2571 rfl ?_
  refine kj_aloadn X 3 dL_law_2572 rfl ?_
  obtain ⟨q1, h2, hf⟩ := knBd_inv hf
  refine kj_callSH (As := [knO G 0, knO G 159]) (rest := []) X K (kcL_runScript l hl  h2) knWhL_runScript (knGm 1316 (by decide +kernel) rfl) (by decide) rfl (Nat.le_of_ble_eq_true rfl) ⟨by omega, by omega⟩ dL_law_2573 rfl (fun h3 => ?_)
  refine kj_istore X (L' := [(6, knV q1.1), (0, Value.ref b), (1, knO G 0), (2, knO G 142), (3, knO G 159), (4, knO G 160), (5, knV i)]) dL_law_2576 (by decide) rfl ?_
  refine kj_aloadn X 3 dL_law_2578 rfl ?_
  obtain ⟨q4, h5, hf⟩ := knBd_inv hf
  refine kj_callV (As := []) (rest := []) X K (kcX13_runScript l  h5) knWvX13_runScript (knGm 2069 (by decide +kernel) rfl) (by decide) (knKd_in kdc_142 (by decide)) (knEnt_10 kdc_142) rfl rfl rfl (Nat.le_of_ble_eq_true rfl) ⟨by omega, by omega⟩ dL_law_2579 rfl (fun h6 => ?_)
  refine kj_istore X (L' := [(7, knV q4.1), (6, knV q1.1), (0, Value.ref b), (1, knO G 0), (2, knO G 142), (3, knO G 159), (4, knO G 160), (5, knV i)]) dL_law_2582 (by decide) rfl ?_
  refine kj_aloadn X 4 dL_law_2584 rfl ?_
  obtain ⟨q7, h8, hf⟩ := knBd_inv hf
  refine kj_callV (As := []) (rest := []) X K (kcX13_thrown l  h8) knWvX13_thrown (knGm 1589 (by decide +kernel) rfl) (by decide) (knKd_in kdc_142 (by decide)) (knEnt_10 kdc_142) rfl rfl rfl (Nat.le_of_ble_eq_true rfl) ⟨by omega, by omega⟩ dL_law_2585 rfl (fun h9 => ?_)
  refine kj_iload X 1 dL_law_2588 rfl ?_
  refine kj_ic_eq X (tgt := 2595) dL_law_2590 (by decide) h9 h3 (fun h10 => ?_) (fun h10 => ?_)
  · replace hf := knIp hf h10
    refine kj_iload X 1 dL_law_2595 rfl ?_
    have j14 : (fun _ =>
     some q4.2) () = some q → knJ G p l e room_1 s m args below meth c 10 (cells + 1) (slots + 6) Q 2612 [(0, Value.ref b), (1, knO G 0), (2, knO G 142), (3, knO G 159), (4, knO G 160), (5, knV i)] [] q4.2 := by
      intro hf
      refine kj_goto X (tgt := 2804) dL_law_2612 (by decide) ?_
      cases hf
      refine kj_sub (L' := [(0, Value.ref b), (1, knO G 0), (2, knO G 142), (3, knO G 159), (4, knO G 160), (5, knV i)]) [0, 1, 2, 3, 4, 5] rfl ?_
      exact kj_wd (by omega) (by omega) kk
    refine kj_if_ne X (tgt := 2612) dL_law_2597 (by decide) h3 (fun h16 => ?_) (fun h16 => ?_)
    · replace hf := knIq hf h16
      refine kj_sub (L' := [(0, Value.ref b), (1, knO G 0), (2, knO G 142), (3, knO G 159), (4, knO G 160), (5, knV i)]) [2, 3, 4, 5, 6, 7] rfl ?_
      exact j14  hf
    · replace hf := knIp hf h16
      refine kj_aloadn X 5 dL_law_2600 rfl ?_
      refine kj_iconst X dL_law_2601 ?_
      refine kj_lald X K dL_law_2602 (fun h17 => ?_)
      refine kj_iload X 0 dL_law_2603 rfl ?_
      refine kj_i2l X dL_law_2605 h6 ?_
      refine kj_lcmp X dL_law_2606 h17 h6 ?_
      refine kj_if_eq X (tgt := 2612) dL_law_2607 (by decide) (knC_lcmp _ _) (fun h18 => ?_) (fun h18 => ?_)
      · replace hf := knIp hf h18
        refine kj_sub (L' := [(0, Value.ref b), (1, knO G 0), (2, knO G 142), (3, knO G 159), (4, knO G 160), (5, knV i)]) [2, 3, 4, 5, 6, 7] rfl ?_
        exact j14  hf
      · replace hf := knIq hf h18
        refine kj_iconst X dL_law_2610 ?_
        cases hf
  · replace hf := knIq hf h10
    refine kj_iconst X dL_law_2593 ?_
    cases hf

def kfLc_53 (x1 x2 x3 x4 : Int) (μ : knMem) : Option knMem :=
 Option.bind (kfL_errorPosition  μ) (fun q1 =>
  Option.bind (kfX13_errorPosition  q1.2) (fun q4 =>
   Option.bind (kfX13_thrown  q4.2) (fun q7 =>
    if q7 = q1.1 then
     (fun (k14 : (Unit) → Option (knMem)) =>
      if q1.1 = 0 then
       if (knLcmp (q4.2 159 0) q4.1) = 0 then
        k14 ()
       else
        none
      else
       k14 ())
      (fun _ =>
      some q4.2)
    else
     none)))

set_option maxHeartbeats 4000000 in
set_option maxRecDepth 100000 in
theorem kcLc_53 {G : knGT} {p : Program} {l : Launch} {e : Env} {s : State} {m : MethodId} {args : Array Value} {below : List Frame} {meth : Method} {c : Code} {Q : State → Prop} {b N : Nat} {xs : Nat → Int32} (hl : l.stackTraces = false) (X : knX p m c code 10 s args RL) (K : knK G s s.heap) (S : knSc G b N xs s) {i x1 x2 x3 x4 : Int} (hi : knC i) (hs : knSi N xs i x1 x2 x3 x4) {cells slots : Nat} (hc9 : cells + 2 ≤ room_1.cells) (hs9 : slots + 12 ≤ room_1.slots) {μ q : knMem} (hf : kfLc_53 x1 x2 x3 x4 μ = some q)
  (kk : knJ G p l e room_1 s m args below meth c 10 (cells + 2) (slots + 12) Q 2804 [(0, Value.ref b), (1, knO G 0), (2, knO G 142), (3, knO G 159), (4, knO G 160), (5, knV i)] [] q) : knJ G p l e room_1 s m args below meth c 10 cells slots Q 2615 [(0, Value.ref b), (1, knO G 0), (2, knO G 142), (3, knO G 159), (4, knO G 160), (5, knV i)] [] μ := by
  unfold kfLc_53 at hf
  refine kj_aloadn X 1 dL_law_2615 rfl ?_
  refine kj_aloadn X 3 dL_law_2616 rfl ?_
  obtain ⟨q1, h2, hf⟩ := knBd_inv hf
  refine kj_callSH (As := [knO G 0, knO G 159]) (rest := []) X K (kcL_errorPosition l hl  h2) knWhL_errorPosition (knGm 1457 (by decide +kernel) rfl) (by decide) rfl (Nat.le_of_ble_eq_true rfl) ⟨by omega, by omega⟩ dL_law_2617 rfl (fun h3 => ?_)
  refine kj_istore X (L' := [(6, knV q1.1), (0, Value.ref b), (1, knO G 0), (2, knO G 142), (3, knO G 159), (4, knO G 160), (5, knV i)]) dL_law_2620 (by decide) rfl ?_
  refine kj_aloadn X 3 dL_law_2622 rfl ?_
  obtain ⟨q4, h5, hf⟩ := knBd_inv hf
  refine kj_callV (As := []) (rest := []) X K (kcX13_errorPosition l  h5) knWvX13_errorPosition (knGm 2133 (by decide +kernel) rfl) (by decide) (knKd_in kdc_142 (by decide)) (knEnt_10 kdc_142) rfl rfl rfl (Nat.le_of_ble_eq_true rfl) ⟨by omega, by omega⟩ dL_law_2623 rfl (fun h6 => ?_)
  refine kj_istore X (L' := [(7, knV q4.1), (6, knV q1.1), (0, Value.ref b), (1, knO G 0), (2, knO G 142), (3, knO G 159), (4, knO G 160), (5, knV i)]) dL_law_2626 (by decide) rfl ?_
  refine kj_aloadn X 4 dL_law_2628 rfl ?_
  obtain ⟨q7, h8, hf⟩ := knBd_inv hf
  refine kj_callV (As := []) (rest := []) X K (kcX13_thrown l  h8) knWvX13_thrown (knGm 1589 (by decide +kernel) rfl) (by decide) (knKd_in kdc_142 (by decide)) (knEnt_10 kdc_142) rfl rfl rfl (Nat.le_of_ble_eq_true rfl) ⟨by omega, by omega⟩ dL_law_2629 rfl (fun h9 => ?_)
  refine kj_iload X 1 dL_law_2632 rfl ?_
  refine kj_ic_eq X (tgt := 2639) dL_law_2634 (by decide) h9 h3 (fun h10 => ?_) (fun h10 => ?_)
  · replace hf := knIp hf h10
    refine kj_iload X 1 dL_law_2639 rfl ?_
    have j14 : (fun _ =>
     some q4.2) () = some q → knJ G p l e room_1 s m args below meth c 10 (cells + 1) (slots + 6) Q 2656 [(0, Value.ref b), (1, knO G 0), (2, knO G 142), (3, knO G 159), (4, knO G 160), (5, knV i)] [] q4.2 := by
      intro hf
      refine kj_goto X (tgt := 2804) dL_law_2656 (by decide) ?_
      cases hf
      refine kj_sub (L' := [(0, Value.ref b), (1, knO G 0), (2, knO G 142), (3, knO G 159), (4, knO G 160), (5, knV i)]) [0, 1, 2, 3, 4, 5] rfl ?_
      exact kj_wd (by omega) (by omega) kk
    refine kj_if_ne X (tgt := 2656) dL_law_2641 (by decide) h3 (fun h16 => ?_) (fun h16 => ?_)
    · replace hf := knIq hf h16
      refine kj_sub (L' := [(0, Value.ref b), (1, knO G 0), (2, knO G 142), (3, knO G 159), (4, knO G 160), (5, knV i)]) [2, 3, 4, 5, 6, 7] rfl ?_
      exact j14  hf
    · replace hf := knIp hf h16
      refine kj_aloadn X 5 dL_law_2644 rfl ?_
      refine kj_iconst X dL_law_2645 ?_
      refine kj_lald X K dL_law_2646 (fun h17 => ?_)
      refine kj_iload X 0 dL_law_2647 rfl ?_
      refine kj_i2l X dL_law_2649 h6 ?_
      refine kj_lcmp X dL_law_2650 h17 h6 ?_
      refine kj_if_eq X (tgt := 2656) dL_law_2651 (by decide) (knC_lcmp _ _) (fun h18 => ?_) (fun h18 => ?_)
      · replace hf := knIp hf h18
        refine kj_sub (L' := [(0, Value.ref b), (1, knO G 0), (2, knO G 142), (3, knO G 159), (4, knO G 160), (5, knV i)]) [2, 3, 4, 5, 6, 7] rfl ?_
        exact j14  hf
      · replace hf := knIq hf h18
        refine kj_iconst X dL_law_2654 ?_
        cases hf
  · replace hf := knIq hf h10
    refine kj_iconst X dL_law_2637 ?_
    cases hf

def kfLc_54 (x1 x2 x3 x4 : Int) (μ : knMem) : Option knMem :=
 Option.bind (kfL_failedCommand  μ) (fun q1 =>
  Option.bind (kfX13_failedCommand  q1.2) (fun q4 =>
   Option.bind (kfX13_thrown  q4.2) (fun q7 =>
    if q7 = q1.1 then
     (fun (k14 : (Unit) → Option (knMem)) =>
      if q1.1 = 0 then
       if (knLcmp (q4.2 159 0) q4.1) = 0 then
        k14 ()
       else
        none
      else
       k14 ())
      (fun _ =>
      some q4.2)
    else
     none)))

set_option maxHeartbeats 4000000 in
set_option maxRecDepth 100000 in
theorem kcLc_54 {G : knGT} {p : Program} {l : Launch} {e : Env} {s : State} {m : MethodId} {args : Array Value} {below : List Frame} {meth : Method} {c : Code} {Q : State → Prop} {b N : Nat} {xs : Nat → Int32} (hl : l.stackTraces = false) (X : knX p m c code 10 s args RL) (K : knK G s s.heap) (S : knSc G b N xs s) {i x1 x2 x3 x4 : Int} (hi : knC i) (hs : knSi N xs i x1 x2 x3 x4) {cells slots : Nat} (hc9 : cells + 2 ≤ room_1.cells) (hs9 : slots + 12 ≤ room_1.slots) {μ q : knMem} (hf : kfLc_54 x1 x2 x3 x4 μ = some q)
  (kk : knJ G p l e room_1 s m args below meth c 10 (cells + 2) (slots + 12) Q 2804 [(0, Value.ref b), (1, knO G 0), (2, knO G 142), (3, knO G 159), (4, knO G 160), (5, knV i)] [] q) : knJ G p l e room_1 s m args below meth c 10 cells slots Q 2659 [(0, Value.ref b), (1, knO G 0), (2, knO G 142), (3, knO G 159), (4, knO G 160), (5, knV i)] [] μ := by
  unfold kfLc_54 at hf
  refine kj_aloadn X 1 dL_law_2659 rfl ?_
  refine kj_aloadn X 3 dL_law_2660 rfl ?_
  obtain ⟨q1, h2, hf⟩ := knBd_inv hf
  refine kj_callSH (As := [knO G 0, knO G 159]) (rest := []) X K (kcL_failedCommand l hl  h2) knWhL_failedCommand (knGm 1465 (by decide +kernel) rfl) (by decide) rfl (Nat.le_of_ble_eq_true rfl) ⟨by omega, by omega⟩ dL_law_2661 rfl (fun h3 => ?_)
  refine kj_istore X (L' := [(6, knV q1.1), (0, Value.ref b), (1, knO G 0), (2, knO G 142), (3, knO G 159), (4, knO G 160), (5, knV i)]) dL_law_2664 (by decide) rfl ?_
  refine kj_aloadn X 3 dL_law_2666 rfl ?_
  obtain ⟨q4, h5, hf⟩ := knBd_inv hf
  refine kj_callV (As := []) (rest := []) X K (kcX13_failedCommand l  h5) knWvX13_failedCommand (knGm 2137 (by decide +kernel) rfl) (by decide) (knKd_in kdc_142 (by decide)) (knEnt_10 kdc_142) rfl rfl rfl (Nat.le_of_ble_eq_true rfl) ⟨by omega, by omega⟩ dL_law_2667 rfl (fun h6 => ?_)
  refine kj_istore X (L' := [(7, knV q4.1), (6, knV q1.1), (0, Value.ref b), (1, knO G 0), (2, knO G 142), (3, knO G 159), (4, knO G 160), (5, knV i)]) dL_law_2670 (by decide) rfl ?_
  refine kj_aloadn X 4 dL_law_2672 rfl ?_
  obtain ⟨q7, h8, hf⟩ := knBd_inv hf
  refine kj_callV (As := []) (rest := []) X K (kcX13_thrown l  h8) knWvX13_thrown (knGm 1589 (by decide +kernel) rfl) (by decide) (knKd_in kdc_142 (by decide)) (knEnt_10 kdc_142) rfl rfl rfl (Nat.le_of_ble_eq_true rfl) ⟨by omega, by omega⟩ dL_law_2673 rfl (fun h9 => ?_)
  refine kj_iload X 1 dL_law_2676 rfl ?_
  refine kj_ic_eq X (tgt := 2683) dL_law_2678 (by decide) h9 h3 (fun h10 => ?_) (fun h10 => ?_)
  · replace hf := knIp hf h10
    refine kj_iload X 1 dL_law_2683 rfl ?_
    have j14 : (fun _ =>
     some q4.2) () = some q → knJ G p l e room_1 s m args below meth c 10 (cells + 1) (slots + 6) Q 2700 [(0, Value.ref b), (1, knO G 0), (2, knO G 142), (3, knO G 159), (4, knO G 160), (5, knV i)] [] q4.2 := by
      intro hf
      refine kj_goto X (tgt := 2804) dL_law_2700 (by decide) ?_
      cases hf
      refine kj_sub (L' := [(0, Value.ref b), (1, knO G 0), (2, knO G 142), (3, knO G 159), (4, knO G 160), (5, knV i)]) [0, 1, 2, 3, 4, 5] rfl ?_
      exact kj_wd (by omega) (by omega) kk
    refine kj_if_ne X (tgt := 2700) dL_law_2685 (by decide) h3 (fun h16 => ?_) (fun h16 => ?_)
    · replace hf := knIq hf h16
      refine kj_sub (L' := [(0, Value.ref b), (1, knO G 0), (2, knO G 142), (3, knO G 159), (4, knO G 160), (5, knV i)]) [2, 3, 4, 5, 6, 7] rfl ?_
      exact j14  hf
    · replace hf := knIp hf h16
      refine kj_aloadn X 5 dL_law_2688 rfl ?_
      refine kj_iconst X dL_law_2689 ?_
      refine kj_lald X K dL_law_2690 (fun h17 => ?_)
      refine kj_iload X 0 dL_law_2691 rfl ?_
      refine kj_i2l X dL_law_2693 h6 ?_
      refine kj_lcmp X dL_law_2694 h17 h6 ?_
      refine kj_if_eq X (tgt := 2700) dL_law_2695 (by decide) (knC_lcmp _ _) (fun h18 => ?_) (fun h18 => ?_)
      · replace hf := knIp hf h18
        refine kj_sub (L' := [(0, Value.ref b), (1, knO G 0), (2, knO G 142), (3, knO G 159), (4, knO G 160), (5, knV i)]) [2, 3, 4, 5, 6, 7] rfl ?_
        exact j14  hf
      · replace hf := knIq hf h18
        refine kj_iconst X dL_law_2698 ?_
        cases hf
  · replace hf := knIq hf h10
    refine kj_iconst X dL_law_2681 ?_
    cases hf

def kfLc_55 (x1 x2 x3 x4 : Int) (μ : knMem) : Option knMem :=
 Option.bind (kfL_undo  μ) (fun q1 =>
  Option.bind (kfX13_undo  q1.2) (fun q4 =>
   Option.bind (kfX13_thrown  q4.2) (fun q7 =>
    if q7 = q1.1 then
     (fun (k14 : (Unit) → Option (knMem)) =>
      if q1.1 = 0 then
       if (knLcmp (q4.2 159 0) q4.1) = 0 then
        k14 ()
       else
        none
      else
       k14 ())
      (fun _ =>
      some q4.2)
    else
     none)))

set_option maxHeartbeats 4000000 in
set_option maxRecDepth 100000 in
theorem kcLc_55 {G : knGT} {p : Program} {l : Launch} {e : Env} {s : State} {m : MethodId} {args : Array Value} {below : List Frame} {meth : Method} {c : Code} {Q : State → Prop} {b N : Nat} {xs : Nat → Int32} (hl : l.stackTraces = false) (X : knX p m c code 10 s args RL) (K : knK G s s.heap) (S : knSc G b N xs s) {i x1 x2 x3 x4 : Int} (hi : knC i) (hs : knSi N xs i x1 x2 x3 x4) {cells slots : Nat} (hc9 : cells + 2 ≤ room_1.cells) (hs9 : slots + 12 ≤ room_1.slots) {μ q : knMem} (hf : kfLc_55 x1 x2 x3 x4 μ = some q)
  (kk : knJ G p l e room_1 s m args below meth c 10 (cells + 2) (slots + 12) Q 2804 [(0, Value.ref b), (1, knO G 0), (2, knO G 142), (3, knO G 159), (4, knO G 160), (5, knV i)] [] q) : knJ G p l e room_1 s m args below meth c 10 cells slots Q 2703 [(0, Value.ref b), (1, knO G 0), (2, knO G 142), (3, knO G 159), (4, knO G 160), (5, knV i)] [] μ := by
  unfold kfLc_55 at hf
  refine kj_aloadn X 1 dL_law_2703 rfl ?_
  refine kj_aloadn X 3 dL_law_2704 rfl ?_
  obtain ⟨q1, h2, hf⟩ := knBd_inv hf
  refine kj_callSH (As := [knO G 0, knO G 159]) (rest := []) X K (kcL_undo l hl  h2) knWhL_undo (knGm 1473 (by decide +kernel) rfl) (by decide) rfl (Nat.le_of_ble_eq_true rfl) ⟨by omega, by omega⟩ dL_law_2705 rfl (fun h3 => ?_)
  refine kj_istore X (L' := [(6, knV q1.1), (0, Value.ref b), (1, knO G 0), (2, knO G 142), (3, knO G 159), (4, knO G 160), (5, knV i)]) dL_law_2708 (by decide) rfl ?_
  refine kj_aloadn X 3 dL_law_2710 rfl ?_
  obtain ⟨q4, h5, hf⟩ := knBd_inv hf
  refine kj_callV (As := []) (rest := []) X K (kcX13_undo l  h5) knWvX13_undo (knGm 2141 (by decide +kernel) rfl) (by decide) (knKd_in kdc_142 (by decide)) (knEnt_10 kdc_142) rfl rfl rfl (Nat.le_of_ble_eq_true rfl) ⟨by omega, by omega⟩ dL_law_2711 rfl (fun h6 => ?_)
  refine kj_istore X (L' := [(7, knV q4.1), (6, knV q1.1), (0, Value.ref b), (1, knO G 0), (2, knO G 142), (3, knO G 159), (4, knO G 160), (5, knV i)]) dL_law_2714 (by decide) rfl ?_
  refine kj_aloadn X 4 dL_law_2716 rfl ?_
  obtain ⟨q7, h8, hf⟩ := knBd_inv hf
  refine kj_callV (As := []) (rest := []) X K (kcX13_thrown l  h8) knWvX13_thrown (knGm 1589 (by decide +kernel) rfl) (by decide) (knKd_in kdc_142 (by decide)) (knEnt_10 kdc_142) rfl rfl rfl (Nat.le_of_ble_eq_true rfl) ⟨by omega, by omega⟩ dL_law_2717 rfl (fun h9 => ?_)
  refine kj_iload X 1 dL_law_2720 rfl ?_
  refine kj_ic_eq X (tgt := 2727) dL_law_2722 (by decide) h9 h3 (fun h10 => ?_) (fun h10 => ?_)
  · replace hf := knIp hf h10
    refine kj_iload X 1 dL_law_2727 rfl ?_
    have j14 : (fun _ =>
     some q4.2) () = some q → knJ G p l e room_1 s m args below meth c 10 (cells + 1) (slots + 6) Q 2744 [(0, Value.ref b), (1, knO G 0), (2, knO G 142), (3, knO G 159), (4, knO G 160), (5, knV i)] [] q4.2 := by
      intro hf
      refine kj_goto X (tgt := 2804) dL_law_2744 (by decide) ?_
      cases hf
      refine kj_sub (L' := [(0, Value.ref b), (1, knO G 0), (2, knO G 142), (3, knO G 159), (4, knO G 160), (5, knV i)]) [0, 1, 2, 3, 4, 5] rfl ?_
      exact kj_wd (by omega) (by omega) kk
    refine kj_if_ne X (tgt := 2744) dL_law_2729 (by decide) h3 (fun h16 => ?_) (fun h16 => ?_)
    · replace hf := knIq hf h16
      refine kj_sub (L' := [(0, Value.ref b), (1, knO G 0), (2, knO G 142), (3, knO G 159), (4, knO G 160), (5, knV i)]) [2, 3, 4, 5, 6, 7] rfl ?_
      exact j14  hf
    · replace hf := knIp hf h16
      refine kj_aloadn X 5 dL_law_2732 rfl ?_
      refine kj_iconst X dL_law_2733 ?_
      refine kj_lald X K dL_law_2734 (fun h17 => ?_)
      refine kj_iload X 0 dL_law_2735 rfl ?_
      refine kj_i2l X dL_law_2737 h6 ?_
      refine kj_lcmp X dL_law_2738 h17 h6 ?_
      refine kj_if_eq X (tgt := 2744) dL_law_2739 (by decide) (knC_lcmp _ _) (fun h18 => ?_) (fun h18 => ?_)
      · replace hf := knIp hf h18
        refine kj_sub (L' := [(0, Value.ref b), (1, knO G 0), (2, knO G 142), (3, knO G 159), (4, knO G 160), (5, knV i)]) [2, 3, 4, 5, 6, 7] rfl ?_
        exact j14  hf
      · replace hf := knIq hf h18
        refine kj_iconst X dL_law_2742 ?_
        cases hf
  · replace hf := knIq hf h10
    refine kj_iconst X dL_law_2725 ?_
    cases hf

def kfLc_56 (x1 x2 x3 x4 : Int) (μ : knMem) : Option knMem :=
 Option.bind (kfX12_save  μ) (fun q1 =>
  Option.bind (kfX13_save  q1.2) (fun q4 =>
   if q1.1 = q4.1 then
    some q4.2
   else
    none))

set_option maxHeartbeats 4000000 in
set_option maxRecDepth 100000 in
theorem kcLc_56 {G : knGT} {p : Program} {l : Launch} {e : Env} {s : State} {m : MethodId} {args : Array Value} {below : List Frame} {meth : Method} {c : Code} {Q : State → Prop} {b N : Nat} {xs : Nat → Int32} (hl : l.stackTraces = false) (X : knX p m c code 10 s args RL) (K : knK G s s.heap) (S : knSc G b N xs s) {i x1 x2 x3 x4 : Int} (hi : knC i) (hs : knSi N xs i x1 x2 x3 x4) {cells slots : Nat} (hc9 : cells + 2 ≤ room_1.cells) (hs9 : slots + 12 ≤ room_1.slots) {μ q : knMem} (hf : kfLc_56 x1 x2 x3 x4 μ = some q)
  (kk : knJ G p l e room_1 s m args below meth c 10 (cells + 2) (slots + 12) Q 2804 [(0, Value.ref b), (1, knO G 0), (2, knO G 142), (3, knO G 159), (4, knO G 160), (5, knV i)] [] q) : knJ G p l e room_1 s m args below meth c 10 cells slots Q 2747 [(0, Value.ref b), (1, knO G 0), (2, knO G 142), (3, knO G 159), (4, knO G 160), (5, knV i)] [] μ := by
  unfold kfLc_56 at hf
  refine kj_aloadn X 1 dL_law_2747 rfl ?_
  obtain ⟨q1, h2, hf⟩ := knBd_inv hf
  refine kj_callV (As := []) (rest := []) X K (kcX12_save l  h2) knWvX12_save (knGm 910 (by decide +kernel) rfl) (by decide) (knKd_in kdc_0 (by decide)) (knEnt_9 kdc_0) rfl rfl rfl (Nat.le_of_ble_eq_true rfl) ⟨by omega, by omega⟩ dL_law_2748 rfl (fun h3 => ?_)
  refine kj_aloadn X 2 dL_law_2751 rfl ?_
  obtain ⟨q4, h5, hf⟩ := knBd_inv hf
  refine kj_callV (As := []) (rest := [knV q1.1]) X K (kcX13_save l  h5) knWvX13_save (knGm 2145 (by decide +kernel) rfl) (by decide) (knKd_in kdc_142 (by decide)) (knEnt_10 kdc_142) rfl rfl rfl (Nat.le_of_ble_eq_true rfl) ⟨by omega, by omega⟩ dL_law_2752 rfl (fun h6 => ?_)
  refine kj_ic_eq X (tgt := 2804) dL_law_2755 (by decide) h3 h6 (fun h7 => ?_) (fun h7 => ?_)
  · replace hf := knIp hf h7
    cases hf
    refine kj_sub (L' := [(0, Value.ref b), (1, knO G 0), (2, knO G 142), (3, knO G 159), (4, knO G 160), (5, knV i)]) [0, 1, 2, 3, 4, 5] rfl ?_
    exact kj_wd (by omega) (by omega) kk
  · replace hf := knIq hf h7
    refine kj_iconst X dL_law_2758 ?_
    cases hf

def kfLc_57 (x1 x2 x3 x4 : Int) (μ : knMem) : Option knMem :=
 Option.bind (kfL_restore  μ) (fun q1 =>
  Option.bind (kfX13_restore  q1.2) (fun q4 =>
   Option.bind (kfX13_thrown  q4.2) (fun q7 =>
    if q7 = q1.1 then
     (fun (k14 : (Unit) → Option (knMem)) =>
      if q1.1 = 0 then
       if (knLcmp (q4.2 159 0) q4.1) = 0 then
        k14 ()
       else
        none
      else
       k14 ())
      (fun _ =>
      some q4.2)
    else
     none)))

set_option maxHeartbeats 4000000 in
set_option maxRecDepth 100000 in
theorem kcLc_57 {G : knGT} {p : Program} {l : Launch} {e : Env} {s : State} {m : MethodId} {args : Array Value} {below : List Frame} {meth : Method} {c : Code} {Q : State → Prop} {b N : Nat} {xs : Nat → Int32} (hl : l.stackTraces = false) (X : knX p m c code 10 s args RL) (K : knK G s s.heap) (S : knSc G b N xs s) {i x1 x2 x3 x4 : Int} (hi : knC i) (hs : knSi N xs i x1 x2 x3 x4) {cells slots : Nat} (hc9 : cells + 2 ≤ room_1.cells) (hs9 : slots + 12 ≤ room_1.slots) {μ q : knMem} (hf : kfLc_57 x1 x2 x3 x4 μ = some q)
  (kk : knJ G p l e room_1 s m args below meth c 10 (cells + 2) (slots + 12) Q 2804 [(0, Value.ref b), (1, knO G 0), (2, knO G 142), (3, knO G 159), (4, knO G 160), (5, knV i)] [] q) : knJ G p l e room_1 s m args below meth c 10 cells slots Q 2760 [(0, Value.ref b), (1, knO G 0), (2, knO G 142), (3, knO G 159), (4, knO G 160), (5, knV i)] [] μ := by
  unfold kfLc_57 at hf
  refine kj_aloadn X 1 dL_law_2760 rfl ?_
  refine kj_aloadn X 3 dL_law_2761 rfl ?_
  obtain ⟨q1, h2, hf⟩ := knBd_inv hf
  refine kj_callSH (As := [knO G 0, knO G 159]) (rest := []) X K (kcL_restore l hl  h2) knWhL_restore (knGm 1486 (by decide +kernel) rfl) (by decide) rfl (Nat.le_of_ble_eq_true rfl) ⟨by omega, by omega⟩ dL_law_2762 rfl (fun h3 => ?_)
  refine kj_istore X (L' := [(6, knV q1.1), (0, Value.ref b), (1, knO G 0), (2, knO G 142), (3, knO G 159), (4, knO G 160), (5, knV i)]) dL_law_2765 (by decide) rfl ?_
  refine kj_aloadn X 3 dL_law_2767 rfl ?_
  obtain ⟨q4, h5, hf⟩ := knBd_inv hf
  refine kj_callV (As := []) (rest := []) X K (kcX13_restore l  h5) knWvX13_restore (knGm 2149 (by decide +kernel) rfl) (by decide) (knKd_in kdc_142 (by decide)) (knEnt_10 kdc_142) rfl rfl rfl (Nat.le_of_ble_eq_true rfl) ⟨by omega, by omega⟩ dL_law_2768 rfl (fun h6 => ?_)
  refine kj_istore X (L' := [(7, knV q4.1), (6, knV q1.1), (0, Value.ref b), (1, knO G 0), (2, knO G 142), (3, knO G 159), (4, knO G 160), (5, knV i)]) dL_law_2771 (by decide) rfl ?_
  refine kj_aloadn X 4 dL_law_2773 rfl ?_
  obtain ⟨q7, h8, hf⟩ := knBd_inv hf
  refine kj_callV (As := []) (rest := []) X K (kcX13_thrown l  h8) knWvX13_thrown (knGm 1589 (by decide +kernel) rfl) (by decide) (knKd_in kdc_142 (by decide)) (knEnt_10 kdc_142) rfl rfl rfl (Nat.le_of_ble_eq_true rfl) ⟨by omega, by omega⟩ dL_law_2774 rfl (fun h9 => ?_)
  refine kj_iload X 1 dL_law_2777 rfl ?_
  refine kj_ic_eq X (tgt := 2784) dL_law_2779 (by decide) h9 h3 (fun h10 => ?_) (fun h10 => ?_)
  · replace hf := knIp hf h10
    refine kj_iload X 1 dL_law_2784 rfl ?_
    have j14 : (fun _ =>
     some q4.2) () = some q → knJ G p l e room_1 s m args below meth c 10 (cells + 1) (slots + 6) Q 2801 [(0, Value.ref b), (1, knO G 0), (2, knO G 142), (3, knO G 159), (4, knO G 160), (5, knV i)] [] q4.2 := by
      intro hf
      refine kj_goto X (tgt := 2804) dL_law_2801 (by decide) ?_
      cases hf
      refine kj_sub (L' := [(0, Value.ref b), (1, knO G 0), (2, knO G 142), (3, knO G 159), (4, knO G 160), (5, knV i)]) [0, 1, 2, 3, 4, 5] rfl ?_
      exact kj_wd (by omega) (by omega) kk
    refine kj_if_ne X (tgt := 2801) dL_law_2786 (by decide) h3 (fun h16 => ?_) (fun h16 => ?_)
    · replace hf := knIq hf h16
      refine kj_sub (L' := [(0, Value.ref b), (1, knO G 0), (2, knO G 142), (3, knO G 159), (4, knO G 160), (5, knV i)]) [2, 3, 4, 5, 6, 7] rfl ?_
      exact j14  hf
    · replace hf := knIp hf h16
      refine kj_aloadn X 5 dL_law_2789 rfl ?_
      refine kj_iconst X dL_law_2790 ?_
      refine kj_lald X K dL_law_2791 (fun h17 => ?_)
      refine kj_iload X 0 dL_law_2792 rfl ?_
      refine kj_i2l X dL_law_2794 h6 ?_
      refine kj_lcmp X dL_law_2795 h17 h6 ?_
      refine kj_if_eq X (tgt := 2801) dL_law_2796 (by decide) (knC_lcmp _ _) (fun h18 => ?_) (fun h18 => ?_)
      · replace hf := knIp hf h18
        refine kj_sub (L' := [(0, Value.ref b), (1, knO G 0), (2, knO G 142), (3, knO G 159), (4, knO G 160), (5, knV i)]) [2, 3, 4, 5, 6, 7] rfl ?_
        exact j14  hf
      · replace hf := knIq hf h18
        refine kj_iconst X dL_law_2799 ?_
        cases hf
  · replace hf := knIq hf h10
    refine kj_iconst X dL_law_2782 ?_
    cases hf

