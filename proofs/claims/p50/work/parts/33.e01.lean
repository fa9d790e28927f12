set_option maxRecDepth 100000 in
theorem ebL_isGraph_327 {Ls t d n : Nat} {w2 : Int} {w3 : Int} {w4 : Int} {w5 : Nat} {μ : qMu} : ∀ (k : Nat) (x : Int × Int) (y : Int), lp (fun x : Int × Int => bL_isGraph_327 n w2 w3 w4 w5 x.1 x.2 μ) k x = some y → ∀ (o : qO) (s' : qSt), Ev (d + 4) mL_isGraph 362 [some (.ref 78), some (.ref 0), some (iv w2), some (iv w3), some (iv w4), none, some (iv y), none, none] [] (cS Ls t μ) o s' → Ev (d + 4) mL_isGraph 327 [some (.ref 78), some (.ref 0), some (iv w2), some (iv w3), some (iv w4), some (.ref w5), some (iv x.1), some (iv x.2), none] [] (cS Ls t μ) o s' := by
  intro k
  induction k with
  | zero => intro x y h; cases h
  | succ k ih =>
    intro x y h o s' kE
    rw [lp_s] at h
    replace h := qbd h; obtain ⟨zz, h0, h1⟩ := h
    have h : bL_isGraph_327 n w2 w3 w4 w5 x.1 x.2 μ = some zz := h0
    clear h0
    unfold bL_isGraph_327 at h
    refine ev_iload (pc' := 329) dL_isGraph_327 rfl rfl ?_
    refine ev_aload_n (pc' := 330) dL_isGraph_329 rfl rfl ?_
    refine ev_geti (pc' := 333) (ki := 2) dL_isGraph_330 rfl tf_10_75 sh78 rfl rfl ?_
    refine ev_icmpge (pc' := 336) (tgt := 362) dL_isGraph_333 (by decide) rfl (x1 := wr x.2) (y1 := wr (rd μ 78 2)) rfl rfl  (fun c56 => ?_) (fun c56 => ?_)
    · replace h := qit c56 h
      refine ev_iload (pc' := 338) dL_isGraph_336 rfl rfl ?_
      refine ev_aload (pc' := 340) dL_isGraph_338 rfl rfl ?_
      refine ev_iload (pc' := 342) dL_isGraph_340 rfl rfl ?_
      replace h := qbd h; obtain ⟨x57, hx57, h⟩ := h
      refine ev_ialdj (pc' := 343) dL_isGraph_342 rfl hx57 ?_
      refine ev_iload (pc' := 345) dL_isGraph_343 rfl rfl ?_
      have k59 : ∀ j60 : Int, j60 = (if wr x57 = wr x.2 then 1 else 0) → Ev (d + 4) mL_isGraph 353 [some (.ref 78), some (.ref 0), some (iv w2), some (iv w3), some (iv w4), some (.ref w5), none, some (iv x.2), none] [iv j60, iv x.1] (cS Ls t μ) o s' := by
        intro j60 ej60
        subst ej60
        refine ev_iadd (pc' := 354) dL_isGraph_353 rfl ?_
        refine ev_istore (pc' := 356) (L1 := [some (.ref 78), some (.ref 0), some (iv w2), some (iv w3), some (iv w4), some (.ref w5), some (iv (x.1 + (if wr x57 = wr x.2 then 1 else 0))), some (iv x.2), none]) dL_isGraph_354 rfl rfl ?_
        refine ev_iinc (pc' := 359) (x := x.2) (L1 := [some (.ref 78), some (.ref 0), some (iv w2), some (iv w3), some (iv w4), some (.ref w5), some (iv (x.1 + (if wr x57 = wr x.2 then 1 else 0))), some (iv (x.2 + 1)), none]) dL_isGraph_356 rfl rfl rfl ?_
        refine ev_goto (pc' := 327) dL_isGraph_359 (by decide) ?_
        cases h
        exact ev_wk (qLe_eq (qLe_eq (qLe_eq (qLe_eq (qLe_eq (qLe_eq (qLe_eq (qLe_eq (qLe_eq qLe_nil))))))))) (ih _ _ h1 _ _ kE)
      refine ev_icmpne (pc' := 348) (tgt := 352) dL_isGraph_345 (by decide) rfl (x1 := wr x57) (y1 := wr x.2) rfl rfl  (fun c58 => ?_) (fun c58 => ?_)
      · skip
        refine ev_iconst (pc' := 349) dL_isGraph_348 rfl ?_
        refine ev_goto (pc' := 353) dL_isGraph_349 (by decide) ?_
        exact ev_wk (qLe_eq (qLe_eq (qLe_eq (qLe_eq (qLe_eq (qLe_eq (qLe_sk (qLe_eq (qLe_eq qLe_nil))))))))) (k59 _ (qet c58 rfl))
      · skip
        refine ev_iconst (pc' := 353) dL_isGraph_352 rfl ?_
        exact ev_wk (qLe_eq (qLe_eq (qLe_eq (qLe_eq (qLe_eq (qLe_eq (qLe_sk (qLe_eq (qLe_eq qLe_nil))))))))) (k59 _ (qef c58 rfl))
    · replace h := qif' c56 h
      cases h
      cases h1
      exact ev_wk (qLe_eq (qLe_eq (qLe_eq (qLe_eq (qLe_eq (qLe_sk (qLe_eq (qLe_sk (qLe_eq qLe_nil))))))))) kE
set_option maxRecDepth 100000 in
theorem eL_isGraph {Ls t d n : Nat} {μ : qMu} {r : (Int ⊕ Nat) × qMu} (ht : t = 0) (h : fL_isGraph n μ = some r) : Ev (d + 4) mL_isGraph 0 [some (.ref 78), some (.ref 0), none, none, none, none, none, none, none] [] (cS Ls t μ) (qRi r.1) (cS Ls (qTt t r.1) r.2) := by
  unfold fL_isGraph at h
  refine ev_iconst (pc' := 1) dL_isGraph_0 rfl ?_
  refine ev_istore_n (pc' := 2) (L1 := [some (.ref 78), some (.ref 0), some (iv 0), none, none, none, none, none, none]) dL_isGraph_1 rfl rfl ?_
  refine ev_iconst (pc' := 3) dL_isGraph_2 rfl ?_
  refine ev_istore_n (pc' := 4) (L1 := [some (.ref 78), some (.ref 0), some (iv 0), some (iv 0), none, none, none, none, none]) dL_isGraph_3 rfl rfl ?_
  refine ev_iconst (pc' := 5) dL_isGraph_4 rfl ?_
  refine ev_istore (pc' := 7) (L1 := [some (.ref 78), some (.ref 0), some (iv 0), some (iv 0), some (iv 0), none, none, none, none]) dL_isGraph_5 rfl rfl ?_
  refine ev_iconst (pc' := 8) dL_isGraph_7 rfl ?_
  refine ev_istore (pc' := 10) (L1 := [some (.ref 78), some (.ref 0), some (iv 0), some (iv 0), some (iv 0), some (iv 0), none, none, none]) dL_isGraph_8 rfl rfl ?_
  replace h := qbd h; obtain ⟨y38, hy38, h⟩ := h
  refine ev_wk (qLe_eq (qLe_eq (qLe_eq (qLe_eq (qLe_eq (qLe_eq (qLe_eq (qLe_eq (qLe_eq qLe_nil))))))))) (?_ : Ev _ _ _ [some (.ref 78), some (.ref 0), some (iv 0), some (iv 0), some (iv 0), some (iv 0), none, none, none] _ _ _ _)
  refine ebL_isGraph_10 _ _ _ hy38 _ _ ?_ ?_
  · intro b39 eb39
    subst eb39
    replace h := qel h
    refine ev_bipush (pc' := 209) dL_isGraph_207 rfl bl_6 ?_
    replace h := qbd h; obtain ⟨y40, hy40, h⟩ := h
    refine ev_newa (pc' := 211) ht (Or.inl rfl) dL_isGraph_209 rfl rfl hy40 ?_
    refine ev_astore (pc' := 213) (L1 := [some (.ref 78), some (.ref 0), some (iv b39.1), some (iv b39.2.1), some (iv b39.2.2), some (.ref y40.1), none, none, none]) dL_isGraph_211 rfl rfl ?_
    refine ev_iconst (pc' := 214) dL_isGraph_213 rfl ?_
    refine ev_istore (pc' := 216) (L1 := [some (.ref 78), some (.ref 0), some (iv b39.1), some (iv b39.2.1), some (iv b39.2.2), some (.ref y40.1), some (iv 0), none, none]) dL_isGraph_214 rfl rfl ?_
    replace h := qbd h; obtain ⟨y43, hy43, h⟩ := h
    refine ev_wk (qLe_eq (qLe_eq (qLe_eq (qLe_eq (qLe_eq (qLe_eq (qLe_eq (qLe_eq (qLe_eq qLe_nil))))))))) (?_ : Ev _ _ _ [some (.ref 78), some (.ref 0), some (iv b39.1), some (iv b39.2.1), some (iv b39.2.2), some (.ref y40.1), some (iv 0), none, none] _ _ _ _)
    refine ebL_isGraph_216 _ _ _ hy43 _ _ ?_
    refine ev_iconst (pc' := 239) dL_isGraph_238 rfl ?_
    refine ev_istore (pc' := 241) (L1 := [some (.ref 78), some (.ref 0), some (iv b39.1), some (iv b39.2.1), some (iv b39.2.2), some (.ref y40.1), some (iv 0), none, none]) dL_isGraph_239 rfl rfl ?_
    replace h := qbd h; obtain ⟨y55, hy55, h⟩ := h
    refine ev_wk (qLe_eq (qLe_eq (qLe_eq (qLe_eq (qLe_eq (qLe_eq (qLe_eq (qLe_eq (qLe_eq qLe_nil))))))))) (?_ : Ev _ _ _ [some (.ref 78), some (.ref 0), some (iv b39.1), some (iv b39.2.1), some (iv b39.2.2), some (.ref y40.1), some (iv 0), none, none] _ _ _ _)
    refine ebL_isGraph_241 _ _ _ hy55 _ _ ?_
    refine ev_iconst (pc' := 322) dL_isGraph_321 rfl ?_
    refine ev_istore (pc' := 324) (L1 := [some (.ref 78), some (.ref 0), some (iv b39.1), some (iv b39.2.1), some (iv b39.2.2), some (.ref y40.1), some (iv 0), none, none]) dL_isGraph_322 rfl rfl ?_
    refine ev_iconst (pc' := 325) dL_isGraph_324 rfl ?_
    refine ev_istore (pc' := 327) (L1 := [some (.ref 78), some (.ref 0), some (iv b39.1), some (iv b39.2.1), some (iv b39.2.2), some (.ref y40.1), some (iv 0), some (iv 0), none]) dL_isGraph_325 rfl rfl ?_
    replace h := qbd h; obtain ⟨y61, hy61, h⟩ := h
    refine ev_wk (qLe_eq (qLe_eq (qLe_eq (qLe_eq (qLe_eq (qLe_eq (qLe_eq (qLe_eq (qLe_eq qLe_nil))))))))) (?_ : Ev _ _ _ [some (.ref 78), some (.ref 0), some (iv b39.1), some (iv b39.2.1), some (iv b39.2.2), some (.ref y40.1), some (iv 0), some (iv 0), none] _ _ _ _)
    refine ebL_isGraph_327 _ _ _ hy61 _ _ ?_
    refine ev_aload_n (pc' := 363) dL_isGraph_362 rfl rfl ?_
    replace h := qbd h; obtain ⟨y62, hy62, h⟩ := h
    refine ev_callg (pc' := 366) (st2 := [iv y62]) dL_isGraph_363 (qs_V tc_10_147 rfl rfl (cS_cls sh0) rfl) rfl rfl (eX9_loops (d := d + 1) hy62) rfl rfl ?_
    refine ev_iload_n (pc' := 367) dL_isGraph_366 rfl rfl ?_
    refine ev_icmpne (pc' := 370) (tgt := 443) dL_isGraph_367 (by decide) rfl (x1 := wr y62) (y1 := wr b39.1) rfl rfl  (fun c63 => ?_) (fun c63 => ?_)
    · replace h := qit c63 h
      refine ev_aload_n (pc' := 371) dL_isGraph_370 rfl rfl ?_
      replace h := qbd h; obtain ⟨y64, hy64, h⟩ := h
      refine ev_callg (pc' := 374) (st2 := [iv y64]) dL_isGraph_371 (qs_V tc_10_150 rfl rfl (cS_cls sh0) rfl) rfl rfl (eX9_defects (d := d + 0) hy64) rfl rfl ?_
      refine ev_iload_n (pc' := 375) dL_isGraph_374 rfl rfl ?_
      refine ev_iload_n (pc' := 376) dL_isGraph_375 rfl rfl ?_
      refine ev_iadd (pc' := 377) dL_isGraph_376 rfl ?_
      refine ev_icmpne (pc' := 380) (tgt := 443) dL_isGraph_377 (by decide) rfl (x1 := wr y64) (y1 := wr (b39.1 + b39.2.1)) rfl rfl  (fun c65 => ?_) (fun c65 => ?_)
      · replace h := qit c65 h
        refine ev_aload_n (pc' := 381) dL_isGraph_380 rfl rfl ?_
        replace h := qbd h; obtain ⟨y66, hy66, h⟩ := h
        refine ev_callg (pc' := 384) (st2 := [iv y66]) dL_isGraph_381 (qs_V tc_10_153 rfl rfl (cS_cls sh0) rfl) rfl rfl (eX9_isSimple (d := d + 0) hy66) rfl rfl ?_
        refine ev_iload_n (pc' := 385) dL_isGraph_384 rfl rfl ?_
        refine ev_iload_n (pc' := 386) dL_isGraph_385 rfl rfl ?_
        refine ev_iadd (pc' := 387) dL_isGraph_386 rfl ?_
        have k68 : ∀ j69 : Int, j69 = (if wr (b39.1 + b39.2.1) = 0 then 1 else 0) → Ev (d + 4) mL_isGraph 395 [some (.ref 78), some (.ref 0), none, none, some (iv b39.2.2), none, some (iv y61), none, none] [iv j69, iv y66] (cS Ls t y55) (qRi r.1) (cS Ls (qTt t r.1) r.2) := by
          intro j69 ej69
          subst ej69
          refine ev_icmpne (pc' := 398) (tgt := 443) dL_isGraph_395 (by decide) rfl (x1 := wr y66) (y1 := wr (if wr (b39.1 + b39.2.1) = 0 then 1 else 0)) rfl rfl  (fun c70 => ?_) (fun c70 => ?_)
          · replace h := qit c70 h
            refine ev_aload_n (pc' := 399) dL_isGraph_398 rfl rfl ?_
            replace h := qbd h; obtain ⟨y71, hy71, h⟩ := h
            refine ev_callg (pc' := 402) (st2 := [iv y71]) dL_isGraph_399 (qs_V tc_10_157 rfl rfl (cS_cls sh0) rfl) rfl rfl (eX9_triangles (d := d + 0) hy71) rfl rfl ?_
            refine ev_iload (pc' := 404) dL_isGraph_402 rfl rfl ?_
            refine ev_icmpne (pc' := 407) (tgt := 443) dL_isGraph_404 (by decide) rfl (x1 := wr y71) (y1 := wr b39.2.2) rfl rfl  (fun c72 => ?_) (fun c72 => ?_)
            · replace h := qit c72 h
              refine ev_aload_n (pc' := 408) dL_isGraph_407 rfl rfl ?_
              replace h := qbd h; obtain ⟨y73, hy73, h⟩ := h
              refine ev_callg (pc' := 411) (st2 := [iv y73.1]) dL_isGraph_408 (qs_V tc_10_160 rfl rfl (cS_cls sh0) rfl) rfl rfl (eX9_components (d := d + 1) hy73) rfl rfl ?_
              refine ev_iload (pc' := 413) dL_isGraph_411 rfl rfl ?_
              refine ev_icmpne (pc' := 416) (tgt := 443) dL_isGraph_413 (by decide) rfl (x1 := wr y73.1) (y1 := wr y61) rfl rfl  (fun c74 => ?_) (fun c74 => ?_)
              · replace h := qit c74 h
                refine ev_aload_n (pc' := 417) dL_isGraph_416 rfl rfl ?_
                replace h := qbd h; obtain ⟨y75, hy75, h⟩ := h
                refine ev_callg (pc' := 420) (st2 := [.double y75]) dL_isGraph_417 (qs_V tc_10_163 rfl rfl (cS_cls sh0) rfl) rfl rfl (eX9_meanDegree (d := d + 2) hy75) rfl rfl ?_
                refine ev_ldcd (pc' := 423) dL_isGraph_420 rfl ⟨rfl, rfl⟩ ?_
                refine ev_aload_n (pc' := 424) dL_isGraph_423 rfl rfl ?_
                replace h := qbd h; obtain ⟨y76, hy76, h⟩ := h
                refine ev_callg (pc' := 427) (st2 := [iv y76, .double 4611686018427387904, .double y75]) dL_isGraph_424 (qs_V tc_10_66 rfl rfl (cS_cls sh78) rfl) rfl rfl (eL_edges (d := d + 3) hy76) rfl rfl ?_
                refine ev_i2d (pc' := 428) dL_isGraph_427 rfl ?_
                replace h := qbd h; obtain ⟨x77, hx77, h⟩ := h
                refine ev_dmul (pc' := 429) dL_isGraph_428 rfl hx77 ?_
                refine ev_aload_n (pc' := 430) dL_isGraph_429 rfl rfl ?_
                refine ev_geti (pc' := 433) (ki := 2) dL_isGraph_430 rfl tf_10_75 sh78 rfl rfl ?_
                refine ev_i2d (pc' := 434) dL_isGraph_433 rfl ?_
                replace h := qbd h; obtain ⟨x78, hx78, h⟩ := h
                refine ev_ddiv (pc' := 435) dL_isGraph_434 rfl hx78 ?_
                refine ev_dcmp (pc' := 436) dL_isGraph_435 rfl ?_
                refine ev_ifne (pc' := 439) (tgt := 443) dL_isGraph_436 (by decide) rfl (x1 := wr (dcm y75 x78 .l)) rfl (fun c79 => ?_) (fun c79 => ?_)
                · replace h := qit c79 h
                  refine ev_iconst (pc' := 440) dL_isGraph_439 rfl ?_
                  refine ev_goto (pc' := 444) dL_isGraph_440 (by decide) ?_
                  cases h
                  exact ev_ireturn dL_isGraph_444 rfl rfl
                · replace h := qif' c79 h
                  refine ev_iconst (pc' := 444) dL_isGraph_443 rfl ?_
                  cases h
                  exact ev_ireturn dL_isGraph_444 rfl rfl
              · replace h := qif' c74 h
                refine ev_iconst (pc' := 444) dL_isGraph_443 rfl ?_
                cases h
                exact ev_ireturn dL_isGraph_444 rfl rfl
            · replace h := qif' c72 h
              refine ev_iconst (pc' := 444) dL_isGraph_443 rfl ?_
              cases h
              exact ev_ireturn dL_isGraph_444 rfl rfl
          · replace h := qif' c70 h
            refine ev_iconst (pc' := 444) dL_isGraph_443 rfl ?_
            cases h
            exact ev_ireturn dL_isGraph_444 rfl rfl
        refine ev_ifne (pc' := 390) (tgt := 394) dL_isGraph_387 (by decide) rfl (x1 := wr (b39.1 + b39.2.1)) rfl (fun c67 => ?_) (fun c67 => ?_)
        · skip
          refine ev_iconst (pc' := 391) dL_isGraph_390 rfl ?_
          refine ev_goto (pc' := 395) dL_isGraph_391 (by decide) ?_
          exact ev_wk (qLe_eq (qLe_eq (qLe_sk (qLe_sk (qLe_eq (qLe_eq (qLe_eq (qLe_eq (qLe_eq qLe_nil))))))))) (k68 _ (qet c67 rfl))
        · skip
          refine ev_iconst (pc' := 395) dL_isGraph_394 rfl ?_
          exact ev_wk (qLe_eq (qLe_eq (qLe_sk (qLe_sk (qLe_eq (qLe_eq (qLe_eq (qLe_eq (qLe_eq qLe_nil))))))))) (k68 _ (qef c67 rfl))
      · replace h := qif' c65 h
        refine ev_iconst (pc' := 444) dL_isGraph_443 rfl ?_
        cases h
        exact ev_ireturn dL_isGraph_444 rfl rfl
    · replace h := qif' c63 h
      refine ev_iconst (pc' := 444) dL_isGraph_443 rfl ?_
      cases h
      exact ev_ireturn dL_isGraph_444 rfl rfl
  · intro r80 er80
    subst er80
    replace h := qer h
    cases h
    exact ⟨rfl, rfl⟩
set_option maxRecDepth 100000 in
theorem ebL_isSequence_20 {Ls t d n : Nat} {w2 : Nat} {w3 : Int} : ∀ (k : Nat) (x : Int × qMu) (y : Int × qMu), lp (fun x : Int × qMu => bL_isSequence_20 n w2 w3 x.1 x.2) k x = some y → ∀ (o : qO) (s' : qSt), Ev (d + 4) mL_isSequence 55 [some (.ref 78), some (.ref 0), some (.ref w2), some (iv w3), some (iv y.1), none, none] [] (cS Ls t y.2) o s' → Ev (d + 4) mL_isSequence 20 [some (.ref 78), some (.ref 0), some (.ref w2), some (iv w3), some (iv x.1), none, none] [] (cS Ls t x.2) o s' := by
  intro k
  induction k with
  | zero => intro x y h; cases h
  | succ k ih =>
    intro x y h o s' kE
    rw [lp_s] at h
    replace h := qbd h; obtain ⟨zz, h0, h1⟩ := h
    have h : bL_isSequence_20 n w2 w3 x.1 x.2 = some zz := h0
    clear h0
    unfold bL_isSequence_20 at h
    refine ev_iload (pc' := 22) dL_isSequence_20 rfl rfl ?_
    refine ev_ifle (pc' := 25) (tgt := 55) dL_isSequence_22 (by decide) rfl (x1 := wr x.1) rfl (fun c3 => ?_) (fun c3 => ?_)
    · replace h := qit c3 h
      refine ev_aload_n (pc' := 26) dL_isSequence_25 rfl rfl ?_
      refine ev_iload (pc' := 28) dL_isSequence_26 rfl rfl ?_
      refine ev_iconst (pc' := 29) dL_isSequence_28 rfl ?_
      refine ev_isub (pc' := 30) dL_isSequence_29 rfl ?_
      replace h := qbd h; obtain ⟨x4, hx4, h⟩ := h
      refine ev_ialdj (pc' := 31) dL_isSequence_30 rfl hx4 ?_
      refine ev_aload_n (pc' := 32) dL_isSequence_31 rfl rfl ?_
      refine ev_iload_n (pc' := 33) dL_isSequence_32 rfl rfl ?_
      replace h := qbd h; obtain ⟨y5, hy5, h⟩ := h
      refine ev_callg (pc' := 36) (st2 := [iv y5, iv x4]) dL_isSequence_33 (qs_V tc_10_141 rfl rfl (cS_cls sh78) rfl) rfl rfl (eL_degree (d := d + 2) hy5) rfl rfl ?_
      refine ev_icmpge (pc' := 39) (tgt := 55) dL_isSequence_36 (by decide) rfl (x1 := wr x4) (y1 := wr y5) rfl rfl  (fun c6 => ?_) (fun c6 => ?_)
      · replace h := qit c6 h
        refine ev_aload_n (pc' := 40) dL_isSequence_39 rfl rfl ?_
        refine ev_iload (pc' := 42) dL_isSequence_40 rfl rfl ?_
        refine ev_aload_n (pc' := 43) dL_isSequence_42 rfl rfl ?_
        refine ev_iload (pc' := 45) dL_isSequence_43 rfl rfl ?_
        refine ev_iconst (pc' := 46) dL_isSequence_45 rfl ?_
        refine ev_isub (pc' := 47) dL_isSequence_46 rfl ?_
        replace h := qbd h; obtain ⟨x7, hx7, h⟩ := h
        refine ev_ialdj (pc' := 48) dL_isSequence_47 rfl hx7 ?_
        replace h := qbd h; obtain ⟨μ8, hμ8, h⟩ := h
        refine ev_iastj (pc' := 49) dL_isSequence_48 rfl hμ8 ?_
        refine ev_iinc (pc' := 52) (x := x.1) (L1 := [some (.ref 78), some (.ref 0), some (.ref w2), some (iv w3), some (iv (x.1 + (-1))), none, none]) dL_isSequence_49 rfl rfl rfl ?_
        refine ev_goto (pc' := 20) dL_isSequence_52 (by decide) ?_
        cases h
        exact ev_wk (qLe_eq (qLe_eq (qLe_eq (qLe_eq (qLe_eq (qLe_eq (qLe_eq qLe_nil))))))) (ih _ _ h1 _ _ kE)
      · replace h := qif' c6 h
        cases h
        cases h1
        exact ev_wk (qLe_eq (qLe_eq (qLe_eq (qLe_eq (qLe_eq (qLe_eq (qLe_eq qLe_nil))))))) kE
    · replace h := qif' c3 h
      cases h
      cases h1
      exact ev_wk (qLe_eq (qLe_eq (qLe_eq (qLe_eq (qLe_eq (qLe_eq (qLe_eq qLe_nil))))))) kE
set_option maxRecDepth 100000 in
theorem ebL_isSequence_9 {Ls t d n : Nat} {w2 : Nat} : ∀ (k : Nat) (x : Int × qMu) (y : qMu), lp (fun x : Int × qMu => bL_isSequence_9 n w2 x.1 x.2) k x = some y → ∀ (o : qO) (s' : qSt), Ev (d + 4) mL_isSequence 70 [some (.ref 78), some (.ref 0), some (.ref w2), none, none, none, none] [] (cS Ls t y) o s' → Ev (d + 4) mL_isSequence 9 [some (.ref 78), some (.ref 0), some (.ref w2), some (iv x.1), none, none, none] [] (cS Ls t x.2) o s' := by
  intro k
  induction k with
  | zero => intro x y h; cases h
  | succ k ih =>
    intro x y h o s' kE
    rw [lp_s] at h
    replace h := qbd h; obtain ⟨zz, h0, h1⟩ := h
    have h : bL_isSequence_9 n w2 x.1 x.2 = some zz := h0
    clear h0
    unfold bL_isSequence_9 at h
    refine ev_iload_n (pc' := 10) dL_isSequence_9 rfl rfl ?_
    refine ev_aload_n (pc' := 11) dL_isSequence_10 rfl rfl ?_
    refine ev_geti (pc' := 14) (ki := 2) dL_isSequence_11 rfl tf_10_75 sh78 rfl rfl ?_
    refine ev_icmpge (pc' := 17) (tgt := 70) dL_isSequence_14 (by decide) rfl (x1 := wr x.1) (y1 := wr (rd x.2 78 2)) rfl rfl  (fun c2 => ?_) (fun c2 => ?_)
    · replace h := qit c2 h
      refine ev_iload_n (pc' := 18) dL_isSequence_17 rfl rfl ?_
      refine ev_istore (pc' := 20) (L1 := [some (.ref 78), some (.ref 0), some (.ref w2), some (iv x.1), some (iv x.1), none, none]) dL_isSequence_18 rfl rfl ?_
      replace h := qbd h; obtain ⟨y9, hy9, h⟩ := h
      refine ev_wk (qLe_eq (qLe_eq (qLe_eq (qLe_eq (qLe_eq (qLe_eq (qLe_eq qLe_nil))))))) (?_ : Ev _ _ _ [some (.ref 78), some (.ref 0), some (.ref w2), some (iv x.1), some (iv x.1), none, none] _ _ _ _)
      refine ebL_isSequence_20 _ _ _ hy9 _ _ ?_
      refine ev_aload_n (pc' := 56) dL_isSequence_55 rfl rfl ?_
      refine ev_iload (pc' := 58) dL_isSequence_56 rfl rfl ?_
      refine ev_aload_n (pc' := 59) dL_isSequence_58 rfl rfl ?_
      refine ev_iload_n (pc' := 60) dL_isSequence_59 rfl rfl ?_
      replace h := qbd h; obtain ⟨y10, hy10, h⟩ := h
      refine ev_callg (pc' := 63) (st2 := [iv y10, iv y9.1, .ref w2]) dL_isSequence_60 (qs_V tc_10_141 rfl rfl (cS_cls sh78) rfl) rfl rfl (eL_degree (d := d + 2) hy10) rfl rfl ?_
      replace h := qbd h; obtain ⟨μ11, hμ11, h⟩ := h
      refine ev_iastj (pc' := 64) dL_isSequence_63 rfl hμ11 ?_
      refine ev_iinc (pc' := 67) (x := x.1) (L1 := [some (.ref 78), some (.ref 0), some (.ref w2), some (iv (x.1 + 1)), some (iv y9.1), none, none]) dL_isSequence_64 rfl rfl rfl ?_
      refine ev_goto (pc' := 9) dL_isSequence_67 (by decide) ?_
      cases h
      exact ev_wk (qLe_eq (qLe_eq (qLe_eq (qLe_eq (qLe_sk (qLe_eq (qLe_eq qLe_nil))))))) (ih _ _ h1 _ _ kE)
    · replace h := qif' c2 h
      cases h
      cases h1
      exact ev_wk (qLe_eq (qLe_eq (qLe_eq (qLe_sk (qLe_eq (qLe_eq (qLe_eq qLe_nil))))))) kE
set_option maxRecDepth 100000 in
theorem ebL_isSequence_96 {Ls t d n : Nat} {w2 : Nat} {w3 : Int} {w4 : Int} {μ : qMu} : ∀ (k : Nat) (x : Int × Int) (y : Int), lp (fun x : Int × Int => bL_isSequence_96 n w2 w3 w4 x.1 x.2 μ) k x = some y → ∀ (o : qO) (s' : qSt), Ev (d + 4) mL_isSequence 140 [some (.ref 78), some (.ref 0), some (.ref w2), some (iv w3), some (iv w4), some (iv y), none] [] (cS Ls t μ) o s' → Ev (d + 4) mL_isSequence 96 [some (.ref 78), some (.ref 0), some (.ref w2), some (iv w3), some (iv w4), some (iv x.1), some (iv x.2)] [] (cS Ls t μ) o s' := by
  intro k
  induction k with
  | zero => intro x y h; cases h
  | succ k ih =>
    intro x y h o s' kE
    rw [lp_s] at h
    replace h := qbd h; obtain ⟨zz, h0, h1⟩ := h
    have h : bL_isSequence_96 n w2 w3 w4 x.1 x.2 μ = some zz := h0
    clear h0
    unfold bL_isSequence_96 at h
    refine ev_iload (pc' := 98) dL_isSequence_96 rfl rfl ?_
    refine ev_aload_n (pc' := 99) dL_isSequence_98 rfl rfl ?_
    refine ev_geti (pc' := 102) (ki := 2) dL_isSequence_99 rfl tf_10_75 sh78 rfl rfl ?_
    refine ev_icmpge (pc' := 105) (tgt := 140) dL_isSequence_102 (by decide) rfl (x1 := wr x.2) (y1 := wr (rd μ 78 2)) rfl rfl  (fun c14 => ?_) (fun c14 => ?_)
    · replace h := qit c14 h
      refine ev_iload (pc' := 107) dL_isSequence_105 rfl rfl ?_
      refine ev_iload (pc' := 109) dL_isSequence_107 rfl rfl ?_
      refine ev_iload (pc' := 111) dL_isSequence_109 rfl rfl ?_
      replace h := qbd h; obtain ⟨y16, hy16, h⟩ := h
      have kJ : Ev (d + 4) mL_isSequence 131 [some (.ref 78), some (.ref 0), some (.ref w2), some (iv w3), some (iv w4), none, some (iv x.2)] [iv y16, iv x.1] (cS Ls t μ) o s' := by
        refine ev_iadd (pc' := 132) dL_isSequence_131 rfl ?_
        refine ev_istore (pc' := 134) (L1 := [some (.ref 78), some (.ref 0), some (.ref w2), some (iv w3), some (iv w4), some (iv (x.1 + y16)), some (iv x.2)]) dL_isSequence_132 rfl rfl ?_
        refine ev_iinc (pc' := 137) (x := x.2) (L1 := [some (.ref 78), some (.ref 0), some (.ref w2), some (iv w3), some (iv w4), some (iv (x.1 + y16)), some (iv (x.2 + 1))]) dL_isSequence_134 rfl rfl rfl ?_
        refine ev_goto (pc' := 96) dL_isSequence_137 (by decide) ?_
        cases h
        exact ev_wk (qLe_eq (qLe_eq (qLe_eq (qLe_eq (qLe_eq (qLe_eq (qLe_eq qLe_nil))))))) (ih _ _ h1 _ _ kE)
      replace h := hy16
      clear hy16
      refine ev_icmpge (pc' := 114) (tgt := 122) dL_isSequence_111 (by decide) rfl (x1 := wr x.2) (y1 := wr w4) rfl rfl  (fun c15 => ?_) (fun c15 => ?_)
      · replace h := qit c15 h
        refine ev_aload_n (pc' := 115) dL_isSequence_114 rfl rfl ?_
        refine ev_iload (pc' := 117) dL_isSequence_115 rfl rfl ?_
        replace h := qbd h; obtain ⟨x17, hx17, h⟩ := h
        refine ev_ialdj (pc' := 118) dL_isSequence_117 rfl hx17 ?_
        refine ev_ineg (pc' := 119) dL_isSequence_118 rfl ?_
        refine ev_goto (pc' := 131) dL_isSequence_119 (by decide) ?_
        cases h
        exact ev_wk (qLe_eq (qLe_eq (qLe_eq (qLe_eq (qLe_eq (qLe_sk (qLe_eq qLe_nil))))))) kJ
      · replace h := qif' c15 h
        refine ev_iload (pc' := 124) dL_isSequence_122 rfl rfl ?_
        refine ev_aload_n (pc' := 125) dL_isSequence_124 rfl rfl ?_
        refine ev_iload (pc' := 127) dL_isSequence_125 rfl rfl ?_
        replace h := qbd h; obtain ⟨x18, hx18, h⟩ := h
        refine ev_ialdj (pc' := 128) dL_isSequence_127 rfl hx18 ?_
        refine ev_min (pc' := 131) dL_isSequence_128 rfl tc_10_126 rfl ?_
        cases h
        exact ev_wk (qLe_eq (qLe_eq (qLe_eq (qLe_eq (qLe_eq (qLe_sk (qLe_eq qLe_nil))))))) kJ
    · replace h := qif' c14 h
      cases h
      cases h1
      exact ev_wk (qLe_eq (qLe_eq (qLe_eq (qLe_eq (qLe_eq (qLe_eq (qLe_sk qLe_nil))))))) kE
set_option maxRecDepth 100000 in
theorem ebL_isSequence_75 {Ls t d n : Nat} {w2 : Nat} : ∀ (k : Nat) (x : Int × Int × qMu) (y : (Int × qMu) ⊕ ((Int ⊕ Nat) × qMu)), lp (fun x : Int × Int × qMu => bL_isSequence_75 n w2 x.1 x.2.1 x.2.2) k x = some y → ∀ (o : qO) (s' : qSt), (∀ b : Int × qMu, y = .inl b → Ev (d + 4) mL_isSequence 191 [some (.ref 78), some (.ref 0), some (.ref w2), some (iv b.1), none, none, none] [] (cS Ls t b.2) o s') → (∀ r : (Int ⊕ Nat) × qMu, y = .inr r → o = (qRi r.1) ∧ s' = (cS Ls (qTt t r.1) r.2)) → Ev (d + 4) mL_isSequence 75 [some (.ref 78), some (.ref 0), some (.ref w2), some (iv x.1), some (iv x.2.1), none, none] [] (cS Ls t x.2.2) o s' := by
  intro k
  induction k with
  | zero => intro x y h; cases h
  | succ k ih =>
    intro x y h o s' kE kR
    rw [lp_s] at h
    replace h := qbd h; obtain ⟨zz, h0, h1⟩ := h
    have h : bL_isSequence_75 n w2 x.1 x.2.1 x.2.2 = some zz := h0
    clear h0
    unfold bL_isSequence_75 at h
    refine ev_iload (pc' := 77) dL_isSequence_75 rfl rfl ?_
    refine ev_aload_n (pc' := 78) dL_isSequence_77 rfl rfl ?_
    refine ev_geti (pc' := 81) (ki := 2) dL_isSequence_78 rfl tf_10_75 sh78 rfl rfl ?_
    refine ev_icmpgt (pc' := 84) (tgt := 191) dL_isSequence_81 (by decide) rfl (x1 := wr x.2.1) (y1 := wr (rd x.2.2 78 2)) rfl rfl  (fun c13 => ?_) (fun c13 => ?_)
    · replace h := qit c13 h
      cases h
      cases h1
      exact ev_wk (qLe_eq (qLe_eq (qLe_eq (qLe_eq (qLe_sk (qLe_eq (qLe_eq qLe_nil))))))) (kE _ rfl)
    · replace h := qif' c13 h
      refine ev_iload (pc' := 86) dL_isSequence_84 rfl rfl ?_
      refine ev_iload (pc' := 88) dL_isSequence_86 rfl rfl ?_
      refine ev_iconst (pc' := 89) dL_isSequence_88 rfl ?_
      refine ev_isub (pc' := 90) dL_isSequence_89 rfl ?_
      refine ev_imul (pc' := 91) dL_isSequence_90 rfl ?_
      refine ev_istore (pc' := 93) (L1 := [some (.ref 78), some (.ref 0), some (.ref w2), some (iv x.1), some (iv x.2.1), some (iv (x.2.1 * (x.2.1 - 1))), none]) dL_isSequence_91 rfl rfl ?_
      refine ev_iconst (pc' := 94) dL_isSequence_93 rfl ?_
      refine ev_istore (pc' := 96) (L1 := [some (.ref 78), some (.ref 0), some (.ref w2), some (iv x.1), some (iv x.2.1), some (iv (x.2.1 * (x.2.1 - 1))), some (iv 0)]) dL_isSequence_94 rfl rfl ?_
      replace h := qbd h; obtain ⟨y19, hy19, h⟩ := h
      refine ev_wk (qLe_eq (qLe_eq (qLe_eq (qLe_eq (qLe_eq (qLe_eq (qLe_eq qLe_nil))))))) (?_ : Ev _ _ _ [some (.ref 78), some (.ref 0), some (.ref w2), some (iv x.1), some (iv x.2.1), some (iv (x.2.1 * (x.2.1 - 1))), some (iv 0)] _ _ _ _)
      refine ebL_isSequence_96 _ _ _ hy19 _ _ ?_
      refine ev_aload_n (pc' := 141) dL_isSequence_140 rfl rfl ?_
      refine ev_iload (pc' := 143) dL_isSequence_141 rfl rfl ?_
      refine ev_iconst (pc' := 144) dL_isSequence_143 rfl ?_
      refine ev_isub (pc' := 145) dL_isSequence_144 rfl ?_
      replace h := qbd h; obtain ⟨y20, hy20, h⟩ := h
      have hcy20 := eX9_sorted (d := d + 0) (Ls := Ls) (t := t) hy20
      obtain ⟨y20v, μ24⟩ := y20
      rcases y20v with v22 | E23
      · refine ev_callg (pc' := 148) (st2 := [iv v22]) (s1 := cS Ls t μ24) dL_isSequence_145 (qs_V tc_10_169 rfl rfl (cS_cls sh0) rfl) rfl rfl hcy20 rfl rfl ?_
        replace h := qel h
        refine ev_aload_n (pc' := 149) dL_isSequence_148 rfl rfl ?_
        refine ev_iload (pc' := 151) dL_isSequence_149 rfl rfl ?_
        refine ev_iconst (pc' := 152) dL_isSequence_151 rfl ?_
        refine ev_isub (pc' := 153) dL_isSequence_152 rfl ?_
        replace h := qbd h; obtain ⟨x25, hx25, h⟩ := h
        refine ev_ialdj (pc' := 154) dL_isSequence_153 rfl hx25 ?_
        refine ev_icmpne (pc' := 157) (tgt := 168) dL_isSequence_154 (by decide) rfl (x1 := wr v22) (y1 := wr x25) rfl rfl  (fun c26 => ?_) (fun c26 => ?_)
        · replace h := qit c26 h
          refine ev_aload_n (pc' := 158) dL_isSequence_157 rfl rfl ?_
          refine ev_iload (pc' := 160) dL_isSequence_158 rfl rfl ?_
          replace h := qbd h; obtain ⟨y27, hy27, h⟩ := h
          have hcy27 := eX9_slack (d := d + 0) (Ls := Ls) (t := t) hy27
          obtain ⟨y27v, μ31⟩ := y27
          rcases y27v with v29 | E30
          · refine ev_callg (pc' := 163) (st2 := [iv v29]) (s1 := cS Ls t μ31) dL_isSequence_160 (qs_V tc_10_172 rfl rfl (cS_cls sh0) rfl) rfl rfl hcy27 rfl rfl ?_
            replace h := qel h
            refine ev_iload (pc' := 165) dL_isSequence_163 rfl rfl ?_
            refine ev_icmpeq (pc' := 168) (tgt := 170) dL_isSequence_165 (by decide) rfl (x1 := wr v29) (y1 := wr y19) rfl rfl  (fun c32 => ?_) (fun c32 => ?_)
            · replace h := qit c32 h
              refine ev_iload_n (pc' := 171) dL_isSequence_170 rfl rfl ?_
              have k34 : ∀ j35 : Int, j35 = (if wr x.1 = 0 then 0 else if wr y19 < 0 then 0 else 1) → Ev (d + 4) mL_isSequence 184 [some (.ref 78), some (.ref 0), some (.ref w2), none, some (iv x.2.1), none, none] [iv j35] (cS Ls t μ31) o s' := by
                intro j35 ej35
                subst ej35
                refine ev_istore_n (pc' := 185) (L1 := [some (.ref 78), some (.ref 0), some (.ref w2), some (iv (if wr x.1 = 0 then 0 else if wr y19 < 0 then 0 else 1)), some (iv x.2.1), none, none]) dL_isSequence_184 rfl rfl ?_
                refine ev_iinc (pc' := 188) (x := x.2.1) (L1 := [some (.ref 78), some (.ref 0), some (.ref w2), some (iv (if wr x.1 = 0 then 0 else if wr y19 < 0 then 0 else 1)), some (iv (x.2.1 + 1)), none, none]) dL_isSequence_185 rfl rfl rfl ?_
                refine ev_goto (pc' := 75) dL_isSequence_188 (by decide) ?_
                cases h
                exact ev_wk (qLe_eq (qLe_eq (qLe_eq (qLe_eq (qLe_eq (qLe_eq (qLe_eq qLe_nil))))))) (ih _ _ h1 _ _ kE kR)
              refine ev_ifeq (pc' := 174) (tgt := 183) dL_isSequence_171 (by decide) rfl (x1 := wr x.1) rfl (fun c33 => ?_) (fun c33 => ?_)
              · skip
                refine ev_iconst (pc' := 184) dL_isSequence_183 rfl ?_
                exact ev_wk (qLe_eq (qLe_eq (qLe_eq (qLe_sk (qLe_eq (qLe_sk (qLe_eq qLe_nil))))))) (k34 _ (qet c33 rfl))
              · skip
                refine ev_iload (pc' := 176) dL_isSequence_174 rfl rfl ?_
                refine ev_iflt (pc' := 179) (tgt := 183) dL_isSequence_176 (by decide) rfl (x1 := wr y19) rfl (fun c36 => ?_) (fun c36 => ?_)
                · skip
                  refine ev_iconst (pc' := 184) dL_isSequence_183 rfl ?_
                  exact ev_wk (qLe_eq (qLe_eq (qLe_eq (qLe_sk (qLe_eq (qLe_sk (qLe_eq qLe_nil))))))) (k34 _ (qef c33 (qet c36 rfl)))
                · skip
                  refine ev_iconst (pc' := 180) dL_isSequence_179 rfl ?_
                  refine ev_goto (pc' := 184) dL_isSequence_180 (by decide) ?_
                  exact ev_wk (qLe_eq (qLe_eq (qLe_eq (qLe_sk (qLe_eq (qLe_sk (qLe_eq qLe_nil))))))) (k34 _ (qef c33 (qef c36 rfl)))
            · replace h := qif' c32 h
              refine ev_iconst (pc' := 169) dL_isSequence_168 rfl ?_
              cases h
              cases h1
              obtain ⟨rfl, rfl⟩ := kR _ rfl
              exact ev_ireturn dL_isSequence_169 rfl rfl
          · replace h := qer h
            cases h
            cases h1
            obtain ⟨rfl, rfl⟩ := kR _ rfl
            exact ev_callx dL_isSequence_160 (qs_V tc_10_172 rfl rfl (cS_cls sh0) rfl) rfl hcy27 rfl rfl
        · replace h := qif' c26 h
          refine ev_iconst (pc' := 169) dL_isSequence_168 rfl ?_
          cases h
          cases h1
          obtain ⟨rfl, rfl⟩ := kR _ rfl
          exact ev_ireturn dL_isSequence_169 rfl rfl
      · replace h := qer h
        cases h
        cases h1
        obtain ⟨rfl, rfl⟩ := kR _ rfl
        exact ev_callx dL_isSequence_145 (qs_V tc_10_169 rfl rfl (cS_cls sh0) rfl) rfl hcy20 rfl rfl
set_option maxRecDepth 100000 in
theorem eL_isSequence {Ls t d n : Nat} {μ : qMu} {r : (Int ⊕ Nat) × qMu} (ht : t = 0) (h : fL_isSequence n μ = some r) : Ev (d + 4) mL_isSequence 0 [some (.ref 78), some (.ref 0), none, none, none, none, none] [] (cS Ls t μ) (qRi r.1) (cS Ls (qTt t r.1) r.2) := by
  unfold fL_isSequence at h
  refine ev_aload_n (pc' := 1) dL_isSequence_0 rfl rfl ?_
  refine ev_geti (pc' := 4) (ki := 2) dL_isSequence_1 rfl tf_10_75 sh78 rfl rfl ?_
  replace h := qbd h; obtain ⟨y1, hy1, h⟩ := h
  refine ev_newa (pc' := 6) ht (Or.inl rfl) dL_isSequence_4 rfl rfl hy1 ?_
  refine ev_astore_n (pc' := 7) (L1 := [some (.ref 78), some (.ref 0), some (.ref y1.1), none, none, none, none]) dL_isSequence_6 rfl rfl ?_
  refine ev_iconst (pc' := 8) dL_isSequence_7 rfl ?_
  refine ev_istore_n (pc' := 9) (L1 := [some (.ref 78), some (.ref 0), some (.ref y1.1), some (iv 0), none, none, none]) dL_isSequence_8 rfl rfl ?_
  replace h := qbd h; obtain ⟨y12, hy12, h⟩ := h
  refine ev_wk (qLe_eq (qLe_eq (qLe_eq (qLe_eq (qLe_eq (qLe_eq (qLe_eq qLe_nil))))))) (?_ : Ev _ _ _ [some (.ref 78), some (.ref 0), some (.ref y1.1), some (iv 0), none, none, none] _ _ _ _)
  refine ebL_isSequence_9 _ _ _ hy12 _ _ ?_
  refine ev_iconst (pc' := 71) dL_isSequence_70 rfl ?_
  refine ev_istore_n (pc' := 72) (L1 := [some (.ref 78), some (.ref 0), some (.ref y1.1), some (iv 1), none, none, none]) dL_isSequence_71 rfl rfl ?_
  refine ev_iconst (pc' := 73) dL_isSequence_72 rfl ?_
  refine ev_istore (pc' := 75) (L1 := [some (.ref 78), some (.ref 0), some (.ref y1.1), some (iv 1), some (iv 1), none, none]) dL_isSequence_73 rfl rfl ?_
  replace h := qbd h; obtain ⟨y37, hy37, h⟩ := h
  refine ev_wk (qLe_eq (qLe_eq (qLe_eq (qLe_eq (qLe_eq (qLe_eq (qLe_eq qLe_nil))))))) (?_ : Ev _ _ _ [some (.ref 78), some (.ref 0), some (.ref y1.1), some (iv 1), some (iv 1), none, none] _ _ _ _)
  refine ebL_isSequence_75 _ _ _ hy37 _ _ ?_ ?_
  · intro b38 eb38
    subst eb38
    replace h := qel h
    refine ev_aload_n (pc' := 192) dL_isSequence_191 rfl rfl ?_
    refine ev_iconst (pc' := 193) dL_isSequence_192 rfl ?_
    replace h := qbd h; obtain ⟨y39, hy39, h⟩ := h
    have hcy39 := eX9_isPossible (d := d + 0) (Ls := Ls) (t := t) hy39
    obtain ⟨y39v, μ43⟩ := y39
    rcases y39v with v41 | E42
    · refine ev_callg (pc' := 196) (st2 := [iv v41]) (s1 := cS Ls t μ43) dL_isSequence_193 (qs_V tc_10_175 rfl rfl (cS_cls sh0) rfl) rfl rfl hcy39 rfl rfl ?_
      replace h := qel h
      refine ev_ifeq (pc' := 199) (tgt := 241) dL_isSequence_196 (by decide) rfl (x1 := wr v41) rfl (fun c44 => ?_) (fun c44 => ?_)
      · replace h := qit c44 h
        refine ev_iconst (pc' := 242) dL_isSequence_241 rfl ?_
        cases h
        exact ev_ireturn dL_isSequence_242 rfl rfl
      · replace h := qif' c44 h
        refine ev_aload_n (pc' := 200) dL_isSequence_199 rfl rfl ?_
        refine ev_iconst (pc' := 201) dL_isSequence_200 rfl ?_
        replace h := qbd h; obtain ⟨y45, hy45, h⟩ := h
        have hcy45 := eX9_isPossible (d := d + 0) (Ls := Ls) (t := t) hy45
        obtain ⟨y45v, μ49⟩ := y45
        rcases y45v with v47 | E48
        · refine ev_callg (pc' := 204) (st2 := [iv v47]) (s1 := cS Ls t μ49) dL_isSequence_201 (qs_V tc_10_175 rfl rfl (cS_cls sh0) rfl) rfl rfl hcy45 rfl rfl ?_
          replace h := qel h
          refine ev_aload_n (pc' := 205) dL_isSequence_204 rfl rfl ?_
          refine ev_iconst (pc' := 206) dL_isSequence_205 rfl ?_
          replace h := qbd h; obtain ⟨x50, hx50, h⟩ := h
          refine ev_ialdj (pc' := 207) dL_isSequence_206 rfl hx50 ?_
          refine ev_iconst (pc' := 208) dL_isSequence_207 rfl ?_
          refine ev_aload_n (pc' := 209) dL_isSequence_208 rfl rfl ?_
          replace h := qbd h; obtain ⟨y51, hy51, h⟩ := h
          refine ev_callg (pc' := 212) (st2 := [iv y51, iv 2, iv x50, iv v47]) dL_isSequence_209 (qs_V tc_10_66 rfl rfl (cS_cls sh78) rfl) rfl rfl (eL_edges (d := d + 3) hy51) rfl rfl ?_
          refine ev_imul (pc' := 213) dL_isSequence_212 rfl ?_
          refine ev_aload_n (pc' := 214) dL_isSequence_213 rfl rfl ?_
          refine ev_iconst (pc' := 215) dL_isSequence_214 rfl ?_
          replace h := qbd h; obtain ⟨x52, hx52, h⟩ := h
          refine ev_ialdj (pc' := 216) dL_isSequence_215 rfl hx52 ?_
          refine ev_isub (pc' := 217) dL_isSequence_216 rfl ?_
          have k54 : ∀ j55 : Int, j55 = (if wr ((2 * y51) - x52) < wr x50 then 0 else 1) → Ev (d + 4) mL_isSequence 225 [none, some (.ref 0), none, some (iv b38.1), none, none, none] [iv j55, iv v47] (cS Ls t μ49) (qRi r.1) (cS Ls (qTt t r.1) r.2) := by
            intro j55 ej55
            subst ej55
            refine ev_icmpne (pc' := 228) (tgt := 241) dL_isSequence_225 (by decide) rfl (x1 := wr v47) (y1 := wr (if wr ((2 * y51) - x52) < wr x50 then 0 else 1)) rfl rfl  (fun c56 => ?_) (fun c56 => ?_)
            · replace h := qit c56 h
              refine ev_aload_n (pc' := 229) dL_isSequence_228 rfl rfl ?_
              refine ev_iconst (pc' := 230) dL_isSequence_229 rfl ?_
              replace h := qbd h; obtain ⟨y57, hy57, h⟩ := h
              have hcy57 := eX9_isPossible (d := d + 0) (Ls := Ls) (t := t) hy57
              obtain ⟨y57v, μ61⟩ := y57
              rcases y57v with v59 | E60
              · refine ev_callg (pc' := 233) (st2 := [iv v59]) (s1 := cS Ls t μ61) dL_isSequence_230 (qs_V tc_10_175 rfl rfl (cS_cls sh0) rfl) rfl rfl hcy57 rfl rfl ?_
                replace h := qel h
                refine ev_iload_n (pc' := 234) dL_isSequence_233 rfl rfl ?_
                refine ev_icmpne (pc' := 237) (tgt := 241) dL_isSequence_234 (by decide) rfl (x1 := wr v59) (y1 := wr b38.1) rfl rfl  (fun c62 => ?_) (fun c62 => ?_)
                · replace h := qit c62 h
                  refine ev_iconst (pc' := 238) dL_isSequence_237 rfl ?_
                  refine ev_goto (pc' := 242) dL_isSequence_238 (by decide) ?_
                  cases h
                  exact ev_ireturn dL_isSequence_242 rfl rfl
                · replace h := qif' c62 h
                  refine ev_iconst (pc' := 242) dL_isSequence_241 rfl ?_
                  cases h
                  exact ev_ireturn dL_isSequence_242 rfl rfl
              · replace h := qer h
                cases h
                exact ev_callx dL_isSequence_230 (qs_V tc_10_175 rfl rfl (cS_cls sh0) rfl) rfl hcy57 rfl rfl
            · replace h := qif' c56 h
              refine ev_iconst (pc' := 242) dL_isSequence_241 rfl ?_
              cases h
              exact ev_ireturn dL_isSequence_242 rfl rfl
          refine ev_icmpgt (pc' := 220) (tgt := 224) dL_isSequence_217 (by decide) rfl (x1 := wr x50) (y1 := wr ((2 * y51) - x52)) rfl rfl  (fun c53 => ?_) (fun c53 => ?_)
          · skip
            refine ev_iconst (pc' := 225) dL_isSequence_224 rfl ?_
            exact ev_wk (qLe_sk (qLe_eq (qLe_sk (qLe_eq (qLe_eq (qLe_eq (qLe_eq qLe_nil))))))) (k54 _ (qet c53 rfl))
          · skip
            refine ev_iconst (pc' := 221) dL_isSequence_220 rfl ?_
            refine ev_goto (pc' := 225) dL_isSequence_221 (by decide) ?_
            exact ev_wk (qLe_sk (qLe_eq (qLe_sk (qLe_eq (qLe_eq (qLe_eq (qLe_eq qLe_nil))))))) (k54 _ (qef c53 rfl))
        · replace h := qer h
          cases h
          exact ev_callx dL_isSequence_201 (qs_V tc_10_175 rfl rfl (cS_cls sh0) rfl) rfl hcy45 rfl rfl
    · replace h := qer h
      cases h
      exact ev_callx dL_isSequence_193 (qs_V tc_10_175 rfl rfl (cS_cls sh0) rfl) rfl hcy39 rfl rfl
  · intro r63 er63
    subst er63
    replace h := qer h
    cases h
    exact ⟨rfl, rfl⟩
set_option maxRecDepth 100000 in
theorem eL_isSame {Ls t d : Nat} {p0 : Int} {p1 : Int} {p2 : Int} {p3 : Int} {μ : qMu} {r : Int} (h : fL_isSame p0 p1 p2 p3 μ = some r) : Ev (d + 0) mL_isSame 0 [some (iv p0), some (iv p1), some (iv p2), some (iv p3)] [] (cS Ls t μ) (.inl (some (iv r))) (cS Ls t μ) := by
  unfold fL_isSame at h
  refine ev_iload_n (pc' := 1) dL_isSame_0 rfl rfl ?_
  refine ev_iload_n (pc' := 2) dL_isSame_1 rfl rfl ?_
  refine ev_min (pc' := 5) dL_isSame_2 rfl tc_10_126 rfl ?_
  refine ev_iload_n (pc' := 6) dL_isSame_5 rfl rfl ?_
  refine ev_iload_n (pc' := 7) dL_isSame_6 rfl rfl ?_
  refine ev_min (pc' := 10) dL_isSame_7 rfl tc_10_126 rfl ?_
  refine ev_icmpne (pc' := 13) (tgt := 30) dL_isSame_10 (by decide) rfl (x1 := wr (mn p0 p1)) (y1 := wr (mn p2 p3)) rfl rfl  (fun c1 => ?_) (fun c1 => ?_)
  · replace h := qit c1 h
    refine ev_iload_n (pc' := 14) dL_isSame_13 rfl rfl ?_
    refine ev_iload_n (pc' := 15) dL_isSame_14 rfl rfl ?_
    refine ev_max (pc' := 18) dL_isSame_15 rfl tc_10_131 rfl ?_
    refine ev_iload_n (pc' := 19) dL_isSame_18 rfl rfl ?_
    refine ev_iload_n (pc' := 20) dL_isSame_19 rfl rfl ?_
    refine ev_max (pc' := 23) dL_isSame_20 rfl tc_10_131 rfl ?_
    refine ev_icmpne (pc' := 26) (tgt := 30) dL_isSame_23 (by decide) rfl (x1 := wr (mx p0 p1)) (y1 := wr (mx p2 p3)) rfl rfl  (fun c2 => ?_) (fun c2 => ?_)
    · replace h := qit c2 h
      refine ev_iconst (pc' := 27) dL_isSame_26 rfl ?_
      refine ev_goto (pc' := 31) dL_isSame_27 (by decide) ?_
      cases h
      exact ev_ireturn dL_isSame_31 rfl rfl
    · replace h := qif' c2 h
      refine ev_iconst (pc' := 31) dL_isSame_30 rfl ?_
      cases h
      exact ev_ireturn dL_isSame_31 rfl rfl
  · replace h := qif' c1 h
    refine ev_iconst (pc' := 31) dL_isSame_30 rfl ?_
    cases h
    exact ev_ireturn dL_isSame_31 rfl rfl
set_option maxRecDepth 100000 in
theorem eL_isReason {Ls t d : Nat} {μ : qMu} {r : (Int ⊕ Nat) × qMu} (hLs : Ls ≤ 5000) (h : fL_isReason Ls μ = some r) : Ev (d + 4) mL_isReason 0 [some (.ref 78), some (.ref 0), none, none, none, none, none, none, none, none] [] (cS Ls t μ) (qRi r.1) (cS Ls (qTt t r.1) r.2) := by
  unfold fL_isReason at h
  refine ev_aload_n (pc' := 1) dL_isReason_0 rfl rfl ?_
  refine ev_aload_n (pc' := 2) dL_isReason_1 rfl rfl ?_
  refine ev_geti (pc' := 5) (ki := 2) dL_isReason_2 rfl tf_10_75 sh78 rfl rfl ?_
  replace h := qbd h; obtain ⟨y1, hy1, h⟩ := h
  refine ev_callg (pc' := 8) (st2 := [iv y1.1]) dL_isReason_5 (qs_V tc_10_54 rfl rfl (cS_cls sh78) rfl) rfl rfl (eL_chosen (d := d + 2) hLs hy1) rfl rfl ?_
  refine ev_istore_n (pc' := 9) (L1 := [some (.ref 78), some (.ref 0), some (iv y1.1), none, none, none, none, none, none, none]) dL_isReason_8 rfl rfl ?_
  refine ev_aload_n (pc' := 10) dL_isReason_9 rfl rfl ?_
  refine ev_aload_n (pc' := 11) dL_isReason_10 rfl rfl ?_
  refine ev_geti (pc' := 14) (ki := 2) dL_isReason_11 rfl tf_10_75 sh78 rfl rfl ?_
  replace h := qbd h; obtain ⟨y2, hy2, h⟩ := h
  refine ev_callg (pc' := 17) (st2 := [iv y2.1]) dL_isReason_14 (qs_V tc_10_54 rfl rfl (cS_cls sh78) rfl) rfl rfl (eL_chosen (d := d + 2) hLs hy2) rfl rfl ?_
  refine ev_istore_n (pc' := 18) (L1 := [some (.ref 78), some (.ref 0), some (iv y1.1), some (iv y2.1), none, none, none, none, none, none]) dL_isReason_17 rfl rfl ?_
  refine ev_aload_n (pc' := 19) dL_isReason_18 rfl rfl ?_
  refine ev_aload_n (pc' := 20) dL_isReason_19 rfl rfl ?_
  refine ev_geti (pc' := 23) (ki := 2) dL_isReason_20 rfl tf_10_75 sh78 rfl rfl ?_
  replace h := qbd h; obtain ⟨y3, hy3, h⟩ := h
  refine ev_callg (pc' := 26) (st2 := [iv y3.1]) dL_isReason_23 (qs_V tc_10_54 rfl rfl (cS_cls sh78) rfl) rfl rfl (eL_chosen (d := d + 2) hLs hy3) rfl rfl ?_
  refine ev_istore (pc' := 28) (L1 := [some (.ref 78), some (.ref 0), some (iv y1.1), some (iv y2.1), some (iv y3.1), none, none, none, none, none]) dL_isReason_26 rfl rfl ?_
  refine ev_aload_n (pc' := 29) dL_isReason_28 rfl rfl ?_
  refine ev_aload_n (pc' := 30) dL_isReason_29 rfl rfl ?_
  refine ev_geti (pc' := 33) (ki := 2) dL_isReason_30 rfl tf_10_75 sh78 rfl rfl ?_
  replace h := qbd h; obtain ⟨y4, hy4, h⟩ := h
  refine ev_callg (pc' := 36) (st2 := [iv y4.1]) dL_isReason_33 (qs_V tc_10_54 rfl rfl (cS_cls sh78) rfl) rfl rfl (eL_chosen (d := d + 2) hLs hy4) rfl rfl ?_
  refine ev_istore (pc' := 38) (L1 := [some (.ref 78), some (.ref 0), some (iv y1.1), some (iv y2.1), some (iv y3.1), some (iv y4.1), none, none, none, none]) dL_isReason_36 rfl rfl ?_
  refine ev_aload_n (pc' := 39) dL_isReason_38 rfl rfl ?_
  refine ev_iload (pc' := 41) dL_isReason_39 rfl rfl ?_
  refine ev_iload (pc' := 43) dL_isReason_41 rfl rfl ?_
  replace h := qbd h; obtain ⟨y5, hy5, h⟩ := h
  refine ev_callg (pc' := 46) (st2 := [iv y5]) dL_isReason_43 (qs_V tc_10_134 rfl rfl (cS_cls sh78) rfl) rfl rfl (eL_many (d := d + 3) hy5) rfl rfl ?_
  refine ev_iload_n (pc' := 47) dL_isReason_46 rfl rfl ?_
  refine ev_iload_n (pc' := 48) dL_isReason_47 rfl rfl ?_
  refine ev_iload (pc' := 50) dL_isReason_48 rfl rfl ?_
  refine ev_iload (pc' := 52) dL_isReason_50 rfl rfl ?_
  replace h := qbd h; obtain ⟨y6, hy6, h⟩ := h
  refine ev_callg (pc' := 55) (st2 := [iv y6, iv y5]) dL_isReason_52 (qs_S tc_10_179 (by decide) rfl rfl) rfl rfl (eL_isSame (d := d + 3) hy6) rfl rfl ?_
  have k8 : ∀ j9 : Int, j9 = (if wr y6 = 0 then 0 else 1) → Ev (d + 4) mL_isReason 63 [some (.ref 78), some (.ref 0), some (iv y1.1), some (iv y2.1), some (iv y3.1), some (iv y4.1), none, none, none, none] [iv j9, iv y5] (cS Ls t y4.2) (qRi r.1) (cS Ls (qTt t r.1) r.2) := by
    intro j9 ej9
    subst ej9
    refine ev_isub (pc' := 64) dL_isReason_63 rfl ?_
    refine ev_istore (pc' := 66) (L1 := [some (.ref 78), some (.ref 0), some (iv y1.1), some (iv y2.1), some (iv y3.1), some (iv y4.1), some (iv (y5 - (if wr y6 = 0 then 0 else 1))), none, none, none]) dL_isReason_64 rfl rfl ?_
    refine ev_aload_n (pc' := 67) dL_isReason_66 rfl rfl ?_
    refine ev_iload_n (pc' := 68) dL_isReason_67 rfl rfl ?_
    refine ev_iload (pc' := 70) dL_isReason_68 rfl rfl ?_
    replace h := qbd h; obtain ⟨y10, hy10, h⟩ := h
    refine ev_callg (pc' := 73) (st2 := [iv y10]) dL_isReason_70 (qs_V tc_10_134 rfl rfl (cS_cls sh78) rfl) rfl rfl (eL_many (d := d + 3) hy10) rfl rfl ?_
    refine ev_iload_n (pc' := 74) dL_isReason_73 rfl rfl ?_
    refine ev_iload (pc' := 76) dL_isReason_74 rfl rfl ?_
    refine ev_iload_n (pc' := 77) dL_isReason_76 rfl rfl ?_
    refine ev_iload_n (pc' := 78) dL_isReason_77 rfl rfl ?_
    replace h := qbd h; obtain ⟨y11, hy11, h⟩ := h
    refine ev_callg (pc' := 81) (st2 := [iv y11, iv y10]) dL_isReason_78 (qs_S tc_10_179 (by decide) rfl rfl) rfl rfl (eL_isSame (d := d + 3) hy11) rfl rfl ?_
    have k13 : ∀ j14 : Int, j14 = (if wr y11 = 0 then 0 else 1) → Ev (d + 4) mL_isReason 89 [some (.ref 78), some (.ref 0), some (iv y1.1), some (iv y2.1), some (iv y3.1), some (iv y4.1), some (iv (y5 - (if wr y6 = 0 then 0 else 1))), none, none, none] [iv j14, iv y10] (cS Ls t y4.2) (qRi r.1) (cS Ls (qTt t r.1) r.2) := by
      intro j14 ej14
      subst ej14
      refine ev_isub (pc' := 90) dL_isReason_89 rfl ?_
      refine ev_iload_n (pc' := 91) dL_isReason_90 rfl rfl ?_
      refine ev_iload (pc' := 93) dL_isReason_91 rfl rfl ?_
      refine ev_iload (pc' := 95) dL_isReason_93 rfl rfl ?_
      refine ev_iload (pc' := 97) dL_isReason_95 rfl rfl ?_
      replace h := qbd h; obtain ⟨y15, hy15, h⟩ := h
      refine ev_callg (pc' := 100) (st2 := [iv y15, iv (y10 - (if wr y11 = 0 then 0 else 1))]) dL_isReason_97 (qs_S tc_10_179 (by decide) rfl rfl) rfl rfl (eL_isSame (d := d + 3) hy15) rfl rfl ?_
      have k17 : ∀ j18 : Int, j18 = (if wr y15 = 0 then 0 else 1) → Ev (d + 4) mL_isReason 108 [some (.ref 78), some (.ref 0), some (iv y1.1), some (iv y2.1), some (iv y3.1), some (iv y4.1), some (iv (y5 - (if wr y6 = 0 then 0 else 1))), none, none, none] [iv j18, iv (y10 - (if wr y11 = 0 then 0 else 1))] (cS Ls t y4.2) (qRi r.1) (cS Ls (qTt t r.1) r.2) := by
        intro j18 ej18
        subst ej18
        refine ev_isub (pc' := 109) dL_isReason_108 rfl ?_
        refine ev_istore (pc' := 111) (L1 := [some (.ref 78), some (.ref 0), some (iv y1.1), some (iv y2.1), some (iv y3.1), some (iv y4.1), some (iv (y5 - (if wr y6 = 0 then 0 else 1))), some (iv ((y10 - (if wr y11 = 0 then 0 else 1)) - (if wr y15 = 0 then 0 else 1))), none, none]) dL_isReason_109 rfl rfl ?_
        refine ev_aload_n (pc' := 112) dL_isReason_111 rfl rfl ?_
        refine ev_iload_n (pc' := 113) dL_isReason_112 rfl rfl ?_
        refine ev_iload (pc' := 115) dL_isReason_113 rfl rfl ?_
        replace h := qbd h; obtain ⟨y19, hy19, h⟩ := h
        refine ev_callg (pc' := 118) (st2 := [iv y19]) dL_isReason_115 (qs_V tc_10_134 rfl rfl (cS_cls sh78) rfl) rfl rfl (eL_many (d := d + 3) hy19) rfl rfl ?_
        refine ev_iload_n (pc' := 119) dL_isReason_118 rfl rfl ?_
        refine ev_iload (pc' := 121) dL_isReason_119 rfl rfl ?_
        refine ev_iload_n (pc' := 122) dL_isReason_121 rfl rfl ?_
        refine ev_iload_n (pc' := 123) dL_isReason_122 rfl rfl ?_
        replace h := qbd h; obtain ⟨y20, hy20, h⟩ := h
        refine ev_callg (pc' := 126) (st2 := [iv y20, iv y19]) dL_isReason_123 (qs_S tc_10_179 (by decide) rfl rfl) rfl rfl (eL_isSame (d := d + 3) hy20) rfl rfl ?_
        have k22 : ∀ j23 : Int, j23 = (if wr y20 = 0 then 0 else 1) → Ev (d + 4) mL_isReason 134 [some (.ref 78), some (.ref 0), some (iv y1.1), some (iv y2.1), some (iv y3.1), some (iv y4.1), some (iv (y5 - (if wr y6 = 0 then 0 else 1))), some (iv ((y10 - (if wr y11 = 0 then 0 else 1)) - (if wr y15 = 0 then 0 else 1))), none, none] [iv j23, iv y19] (cS Ls t y4.2) (qRi r.1) (cS Ls (qTt t r.1) r.2) := by
          intro j23 ej23
          subst ej23
          refine ev_isub (pc' := 135) dL_isReason_134 rfl ?_
          refine ev_iload_n (pc' := 136) dL_isReason_135 rfl rfl ?_
          refine ev_iload (pc' := 138) dL_isReason_136 rfl rfl ?_
          refine ev_iload (pc' := 140) dL_isReason_138 rfl rfl ?_
          refine ev_iload (pc' := 142) dL_isReason_140 rfl rfl ?_
          replace h := qbd h; obtain ⟨y24, hy24, h⟩ := h
          refine ev_callg (pc' := 145) (st2 := [iv y24, iv (y19 - (if wr y20 = 0 then 0 else 1))]) dL_isReason_142 (qs_S tc_10_179 (by decide) rfl rfl) rfl rfl (eL_isSame (d := d + 3) hy24) rfl rfl ?_
          have k26 : ∀ j27 : Int, j27 = (if wr y24 = 0 then 0 else 1) → Ev (d + 4) mL_isReason 153 [some (.ref 78), some (.ref 0), some (iv y1.1), some (iv y2.1), some (iv y3.1), some (iv y4.1), some (iv (y5 - (if wr y6 = 0 then 0 else 1))), some (iv ((y10 - (if wr y11 = 0 then 0 else 1)) - (if wr y15 = 0 then 0 else 1))), none, none] [iv j27, iv (y19 - (if wr y20 = 0 then 0 else 1))] (cS Ls t y4.2) (qRi r.1) (cS Ls (qTt t r.1) r.2) := by
            intro j27 ej27
            subst ej27
            refine ev_isub (pc' := 154) dL_isReason_153 rfl ?_
            refine ev_istore (pc' := 156) (L1 := [some (.ref 78), some (.ref 0), some (iv y1.1), some (iv y2.1), some (iv y3.1), some (iv y4.1), some (iv (y5 - (if wr y6 = 0 then 0 else 1))), some (iv ((y10 - (if wr y11 = 0 then 0 else 1)) - (if wr y15 = 0 then 0 else 1))), some (iv ((y19 - (if wr y20 = 0 then 0 else 1)) - (if wr y24 = 0 then 0 else 1))), none]) dL_isReason_154 rfl rfl ?_
            refine ev_aload_n (pc' := 157) dL_isReason_156 rfl rfl ?_
            refine ev_iload_n (pc' := 158) dL_isReason_157 rfl rfl ?_
            refine ev_iload_n (pc' := 159) dL_isReason_158 rfl rfl ?_
            replace h := qbd h; obtain ⟨y28, hy28, h⟩ := h
            refine ev_callg (pc' := 162) (st2 := [iv y28]) dL_isReason_159 (qs_V tc_10_134 rfl rfl (cS_cls sh78) rfl) rfl rfl (eL_many (d := d + 3) hy28) rfl rfl ?_
            replace h := qbd h; obtain ⟨y30, hy30, h⟩ := h
            have kJ : Ev (d + 4) mL_isReason 253 [none, some (.ref 0), some (iv y1.1), some (iv y2.1), some (iv y3.1), some (iv y4.1), none, none, none, none] [iv y30] (cS Ls t y4.2) (qRi r.1) (cS Ls (qTt t r.1) r.2) := by
              refine ev_istore (pc' := 255) (L1 := [none, some (.ref 0), some (iv y1.1), some (iv y2.1), some (iv y3.1), some (iv y4.1), none, none, none, some (iv y30)]) dL_isReason_253 rfl rfl ?_
              refine ev_aload_n (pc' := 256) dL_isReason_255 rfl rfl ?_
              refine ev_iload_n (pc' := 257) dL_isReason_256 rfl rfl ?_
              refine ev_iload_n (pc' := 258) dL_isReason_257 rfl rfl ?_
              refine ev_iload (pc' := 260) dL_isReason_258 rfl rfl ?_
              refine ev_iload (pc' := 262) dL_isReason_260 rfl rfl ?_
              replace h := qbd h; obtain ⟨y47, hy47, h⟩ := h
              have hcy47 := eX9_reason (d := d + 0) (Ls := Ls) (t := t) hy47
              rcases y47 with v49 | E50
              · refine ev_callg (pc' := 265) (st2 := [iv v49]) (s1 := cS Ls t y4.2) dL_isReason_262 (qs_V tc_10_183 rfl rfl (cS_cls sh0) rfl) rfl rfl hcy47 rfl rfl ?_
                replace h := qel h
                refine ev_iload (pc' := 267) dL_isReason_265 rfl rfl ?_
                refine ev_icmpne (pc' := 270) (tgt := 274) dL_isReason_267 (by decide) rfl (x1 := wr v49) (y1 := wr y30) rfl rfl  (fun c51 => ?_) (fun c51 => ?_)
                · replace h := qit c51 h
                  refine ev_iconst (pc' := 271) dL_isReason_270 rfl ?_
                  refine ev_goto (pc' := 275) dL_isReason_271 (by decide) ?_
                  cases h
                  exact ev_ireturn dL_isReason_275 rfl rfl
                · replace h := qif' c51 h
                  refine ev_iconst (pc' := 275) dL_isReason_274 rfl ?_
                  cases h
                  exact ev_ireturn dL_isReason_275 rfl rfl
              · replace h := qer h
                cases h
                exact ev_callx dL_isReason_262 (qs_V tc_10_183 rfl rfl (cS_cls sh0) rfl) rfl hcy47 rfl rfl
            replace h := hy30
            clear hy30
            refine ev_ifne (pc' := 165) (tgt := 169) dL_isReason_162 (by decide) rfl (x1 := wr y28) rfl (fun c29 => ?_) (fun c29 => ?_)
            · replace h := qit c29 h
              refine ev_iconst (pc' := 166) dL_isReason_165 rfl ?_
              refine ev_goto (pc' := 253) dL_isReason_166 (by decide) ?_
              cases h
              exact ev_wk (qLe_sk (qLe_eq (qLe_eq (qLe_eq (qLe_eq (qLe_eq (qLe_sk (qLe_sk (qLe_sk (qLe_eq qLe_nil)))))))))) kJ
            · replace h := qif' c29 h
              refine ev_iload (pc' := 171) dL_isReason_169 rfl rfl ?_
              refine ev_iconst (pc' := 172) dL_isReason_171 rfl ?_
              refine ev_icmpge (pc' := 175) (tgt := 179) dL_isReason_172 (by decide) rfl (x1 := wr (y5 - (if wr y6 = 0 then 0 else 1))) (y1 := 1) rfl wl_1  (fun c31 => ?_) (fun c31 => ?_)
              · replace h := qit c31 h
                refine ev_iconst (pc' := 176) dL_isReason_175 rfl ?_
                refine ev_goto (pc' := 253) dL_isReason_176 (by decide) ?_
                cases h
                exact ev_wk (qLe_sk (qLe_eq (qLe_eq (qLe_eq (qLe_eq (qLe_eq (qLe_sk (qLe_sk (qLe_sk (qLe_eq qLe_nil)))))))))) kJ
              · replace h := qif' c31 h
                refine ev_iload_n (pc' := 180) dL_isReason_179 rfl rfl ?_
                refine ev_iload (pc' := 182) dL_isReason_180 rfl rfl ?_
                refine ev_icmpeq (pc' := 185) (tgt := 191) dL_isReason_182 (by decide) rfl (x1 := wr y1.1) (y1 := wr y4.1) rfl rfl  (fun c32 => ?_) (fun c32 => ?_)
                · replace h := qit c32 h
                  refine ev_iconst (pc' := 192) dL_isReason_191 rfl ?_
                  refine ev_goto (pc' := 253) dL_isReason_192 (by decide) ?_
                  cases h
                  exact ev_wk (qLe_sk (qLe_eq (qLe_eq (qLe_eq (qLe_eq (qLe_eq (qLe_sk (qLe_sk (qLe_sk (qLe_eq qLe_nil)))))))))) kJ
                · replace h := qif' c32 h
                  refine ev_iload_n (pc' := 186) dL_isReason_185 rfl rfl ?_
                  refine ev_iload (pc' := 188) dL_isReason_186 rfl rfl ?_
                  refine ev_icmpne (pc' := 191) (tgt := 195) dL_isReason_188 (by decide) rfl (x1 := wr y2.1) (y1 := wr y3.1) rfl rfl  (fun c33 => ?_) (fun c33 => ?_)
                  · replace h := qit c33 h
                    refine ev_iconst (pc' := 192) dL_isReason_191 rfl ?_
                    refine ev_goto (pc' := 253) dL_isReason_192 (by decide) ?_
                    cases h
                    exact ev_wk (qLe_sk (qLe_eq (qLe_eq (qLe_eq (qLe_eq (qLe_eq (qLe_sk (qLe_sk (qLe_sk (qLe_eq qLe_nil)))))))))) kJ
                  · replace h := qif' c33 h
                    refine ev_aload_n (pc' := 196) dL_isReason_195 rfl rfl ?_
                    refine ev_geti (pc' := 199) (ki := 3) dL_isReason_196 rfl tf_10_100 sh78 rfl rfl ?_
                    refine ev_ifle (pc' := 202) (tgt := 218) dL_isReason_199 (by decide) rfl (x1 := wr (rd y4.2 78 3)) rfl (fun c34 => ?_) (fun c34 => ?_)
                    · replace h := qit c34 h
                      refine ev_iload_n (pc' := 203) dL_isReason_202 rfl rfl ?_
                      refine ev_iload (pc' := 205) dL_isReason_203 rfl rfl ?_
                      refine ev_icmpeq (pc' := 208) (tgt := 214) dL_isReason_205 (by decide) rfl (x1 := wr y1.1) (y1 := wr y3.1) rfl rfl  (fun c35 => ?_) (fun c35 => ?_)
                      · replace h := qit c35 h
                        refine ev_iconst (pc' := 215) dL_isReason_214 rfl ?_
                        refine ev_goto (pc' := 253) dL_isReason_215 (by decide) ?_
                        cases h
                        exact ev_wk (qLe_sk (qLe_eq (qLe_eq (qLe_eq (qLe_eq (qLe_eq (qLe_sk (qLe_sk (qLe_sk (qLe_eq qLe_nil)))))))))) kJ
                      · replace h := qif' c35 h
                        refine ev_iload_n (pc' := 209) dL_isReason_208 rfl rfl ?_
                        refine ev_iload (pc' := 211) dL_isReason_209 rfl rfl ?_
                        refine ev_icmpne (pc' := 214) (tgt := 218) dL_isReason_211 (by decide) rfl (x1 := wr y2.1) (y1 := wr y4.1) rfl rfl  (fun c36 => ?_) (fun c36 => ?_)
                        · replace h := qit c36 h
                          refine ev_iconst (pc' := 215) dL_isReason_214 rfl ?_
                          refine ev_goto (pc' := 253) dL_isReason_215 (by decide) ?_
                          cases h
                          exact ev_wk (qLe_sk (qLe_eq (qLe_eq (qLe_eq (qLe_eq (qLe_eq (qLe_sk (qLe_sk (qLe_sk (qLe_eq qLe_nil)))))))))) kJ
                        · replace h := qif' c36 h
                          refine ev_aload_n (pc' := 219) dL_isReason_218 rfl rfl ?_
                          refine ev_geti (pc' := 222) (ki := 3) dL_isReason_219 rfl tf_10_100 sh78 rfl rfl ?_
                          refine ev_iconst (pc' := 223) dL_isReason_222 rfl ?_
                          refine ev_icmpne (pc' := 226) (tgt := 252) dL_isReason_223 (by decide) rfl (x1 := wr (rd y4.2 78 3)) (y1 := 2) rfl wl_2  (fun c37 => ?_) (fun c37 => ?_)
                          · replace h := qit c37 h
                            refine ev_iload (pc' := 228) dL_isReason_226 rfl rfl ?_
                            refine ev_ifgt (pc' := 231) (tgt := 248) dL_isReason_228 (by decide) rfl (x1 := wr ((y10 - (if wr y11 = 0 then 0 else 1)) - (if wr y15 = 0 then 0 else 1))) rfl (fun c38 => ?_) (fun c38 => ?_)
                            · replace h := qit c38 h
                              refine ev_iconst (pc' := 249) dL_isReason_248 rfl ?_
                              refine ev_goto (pc' := 253) dL_isReason_249 (by decide) ?_
                              cases h
                              exact ev_wk (qLe_sk (qLe_eq (qLe_eq (qLe_eq (qLe_eq (qLe_eq (qLe_sk (qLe_sk (qLe_sk (qLe_eq qLe_nil)))))))))) kJ
                            · replace h := qif' c38 h
                              refine ev_iload (pc' := 233) dL_isReason_231 rfl rfl ?_
                              refine ev_ifgt (pc' := 236) (tgt := 248) dL_isReason_233 (by decide) rfl (x1 := wr ((y19 - (if wr y20 = 0 then 0 else 1)) - (if wr y24 = 0 then 0 else 1))) rfl (fun c39 => ?_) (fun c39 => ?_)
                              · replace h := qit c39 h
                                refine ev_iconst (pc' := 249) dL_isReason_248 rfl ?_
                                refine ev_goto (pc' := 253) dL_isReason_249 (by decide) ?_
                                cases h
                                exact ev_wk (qLe_sk (qLe_eq (qLe_eq (qLe_eq (qLe_eq (qLe_eq (qLe_sk (qLe_sk (qLe_sk (qLe_eq qLe_nil)))))))))) kJ
                              · replace h := qif' c39 h
                                refine ev_iload_n (pc' := 237) dL_isReason_236 rfl rfl ?_
                                refine ev_iload (pc' := 239) dL_isReason_237 rfl rfl ?_
                                refine ev_iload_n (pc' := 240) dL_isReason_239 rfl rfl ?_
                                refine ev_iload (pc' := 242) dL_isReason_240 rfl rfl ?_
                                replace h := qbd h; obtain ⟨y40, hy40, h⟩ := h
                                refine ev_callg (pc' := 245) (st2 := [iv y40]) dL_isReason_242 (qs_S tc_10_179 (by decide) rfl rfl) rfl rfl (eL_isSame (d := d + 3) hy40) rfl rfl ?_
                                refine ev_ifeq (pc' := 248) (tgt := 252) dL_isReason_245 (by decide) rfl (x1 := wr y40) rfl (fun c41 => ?_) (fun c41 => ?_)
                                · replace h := qit c41 h
                                  refine ev_iconst (pc' := 253) dL_isReason_252 rfl ?_
                                  cases h
                                  exact ev_wk (qLe_sk (qLe_eq (qLe_eq (qLe_eq (qLe_eq (qLe_eq (qLe_sk (qLe_sk (qLe_sk (qLe_eq qLe_nil)))))))))) kJ
                                · replace h := qif' c41 h
                                  refine ev_iconst (pc' := 249) dL_isReason_248 rfl ?_
                                  refine ev_goto (pc' := 253) dL_isReason_249 (by decide) ?_
                                  cases h
                                  exact ev_wk (qLe_sk (qLe_eq (qLe_eq (qLe_eq (qLe_eq (qLe_eq (qLe_sk (qLe_sk (qLe_sk (qLe_eq qLe_nil)))))))))) kJ
                          · replace h := qif' c37 h
                            refine ev_iconst (pc' := 253) dL_isReason_252 rfl ?_
                            cases h
                            exact ev_wk (qLe_sk (qLe_eq (qLe_eq (qLe_eq (qLe_eq (qLe_eq (qLe_sk (qLe_sk (qLe_sk (qLe_eq qLe_nil)))))))))) kJ
                    · replace h := qif' c34 h
                      refine ev_aload_n (pc' := 219) dL_isReason_218 rfl rfl ?_
                      refine ev_geti (pc' := 222) (ki := 3) dL_isReason_219 rfl tf_10_100 sh78 rfl rfl ?_
                      refine ev_iconst (pc' := 223) dL_isReason_222 rfl ?_
                      refine ev_icmpne (pc' := 226) (tgt := 252) dL_isReason_223 (by decide) rfl (x1 := wr (rd y4.2 78 3)) (y1 := 2) rfl wl_2  (fun c42 => ?_) (fun c42 => ?_)
                      · replace h := qit c42 h
                        refine ev_iload (pc' := 228) dL_isReason_226 rfl rfl ?_
                        refine ev_ifgt (pc' := 231) (tgt := 248) dL_isReason_228 (by decide) rfl (x1 := wr ((y10 - (if wr y11 = 0 then 0 else 1)) - (if wr y15 = 0 then 0 else 1))) rfl (fun c43 => ?_) (fun c43 => ?_)
                        · replace h := qit c43 h
                          refine ev_iconst (pc' := 249) dL_isReason_248 rfl ?_
                          refine ev_goto (pc' := 253) dL_isReason_249 (by decide) ?_
                          cases h
                          exact ev_wk (qLe_sk (qLe_eq (qLe_eq (qLe_eq (qLe_eq (qLe_eq (qLe_sk (qLe_sk (qLe_sk (qLe_eq qLe_nil)))))))))) kJ
                        · replace h := qif' c43 h
                          refine ev_iload (pc' := 233) dL_isReason_231 rfl rfl ?_
                          refine ev_ifgt (pc' := 236) (tgt := 248) dL_isReason_233 (by decide) rfl (x1 := wr ((y19 - (if wr y20 = 0 then 0 else 1)) - (if wr y24 = 0 then 0 else 1))) rfl (fun c44 => ?_) (fun c44 => ?_)
                          · replace h := qit c44 h
                            refine ev_iconst (pc' := 249) dL_isReason_248 rfl ?_
                            refine ev_goto (pc' := 253) dL_isReason_249 (by decide) ?_
                            cases h
                            exact ev_wk (qLe_sk (qLe_eq (qLe_eq (qLe_eq (qLe_eq (qLe_eq (qLe_sk (qLe_sk (qLe_sk (qLe_eq qLe_nil)))))))))) kJ
                          · replace h := qif' c44 h
                            refine ev_iload_n (pc' := 237) dL_isReason_236 rfl rfl ?_
                            refine ev_iload (pc' := 239) dL_isReason_237 rfl rfl ?_
                            refine ev_iload_n (pc' := 240) dL_isReason_239 rfl rfl ?_
                            refine ev_iload (pc' := 242) dL_isReason_240 rfl rfl ?_
                            replace h := qbd h; obtain ⟨y45, hy45, h⟩ := h
                            refine ev_callg (pc' := 245) (st2 := [iv y45]) dL_isReason_242 (qs_S tc_10_179 (by decide) rfl rfl) rfl rfl (eL_isSame (d := d + 3) hy45) rfl rfl ?_
                            refine ev_ifeq (pc' := 248) (tgt := 252) dL_isReason_245 (by decide) rfl (x1 := wr y45) rfl (fun c46 => ?_) (fun c46 => ?_)
                            · replace h := qit c46 h
                              refine ev_iconst (pc' := 253) dL_isReason_252 rfl ?_
                              cases h
                              exact ev_wk (qLe_sk (qLe_eq (qLe_eq (qLe_eq (qLe_eq (qLe_eq (qLe_sk (qLe_sk (qLe_sk (qLe_eq qLe_nil)))))))))) kJ
                            · replace h := qif' c46 h
                              refine ev_iconst (pc' := 249) dL_isReason_248 rfl ?_
                              refine ev_goto (pc' := 253) dL_isReason_249 (by decide) ?_
                              cases h
                              exact ev_wk (qLe_sk (qLe_eq (qLe_eq (qLe_eq (qLe_eq (qLe_eq (qLe_sk (qLe_sk (qLe_sk (qLe_eq qLe_nil)))))))))) kJ
                      · replace h := qif' c42 h
                        refine ev_iconst (pc' := 253) dL_isReason_252 rfl ?_
                        cases h
                        exact ev_wk (qLe_sk (qLe_eq (qLe_eq (qLe_eq (qLe_eq (qLe_eq (qLe_sk (qLe_sk (qLe_sk (qLe_eq qLe_nil)))))))))) kJ
          refine ev_ifeq (pc' := 148) (tgt := 152) dL_isReason_145 (by decide) rfl (x1 := wr y24) rfl (fun c25 => ?_) (fun c25 => ?_)
          · skip
            refine ev_iconst (pc' := 153) dL_isReason_152 rfl ?_
            exact ev_wk (qLe_eq (qLe_eq (qLe_eq (qLe_eq (qLe_eq (qLe_eq (qLe_eq (qLe_eq (qLe_eq (qLe_eq qLe_nil)))))))))) (k26 _ (qet c25 rfl))
          · skip
            refine ev_iconst (pc' := 149) dL_isReason_148 rfl ?_
            refine ev_goto (pc' := 153) dL_isReason_149 (by decide) ?_
            exact ev_wk (qLe_eq (qLe_eq (qLe_eq (qLe_eq (qLe_eq (qLe_eq (qLe_eq (qLe_eq (qLe_eq (qLe_eq qLe_nil)))))))))) (k26 _ (qef c25 rfl))
        refine ev_ifeq (pc' := 129) (tgt := 133) dL_isReason_126 (by decide) rfl (x1 := wr y20) rfl (fun c21 => ?_) (fun c21 => ?_)
        · skip
          refine ev_iconst (pc' := 134) dL_isReason_133 rfl ?_
          exact ev_wk (qLe_eq (qLe_eq (qLe_eq (qLe_eq (qLe_eq (qLe_eq (qLe_eq (qLe_eq (qLe_eq (qLe_eq qLe_nil)))))))))) (k22 _ (qet c21 rfl))
        · skip
          refine ev_iconst (pc' := 130) dL_isReason_129 rfl ?_
          refine ev_goto (pc' := 134) dL_isReason_130 (by decide) ?_
          exact ev_wk (qLe_eq (qLe_eq (qLe_eq (qLe_eq (qLe_eq (qLe_eq (qLe_eq (qLe_eq (qLe_eq (qLe_eq qLe_nil)))))))))) (k22 _ (qef c21 rfl))
      refine ev_ifeq (pc' := 103) (tgt := 107) dL_isReason_100 (by decide) rfl (x1 := wr y15) rfl (fun c16 => ?_) (fun c16 => ?_)
      · skip
        refine ev_iconst (pc' := 108) dL_isReason_107 rfl ?_
        exact ev_wk (qLe_eq (qLe_eq (qLe_eq (qLe_eq (qLe_eq (qLe_eq (qLe_eq (qLe_eq (qLe_eq (qLe_eq qLe_nil)))))))))) (k17 _ (qet c16 rfl))
      · skip
        refine ev_iconst (pc' := 104) dL_isReason_103 rfl ?_
        refine ev_goto (pc' := 108) dL_isReason_104 (by decide) ?_
        exact ev_wk (qLe_eq (qLe_eq (qLe_eq (qLe_eq (qLe_eq (qLe_eq (qLe_eq (qLe_eq (qLe_eq (qLe_eq qLe_nil)))))))))) (k17 _ (qef c16 rfl))
    refine ev_ifeq (pc' := 84) (tgt := 88) dL_isReason_81 (by decide) rfl (x1 := wr y11) rfl (fun c12 => ?_) (fun c12 => ?_)
    · skip
      refine ev_iconst (pc' := 89) dL_isReason_88 rfl ?_
      exact ev_wk (qLe_eq (qLe_eq (qLe_eq (qLe_eq (qLe_eq (qLe_eq (qLe_eq (qLe_eq (qLe_eq (qLe_eq qLe_nil)))))))))) (k13 _ (qet c12 rfl))
    · skip
      refine ev_iconst (pc' := 85) dL_isReason_84 rfl ?_
      refine ev_goto (pc' := 89) dL_isReason_85 (by decide) ?_
      exact ev_wk (qLe_eq (qLe_eq (qLe_eq (qLe_eq (qLe_eq (qLe_eq (qLe_eq (qLe_eq (qLe_eq (qLe_eq qLe_nil)))))))))) (k13 _ (qef c12 rfl))
  refine ev_ifeq (pc' := 58) (tgt := 62) dL_isReason_55 (by decide) rfl (x1 := wr y6) rfl (fun c7 => ?_) (fun c7 => ?_)
  · skip
    refine ev_iconst (pc' := 63) dL_isReason_62 rfl ?_
    exact ev_wk (qLe_eq (qLe_eq (qLe_eq (qLe_eq (qLe_eq (qLe_eq (qLe_eq (qLe_eq (qLe_eq (qLe_eq qLe_nil)))))))))) (k8 _ (qet c7 rfl))
  · skip
    refine ev_iconst (pc' := 59) dL_isReason_58 rfl ?_
    refine ev_goto (pc' := 63) dL_isReason_59 (by decide) ?_
    exact ev_wk (qLe_eq (qLe_eq (qLe_eq (qLe_eq (qLe_eq (qLe_eq (qLe_eq (qLe_eq (qLe_eq (qLe_eq qLe_nil)))))))))) (k8 _ (qef c7 rfl))
set_option maxRecDepth 100000 in
theorem eL_isNoVertex {Ls t d n : Nat} {μ : qMu} {r : Int × Nat} (h : fL_isNoVertex n t μ = some r) : Ev (d + 3) mL_isNoVertex 0 [some (.ref 0), none] [] (cS Ls t μ) (.inl (some (iv r.1))) (cS Ls r.2 μ) := by
  unfold fL_isNoVertex at h
  refine ev_aload_n (pc' := 1) dL_isNoVertex_0 rfl rfl ?_
  refine ev_bipush (pc' := 3) dL_isNoVertex_1 rfl bl_8 ?_
  refine ev_iconst (pc' := 4) dL_isNoVertex_3 rfl ?_
  replace h := qbd h; obtain ⟨y1, hy1, h⟩ := h
  have hcy1 := eX9_degree (d := d + 0) (Ls := Ls) (t := t) hy1
  rcases y1 with v3 | E4
  · refine ev_callg (pc' := 7) (st2 := [iv v3]) (s1 := cS Ls t μ) dL_isNoVertex_4 (qs_V tc_10_137 rfl rfl (cS_cls sh0) rfl) rfl rfl hcy1 rfl rfl ?_
    replace h := qel h
    refine ev_bipush (pc' := 9) dL_isNoVertex_7 rfl bl_m7 ?_
    refine ev_icmpne (pc' := 12) (tgt := 16) dL_isNoVertex_9 (by decide) rfl (x1 := wr v3) (y1 := (-7)) rfl wl_m7  (fun c5 => ?_) (fun c5 => ?_)
    · replace h := qit c5 h
      refine ev_iconst (pc' := 13) dL_isNoVertex_12 rfl ?_
      refine ev_goto (pc' := 17) dL_isNoVertex_13 (by decide) ?_
      cases h
      exact ev_ireturn dL_isNoVertex_17 rfl rfl
    · replace h := qif' c5 h
      refine ev_iconst (pc' := 17) dL_isNoVertex_16 rfl ?_
      cases h
      exact ev_ireturn dL_isNoVertex_17 rfl rfl
  · replace h := qer h
    by_cases c6 : E4 = 0
    · subst c6
      replace h := qit rfl h
      refine ev_callhn (pc' := 19) (hpc := 18) (L1 := [some (.ref 0), none]) dL_isNoVertex_4 (qs_V tc_10_137 rfl rfl (cS_cls sh0) rfl) rfl hcy1 rfl rfl (qh_L_isNoVertex_4_0) dL_isNoVertex_18 (Nat.le_of_ble_eq_true rfl) rfl rfl ?_
      refine ev_iconst (pc' := 20) dL_isNoVertex_19 rfl ?_
      cases h
      exact ev_ireturn dL_isNoVertex_20 rfl rfl
    · replace h := qif' c6 h
      cases h
set_option maxRecDepth 100000 in
theorem eL_isBad {Ls t d n : Nat} {μ : qMu} {r : Int × Nat × qMu} (h : fL_isBad n t μ = some r) : Ev (d + 4) mL_isBad 0 [some (.ref 0), none] [] (cS Ls t μ) (.inl (some (iv r.1))) (cS Ls r.2.1 r.2.2) := by
  unfold fL_isBad at h
  refine ev_aload_n (pc' := 1) dL_isBad_0 rfl rfl ?_
  refine ev_iconst (pc' := 2) dL_isBad_1 rfl ?_
  replace h := qbd h; obtain ⟨y1, hy1, h⟩ := h
  have hcy1 := eX9_setMode (d := d + 0) (Ls := Ls) (t := t) hy1
  obtain ⟨y1v, μ5⟩ := y1
  rcases y1v with v3 | E4
  · refine ev_callg (pc' := 5) (st2 := [iv v3]) (s1 := cS Ls t μ5) dL_isBad_2 (qs_V tc_10_189 rfl rfl (cS_cls sh0) rfl) rfl rfl hcy1 rfl rfl ?_
    replace h := qel h
    refine ev_bipush (pc' := 7) dL_isBad_5 rfl bl_m7 ?_
    refine ev_icmpne (pc' := 10) (tgt := 14) dL_isBad_7 (by decide) rfl (x1 := wr v3) (y1 := (-7)) rfl wl_m7  (fun c6 => ?_) (fun c6 => ?_)
    · replace h := qit c6 h
      refine ev_iconst (pc' := 11) dL_isBad_10 rfl ?_
      refine ev_goto (pc' := 15) dL_isBad_11 (by decide) ?_
      cases h
      exact ev_ireturn dL_isBad_15 rfl rfl
    · replace h := qif' c6 h
      refine ev_iconst (pc' := 15) dL_isBad_14 rfl ?_
      cases h
      exact ev_ireturn dL_isBad_15 rfl rfl
  · replace h := qer h
    by_cases c7 : E4 = 1
    · subst c7
      replace h := qit rfl h
      refine ev_callhn (pc' := 17) (hpc := 16) (L1 := [some (.ref 0), none]) dL_isBad_2 (qs_V tc_10_189 rfl rfl (cS_cls sh0) rfl) rfl hcy1 rfl rfl (qh_L_isBad_2_1) dL_isBad_16 (Nat.le_of_ble_eq_true rfl) rfl rfl ?_
      refine ev_iconst (pc' := 18) dL_isBad_17 rfl ?_
      cases h
      exact ev_ireturn dL_isBad_18 rfl rfl
    · replace h := qif' c7 h
      cases h
set_option maxRecDepth 100000 in
theorem eL_isNoEdge {Ls t d n : Nat} {μ : qMu} {r : Int × Nat × qMu} (h : fL_isNoEdge n t μ = some r) : Ev (d + 4) mL_isNoEdge 0 [some (.ref 78), some (.ref 0), none] [] (cS Ls t μ) (.inl (some (iv r.1))) (cS Ls r.2.1 r.2.2) := by
  unfold fL_isNoEdge at h
  refine ev_aload_n (pc' := 1) dL_isNoEdge_0 rfl rfl ?_
  refine ev_aload_n (pc' := 2) dL_isNoEdge_1 rfl rfl ?_
  refine ev_geti (pc' := 5) (ki := 2) dL_isNoEdge_2 rfl tf_10_75 sh78 rfl rfl ?_
  refine ev_iconst (pc' := 6) dL_isNoEdge_5 rfl ?_
  refine ev_isub (pc' := 7) dL_isNoEdge_6 rfl ?_
  refine ev_aload_n (pc' := 8) dL_isNoEdge_7 rfl rfl ?_
  refine ev_geti (pc' := 11) (ki := 2) dL_isNoEdge_8 rfl tf_10_75 sh78 rfl rfl ?_
  refine ev_iconst (pc' := 12) dL_isNoEdge_11 rfl ?_
  refine ev_isub (pc' := 13) dL_isNoEdge_12 rfl ?_
  replace h := qbd h; obtain ⟨y1, hy1, h⟩ := h
  have hcy1 := eX9_removeEdge (d := d + 0) (Ls := Ls) (t := t) hy1
  obtain ⟨y1v, μ5⟩ := y1
  rcases y1v with v3 | E4
  · refine ev_callg (pc' := 16) (st2 := [iv v3]) (s1 := cS Ls t μ5) dL_isNoEdge_13 (qs_V tc_10_194 rfl rfl (cS_cls sh0) rfl) rfl rfl hcy1 rfl rfl ?_
    replace h := qel h
    refine ev_aload_n (pc' := 17) dL_isNoEdge_16 rfl rfl ?_
    refine ev_getr (pc' := 20) dL_isNoEdge_17 rfl tf_10_15 sh78 rfl ?_
    refine ev_aload_n (pc' := 21) dL_isNoEdge_20 rfl rfl ?_
    refine ev_geti (pc' := 24) (ki := 2) dL_isNoEdge_21 rfl tf_10_75 sh78 rfl rfl ?_
    refine ev_iconst (pc' := 25) dL_isNoEdge_24 rfl ?_
    refine ev_isub (pc' := 26) dL_isNoEdge_25 rfl ?_
    replace h := qbd h; obtain ⟨x6, hx6, h⟩ := h
    refine ev_aald (ty := 4) (Or.inr rfl) (pc' := 27) dL_isNoEdge_26 rfl sh80 hx6 ?_
    refine ev_aload_n (pc' := 28) dL_isNoEdge_27 rfl rfl ?_
    refine ev_geti (pc' := 31) (ki := 2) dL_isNoEdge_28 rfl tf_10_75 sh78 rfl rfl ?_
    refine ev_iconst (pc' := 32) dL_isNoEdge_31 rfl ?_
    refine ev_isub (pc' := 33) dL_isNoEdge_32 rfl ?_
    replace h := qbd h; obtain ⟨x7, hx7, h⟩ := h
    refine ev_iald (pc' := 34) dL_isNoEdge_33 rfl (gP80 hx6) hx7 ?_
    refine ev_iconst (pc' := 35) dL_isNoEdge_34 rfl ?_
    refine ev_isub (pc' := 36) dL_isNoEdge_35 rfl ?_
    refine ev_icmpne (pc' := 39) (tgt := 43) dL_isNoEdge_36 (by decide) rfl (x1 := wr v3) (y1 := wr (x7 - 1)) rfl rfl  (fun c8 => ?_) (fun c8 => ?_)
    · replace h := qit c8 h
      refine ev_iconst (pc' := 40) dL_isNoEdge_39 rfl ?_
      refine ev_goto (pc' := 44) dL_isNoEdge_40 (by decide) ?_
      cases h
      exact ev_ireturn dL_isNoEdge_44 rfl rfl
    · replace h := qif' c8 h
      refine ev_iconst (pc' := 44) dL_isNoEdge_43 rfl ?_
      cases h
      exact ev_ireturn dL_isNoEdge_44 rfl rfl
  · replace h := qer h
    by_cases c12 : E4 = 2
    · subst c12
      replace h := qit rfl h
      refine ev_callhn (pc' := 46) (hpc := 45) (L1 := [some (.ref 78), some (.ref 0), none]) dL_isNoEdge_13 (qs_V tc_10_194 rfl rfl (cS_cls sh0) rfl) rfl hcy1 rfl rfl (qh_L_isNoEdge_13_2) dL_isNoEdge_45 (Nat.le_of_ble_eq_true rfl) rfl rfl ?_
      refine ev_aload_n (pc' := 47) dL_isNoEdge_46 rfl rfl ?_
      refine ev_getr (pc' := 50) dL_isNoEdge_47 rfl tf_10_15 sh78 rfl ?_
      refine ev_aload_n (pc' := 51) dL_isNoEdge_50 rfl rfl ?_
      refine ev_geti (pc' := 54) (ki := 2) dL_isNoEdge_51 rfl tf_10_75 sh78 rfl rfl ?_
      refine ev_iconst (pc' := 55) dL_isNoEdge_54 rfl ?_
      refine ev_isub (pc' := 56) dL_isNoEdge_55 rfl ?_
      replace h := qbd h; obtain ⟨x9, hx9, h⟩ := h
      refine ev_aald (ty := 4) (Or.inr rfl) (pc' := 57) dL_isNoEdge_56 rfl sh80 hx9 ?_
      refine ev_aload_n (pc' := 58) dL_isNoEdge_57 rfl rfl ?_
      refine ev_geti (pc' := 61) (ki := 2) dL_isNoEdge_58 rfl tf_10_75 sh78 rfl rfl ?_
      refine ev_iconst (pc' := 62) dL_isNoEdge_61 rfl ?_
      refine ev_isub (pc' := 63) dL_isNoEdge_62 rfl ?_
      replace h := qbd h; obtain ⟨x10, hx10, h⟩ := h
      refine ev_iald (pc' := 64) dL_isNoEdge_63 rfl (gP80 hx9) hx10 ?_
      refine ev_ifne (pc' := 67) (tgt := 71) dL_isNoEdge_64 (by decide) rfl (x1 := wr x10) rfl (fun c11 => ?_) (fun c11 => ?_)
      · replace h := qit c11 h
        refine ev_iconst (pc' := 68) dL_isNoEdge_67 rfl ?_
        refine ev_goto (pc' := 72) dL_isNoEdge_68 (by decide) ?_
        cases h
        exact ev_ireturn dL_isNoEdge_72 rfl rfl
      · replace h := qif' c11 h
        refine ev_iconst (pc' := 72) dL_isNoEdge_71 rfl ?_
        cases h
        exact ev_ireturn dL_isNoEdge_72 rfl rfl
    · replace h := qif' c12 h
      cases h
set_option maxRecDepth 100000 in
theorem ebL_law_79 {Ls t d n : Nat} (hLs : Ls ≤ 5000) : ∀ (k : Nat) (x : Int × qMu) (y : (qMu) ⊕ ((Int ⊕ Nat) × Nat × qMu)), lp (fun x : Int × qMu => bL_law_79 n Ls t x.1 x.2) k x = some y → ∀ (o : qO) (s' : qSt), (∀ b : qMu, y = .inl b → Ev (d + 9) mL_law 102 [none, some (.ref 78), some (.ref 0), none, none] [] (cS Ls t b) o s') → (∀ r : (Int ⊕ Nat) × Nat × qMu, y = .inr r → o = (qRi r.1) ∧ s' = (cS Ls (qTt r.2.1 r.1) r.2.2)) → Ev (d + 9) mL_law 79 [none, some (.ref 78), some (.ref 0), none, some (iv x.1)] [] (cS Ls t x.2) o s' := by
  intro k
  induction k with
  | zero => intro x y h; cases h
  | succ k ih =>
    intro x y h o s' kE kR
    rw [lp_s] at h
    replace h := qbd h; obtain ⟨zz, h0, h1⟩ := h
    have h : bL_law_79 n Ls t x.1 x.2 = some zz := h0
    clear h0
    unfold bL_law_79 at h
    refine ev_iload (pc' := 81) dL_law_79 rfl rfl ?_
    refine ev_bipush (pc' := 83) dL_law_81 rfl bl_12 ?_
    refine ev_icmpge (pc' := 86) (tgt := 102) dL_law_83 (by decide) rfl (x1 := wr x.1) (y1 := 12) rfl wl_12  (fun c25 => ?_) (fun c25 => ?_)
    · replace h := qit c25 h
      refine ev_aload_n (pc' := 87) dL_law_86 rfl rfl ?_
      refine ev_aload_n (pc' := 88) dL_law_87 rfl rfl ?_
      replace h := qbd h; obtain ⟨y26, hy26, h⟩ := h
      have hcy26 := eL_isReason (d := d + 4) (Ls := Ls) (t := t) hLs hy26
      obtain ⟨y26v, μ30⟩ := y26
      rcases y26v with v28 | E29
      · refine ev_callg (pc' := 91) (st2 := [iv v28]) (s1 := cS Ls t μ30) dL_law_88 (qs_V tc_10_85 rfl rfl (cS_cls sh78) rfl) rfl rfl hcy26 rfl rfl ?_
        replace h := qel h
        refine ev_ifne (pc' := 94) (tgt := 96) dL_law_91 (by decide) rfl (x1 := wr v28) rfl (fun c31 => ?_) (fun c31 => ?_)
        · replace h := qit c31 h
          refine ev_iconst (pc' := 95) dL_law_94 rfl ?_
          cases h
          cases h1
          obtain ⟨rfl, rfl⟩ := kR _ rfl
          exact ev_ireturn dL_law_95 rfl rfl
        · replace h := qif' c31 h
          refine ev_iinc (pc' := 99) (x := x.1) (L1 := [none, some (.ref 78), some (.ref 0), none, some (iv (x.1 + 1))]) dL_law_96 rfl rfl rfl ?_
          refine ev_goto (pc' := 79) dL_law_99 (by decide) ?_
          cases h
          exact ev_wk (qLe_eq (qLe_eq (qLe_eq (qLe_eq (qLe_eq qLe_nil))))) (ih _ _ h1 _ _ kE kR)
      · replace h := qer h
        cases h
        cases h1
        obtain ⟨rfl, rfl⟩ := kR _ rfl
        exact ev_callx dL_law_88 (qs_V tc_10_85 rfl rfl (cS_cls sh78) rfl) rfl hcy26 rfl rfl
    · replace h := qif' c25 h
      cases h
      cases h1
      exact ev_wk (qLe_eq (qLe_eq (qLe_eq (qLe_eq (qLe_sk qLe_nil))))) (kE _ rfl)
set_option maxRecDepth 100000 in
theorem eL_law {Ls t d n : Nat} {μ : qMu} {r : (Int ⊕ Nat) × Nat × qMu} (hLs : Ls ≤ 5000) (ht : t = 0) (h : fL_law n Ls t μ = some r) : Ev (d + 9) mL_law 21 [some (.ref 1001000), some (.ref 78), some (.ref 0), none, none] [] (cS Ls t μ) (qRi r.1) (cS Ls (qTt r.2.1 r.1) r.2.2) := by
  unfold fL_law at h
  refine ev_aload_n (pc' := 22) dL_law_21 rfl rfl ?_
  replace h := qbd h; obtain ⟨y1, hy1, h⟩ := h
  refine ev_callg (pc' := 25) (st2 := [.ref y1.1]) dL_law_22 (qs_V tc_10_59 rfl rfl (cS_cls sh78) rfl) rfl rfl (eL_told (d := d + 2) hLs ht hy1) rfl rfl ?_
  refine ev_astore_n (pc' := 26) (L1 := [some (.ref 1001000), some (.ref 78), some (.ref 0), some (.ref y1.1), none]) dL_law_25 rfl rfl ?_
  refine ev_aload_n (pc' := 27) dL_law_26 rfl rfl ?_
  refine ev_aload_n (pc' := 28) dL_law_27 rfl rfl ?_
  replace h := qbd h; obtain ⟨y2, hy2, h⟩ := h
  have hcy2 := eL_load (d := d + 0) (Ls := Ls) (t := t) hy2
  obtain ⟨y2v, μ6⟩ := y2
  rcases y2v with v4 | E5
  · refine ev_callg (pc' := 31) (st2 := [iv v4]) (s1 := cS Ls t μ6) dL_law_28 (qs_S tc_10_63 (by decide) rfl rfl) rfl rfl hcy2 rfl rfl ?_
    replace h := qel h
    refine ev_aload_n (pc' := 32) dL_law_31 rfl rfl ?_
    replace h := qbd h; obtain ⟨y7, hy7, h⟩ := h
    refine ev_callg (pc' := 35) (st2 := [iv y7, iv v4]) dL_law_32 (qs_V tc_10_66 rfl rfl (cS_cls sh78) rfl) rfl rfl (eL_edges (d := d + 8) hy7) rfl rfl ?_
    refine ev_icmpne (pc' := 38) (tgt := 56) dL_law_35 (by decide) rfl (x1 := wr v4) (y1 := wr y7) rfl rfl  (fun c8 => ?_) (fun c8 => ?_)
    · replace h := qit c8 h
      refine ev_aload_n (pc' := 39) dL_law_38 rfl rfl ?_
      replace h := qbd h; obtain ⟨y9, hy9, h⟩ := h
      refine ev_callg (pc' := 42) (st2 := [iv y9]) dL_law_39 (qs_V tc_10_69 rfl rfl (cS_cls sh0) rfl) rfl rfl (eX9_errorKind (d := d + 7) hy9) rfl rfl ?_
      refine ev_ifne (pc' := 45) (tgt := 56) dL_law_42 (by decide) rfl (x1 := wr y9) rfl (fun c10 => ?_) (fun c10 => ?_)
      · replace h := qit c10 h
        refine ev_aload_n (pc' := 46) dL_law_45 rfl rfl ?_
        replace h := qbd h; obtain ⟨y11, hy11, h⟩ := h
        refine ev_callg (pc' := 49) (st2 := [iv y11]) dL_law_46 (qs_V tc_10_72 rfl rfl (cS_cls sh0) rfl) rfl rfl (eX9_vertices (d := d + 7) hy11) rfl rfl ?_
        refine ev_aload_n (pc' := 50) dL_law_49 rfl rfl ?_
        refine ev_geti (pc' := 53) (ki := 2) dL_law_50 rfl tf_10_75 sh78 rfl rfl ?_
        refine ev_icmpeq (pc' := 56) (tgt := 58) dL_law_53 (by decide) rfl (x1 := wr y11) (y1 := wr (rd μ6 78 2)) rfl rfl  (fun c12 => ?_) (fun c12 => ?_)
        · replace h := qit c12 h
          refine ev_aload_n (pc' := 59) dL_law_58 rfl rfl ?_
          refine ev_aload_n (pc' := 60) dL_law_59 rfl rfl ?_
          replace h := qbd h; obtain ⟨y13, hy13, h⟩ := h
          have hcy13 := eL_isGraph (d := d + 4) (Ls := Ls) (t := t) ht hy13
          obtain ⟨y13v, μ17⟩ := y13
          rcases y13v with v15 | E16
          · refine ev_callg (pc' := 63) (st2 := [iv v15]) (s1 := cS Ls t μ17) dL_law_60 (qs_V tc_10_78 rfl rfl (cS_cls sh78) rfl) rfl rfl hcy13 rfl rfl ?_
            replace h := qel h
            refine ev_ifeq (pc' := 66) (tgt := 74) dL_law_63 (by decide) rfl (x1 := wr v15) rfl (fun c18 => ?_) (fun c18 => ?_)
            · replace h := qit c18 h
              refine ev_iconst (pc' := 75) dL_law_74 rfl ?_
              cases h
              exact ev_ireturn dL_law_75 rfl rfl
            · replace h := qif' c18 h
              refine ev_aload_n (pc' := 67) dL_law_66 rfl rfl ?_
              refine ev_aload_n (pc' := 68) dL_law_67 rfl rfl ?_
              replace h := qbd h; obtain ⟨y19, hy19, h⟩ := h
              have hcy19 := eL_isSequence (d := d + 4) (Ls := Ls) (t := t) ht hy19
              obtain ⟨y19v, μ23⟩ := y19
              rcases y19v with v21 | E22
              · refine ev_callg (pc' := 71) (st2 := [iv v21]) (s1 := cS Ls t μ23) dL_law_68 (qs_V tc_10_82 rfl rfl (cS_cls sh78) rfl) rfl rfl hcy19 rfl rfl ?_
                replace h := qel h
                refine ev_ifne (pc' := 74) (tgt := 76) dL_law_71 (by decide) rfl (x1 := wr v21) rfl (fun c24 => ?_) (fun c24 => ?_)
                · replace h := qit c24 h
                  refine ev_iconst (pc' := 75) dL_law_74 rfl ?_
                  cases h
                  exact ev_ireturn dL_law_75 rfl rfl
                · replace h := qif' c24 h
                  refine ev_iconst (pc' := 77) dL_law_76 rfl ?_
                  refine ev_istore (pc' := 79) (L1 := [some (.ref 1001000), some (.ref 78), some (.ref 0), some (.ref y1.1), some (iv 0)]) dL_law_77 rfl rfl ?_
                  replace h := qbd h; obtain ⟨y32, hy32, h⟩ := h
                  refine ev_wk (qLe_sk (qLe_eq (qLe_eq (qLe_sk (qLe_eq qLe_nil))))) (?_ : Ev _ _ _ [none, some (.ref 78), some (.ref 0), none, some (iv 0)] _ _ _ _)
                  refine ebL_law_79 hLs _ _ _ hy32 _ _ ?_ ?_
                  · intro b33 eb33
                    subst eb33
                    replace h := qel h
                    refine ev_aload_n (pc' := 103) dL_law_102 rfl rfl ?_
                    replace h := qbd h; obtain ⟨y34, hy34, h⟩ := h
                    refine ev_callg (pc' := 106) (st2 := [iv y34.1]) dL_law_103 (qs_S tc_10_88 (by decide) rfl rfl) rfl rfl (eL_isNoVertex (d := d + 5) hy34) rfl rfl ?_
                    refine ev_ifeq (pc' := 109) (tgt := 128) dL_law_106 (by decide) rfl (x1 := wr y34.1) rfl (fun c35 => ?_) (fun c35 => ?_)
                    · replace h := qit c35 h
                      refine ev_iconst (pc' := 129) dL_law_128 rfl ?_
                      cases h
                      exact ev_ireturn dL_law_129 rfl rfl
                    · replace h := qif' c35 h
                      refine ev_aload_n (pc' := 110) dL_law_109 rfl rfl ?_
                      replace h := qbd h; obtain ⟨y36, hy36, h⟩ := h
                      refine ev_callg (pc' := 113) (st2 := [iv y36.1]) dL_law_110 (qs_S tc_10_91 (by decide) rfl rfl) rfl rfl (eL_isBad (d := d + 4) hy36) rfl rfl ?_
                      refine ev_ifeq (pc' := 116) (tgt := 128) dL_law_113 (by decide) rfl (x1 := wr y36.1) rfl (fun c37 => ?_) (fun c37 => ?_)
                      · replace h := qit c37 h
                        refine ev_iconst (pc' := 129) dL_law_128 rfl ?_
                        cases h
                        exact ev_ireturn dL_law_129 rfl rfl
                      · replace h := qif' c37 h
                        refine ev_aload_n (pc' := 117) dL_law_116 rfl rfl ?_
                        refine ev_aload_n (pc' := 118) dL_law_117 rfl rfl ?_
                        replace h := qbd h; obtain ⟨y38, hy38, h⟩ := h
                        refine ev_callg (pc' := 121) (st2 := [iv y38.1]) dL_law_118 (qs_VH tc_10_94 rfl rfl (cS_cls sh78) rfl) rfl rfl (eL_isNoEdge (d := d + 4) hy38) rfl rfl ?_
                        refine ev_ifeq (pc' := 124) (tgt := 128) dL_law_121 (by decide) rfl (x1 := wr y38.1) rfl (fun c39 => ?_) (fun c39 => ?_)
                        · replace h := qit c39 h
                          refine ev_iconst (pc' := 129) dL_law_128 rfl ?_
                          cases h
                          exact ev_ireturn dL_law_129 rfl rfl
                        · replace h := qif' c39 h
                          refine ev_iconst (pc' := 125) dL_law_124 rfl ?_
                          refine ev_goto (pc' := 129) dL_law_125 (by decide) ?_
                          cases h
                          exact ev_ireturn dL_law_129 rfl rfl
                  · intro r40 er40
                    subst er40
                    replace h := qer h
                    cases h
                    exact ⟨rfl, rfl⟩
              · replace h := qer h
                cases h
                exact ev_callx dL_law_68 (qs_V tc_10_82 rfl rfl (cS_cls sh78) rfl) rfl hcy19 rfl rfl
          · replace h := qer h
            cases h
            exact ev_callx dL_law_60 (qs_V tc_10_78 rfl rfl (cS_cls sh78) rfl) rfl hcy13 rfl rfl
        · replace h := qif' c12 h
          refine ev_iconst (pc' := 57) dL_law_56 rfl ?_
          cases h
          exact ev_ireturn dL_law_57 rfl rfl
      · replace h := qif' c10 h
        refine ev_iconst (pc' := 57) dL_law_56 rfl ?_
        cases h
        exact ev_ireturn dL_law_57 rfl rfl
    · replace h := qif' c8 h
      refine ev_iconst (pc' := 57) dL_law_56 rfl ?_
      cases h
      exact ev_ireturn dL_law_57 rfl rfl
  · replace h := qer h
    cases h
    exact ev_callx dL_law_28 (qs_S tc_10_63 (by decide) rfl rfl) rfl hcy2 rfl rfl
