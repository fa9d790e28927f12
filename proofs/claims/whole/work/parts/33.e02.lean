set_option maxRecDepth 100000 in
theorem ebX10_laysList_4 {Ls t d n : Nat} {w1 : Int} : ∀ (k : Nat) (x : Int × Int × qMu) (y : Int × qMu), lp (fun x : Int × Int × qMu => bX10_laysList_4 n w1 x.1 x.2.1 x.2.2) k x = some y → ∀ (o : qO) (s' : qSt), Ev (d + 4) mX10_laysList 85 [none, none, some (iv y.1), none, none, none, none, none] [] (cS Ls t y.2) o s' → Ev (d + 4) mX10_laysList 4 [some (.ref 78), some (iv w1), some (iv x.1), some (iv x.2.1), none, none, none, none] [] (cS Ls t x.2.2) o s' := by
  intro k
  induction k with
  | zero => intro x y h; cases h
  | succ k ih =>
    intro x y h o s' kE
    rw [lp_s] at h
    replace h := qbd h; obtain ⟨zz, h0, h1⟩ := h
    have h : bX10_laysList_4 n w1 x.1 x.2.1 x.2.2 = some zz := h0
    clear h0
    unfold bX10_laysList_4 at h
    refine ev_iload_n (pc' := 5) dX10_laysList_4 rfl rfl ?_
    refine ev_sipush (pc' := 8) dX10_laysList_5 rfl sl_4096 ?_
    refine ev_icmpge (pc' := 11) (tgt := 85) dX10_laysList_8 (by decide) rfl (x1 := wr x.2.1) (y1 := 4096) rfl wl_4096  (fun c1 => ?_) (fun c1 => ?_)
    · replace h := qit c1 h
      refine ev_iload_n (pc' := 12) dX10_laysList_11 rfl rfl ?_
      refine ev_iconst (pc' := 13) dX10_laysList_12 rfl ?_
      replace h := qbd h; obtain ⟨y2, hy2, h⟩ := h
      refine ev_callg (pc' := 16) (st2 := [iv y2]) dX10_laysList_13 (qs_S tc_10_278 (by decide) rfl rfl) rfl rfl (eX10_partOf (d := d + 3) hy2) rfl rfl ?_
      refine ev_istore (pc' := 18) (L1 := [some (.ref 78), some (iv w1), some (iv x.1), some (iv x.2.1), some (iv y2), none, none, none]) dX10_laysList_16 rfl rfl ?_
      refine ev_iload_n (pc' := 19) dX10_laysList_18 rfl rfl ?_
      refine ev_iconst (pc' := 20) dX10_laysList_19 rfl ?_
      replace h := qbd h; obtain ⟨y3, hy3, h⟩ := h
      refine ev_callg (pc' := 23) (st2 := [iv y3]) dX10_laysList_20 (qs_S tc_10_278 (by decide) rfl rfl) rfl rfl (eX10_partOf (d := d + 3) hy3) rfl rfl ?_
      refine ev_istore (pc' := 25) (L1 := [some (.ref 78), some (iv w1), some (iv x.1), some (iv x.2.1), some (iv y2), some (iv y3), none, none]) dX10_laysList_23 rfl rfl ?_
      refine ev_iload_n (pc' := 26) dX10_laysList_25 rfl rfl ?_
      refine ev_iconst (pc' := 27) dX10_laysList_26 rfl ?_
      replace h := qbd h; obtain ⟨y4, hy4, h⟩ := h
      refine ev_callg (pc' := 30) (st2 := [iv y4]) dX10_laysList_27 (qs_S tc_10_278 (by decide) rfl rfl) rfl rfl (eX10_partOf (d := d + 3) hy4) rfl rfl ?_
      refine ev_istore (pc' := 32) (L1 := [some (.ref 78), some (iv w1), some (iv x.1), some (iv x.2.1), some (iv y2), some (iv y3), some (iv y4), none]) dX10_laysList_30 rfl rfl ?_
      refine ev_iload_n (pc' := 33) dX10_laysList_32 rfl rfl ?_
      refine ev_iconst (pc' := 34) dX10_laysList_33 rfl ?_
      replace h := qbd h; obtain ⟨y5, hy5, h⟩ := h
      refine ev_callg (pc' := 37) (st2 := [iv y5]) dX10_laysList_34 (qs_S tc_10_278 (by decide) rfl rfl) rfl rfl (eX10_partOf (d := d + 3) hy5) rfl rfl ?_
      refine ev_istore (pc' := 39) (L1 := [some (.ref 78), some (iv w1), some (iv x.1), some (iv x.2.1), some (iv y2), some (iv y3), some (iv y4), some (iv y5)]) dX10_laysList_37 rfl rfl ?_
      refine ev_iload (pc' := 41) dX10_laysList_39 rfl rfl ?_
      refine ev_iload (pc' := 43) dX10_laysList_41 rfl rfl ?_
      refine ev_iload (pc' := 45) dX10_laysList_43 rfl rfl ?_
      refine ev_iload (pc' := 47) dX10_laysList_45 rfl rfl ?_
      replace h := qbd h; obtain ⟨y6, hy6, h⟩ := h
      refine ev_callg (pc' := 50) (st2 := [iv y6]) dX10_laysList_47 (qs_S tc_10_291 (by decide) rfl rfl) rfl rfl (eX10_isFirstOf (d := d + 2) hy6) rfl rfl ?_
      replace h := qbd h; obtain ⟨y8, hy8, h⟩ := h
      have kJ : Ev (d + 4) mX10_laysList 79 [some (.ref 78), some (iv w1), some (iv y8.1), some (iv x.2.1), none, none, none, none] [] (cS Ls t y8.2) o s' := by
        refine ev_iinc (pc' := 82) (x := x.2.1) (L1 := [some (.ref 78), some (iv w1), some (iv y8.1), some (iv (x.2.1 + 1)), none, none, none, none]) dX10_laysList_79 rfl rfl rfl ?_
        refine ev_goto (pc' := 4) dX10_laysList_82 (by decide) ?_
        cases h
        exact ev_wk (qLe_eq (qLe_eq (qLe_eq (qLe_eq (qLe_eq (qLe_eq (qLe_eq (qLe_eq qLe_nil)))))))) (ih _ _ h1 _ _ kE)
      replace h := hy8
      clear hy8
      refine ev_ifeq (pc' := 53) (tgt := 79) dX10_laysList_50 (by decide) rfl (x1 := wr y6) rfl (fun c7 => ?_) (fun c7 => ?_)
      · replace h := qit c7 h
        cases h
        exact ev_wk (qLe_eq (qLe_eq (qLe_eq (qLe_eq (qLe_sk (qLe_sk (qLe_sk (qLe_sk qLe_nil)))))))) kJ
      · replace h := qif' c7 h
        refine ev_aload_n (pc' := 54) dX10_laysList_53 rfl rfl ?_
        refine ev_iload_n (pc' := 55) dX10_laysList_54 rfl rfl ?_
        refine ev_iload (pc' := 57) dX10_laysList_55 rfl rfl ?_
        refine ev_iload (pc' := 59) dX10_laysList_57 rfl rfl ?_
        refine ev_iload (pc' := 61) dX10_laysList_59 rfl rfl ?_
        refine ev_iload (pc' := 63) dX10_laysList_61 rfl rfl ?_
        replace h := qbd h; obtain ⟨y9, hy9, h⟩ := h
        refine ev_callg (pc' := 66) (st2 := [iv y9.1]) dX10_laysList_63 (qs_V tc_10_294 rfl rfl (cS_cls sh78) rfl) rfl rfl (eX10_reasonBy (d := d + 0) hy9) rfl rfl ?_
        refine ev_ifne (pc' := 69) (tgt := 79) dX10_laysList_66 (by decide) rfl (x1 := wr y9.1) rfl (fun c10 => ?_) (fun c10 => ?_)
        · replace h := qit c10 h
          refine ev_aload_n (pc' := 70) dX10_laysList_69 rfl rfl ?_
          refine ev_getr (pc' := 73) dX10_laysList_70 rfl tf_10_45 sh78 rfl ?_
          refine ev_iload_n (pc' := 74) dX10_laysList_73 rfl rfl ?_
          refine ev_iload_n (pc' := 75) dX10_laysList_74 rfl rfl ?_
          replace h := qbd h; obtain ⟨μ11, hμ11, h⟩ := h
          refine ev_iast (pc' := 76) dX10_laysList_75 rfl sh89 hμ11 ?_
          refine ev_iinc (pc' := 79) (x := x.1) (L1 := [some (.ref 78), some (iv w1), some (iv (x.1 + 1)), some (iv x.2.1), some (iv y2), some (iv y3), some (iv y4), some (iv y5)]) dX10_laysList_76 rfl rfl rfl ?_
          cases h
          exact ev_wk (qLe_eq (qLe_eq (qLe_eq (qLe_eq (qLe_sk (qLe_sk (qLe_sk (qLe_sk qLe_nil)))))))) kJ
        · replace h := qif' c10 h
          cases h
          exact ev_wk (qLe_eq (qLe_eq (qLe_eq (qLe_eq (qLe_sk (qLe_sk (qLe_sk (qLe_sk qLe_nil)))))))) kJ
    · replace h := qif' c1 h
      cases h
      cases h1
      exact ev_wk (qLe_sk (qLe_sk (qLe_eq (qLe_sk (qLe_eq (qLe_eq (qLe_eq (qLe_eq qLe_nil)))))))) kE
set_option maxRecDepth 100000 in
theorem eX10_laysList {Ls t d n : Nat} {p0 : Int} {μ : qMu} {r : Int × qMu} (h : fX10_laysList n p0 μ = some r) : Ev (d + 4) mX10_laysList 0 [some (.ref 78), some (iv p0), none, none, none, none, none, none] [] (cS Ls t μ) (.inl (some (iv r.1))) (cS Ls t r.2) := by
  unfold fX10_laysList at h
  refine ev_iconst (pc' := 1) dX10_laysList_0 rfl ?_
  refine ev_istore_n (pc' := 2) (L1 := [some (.ref 78), some (iv p0), some (iv 0), none, none, none, none, none]) dX10_laysList_1 rfl rfl ?_
  refine ev_iconst (pc' := 3) dX10_laysList_2 rfl ?_
  refine ev_istore_n (pc' := 4) (L1 := [some (.ref 78), some (iv p0), some (iv 0), some (iv 0), none, none, none, none]) dX10_laysList_3 rfl rfl ?_
  replace h := qbd h; obtain ⟨y12, hy12, h⟩ := h
  refine ev_wk (qLe_eq (qLe_eq (qLe_eq (qLe_eq (qLe_eq (qLe_eq (qLe_eq (qLe_eq qLe_nil)))))))) (?_ : Ev _ _ _ [some (.ref 78), some (iv p0), some (iv 0), some (iv 0), none, none, none, none] _ _ _ _)
  refine ebX10_laysList_4 _ _ _ hy12 _ _ ?_
  refine ev_iload_n (pc' := 86) dX10_laysList_85 rfl rfl ?_
  cases h
  exact ev_ireturn dX10_laysList_86 rfl rfl
set_option maxRecDepth 100000 in
theorem eX10_reason {Ls t d : Nat} {p0 : Int} {p1 : Int} {p2 : Int} {p3 : Int} {μ : qMu} {r : Int × qMu} (h : fX10_reason p0 p1 p2 p3 μ = some r) : Ev (d + 4) mX10_reason 0 [some (.ref 78), some (iv p0), some (iv p1), some (iv p2), some (iv p3)] [] (cS Ls t μ) (.inl (some (iv r.1))) (cS Ls t r.2) := by
  unfold fX10_reason at h
  refine ev_aload_n (pc' := 1) dX10_reason_0 rfl rfl ?_
  refine ev_aload_n (pc' := 2) dX10_reason_1 rfl rfl ?_
  refine ev_iload_n (pc' := 3) dX10_reason_2 rfl rfl ?_
  refine ev_iload_n (pc' := 4) dX10_reason_3 rfl rfl ?_
  replace h := qbd h; obtain ⟨y1, hy1, h⟩ := h
  refine ev_callg (pc' := 7) (st2 := [iv y1, .ref 78]) dX10_reason_4 (qs_V tc_10_210 rfl rfl (cS_cls sh78) rfl) rfl rfl (eX10_areVertices (d := d + 1) hy1) rfl rfl ?_
  replace h := qbd h; obtain ⟨y3, hy3, h⟩ := h
  have kJ : Ev (d + 4) mX10_reason 25 [some (.ref 78), some (iv p0), some (iv p1), some (iv p2), some (iv p3)] [iv y3, .ref 78] (cS Ls t μ) (.inl (some (iv r.1))) (cS Ls t r.2) := by
    replace h := qbd h; obtain ⟨y6, hy6, h⟩ := h
    refine ev_callg (pc' := 28) (st2 := [iv y6.1]) dX10_reason_25 (qs_V tc_10_188 rfl rfl (cS_cls sh78) rfl) rfl rfl (eX10_good (d := d + 3) hy6) rfl rfl ?_
    refine ev_ifeq (pc' := 31) (tgt := 49) dX10_reason_28 (by decide) rfl (x1 := wr y6.1) rfl (fun c7 => ?_) (fun c7 => ?_)
    · replace h := qit c7 h
      refine ev_iconst (pc' := 50) dX10_reason_49 rfl ?_
      cases h
      exact ev_ireturn dX10_reason_50 rfl rfl
    · replace h := qif' c7 h
      refine ev_aload_n (pc' := 32) dX10_reason_31 rfl rfl ?_
      refine ev_aload_n (pc' := 33) dX10_reason_32 rfl rfl ?_
      refine ev_getr (pc' := 36) dX10_reason_33 rfl tf_10_7 sh78 rfl ?_
      refine ev_iconst (pc' := 37) dX10_reason_36 rfl ?_
      replace h := qbd h; obtain ⟨x8, hx8, h⟩ := h
      refine ev_iald (pc' := 38) dX10_reason_37 rfl sh79 hx8 ?_
      refine ev_iload_n (pc' := 39) dX10_reason_38 rfl rfl ?_
      refine ev_iload_n (pc' := 40) dX10_reason_39 rfl rfl ?_
      refine ev_iload_n (pc' := 41) dX10_reason_40 rfl rfl ?_
      refine ev_iload (pc' := 43) dX10_reason_41 rfl rfl ?_
      replace h := qbd h; obtain ⟨y9, hy9, h⟩ := h
      refine ev_callg (pc' := 46) (st2 := [iv y9.1]) dX10_reason_43 (qs_V tc_10_294 rfl rfl (cS_cls sh78) rfl) rfl rfl (eX10_reasonBy (d := d + 0) hy9) rfl rfl ?_
      refine ev_goto (pc' := 50) dX10_reason_46 (by decide) ?_
      cases h
      exact ev_ireturn dX10_reason_50 rfl rfl
  replace h := hy3
  clear hy3
  refine ev_ifeq (pc' := 10) (tgt := 24) dX10_reason_7 (by decide) rfl (x1 := wr y1) rfl (fun c2 => ?_) (fun c2 => ?_)
  · replace h := qit c2 h
    refine ev_iconst (pc' := 25) dX10_reason_24 rfl ?_
    cases h
    exact ev_wk (qLe_eq (qLe_eq (qLe_eq (qLe_eq (qLe_eq qLe_nil))))) kJ
  · replace h := qif' c2 h
    refine ev_aload_n (pc' := 11) dX10_reason_10 rfl rfl ?_
    refine ev_iload_n (pc' := 12) dX10_reason_11 rfl rfl ?_
    refine ev_iload (pc' := 14) dX10_reason_12 rfl rfl ?_
    replace h := qbd h; obtain ⟨y4, hy4, h⟩ := h
    refine ev_callg (pc' := 17) (st2 := [iv y4, .ref 78]) dX10_reason_14 (qs_V tc_10_210 rfl rfl (cS_cls sh78) rfl) rfl rfl (eX10_areVertices (d := d + 1) hy4) rfl rfl ?_
    refine ev_ifeq (pc' := 20) (tgt := 24) dX10_reason_17 (by decide) rfl (x1 := wr y4) rfl (fun c5 => ?_) (fun c5 => ?_)
    · replace h := qit c5 h
      refine ev_iconst (pc' := 25) dX10_reason_24 rfl ?_
      cases h
      exact ev_wk (qLe_eq (qLe_eq (qLe_eq (qLe_eq (qLe_eq qLe_nil))))) kJ
    · replace h := qif' c5 h
      refine ev_iconst (pc' := 21) dX10_reason_20 rfl ?_
      refine ev_goto (pc' := 25) dX10_reason_21 (by decide) ?_
      cases h
      exact ev_wk (qLe_eq (qLe_eq (qLe_eq (qLe_eq (qLe_eq qLe_nil))))) kJ
set_option maxRecDepth 100000 in
theorem eX10_switches_ {Ls t d n : Nat} {μ : qMu} {r : Int × qMu} (h : fX10_switches_ n μ = some r) : Ev (d + 5) mX10_switches_ 0 [some (.ref 78)] [] (cS Ls t μ) (.inl (some (iv r.1))) (cS Ls t r.2) := by
  unfold fX10_switches_ at h
  refine ev_aload_n (pc' := 1) dX10_switches__0 rfl rfl ?_
  refine ev_iconst (pc' := 2) dX10_switches__1 rfl ?_
  replace h := qbd h; obtain ⟨μ1, hμ1, h⟩ := h
  refine ev_puti (pc' := 5) dX10_switches__2 rfl tf_10_54 sh78 rfl rfl (qw_9_4 _) rfl hμ1 ?_
  refine ev_aload_n (pc' := 6) dX10_switches__5 rfl rfl ?_
  refine ev_aload_n (pc' := 7) dX10_switches__6 rfl rfl ?_
  refine ev_getr (pc' := 10) dX10_switches__7 rfl tf_10_7 sh78 rfl ?_
  refine ev_iconst (pc' := 11) dX10_switches__10 rfl ?_
  replace h := qbd h; obtain ⟨x2, hx2, h⟩ := h
  refine ev_iald (pc' := 12) dX10_switches__11 rfl sh79 hx2 ?_
  replace h := qbd h; obtain ⟨y3, hy3, h⟩ := h
  refine ev_callg (pc' := 15) (st2 := [iv y3.1]) dX10_switches__12 (qs_V tc_10_298 rfl rfl (cS_cls sh78) rfl) rfl rfl (eX10_laysList (d := d + 0) hy3) rfl rfl ?_
  cases h
  exact ev_ireturn dX10_switches__15 rfl rfl
set_option maxRecDepth 100000 in
theorem eX10_switchAt {Ls t d n : Nat} {p0 : Int} {p1 : Int} {μ : qMu} {r : Int × qMu} (h : fX10_switchAt n p0 p1 μ = some r) : Ev (d + 5) mX10_switchAt 0 [some (.ref 78), some (iv p0), some (iv p1), none] [] (cS Ls t μ) (.inl (some (iv r.1))) (cS Ls t r.2) := by
  unfold fX10_switchAt at h
  refine ev_aload_n (pc' := 1) dX10_switchAt_0 rfl rfl ?_
  refine ev_aload_n (pc' := 2) dX10_switchAt_1 rfl rfl ?_
  refine ev_getr (pc' := 5) dX10_switchAt_2 rfl tf_10_7 sh78 rfl ?_
  refine ev_iconst (pc' := 6) dX10_switchAt_5 rfl ?_
  replace h := qbd h; obtain ⟨x1, hx1, h⟩ := h
  refine ev_iald (pc' := 7) dX10_switchAt_6 rfl sh79 hx1 ?_
  replace h := qbd h; obtain ⟨y2, hy2, h⟩ := h
  refine ev_callg (pc' := 10) (st2 := [iv y2.1]) dX10_switchAt_7 (qs_V tc_10_298 rfl rfl (cS_cls sh78) rfl) rfl rfl (eX10_laysList (d := d + 0) hy2) rfl rfl ?_
  refine ev_istore_n (pc' := 11) (L1 := [some (.ref 78), some (iv p0), some (iv p1), some (iv y2.1)]) dX10_switchAt_10 rfl rfl ?_
  refine ev_aload_n (pc' := 12) dX10_switchAt_11 rfl rfl ?_
  refine ev_iload_n (pc' := 13) dX10_switchAt_12 rfl rfl ?_
  refine ev_iconst (pc' := 14) dX10_switchAt_13 rfl ?_
  refine ev_iload_n (pc' := 15) dX10_switchAt_14 rfl rfl ?_
  refine ev_iconst (pc' := 16) dX10_switchAt_15 rfl ?_
  refine ev_isub (pc' := 17) dX10_switchAt_16 rfl ?_
  replace h := qbd h; obtain ⟨y3, hy3, h⟩ := h
  refine ev_callg (pc' := 20) (st2 := [iv y3, .ref 78]) dX10_switchAt_17 (qs_S tc_10_128 (by decide) rfl rfl) rfl rfl (eX10_isIn (d := d + 4) hy3) rfl rfl ?_
  refine ev_iload_n (pc' := 21) dX10_switchAt_20 rfl rfl ?_
  refine ev_iconst (pc' := 22) dX10_switchAt_21 rfl ?_
  refine ev_iconst (pc' := 23) dX10_switchAt_22 rfl ?_
  replace h := qbd h; obtain ⟨y4, hy4, h⟩ := h
  refine ev_callg (pc' := 26) (st2 := [iv y4, iv y3, .ref 78]) dX10_switchAt_23 (qs_S tc_10_128 (by decide) rfl rfl) rfl rfl (eX10_isIn (d := d + 4) hy4) rfl rfl ?_
  replace h := qbd h; obtain ⟨y5, hy5, h⟩ := h
  refine ev_callg (pc' := 29) (st2 := [iv y5.1]) dX10_switchAt_26 (qs_V tc_10_244 rfl rfl (cS_cls sh78) rfl) rfl rfl (eX10_good_ (d := d + 3) hy5) rfl rfl ?_
  refine ev_ifeq (pc' := 32) (tgt := 45) dX10_switchAt_29 (by decide) rfl (x1 := wr y5.1) rfl (fun c6 => ?_) (fun c6 => ?_)
  · replace h := qit c6 h
    refine ev_iconst (pc' := 46) dX10_switchAt_45 rfl ?_
    cases h
    exact ev_ireturn dX10_switchAt_46 rfl rfl
  · replace h := qif' c6 h
    refine ev_aload_n (pc' := 33) dX10_switchAt_32 rfl rfl ?_
    refine ev_getr (pc' := 36) dX10_switchAt_33 rfl tf_10_45 sh78 rfl ?_
    refine ev_iload_n (pc' := 37) dX10_switchAt_36 rfl rfl ?_
    replace h := qbd h; obtain ⟨x7, hx7, h⟩ := h
    refine ev_iald (pc' := 38) dX10_switchAt_37 rfl sh89 hx7 ?_
    refine ev_iload_n (pc' := 39) dX10_switchAt_38 rfl rfl ?_
    replace h := qbd h; obtain ⟨y8, hy8, h⟩ := h
    refine ev_callg (pc' := 42) (st2 := [iv y8]) dX10_switchAt_39 (qs_S tc_10_278 (by decide) rfl rfl) rfl rfl (eX10_partOf (d := d + 4) hy8) rfl rfl ?_
    refine ev_goto (pc' := 46) dX10_switchAt_42 (by decide) ?_
    cases h
    exact ev_ireturn dX10_switchAt_46 rfl rfl
set_option maxRecDepth 100000 in
theorem eX10_canSwitch {Ls t d : Nat} {p0 : Int} {p1 : Int} {p2 : Int} {p3 : Int} {μ : qMu} {r : Int × qMu} (h : fX10_canSwitch p0 p1 p2 p3 μ = some r) : Ev (d + 4) mX10_canSwitch 0 [some (.ref 78), some (iv p0), some (iv p1), some (iv p2), some (iv p3), none] [] (cS Ls t μ) (.inl (some (iv r.1))) (cS Ls t r.2) := by
  unfold fX10_canSwitch at h
  refine ev_aload_n (pc' := 1) dX10_canSwitch_0 rfl rfl ?_
  refine ev_iload_n (pc' := 2) dX10_canSwitch_1 rfl rfl ?_
  refine ev_iload_n (pc' := 3) dX10_canSwitch_2 rfl rfl ?_
  replace h := qbd h; obtain ⟨y1, hy1, h⟩ := h
  refine ev_callg (pc' := 6) (st2 := [iv y1]) dX10_canSwitch_3 (qs_V tc_10_210 rfl rfl (cS_cls sh78) rfl) rfl rfl (eX10_areVertices (d := d + 1) hy1) rfl rfl ?_
  replace h := qbd h; obtain ⟨y3, hy3, h⟩ := h
  have kJ : Ev (d + 4) mX10_canSwitch 24 [some (.ref 78), some (iv p0), some (iv p1), some (iv p2), some (iv p3), none] [iv y3] (cS Ls t μ) (.inl (some (iv r.1))) (cS Ls t r.2) := by
    refine ev_istore (pc' := 26) (L1 := [some (.ref 78), some (iv p0), some (iv p1), some (iv p2), some (iv p3), some (iv y3)]) dX10_canSwitch_24 rfl rfl ?_
    refine ev_aload_n (pc' := 27) dX10_canSwitch_26 rfl rfl ?_
    refine ev_iload (pc' := 29) dX10_canSwitch_27 rfl rfl ?_
    refine ev_iload (pc' := 31) dX10_canSwitch_29 rfl rfl ?_
    replace h := qbd h; obtain ⟨y7, hy7, h⟩ := h
    have kJ : Ev (d + 4) mX10_canSwitch 57 [none, none, none, none, none, none] [iv y7.1, iv y3, .ref 78] (cS Ls t y7.2) (.inl (some (iv r.1))) (cS Ls t r.2) := by
      replace h := qbd h; obtain ⟨y11, hy11, h⟩ := h
      refine ev_callg (pc' := 60) (st2 := [iv y11.1]) dX10_canSwitch_57 (qs_V tc_10_244 rfl rfl (cS_cls sh78) rfl) rfl rfl (eX10_good_ (d := d + 2) hy11) rfl rfl ?_
      replace h := qbd h; obtain ⟨x12, hx12, h⟩ := h
      obtain ⟨ex12, nx12⟩ := qbl_n hx12
      subst ex12
      cases h
      exact ev_ireturn dX10_canSwitch_60 rfl nx12
    replace h := hy7
    clear hy7
    refine ev_ifeq (pc' := 34) (tgt := 56) dX10_canSwitch_31 (by decide) rfl (x1 := wr y3) rfl (fun c6 => ?_) (fun c6 => ?_)
    · replace h := qit c6 h
      refine ev_iconst (pc' := 57) dX10_canSwitch_56 rfl ?_
      cases h
      exact ev_wk (qLe_sk (qLe_sk (qLe_sk (qLe_sk (qLe_sk (qLe_sk qLe_nil)))))) kJ
    · replace h := qif' c6 h
      refine ev_aload_n (pc' := 35) dX10_canSwitch_34 rfl rfl ?_
      refine ev_aload_n (pc' := 36) dX10_canSwitch_35 rfl rfl ?_
      refine ev_getr (pc' := 39) dX10_canSwitch_36 rfl tf_10_7 sh78 rfl ?_
      refine ev_iconst (pc' := 40) dX10_canSwitch_39 rfl ?_
      replace h := qbd h; obtain ⟨x8, hx8, h⟩ := h
      refine ev_iald (pc' := 41) dX10_canSwitch_40 rfl sh79 hx8 ?_
      refine ev_iload_n (pc' := 42) dX10_canSwitch_41 rfl rfl ?_
      refine ev_iload_n (pc' := 43) dX10_canSwitch_42 rfl rfl ?_
      refine ev_iload_n (pc' := 44) dX10_canSwitch_43 rfl rfl ?_
      refine ev_iload (pc' := 46) dX10_canSwitch_44 rfl rfl ?_
      replace h := qbd h; obtain ⟨y9, hy9, h⟩ := h
      refine ev_callg (pc' := 49) (st2 := [iv y9.1, iv y3, .ref 78]) dX10_canSwitch_46 (qs_V tc_10_294 rfl rfl (cS_cls sh78) rfl) rfl rfl (eX10_reasonBy (d := d + 0) hy9) rfl rfl ?_
      refine ev_ifne (pc' := 52) (tgt := 56) dX10_canSwitch_49 (by decide) rfl (x1 := wr y9.1) rfl (fun c10 => ?_) (fun c10 => ?_)
      · replace h := qit c10 h
        refine ev_iconst (pc' := 53) dX10_canSwitch_52 rfl ?_
        refine ev_goto (pc' := 57) dX10_canSwitch_53 (by decide) ?_
        cases h
        exact ev_wk (qLe_sk (qLe_sk (qLe_sk (qLe_sk (qLe_sk (qLe_sk qLe_nil)))))) kJ
      · replace h := qif' c10 h
        refine ev_iconst (pc' := 57) dX10_canSwitch_56 rfl ?_
        cases h
        exact ev_wk (qLe_sk (qLe_sk (qLe_sk (qLe_sk (qLe_sk (qLe_sk qLe_nil)))))) kJ
  replace h := hy3
  clear hy3
  refine ev_ifeq (pc' := 9) (tgt := 23) dX10_canSwitch_6 (by decide) rfl (x1 := wr y1) rfl (fun c2 => ?_) (fun c2 => ?_)
  · replace h := qit c2 h
    refine ev_iconst (pc' := 24) dX10_canSwitch_23 rfl ?_
    cases h
    exact ev_wk (qLe_eq (qLe_eq (qLe_eq (qLe_eq (qLe_eq (qLe_eq qLe_nil)))))) kJ
  · replace h := qif' c2 h
    refine ev_aload_n (pc' := 10) dX10_canSwitch_9 rfl rfl ?_
    refine ev_iload_n (pc' := 11) dX10_canSwitch_10 rfl rfl ?_
    refine ev_iload (pc' := 13) dX10_canSwitch_11 rfl rfl ?_
    replace h := qbd h; obtain ⟨y4, hy4, h⟩ := h
    refine ev_callg (pc' := 16) (st2 := [iv y4]) dX10_canSwitch_13 (qs_V tc_10_210 rfl rfl (cS_cls sh78) rfl) rfl rfl (eX10_areVertices (d := d + 1) hy4) rfl rfl ?_
    refine ev_ifeq (pc' := 19) (tgt := 23) dX10_canSwitch_16 (by decide) rfl (x1 := wr y4) rfl (fun c5 => ?_) (fun c5 => ?_)
    · replace h := qit c5 h
      refine ev_iconst (pc' := 24) dX10_canSwitch_23 rfl ?_
      cases h
      exact ev_wk (qLe_eq (qLe_eq (qLe_eq (qLe_eq (qLe_eq (qLe_eq qLe_nil)))))) kJ
    · replace h := qif' c5 h
      refine ev_iconst (pc' := 20) dX10_canSwitch_19 rfl ?_
      refine ev_goto (pc' := 24) dX10_canSwitch_20 (by decide) ?_
      cases h
      exact ev_wk (qLe_eq (qLe_eq (qLe_eq (qLe_eq (qLe_eq (qLe_eq qLe_nil)))))) kJ
set_option maxRecDepth 100000 in
theorem eX10_componentsBehind {Ls t d n : Nat} {p0 : Int} {p1 : Int} {p2 : Int} {p3 : Int} {μ : qMu} {r : Int × qMu} (h : fX10_componentsBehind n p0 p1 p2 p3 μ = some r) : Ev (d + 5) mX10_componentsBehind 0 [some (.ref 78), some (iv p0), some (iv p1), some (iv p2), some (iv p3), none] [] (cS Ls t μ) (.inl (some (iv r.1))) (cS Ls t r.2) := by
  unfold fX10_componentsBehind at h
  refine ev_aload_n (pc' := 1) dX10_componentsBehind_0 rfl rfl ?_
  refine ev_iload_n (pc' := 2) dX10_componentsBehind_1 rfl rfl ?_
  refine ev_iload_n (pc' := 3) dX10_componentsBehind_2 rfl rfl ?_
  refine ev_iload_n (pc' := 4) dX10_componentsBehind_3 rfl rfl ?_
  refine ev_iload (pc' := 6) dX10_componentsBehind_4 rfl rfl ?_
  replace h := qbd h; obtain ⟨y1, hy1, h⟩ := h
  refine ev_callg (pc' := 9) (st2 := [iv y1.1]) dX10_componentsBehind_6 (qs_V tc_10_301 rfl rfl (cS_cls sh78) rfl) rfl rfl (eX10_canSwitch (d := d + 0) hy1) rfl rfl ?_
  refine ev_ifne (pc' := 12) (tgt := 14) dX10_componentsBehind_9 (by decide) rfl (x1 := wr y1.1) rfl (fun c2 => ?_) (fun c2 => ?_)
  · replace h := qit c2 h
    refine ev_iconst (pc' := 13) dX10_componentsBehind_12 rfl ?_
    cases h
    exact ev_ireturn dX10_componentsBehind_13 rfl rfl
  · replace h := qif' c2 h
    refine ev_aload_n (pc' := 15) dX10_componentsBehind_14 rfl rfl ?_
    refine ev_iload_n (pc' := 16) dX10_componentsBehind_15 rfl rfl ?_
    refine ev_iload_n (pc' := 17) dX10_componentsBehind_16 rfl rfl ?_
    refine ev_iload_n (pc' := 18) dX10_componentsBehind_17 rfl rfl ?_
    refine ev_iload (pc' := 20) dX10_componentsBehind_18 rfl rfl ?_
    replace h := qbd h; obtain ⟨y3, hy3, h⟩ := h
    refine ev_callg (pc' := 23) (st2 := []) dX10_componentsBehind_20 (qs_V tc_10_281 rfl rfl (cS_cls sh78) rfl) rfl rfl (eX10_switches (d := d + 2) hy3) rfl rfl ?_
    refine ev_aload_n (pc' := 24) dX10_componentsBehind_23 rfl rfl ?_
    replace h := qbd h; obtain ⟨y4, hy4, h⟩ := h
    refine ev_callg (pc' := 27) (st2 := [iv y4.1]) dX10_componentsBehind_24 (qs_V tc_10_235 rfl rfl (cS_cls sh78) rfl) rfl rfl (eX10_laysParts (d := d + 0) hy4) rfl rfl ?_
    refine ev_istore (pc' := 29) (L1 := [some (.ref 78), some (iv p0), some (iv p1), some (iv p2), some (iv p3), some (iv y4.1)]) dX10_componentsBehind_27 rfl rfl ?_
    refine ev_aload_n (pc' := 30) dX10_componentsBehind_29 rfl rfl ?_
    refine ev_iload_n (pc' := 31) dX10_componentsBehind_30 rfl rfl ?_
    refine ev_iload_n (pc' := 32) dX10_componentsBehind_31 rfl rfl ?_
    refine ev_iload_n (pc' := 33) dX10_componentsBehind_32 rfl rfl ?_
    refine ev_iload (pc' := 35) dX10_componentsBehind_33 rfl rfl ?_
    replace h := qbd h; obtain ⟨y5, hy5, h⟩ := h
    refine ev_callg (pc' := 38) (st2 := []) dX10_componentsBehind_35 (qs_V tc_10_284 rfl rfl (cS_cls sh78) rfl) rfl rfl (eX10_takesBack (d := d + 2) hy5) rfl rfl ?_
    refine ev_iload (pc' := 40) dX10_componentsBehind_38 rfl rfl ?_
    cases h
    exact ev_ireturn dX10_componentsBehind_40 rfl rfl
set_option maxRecDepth 100000 in
theorem ebX10_differenceNow_12 {Ls t d n : Nat} {w2 : Int} {μ : qMu} : ∀ (k : Nat) (x : Int × Int) (y : Int), lp (fun x : Int × Int => bX10_differenceNow_12 n w2 x.1 x.2 μ) k x = some y → ∀ (o : qO) (s' : qSt), Ev (d + 2) mX10_differenceNow 47 [some (.ref 78), some (iv y), some (iv w2), none] [] (cS Ls t μ) o s' → Ev (d + 2) mX10_differenceNow 12 [some (.ref 78), some (iv x.1), some (iv w2), some (iv x.2)] [] (cS Ls t μ) o s' := by
  intro k
  induction k with
  | zero => intro x y h; cases h
  | succ k ih =>
    intro x y h o s' kE
    rw [lp_s] at h
    replace h := qbd h; obtain ⟨zz, h0, h1⟩ := h
    have h : bX10_differenceNow_12 n w2 x.1 x.2 μ = some zz := h0
    clear h0
    unfold bX10_differenceNow_12 at h
    refine ev_iload_n (pc' := 13) dX10_differenceNow_12 rfl rfl ?_
    refine ev_bipush (pc' := 15) dX10_differenceNow_13 rfl bl_8 ?_
    refine ev_icmpge (pc' := 18) (tgt := 47) dX10_differenceNow_15 (by decide) rfl (x1 := wr x.2) (y1 := 8) rfl wl_8  (fun c2 => ?_) (fun c2 => ?_)
    · replace h := qit c2 h
      refine ev_iload_n (pc' := 19) dX10_differenceNow_18 rfl rfl ?_
      refine ev_iconst (pc' := 20) dX10_differenceNow_19 rfl ?_
      refine ev_aload_n (pc' := 21) dX10_differenceNow_20 rfl rfl ?_
      refine ev_iconst (pc' := 22) dX10_differenceNow_21 rfl ?_
      refine ev_iload_n (pc' := 23) dX10_differenceNow_22 rfl rfl ?_
      refine ev_iload_n (pc' := 24) dX10_differenceNow_23 rfl rfl ?_
      replace h := qbd h; obtain ⟨y3, hy3, h⟩ := h
      refine ev_callg (pc' := 27) (st2 := [iv y3, iv 0, iv x.1]) dX10_differenceNow_24 (qs_V tc_10_68 rfl rfl (cS_cls sh78) rfl) rfl rfl (eX10_many (d := d + 0) hy3) rfl rfl ?_
      refine ev_aload_n (pc' := 28) dX10_differenceNow_27 rfl rfl ?_
      refine ev_bipush (pc' := 30) dX10_differenceNow_28 rfl bl_66 ?_
      refine ev_iload_n (pc' := 31) dX10_differenceNow_30 rfl rfl ?_
      refine ev_iload_n (pc' := 32) dX10_differenceNow_31 rfl rfl ?_
      replace h := qbd h; obtain ⟨y4, hy4, h⟩ := h
      refine ev_callg (pc' := 35) (st2 := [iv y4, iv y3, iv 0, iv x.1]) dX10_differenceNow_32 (qs_V tc_10_68 rfl rfl (cS_cls sh78) rfl) rfl rfl (eX10_many (d := d + 0) hy4) rfl rfl ?_
      refine ev_isub (pc' := 36) dX10_differenceNow_35 rfl ?_
      refine ev_max (pc' := 39) dX10_differenceNow_36 rfl tc_10_220 rfl ?_
      refine ev_iadd (pc' := 40) dX10_differenceNow_39 rfl ?_
      refine ev_istore_n (pc' := 41) (L1 := [some (.ref 78), some (iv (x.1 + (mx 0 (y3 - y4)))), some (iv w2), some (iv x.2)]) dX10_differenceNow_40 rfl rfl ?_
      refine ev_iinc (pc' := 44) (x := x.2) (L1 := [some (.ref 78), some (iv (x.1 + (mx 0 (y3 - y4)))), some (iv w2), some (iv (x.2 + 1))]) dX10_differenceNow_41 rfl rfl rfl ?_
      refine ev_goto (pc' := 12) dX10_differenceNow_44 (by decide) ?_
      cases h
      exact ev_wk (qLe_eq (qLe_eq (qLe_eq (qLe_eq qLe_nil)))) (ih _ _ h1 _ _ kE)
    · replace h := qif' c2 h
      cases h
      cases h1
      exact ev_wk (qLe_eq (qLe_eq (qLe_eq (qLe_sk qLe_nil)))) kE
set_option maxRecDepth 100000 in
theorem ebX10_differenceNow_4 {Ls t d n : Nat} {μ : qMu} : ∀ (k : Nat) (x : Int × Int) (y : Int), lp (fun x : Int × Int => bX10_differenceNow_4 n x.1 x.2 μ) k x = some y → ∀ (o : qO) (s' : qSt), Ev (d + 2) mX10_differenceNow 53 [none, some (iv y), none, none] [] (cS Ls t μ) o s' → Ev (d + 2) mX10_differenceNow 4 [some (.ref 78), some (iv x.1), some (iv x.2), none] [] (cS Ls t μ) o s' := by
  intro k
  induction k with
  | zero => intro x y h; cases h
  | succ k ih =>
    intro x y h o s' kE
    rw [lp_s] at h
    replace h := qbd h; obtain ⟨zz, h0, h1⟩ := h
    have h : bX10_differenceNow_4 n x.1 x.2 μ = some zz := h0
    clear h0
    unfold bX10_differenceNow_4 at h
    refine ev_iload_n (pc' := 5) dX10_differenceNow_4 rfl rfl ?_
    refine ev_bipush (pc' := 7) dX10_differenceNow_5 rfl bl_8 ?_
    refine ev_icmpge (pc' := 10) (tgt := 53) dX10_differenceNow_7 (by decide) rfl (x1 := wr x.2) (y1 := 8) rfl wl_8  (fun c1 => ?_) (fun c1 => ?_)
    · replace h := qit c1 h
      refine ev_iload_n (pc' := 11) dX10_differenceNow_10 rfl rfl ?_
      refine ev_istore_n (pc' := 12) (L1 := [some (.ref 78), some (iv x.1), some (iv x.2), some (iv x.2)]) dX10_differenceNow_11 rfl rfl ?_
      replace h := qbd h; obtain ⟨y5, hy5, h⟩ := h
      refine ev_wk (qLe_eq (qLe_eq (qLe_eq (qLe_eq qLe_nil)))) (?_ : Ev _ _ _ [some (.ref 78), some (iv x.1), some (iv x.2), some (iv x.2)] _ _ _ _)
      refine ebX10_differenceNow_12 _ _ _ hy5 _ _ ?_
      refine ev_iinc (pc' := 50) (x := x.2) (L1 := [some (.ref 78), some (iv y5), some (iv (x.2 + 1)), none]) dX10_differenceNow_47 rfl rfl rfl ?_
      refine ev_goto (pc' := 4) dX10_differenceNow_50 (by decide) ?_
      cases h
      exact ev_wk (qLe_eq (qLe_eq (qLe_eq (qLe_eq qLe_nil)))) (ih _ _ h1 _ _ kE)
    · replace h := qif' c1 h
      cases h
      cases h1
      exact ev_wk (qLe_sk (qLe_eq (qLe_sk (qLe_eq qLe_nil)))) kE
set_option maxRecDepth 100000 in
theorem eX10_differenceNow {Ls t d n : Nat} {μ : qMu} {r : Int} (h : fX10_differenceNow n μ = some r) : Ev (d + 2) mX10_differenceNow 0 [some (.ref 78), none, none, none] [] (cS Ls t μ) (.inl (some (iv r))) (cS Ls t μ) := by
  unfold fX10_differenceNow at h
  refine ev_iconst (pc' := 1) dX10_differenceNow_0 rfl ?_
  refine ev_istore_n (pc' := 2) (L1 := [some (.ref 78), some (iv 0), none, none]) dX10_differenceNow_1 rfl rfl ?_
  refine ev_iconst (pc' := 3) dX10_differenceNow_2 rfl ?_
  refine ev_istore_n (pc' := 4) (L1 := [some (.ref 78), some (iv 0), some (iv 0), none]) dX10_differenceNow_3 rfl rfl ?_
  replace h := qbd h; obtain ⟨y6, hy6, h⟩ := h
  refine ev_wk (qLe_eq (qLe_eq (qLe_eq (qLe_eq qLe_nil)))) (?_ : Ev _ _ _ [some (.ref 78), some (iv 0), some (iv 0), none] _ _ _ _)
  refine ebX10_differenceNow_4 _ _ _ hy6 _ _ ?_
  refine ev_iload_n (pc' := 54) dX10_differenceNow_53 rfl rfl ?_
  cases h
  exact ev_ireturn dX10_differenceNow_54 rfl rfl
set_option maxRecDepth 100000 in
theorem ebX10_nearest_36 {Ls t d n : Nat} {w1 : Int} : ∀ (k : Nat) (x : Int × Int × Int × qMu) (y : Int × qMu), lp (fun x : Int × Int × Int × qMu => bX10_nearest_36 n w1 x.1 x.2.1 x.2.2.1 x.2.2.2) k x = some y → ∀ (o : qO) (s' : qSt), Ev (d + 5) mX10_nearest 93 [none, none, some (iv y.1), none, none, none] [] (cS Ls t y.2) o s' → Ev (d + 5) mX10_nearest 36 [some (.ref 78), some (iv w1), some (iv x.1), some (iv x.2.1), some (iv x.2.2.1), none] [] (cS Ls t x.2.2.2) o s' := by
  intro k
  induction k with
  | zero => intro x y h; cases h
  | succ k ih =>
    intro x y h o s' kE
    rw [lp_s] at h
    replace h := qbd h; obtain ⟨zz, h0, h1⟩ := h
    have h : bX10_nearest_36 n w1 x.1 x.2.1 x.2.2.1 x.2.2.2 = some zz := h0
    clear h0
    unfold bX10_nearest_36 at h
    refine ev_iload (pc' := 38) dX10_nearest_36 rfl rfl ?_
    refine ev_iload_n (pc' := 39) dX10_nearest_38 rfl rfl ?_
    refine ev_icmpge (pc' := 42) (tgt := 93) dX10_nearest_39 (by decide) rfl (x1 := wr x.2.2.1) (y1 := wr w1) rfl rfl  (fun c8 => ?_) (fun c8 => ?_)
    · replace h := qit c8 h
      refine ev_aload_n (pc' := 43) dX10_nearest_42 rfl rfl ?_
      refine ev_aload_n (pc' := 44) dX10_nearest_43 rfl rfl ?_
      refine ev_getr (pc' := 47) dX10_nearest_44 rfl tf_10_45 sh78 rfl ?_
      refine ev_iload (pc' := 49) dX10_nearest_47 rfl rfl ?_
      replace h := qbd h; obtain ⟨x9, hx9, h⟩ := h
      refine ev_iald (pc' := 50) dX10_nearest_49 rfl sh89 hx9 ?_
      replace h := qbd h; obtain ⟨y10, hy10, h⟩ := h
      refine ev_callg (pc' := 53) (st2 := []) dX10_nearest_50 (qs_V tc_10_304 rfl rfl (cS_cls sh78) rfl) rfl rfl (eX10_switchesBy (d := d + 1) hy10) rfl rfl ?_
      refine ev_aload_n (pc' := 54) dX10_nearest_53 rfl rfl ?_
      replace h := qbd h; obtain ⟨y11, hy11, h⟩ := h
      refine ev_callg (pc' := 57) (st2 := [iv y11]) dX10_nearest_54 (qs_V tc_10_307 rfl rfl (cS_cls sh78) rfl) rfl rfl (eX10_differenceNow (d := d + 2) hy11) rfl rfl ?_
      refine ev_istore (pc' := 59) (L1 := [some (.ref 78), some (iv w1), some (iv x.1), some (iv x.2.1), some (iv x.2.2.1), some (iv y11)]) dX10_nearest_57 rfl rfl ?_
      refine ev_aload_n (pc' := 60) dX10_nearest_59 rfl rfl ?_
      refine ev_aload_n (pc' := 61) dX10_nearest_60 rfl rfl ?_
      refine ev_getr (pc' := 64) dX10_nearest_61 rfl tf_10_45 sh78 rfl ?_
      refine ev_iload (pc' := 66) dX10_nearest_64 rfl rfl ?_
      replace h := qbd h; obtain ⟨x12, hx12, h⟩ := h
      refine ev_iald (pc' := 67) dX10_nearest_66 rfl sh89 hx12 ?_
      replace h := qbd h; obtain ⟨y13, hy13, h⟩ := h
      refine ev_callg (pc' := 70) (st2 := []) dX10_nearest_67 (qs_V tc_10_310 rfl rfl (cS_cls sh78) rfl) rfl rfl (eX10_takesBackBy (d := d + 1) hy13) rfl rfl ?_
      refine ev_iload (pc' := 72) dX10_nearest_70 rfl rfl ?_
      have k15 : ∀ j16 : Int, j16 = (if wr x.2.2.1 = 0 then x.2.2.1 else if wr y11 < wr x.2.1 then x.2.2.1 else x.1) → ∀ j17 : Int, j17 = (if wr x.2.2.1 = 0 then y11 else if wr y11 < wr x.2.1 then y11 else x.2.1) → Ev (d + 5) mX10_nearest 87 [some (.ref 78), some (iv w1), some (iv j16), some (iv j17), some (iv x.2.2.1), none] [] (cS Ls t y13) o s' := by
        intro j16 ej16 j17 ej17
        subst ej16 ej17
        refine ev_iinc (pc' := 90) (x := x.2.2.1) (L1 := [some (.ref 78), some (iv w1), some (iv (if wr x.2.2.1 = 0 then x.2.2.1 else if wr y11 < wr x.2.1 then x.2.2.1 else x.1)), some (iv (if wr x.2.2.1 = 0 then y11 else if wr y11 < wr x.2.1 then y11 else x.2.1)), some (iv (x.2.2.1 + 1)), none]) dX10_nearest_87 rfl rfl rfl ?_
        refine ev_goto (pc' := 36) dX10_nearest_90 (by decide) ?_
        cases h
        exact ev_wk (qLe_eq (qLe_eq (qLe_eq (qLe_eq (qLe_eq (qLe_eq qLe_nil)))))) (ih _ _ h1 _ _ kE)
      refine ev_ifeq (pc' := 75) (tgt := 81) dX10_nearest_72 (by decide) rfl (x1 := wr x.2.2.1) rfl (fun c14 => ?_) (fun c14 => ?_)
      · skip
        refine ev_iload (pc' := 83) dX10_nearest_81 rfl rfl ?_
        refine ev_istore_n (pc' := 84) (L1 := [some (.ref 78), some (iv w1), some (iv x.2.2.1), some (iv x.2.1), some (iv x.2.2.1), some (iv y11)]) dX10_nearest_83 rfl rfl ?_
        refine ev_iload (pc' := 86) dX10_nearest_84 rfl rfl ?_
        refine ev_istore_n (pc' := 87) (L1 := [some (.ref 78), some (iv w1), some (iv x.2.2.1), some (iv y11), some (iv x.2.2.1), some (iv y11)]) dX10_nearest_86 rfl rfl ?_
        exact ev_wk (qLe_eq (qLe_eq (qLe_eq (qLe_eq (qLe_eq (qLe_sk qLe_nil)))))) (k15 _ (qet c14 rfl) _ (qet c14 rfl))
      · skip
        refine ev_iload (pc' := 77) dX10_nearest_75 rfl rfl ?_
        refine ev_iload_n (pc' := 78) dX10_nearest_77 rfl rfl ?_
        refine ev_icmpge (pc' := 81) (tgt := 87) dX10_nearest_78 (by decide) rfl (x1 := wr y11) (y1 := wr x.2.1) rfl rfl  (fun c18 => ?_) (fun c18 => ?_)
        · skip
          refine ev_iload (pc' := 83) dX10_nearest_81 rfl rfl ?_
          refine ev_istore_n (pc' := 84) (L1 := [some (.ref 78), some (iv w1), some (iv x.2.2.1), some (iv x.2.1), some (iv x.2.2.1), some (iv y11)]) dX10_nearest_83 rfl rfl ?_
          refine ev_iload (pc' := 86) dX10_nearest_84 rfl rfl ?_
          refine ev_istore_n (pc' := 87) (L1 := [some (.ref 78), some (iv w1), some (iv x.2.2.1), some (iv y11), some (iv x.2.2.1), some (iv y11)]) dX10_nearest_86 rfl rfl ?_
          exact ev_wk (qLe_eq (qLe_eq (qLe_eq (qLe_eq (qLe_eq (qLe_sk qLe_nil)))))) (k15 _ (qef c14 (qet c18 rfl)) _ (qef c14 (qet c18 rfl)))
        · skip
          exact ev_wk (qLe_eq (qLe_eq (qLe_eq (qLe_eq (qLe_eq (qLe_sk qLe_nil)))))) (k15 _ (qef c14 (qef c18 rfl)) _ (qef c14 (qef c18 rfl)))
    · replace h := qif' c8 h
      cases h
      cases h1
      exact ev_wk (qLe_sk (qLe_sk (qLe_eq (qLe_sk (qLe_sk (qLe_eq qLe_nil)))))) kE
set_option maxRecDepth 100000 in
theorem eX10_nearest {Ls t d n : Nat} {μ : qMu} {r : Int × qMu} (h : fX10_nearest n μ = some r) : Ev (d + 5) mX10_nearest 0 [some (.ref 78), none, none, none, none, none] [] (cS Ls t μ) (.inl (some (iv r.1))) (cS Ls t r.2) := by
  unfold fX10_nearest at h
  refine ev_aload_n (pc' := 1) dX10_nearest_0 rfl rfl ?_
  refine ev_aload_n (pc' := 2) dX10_nearest_1 rfl rfl ?_
  refine ev_getr (pc' := 5) dX10_nearest_2 rfl tf_10_7 sh78 rfl ?_
  refine ev_iconst (pc' := 6) dX10_nearest_5 rfl ?_
  replace h := qbd h; obtain ⟨x1, hx1, h⟩ := h
  refine ev_iald (pc' := 7) dX10_nearest_6 rfl sh79 hx1 ?_
  replace h := qbd h; obtain ⟨y2, hy2, h⟩ := h
  refine ev_callg (pc' := 10) (st2 := [iv y2.1]) dX10_nearest_7 (qs_V tc_10_298 rfl rfl (cS_cls sh78) rfl) rfl rfl (eX10_laysList (d := d + 0) hy2) rfl rfl ?_
  refine ev_istore_n (pc' := 11) (L1 := [some (.ref 78), some (iv y2.1), none, none, none, none]) dX10_nearest_10 rfl rfl ?_
  refine ev_aload_n (pc' := 12) dX10_nearest_11 rfl rfl ?_
  refine ev_iload_n (pc' := 13) dX10_nearest_12 rfl rfl ?_
  have k4 : ∀ j5 : Int, j5 = (if 0 < wr y2.1 then 1 else 0) → Ev (d + 5) mX10_nearest 21 [some (.ref 78), some (iv y2.1), none, none, none, none] [iv j5, .ref 78] (cS Ls t y2.2) (.inl (some (iv r.1))) (cS Ls t r.2) := by
    intro j5 ej5
    subst ej5
    replace h := qbd h; obtain ⟨y6, hy6, h⟩ := h
    refine ev_callg (pc' := 24) (st2 := [iv y6.1]) dX10_nearest_21 (qs_V tc_10_188 rfl rfl (cS_cls sh78) rfl) rfl rfl (eX10_good (d := d + 4) hy6) rfl rfl ?_
    refine ev_ifne (pc' := 27) (tgt := 29) dX10_nearest_24 (by decide) rfl (x1 := wr y6.1) rfl (fun c7 => ?_) (fun c7 => ?_)
    · replace h := qit c7 h
      refine ev_iconst (pc' := 28) dX10_nearest_27 rfl ?_
      cases h
      exact ev_ireturn dX10_nearest_28 rfl rfl
    · replace h := qif' c7 h
      refine ev_iconst (pc' := 30) dX10_nearest_29 rfl ?_
      refine ev_istore_n (pc' := 31) (L1 := [some (.ref 78), some (iv y2.1), some (iv 0), none, none, none]) dX10_nearest_30 rfl rfl ?_
      refine ev_iconst (pc' := 32) dX10_nearest_31 rfl ?_
      refine ev_istore_n (pc' := 33) (L1 := [some (.ref 78), some (iv y2.1), some (iv 0), some (iv 0), none, none]) dX10_nearest_32 rfl rfl ?_
      refine ev_iconst (pc' := 34) dX10_nearest_33 rfl ?_
      refine ev_istore (pc' := 36) (L1 := [some (.ref 78), some (iv y2.1), some (iv 0), some (iv 0), some (iv 0), none]) dX10_nearest_34 rfl rfl ?_
      replace h := qbd h; obtain ⟨y19, hy19, h⟩ := h
      refine ev_wk (qLe_eq (qLe_eq (qLe_eq (qLe_eq (qLe_eq (qLe_eq qLe_nil)))))) (?_ : Ev _ _ _ [some (.ref 78), some (iv y2.1), some (iv 0), some (iv 0), some (iv 0), none] _ _ _ _)
      refine ebX10_nearest_36 _ _ _ hy19 _ _ ?_
      refine ev_iload_n (pc' := 94) dX10_nearest_93 rfl rfl ?_
      cases h
      exact ev_ireturn dX10_nearest_94 rfl rfl
  refine ev_ifle (pc' := 16) (tgt := 20) dX10_nearest_13 (by decide) rfl (x1 := wr y2.1) rfl (fun c3 => ?_) (fun c3 => ?_)
  · skip
    refine ev_iconst (pc' := 17) dX10_nearest_16 rfl ?_
    refine ev_goto (pc' := 21) dX10_nearest_17 (by decide) ?_
    exact ev_wk (qLe_eq (qLe_eq (qLe_eq (qLe_eq (qLe_eq (qLe_eq qLe_nil)))))) (k4 _ (qet c3 rfl))
  · skip
    refine ev_iconst (pc' := 21) dX10_nearest_20 rfl ?_
    exact ev_wk (qLe_eq (qLe_eq (qLe_eq (qLe_eq (qLe_eq (qLe_eq qLe_nil)))))) (k4 _ (qef c3 rfl))
set_option maxRecDepth 100000 in
theorem ebX10_areAlike_4 {Ls t d n : Nat} {μ : qMu} : ∀ (k : Nat) (x : Int × Int) (y : Int), lp (fun x : Int × Int => bX10_areAlike_4 n x.1 x.2 μ) k x = some y → ∀ (o : qO) (s' : qSt), Ev (d + 3) mX10_areAlike 42 [none, some (iv y), none] [] (cS Ls t μ) o s' → Ev (d + 3) mX10_areAlike 4 [some (.ref 78), some (iv x.1), some (iv x.2)] [] (cS Ls t μ) o s' := by
  intro k
  induction k with
  | zero => intro x y h; cases h
  | succ k ih =>
    intro x y h o s' kE
    rw [lp_s] at h
    replace h := qbd h; obtain ⟨zz, h0, h1⟩ := h
    have h : bX10_areAlike_4 n x.1 x.2 μ = some zz := h0
    clear h0
    unfold bX10_areAlike_4 at h
    refine ev_iload_n (pc' := 5) dX10_areAlike_4 rfl rfl ?_
    refine ev_bipush (pc' := 7) dX10_areAlike_5 rfl bl_8 ?_
    refine ev_icmpge (pc' := 10) (tgt := 42) dX10_areAlike_7 (by decide) rfl (x1 := wr x.2) (y1 := 8) rfl wl_8  (fun c1 => ?_) (fun c1 => ?_)
    · replace h := qit c1 h
      refine ev_iload_n (pc' := 11) dX10_areAlike_10 rfl rfl ?_
      replace h := qbd h; obtain ⟨y3, hy3, h⟩ := h
      have kJ : Ev (d + 3) mX10_areAlike 35 [some (.ref 78), none, some (iv x.2)] [iv y3] (cS Ls t μ) o s' := by
        refine ev_istore_n (pc' := 36) (L1 := [some (.ref 78), some (iv y3), some (iv x.2)]) dX10_areAlike_35 rfl rfl ?_
        refine ev_iinc (pc' := 39) (x := x.2) (L1 := [some (.ref 78), some (iv y3), some (iv (x.2 + 1))]) dX10_areAlike_36 rfl rfl rfl ?_
        refine ev_goto (pc' := 4) dX10_areAlike_39 (by decide) ?_
        cases h
        exact ev_wk (qLe_eq (qLe_eq (qLe_eq qLe_nil))) (ih _ _ h1 _ _ kE)
      replace h := hy3
      clear hy3
      refine ev_ifeq (pc' := 14) (tgt := 34) dX10_areAlike_11 (by decide) rfl (x1 := wr x.1) rfl (fun c2 => ?_) (fun c2 => ?_)
      · replace h := qit c2 h
        refine ev_iconst (pc' := 35) dX10_areAlike_34 rfl ?_
        cases h
        exact ev_wk (qLe_eq (qLe_sk (qLe_eq qLe_nil))) kJ
      · replace h := qif' c2 h
        refine ev_aload_n (pc' := 15) dX10_areAlike_14 rfl rfl ?_
        refine ev_iconst (pc' := 16) dX10_areAlike_15 rfl ?_
        refine ev_iload_n (pc' := 17) dX10_areAlike_16 rfl rfl ?_
        replace h := qbd h; obtain ⟨y4, hy4, h⟩ := h
        refine ev_callg (pc' := 20) (st2 := [iv y4]) dX10_areAlike_17 (qs_V tc_10_213 rfl rfl (cS_cls sh78) rfl) rfl rfl (eX10_degreeOf (d := d + 0) hy4) rfl rfl ?_
        refine ev_aload_n (pc' := 21) dX10_areAlike_20 rfl rfl ?_
        refine ev_bipush (pc' := 23) dX10_areAlike_21 rfl bl_66 ?_
        refine ev_iload_n (pc' := 24) dX10_areAlike_23 rfl rfl ?_
        replace h := qbd h; obtain ⟨y5, hy5, h⟩ := h
        refine ev_callg (pc' := 27) (st2 := [iv y5, iv y4]) dX10_areAlike_24 (qs_V tc_10_213 rfl rfl (cS_cls sh78) rfl) rfl rfl (eX10_degreeOf (d := d + 0) hy5) rfl rfl ?_
        refine ev_icmpne (pc' := 30) (tgt := 34) dX10_areAlike_27 (by decide) rfl (x1 := wr y4) (y1 := wr y5) rfl rfl  (fun c6 => ?_) (fun c6 => ?_)
        · replace h := qit c6 h
          refine ev_iconst (pc' := 31) dX10_areAlike_30 rfl ?_
          refine ev_goto (pc' := 35) dX10_areAlike_31 (by decide) ?_
          cases h
          exact ev_wk (qLe_eq (qLe_sk (qLe_eq qLe_nil))) kJ
        · replace h := qif' c6 h
          refine ev_iconst (pc' := 35) dX10_areAlike_34 rfl ?_
          cases h
          exact ev_wk (qLe_eq (qLe_sk (qLe_eq qLe_nil))) kJ
    · replace h := qif' c1 h
      cases h
      cases h1
      exact ev_wk (qLe_sk (qLe_eq (qLe_sk qLe_nil))) kE
set_option maxRecDepth 100000 in
theorem eX10_areAlike {Ls t d n : Nat} {μ : qMu} {r : Int} (h : fX10_areAlike n μ = some r) : Ev (d + 3) mX10_areAlike 0 [some (.ref 78), none, none] [] (cS Ls t μ) (.inl (some (iv r))) (cS Ls t μ) := by
  unfold fX10_areAlike at h
  refine ev_iconst (pc' := 1) dX10_areAlike_0 rfl ?_
  refine ev_istore_n (pc' := 2) (L1 := [some (.ref 78), some (iv 1), none]) dX10_areAlike_1 rfl rfl ?_
  refine ev_iconst (pc' := 3) dX10_areAlike_2 rfl ?_
  refine ev_istore_n (pc' := 4) (L1 := [some (.ref 78), some (iv 1), some (iv 0)]) dX10_areAlike_3 rfl rfl ?_
  replace h := qbd h; obtain ⟨y7, hy7, h⟩ := h
  refine ev_wk (qLe_eq (qLe_eq (qLe_eq qLe_nil))) (?_ : Ev _ _ _ [some (.ref 78), some (iv 1), some (iv 0)] _ _ _ _)
  refine ebX10_areAlike_4 _ _ _ hy7 _ _ ?_
  refine ev_iload_n (pc' := 43) dX10_areAlike_42 rfl rfl ?_
  replace h := qbd h; obtain ⟨x8, hx8, h⟩ := h
  obtain ⟨ex8, nx8⟩ := qbl_n hx8
  subst ex8
  cases h
  exact ev_ireturn dX10_areAlike_43 rfl nx8
set_option maxRecDepth 100000 in
theorem eX10_isAlike {Ls t d n : Nat} {μ : qMu} {r : Int × qMu} (h : fX10_isAlike n μ = some r) : Ev (d + 4) mX10_isAlike 0 [some (.ref 78)] [] (cS Ls t μ) (.inl (some (iv r.1))) (cS Ls t r.2) := by
  unfold fX10_isAlike at h
  refine ev_aload_n (pc' := 1) dX10_isAlike_0 rfl rfl ?_
  refine ev_iconst (pc' := 2) dX10_isAlike_1 rfl ?_
  replace h := qbd h; obtain ⟨μ1, hμ1, h⟩ := h
  refine ev_puti (pc' := 5) dX10_isAlike_2 rfl tf_10_54 sh78 rfl rfl (qw_9_4 _) rfl hμ1 ?_
  refine ev_aload_n (pc' := 6) dX10_isAlike_5 rfl rfl ?_
  replace h := qbd h; obtain ⟨y2, hy2, h⟩ := h
  refine ev_callg (pc' := 9) (st2 := [iv y2]) dX10_isAlike_6 (qs_V tc_10_313 rfl rfl (cS_cls sh78) rfl) rfl rfl (eX10_areAlike (d := d + 0) hy2) rfl rfl ?_
  replace h := qbd h; obtain ⟨x3, hx3, h⟩ := h
  obtain ⟨ex3, nx3⟩ := qbl_n hx3
  subst ex3
  cases h
  exact ev_ireturn dX10_isAlike_9 rfl nx3
set_option maxRecDepth 100000 in
theorem eX10_difference {Ls t d n : Nat} {μ : qMu} {r : Int × qMu} (h : fX10_difference n μ = some r) : Ev (d + 3) mX10_difference 0 [some (.ref 78)] [] (cS Ls t μ) (.inl (some (iv r.1))) (cS Ls t r.2) := by
  unfold fX10_difference at h
  refine ev_aload_n (pc' := 1) dX10_difference_0 rfl rfl ?_
  refine ev_iconst (pc' := 2) dX10_difference_1 rfl ?_
  replace h := qbd h; obtain ⟨μ1, hμ1, h⟩ := h
  refine ev_puti (pc' := 5) dX10_difference_2 rfl tf_10_54 sh78 rfl rfl (qw_9_4 _) rfl hμ1 ?_
  refine ev_aload_n (pc' := 6) dX10_difference_5 rfl rfl ?_
  replace h := qbd h; obtain ⟨y2, hy2, h⟩ := h
  refine ev_callg (pc' := 9) (st2 := [iv y2]) dX10_difference_6 (qs_V tc_10_307 rfl rfl (cS_cls sh78) rfl) rfl rfl (eX10_differenceNow (d := d + 0) hy2) rfl rfl ?_
  cases h
  exact ev_ireturn dX10_difference_9 rfl rfl
set_option maxRecDepth 100000 in
theorem eX10_beyond {Ls t d : Nat} {p0 : Int} {p1 : Int} {μ : qMu} {r : Int} (h : fX10_beyond p0 p1 μ = some r) : Ev (d + 2) mX10_beyond 0 [some (.ref 78), some (iv p0), some (iv p1)] [] (cS Ls t μ) (.inl (some (iv r))) (cS Ls t μ) := by
  unfold fX10_beyond at h
  refine ev_aload_n (pc' := 1) dX10_beyond_0 rfl rfl ?_
  refine ev_iconst (pc' := 2) dX10_beyond_1 rfl ?_
  refine ev_iload_n (pc' := 3) dX10_beyond_2 rfl rfl ?_
  refine ev_iload_n (pc' := 4) dX10_beyond_3 rfl rfl ?_
  replace h := qbd h; obtain ⟨y1, hy1, h⟩ := h
  refine ev_callg (pc' := 7) (st2 := [iv y1]) dX10_beyond_4 (qs_V tc_10_68 rfl rfl (cS_cls sh78) rfl) rfl rfl (eX10_many (d := d + 0) hy1) rfl rfl ?_
  refine ev_aload_n (pc' := 8) dX10_beyond_7 rfl rfl ?_
  refine ev_bipush (pc' := 10) dX10_beyond_8 rfl bl_66 ?_
  refine ev_iload_n (pc' := 11) dX10_beyond_10 rfl rfl ?_
  refine ev_iload_n (pc' := 12) dX10_beyond_11 rfl rfl ?_
  replace h := qbd h; obtain ⟨y2, hy2, h⟩ := h
  refine ev_callg (pc' := 15) (st2 := [iv y2, iv y1]) dX10_beyond_12 (qs_V tc_10_68 rfl rfl (cS_cls sh78) rfl) rfl rfl (eX10_many (d := d + 0) hy2) rfl rfl ?_
  refine ev_isub (pc' := 16) dX10_beyond_15 rfl ?_
  cases h
  exact ev_ireturn dX10_beyond_16 rfl rfl
set_option maxRecDepth 100000 in
theorem ebX10_firstLacking_10 {Ls t d n : Nat} {w1 : Int} {μ : qMu} : ∀ (k : Nat) (x : Int) (y : (Unit) ⊕ (Int)), lp (fun x : Int => bX10_firstLacking_10 n w1 x μ) k x = some y → ∀ (o : qO) (s' : qSt), (∀ b : Unit, y = .inl b → Ev (d + 3) mX10_firstLacking 38 [some (.ref 78), some (iv w1), none] [] (cS Ls t μ) o s') → (∀ r : Int, y = .inr r → o = (.inl (some (iv r))) ∧ s' = (cS Ls t μ)) → Ev (d + 3) mX10_firstLacking 10 [some (.ref 78), some (iv w1), some (iv x)] [] (cS Ls t μ) o s' := by
  intro k
  induction k with
  | zero => intro x y h; cases h
  | succ k ih =>
    intro x y h o s' kE kR
    rw [lp_s] at h
    replace h := qbd h; obtain ⟨zz, h0, h1⟩ := h
    have h : bX10_firstLacking_10 n w1 x μ = some zz := h0
    clear h0
    unfold bX10_firstLacking_10 at h
    refine ev_iload_n (pc' := 11) dX10_firstLacking_10 rfl rfl ?_
    refine ev_bipush (pc' := 13) dX10_firstLacking_11 rfl bl_8 ?_
    refine ev_icmpge (pc' := 16) (tgt := 38) dX10_firstLacking_13 (by decide) rfl (x1 := wr x) (y1 := 8) rfl wl_8  (fun c2 => ?_) (fun c2 => ?_)
    · replace h := qit c2 h
      refine ev_aload_n (pc' := 17) dX10_firstLacking_16 rfl rfl ?_
      refine ev_iload_n (pc' := 18) dX10_firstLacking_17 rfl rfl ?_
      refine ev_iload_n (pc' := 19) dX10_firstLacking_18 rfl rfl ?_
      replace h := qbd h; obtain ⟨y3, hy3, h⟩ := h
      refine ev_callg (pc' := 22) (st2 := [iv y3]) dX10_firstLacking_19 (qs_V tc_10_316 rfl rfl (cS_cls sh78) rfl) rfl rfl (eX10_beyond (d := d + 0) hy3) rfl rfl ?_
      refine ev_ifge (pc' := 25) (tgt := 32) dX10_firstLacking_22 (by decide) rfl (x1 := wr y3) rfl (fun c4 => ?_) (fun c4 => ?_)
      · replace h := qit c4 h
        refine ev_bipush (pc' := 27) dX10_firstLacking_25 rfl bl_8 ?_
        refine ev_iload_n (pc' := 28) dX10_firstLacking_27 rfl rfl ?_
        refine ev_imul (pc' := 29) dX10_firstLacking_28 rfl ?_
        refine ev_iload_n (pc' := 30) dX10_firstLacking_29 rfl rfl ?_
        refine ev_iadd (pc' := 31) dX10_firstLacking_30 rfl ?_
        cases h
        cases h1
        obtain ⟨rfl, rfl⟩ := kR _ rfl
        exact ev_ireturn dX10_firstLacking_31 rfl rfl
      · replace h := qif' c4 h
        refine ev_iinc (pc' := 35) (x := x) (L1 := [some (.ref 78), some (iv w1), some (iv (x + 1))]) dX10_firstLacking_32 rfl rfl rfl ?_
        refine ev_goto (pc' := 10) dX10_firstLacking_35 (by decide) ?_
        cases h
        exact ev_wk (qLe_eq (qLe_eq (qLe_eq qLe_nil))) (ih _ _ h1 _ _ kE kR)
    · replace h := qif' c2 h
      cases h
      cases h1
      exact ev_wk (qLe_eq (qLe_eq (qLe_sk qLe_nil))) (kE _ rfl)
set_option maxRecDepth 100000 in
theorem ebX10_firstLacking_2 {Ls t d n : Nat} {μ : qMu} : ∀ (k : Nat) (x : Int) (y : (Unit) ⊕ (Int)), lp (fun x : Int => bX10_firstLacking_2 n x μ) k x = some y → ∀ (o : qO) (s' : qSt), (∀ b : Unit, y = .inl b → Ev (d + 3) mX10_firstLacking 44 [none, none, none] [] (cS Ls t μ) o s') → (∀ r : Int, y = .inr r → o = (.inl (some (iv r))) ∧ s' = (cS Ls t μ)) → Ev (d + 3) mX10_firstLacking 2 [some (.ref 78), some (iv x), none] [] (cS Ls t μ) o s' := by
  intro k
  induction k with
  | zero => intro x y h; cases h
  | succ k ih =>
    intro x y h o s' kE kR
    rw [lp_s] at h
    replace h := qbd h; obtain ⟨zz, h0, h1⟩ := h
    have h : bX10_firstLacking_2 n x μ = some zz := h0
    clear h0
    unfold bX10_firstLacking_2 at h
    refine ev_iload_n (pc' := 3) dX10_firstLacking_2 rfl rfl ?_
    refine ev_bipush (pc' := 5) dX10_firstLacking_3 rfl bl_8 ?_
    refine ev_icmpge (pc' := 8) (tgt := 44) dX10_firstLacking_5 (by decide) rfl (x1 := wr x) (y1 := 8) rfl wl_8  (fun c1 => ?_) (fun c1 => ?_)
    · replace h := qit c1 h
      refine ev_iload_n (pc' := 9) dX10_firstLacking_8 rfl rfl ?_
      refine ev_istore_n (pc' := 10) (L1 := [some (.ref 78), some (iv x), some (iv x)]) dX10_firstLacking_9 rfl rfl ?_
      replace h := qbd h; obtain ⟨y5, hy5, h⟩ := h
      refine ev_wk (qLe_eq (qLe_eq (qLe_eq qLe_nil))) (?_ : Ev _ _ _ [some (.ref 78), some (iv x), some (iv x)] _ _ _ _)
      refine ebX10_firstLacking_10 _ _ _ hy5 _ _ ?_ ?_
      · intro b6 eb6
        subst eb6
        replace h := qel h
        refine ev_iinc (pc' := 41) (x := x) (L1 := [some (.ref 78), some (iv (x + 1)), none]) dX10_firstLacking_38 rfl rfl rfl ?_
        refine ev_goto (pc' := 2) dX10_firstLacking_41 (by decide) ?_
        cases h
        exact ev_wk (qLe_eq (qLe_eq (qLe_eq qLe_nil))) (ih _ _ h1 _ _ kE kR)
      · intro r7 er7
        subst er7
        replace h := qer h
        cases h
        cases h1
        exact kR _ rfl
    · replace h := qif' c1 h
      cases h
      cases h1
      exact ev_wk (qLe_sk (qLe_sk (qLe_eq qLe_nil))) (kE _ rfl)
set_option maxRecDepth 100000 in
theorem eX10_firstLacking {Ls t d n : Nat} {μ : qMu} {r : Int} (h : fX10_firstLacking n μ = some r) : Ev (d + 3) mX10_firstLacking 0 [some (.ref 78), none, none] [] (cS Ls t μ) (.inl (some (iv r))) (cS Ls t μ) := by
  unfold fX10_firstLacking at h
  refine ev_iconst (pc' := 1) dX10_firstLacking_0 rfl ?_
  refine ev_istore_n (pc' := 2) (L1 := [some (.ref 78), some (iv 0), none]) dX10_firstLacking_1 rfl rfl ?_
  replace h := qbd h; obtain ⟨y8, hy8, h⟩ := h
  refine ev_wk (qLe_eq (qLe_eq (qLe_eq qLe_nil))) (?_ : Ev _ _ _ [some (.ref 78), some (iv 0), none] _ _ _ _)
  refine ebX10_firstLacking_2 _ _ _ hy8 _ _ ?_ ?_
  · intro b9 eb9
    subst eb9
    replace h := qel h
    refine ev_iconst (pc' := 45) dX10_firstLacking_44 rfl ?_
    cases h
    exact ev_ireturn dX10_firstLacking_45 rfl rfl
  · intro r10 er10
    subst er10
    replace h := qer h
    cases h
    exact ⟨rfl, rfl⟩
set_option maxRecDepth 100000 in
theorem ebX10_firstBeyond_3 {Ls t d n : Nat} {w1 : Int} {w2 : Int} {w3 : Int} {μ : qMu} : ∀ (k : Nat) (x : Int) (y : (Unit) ⊕ (Int)), lp (fun x : Int => bX10_firstBeyond_3 n w1 w2 w3 x μ) k x = some y → ∀ (o : qO) (s' : qSt), (∀ b : Unit, y = .inl b → Ev (d + 3) mX10_firstBeyond 40 [none, none, none, none, none] [] (cS Ls t μ) o s') → (∀ r : Int, y = .inr r → o = (.inl (some (iv r))) ∧ s' = (cS Ls t μ)) → Ev (d + 3) mX10_firstBeyond 3 [some (.ref 78), some (iv w1), some (iv w2), some (iv w3), some (iv x)] [] (cS Ls t μ) o s' := by
  intro k
  induction k with
  | zero => intro x y h; cases h
  | succ k ih =>
    intro x y h o s' kE kR
    rw [lp_s] at h
    replace h := qbd h; obtain ⟨zz, h0, h1⟩ := h
    have h : bX10_firstBeyond_3 n w1 w2 w3 x μ = some zz := h0
    clear h0
    unfold bX10_firstBeyond_3 at h
    refine ev_iload (pc' := 5) dX10_firstBeyond_3 rfl rfl ?_
    refine ev_bipush (pc' := 7) dX10_firstBeyond_5 rfl bl_8 ?_
    refine ev_icmpge (pc' := 10) (tgt := 40) dX10_firstBeyond_7 (by decide) rfl (x1 := wr x) (y1 := 8) rfl wl_8  (fun c1 => ?_) (fun c1 => ?_)
    · replace h := qit c1 h
      refine ev_aload_n (pc' := 11) dX10_firstBeyond_10 rfl rfl ?_
      refine ev_iload_n (pc' := 12) dX10_firstBeyond_11 rfl rfl ?_
      refine ev_iload (pc' := 14) dX10_firstBeyond_12 rfl rfl ?_
      replace h := qbd h; obtain ⟨y2, hy2, h⟩ := h
      refine ev_callg (pc' := 17) (st2 := [iv y2]) dX10_firstBeyond_14 (qs_V tc_10_316 rfl rfl (cS_cls sh78) rfl) rfl rfl (eX10_beyond (d := d + 0) hy2) rfl rfl ?_
      refine ev_iload (pc' := 19) dX10_firstBeyond_17 rfl rfl ?_
      refine ev_iload_n (pc' := 20) dX10_firstBeyond_19 rfl rfl ?_
      have k4 : ∀ j5 : Int, j5 = (if wr x = wr w2 then w3 else 1) → Ev (d + 3) mX10_firstBeyond 28 [some (.ref 78), some (iv w1), some (iv w2), some (iv w3), some (iv x)] [iv j5, iv y2] (cS Ls t μ) o s' := by
        intro j5 ej5
        subst ej5
        refine ev_icmplt (pc' := 31) (tgt := 34) dX10_firstBeyond_28 (by decide) rfl (x1 := wr y2) (y1 := wr (if wr x = wr w2 then w3 else 1)) rfl rfl  (fun c6 => ?_) (fun c6 => ?_)
        · replace h := qit c6 h
          refine ev_iinc (pc' := 37) (x := x) (L1 := [some (.ref 78), some (iv w1), some (iv w2), some (iv w3), some (iv (x + 1))]) dX10_firstBeyond_34 rfl rfl rfl ?_
          refine ev_goto (pc' := 3) dX10_firstBeyond_37 (by decide) ?_
          cases h
          exact ev_wk (qLe_eq (qLe_eq (qLe_eq (qLe_eq (qLe_eq qLe_nil))))) (ih _ _ h1 _ _ kE kR)
        · replace h := qif' c6 h
          refine ev_iload (pc' := 33) dX10_firstBeyond_31 rfl rfl ?_
          cases h
          cases h1
          obtain ⟨rfl, rfl⟩ := kR _ rfl
          exact ev_ireturn dX10_firstBeyond_33 rfl rfl
      refine ev_icmpne (pc' := 23) (tgt := 27) dX10_firstBeyond_20 (by decide) rfl (x1 := wr x) (y1 := wr w2) rfl rfl  (fun c3 => ?_) (fun c3 => ?_)
      · skip
        refine ev_iload_n (pc' := 24) dX10_firstBeyond_23 rfl rfl ?_
        refine ev_goto (pc' := 28) dX10_firstBeyond_24 (by decide) ?_
        exact ev_wk (qLe_eq (qLe_eq (qLe_eq (qLe_eq (qLe_eq qLe_nil))))) (k4 _ (qet c3 rfl))
      · skip
        refine ev_iconst (pc' := 28) dX10_firstBeyond_27 rfl ?_
        exact ev_wk (qLe_eq (qLe_eq (qLe_eq (qLe_eq (qLe_eq qLe_nil))))) (k4 _ (qef c3 rfl))
    · replace h := qif' c1 h
      cases h
      cases h1
      exact ev_wk (qLe_sk (qLe_sk (qLe_sk (qLe_sk (qLe_sk qLe_nil))))) (kE _ rfl)
set_option maxRecDepth 100000 in
theorem eX10_firstBeyond {Ls t d n : Nat} {p0 : Int} {p1 : Int} {p2 : Int} {μ : qMu} {r : Int} (h : fX10_firstBeyond n p0 p1 p2 μ = some r) : Ev (d + 3) mX10_firstBeyond 0 [some (.ref 78), some (iv p0), some (iv p1), some (iv p2), none] [] (cS Ls t μ) (.inl (some (iv r))) (cS Ls t μ) := by
  unfold fX10_firstBeyond at h
  refine ev_iconst (pc' := 1) dX10_firstBeyond_0 rfl ?_
  refine ev_istore (pc' := 3) (L1 := [some (.ref 78), some (iv p0), some (iv p1), some (iv p2), some (iv 0)]) dX10_firstBeyond_1 rfl rfl ?_
  replace h := qbd h; obtain ⟨y7, hy7, h⟩ := h
  refine ev_wk (qLe_eq (qLe_eq (qLe_eq (qLe_eq (qLe_eq qLe_nil))))) (?_ : Ev _ _ _ [some (.ref 78), some (iv p0), some (iv p1), some (iv p2), some (iv 0)] _ _ _ _)
  refine ebX10_firstBeyond_3 _ _ _ hy7 _ _ ?_ ?_
  · intro b8 eb8
    subst eb8
    replace h := qel h
    refine ev_iconst (pc' := 41) dX10_firstBeyond_40 rfl ?_
    cases h
    exact ev_ireturn dX10_firstBeyond_41 rfl rfl
  · intro r9 er9
    subst er9
    replace h := qer h
    cases h
    exact ⟨rfl, rfl⟩
set_option maxRecDepth 100000 in
theorem ebX10_goesPath_7 {Ls t d n : Nat} : ∀ (k : Nat) (x : Int × Int × qMu) (y : Int × qMu), lp (fun x : Int × Int × qMu => bX10_goesPath_7 n x.1 x.2.1 x.2.2) k x = some y → ∀ (o : qO) (s' : qSt), Ev (d + 4) mX10_goesPath 91 [none, some (iv y.1), none, none, none, none, none] [] (cS Ls t y.2) o s' → Ev (d + 4) mX10_goesPath 7 [some (.ref 78), some (iv x.1), some (iv x.2.1), none, none, none, none] [] (cS Ls t x.2.2) o s' := by
  intro k
  induction k with
  | zero => intro x y h; cases h
  | succ k ih =>
    intro x y h o s' kE
    rw [lp_s] at h
    replace h := qbd h; obtain ⟨zz, h0, h1⟩ := h
    have h : bX10_goesPath_7 n x.1 x.2.1 x.2.2 = some zz := h0
    clear h0
    unfold bX10_goesPath_7 at h
    refine ev_iload_n (pc' := 8) dX10_goesPath_7 rfl rfl ?_
    refine ev_iconst (pc' := 9) dX10_goesPath_8 rfl ?_
    refine ev_icmpeq (pc' := 12) (tgt := 91) dX10_goesPath_9 (by decide) rfl (x1 := wr x.2.1) (y1 := (-1)) rfl wl_m1  (fun c2 => ?_) (fun c2 => ?_)
    · replace h := qit c2 h
      cases h
      cases h1
      exact ev_wk (qLe_sk (qLe_eq (qLe_sk (qLe_eq (qLe_eq (qLe_eq (qLe_eq qLe_nil))))))) kE
    · replace h := qif' c2 h
      refine ev_iload_n (pc' := 13) dX10_goesPath_12 rfl rfl ?_
      refine ev_bipush (pc' := 15) dX10_goesPath_13 rfl bl_8 ?_
      refine ev_idiv (pc' := 16) dX10_goesPath_15 rfl zl_8 ?_
      refine ev_istore_n (pc' := 17) (L1 := [some (.ref 78), some (iv x.1), some (iv x.2.1), some (iv (idv x.2.1 8)), none, none, none]) dX10_goesPath_16 rfl rfl ?_
      refine ev_iload_n (pc' := 18) dX10_goesPath_17 rfl rfl ?_
      refine ev_bipush (pc' := 20) dX10_goesPath_18 rfl bl_8 ?_
      refine ev_irem (pc' := 21) dX10_goesPath_20 rfl zl_8 ?_
      refine ev_istore (pc' := 23) (L1 := [some (.ref 78), some (iv x.1), some (iv x.2.1), some (iv (idv x.2.1 8)), some (iv (irm x.2.1 8)), none, none]) dX10_goesPath_21 rfl rfl ?_
      refine ev_aload_n (pc' := 24) dX10_goesPath_23 rfl rfl ?_
      refine ev_iload_n (pc' := 25) dX10_goesPath_24 rfl rfl ?_
      refine ev_iconst (pc' := 26) dX10_goesPath_25 rfl ?_
      refine ev_iconst (pc' := 27) dX10_goesPath_26 rfl ?_
      replace h := qbd h; obtain ⟨y3, hy3, h⟩ := h
      refine ev_callg (pc' := 30) (st2 := [iv y3]) dX10_goesPath_27 (qs_V tc_10_322 rfl rfl (cS_cls sh78) rfl) rfl rfl (eX10_firstBeyond (d := d + 0) hy3) rfl rfl ?_
      refine ev_istore (pc' := 32) (L1 := [some (.ref 78), some (iv x.1), some (iv x.2.1), some (iv (idv x.2.1 8)), some (iv (irm x.2.1 8)), some (iv y3), none]) dX10_goesPath_30 rfl rfl ?_
      refine ev_aload_n (pc' := 33) dX10_goesPath_32 rfl rfl ?_
      refine ev_iload (pc' := 35) dX10_goesPath_33 rfl rfl ?_
      refine ev_iload_n (pc' := 36) dX10_goesPath_35 rfl rfl ?_
      refine ev_iload (pc' := 38) dX10_goesPath_36 rfl rfl ?_
      have k5 : ∀ j6 : Int, j6 = (if wr (idv x.2.1 8) = wr (irm x.2.1 8) then y3 else (-1)) → Ev (d + 4) mX10_goesPath 47 [some (.ref 78), some (iv x.1), none, some (iv (idv x.2.1 8)), some (iv (irm x.2.1 8)), some (iv y3), none] [iv j6, iv (irm x.2.1 8), .ref 78] (cS Ls t x.2.2) o s' := by
        intro j6 ej6
        subst ej6
        refine ev_iconst (pc' := 48) dX10_goesPath_47 rfl ?_
        replace h := qbd h; obtain ⟨y7, hy7, h⟩ := h
        refine ev_callg (pc' := 51) (st2 := [iv y7]) dX10_goesPath_48 (qs_V tc_10_322 rfl rfl (cS_cls sh78) rfl) rfl rfl (eX10_firstBeyond (d := d + 0) hy7) rfl rfl ?_
        refine ev_istore (pc' := 53) (L1 := [some (.ref 78), some (iv x.1), none, some (iv (idv x.2.1 8)), some (iv (irm x.2.1 8)), some (iv y3), some (iv y7)]) dX10_goesPath_51 rfl rfl ?_
        refine ev_aload_n (pc' := 54) dX10_goesPath_53 rfl rfl ?_
        refine ev_getr (pc' := 57) dX10_goesPath_54 rfl tf_10_48 sh78 rfl ?_
        refine ev_iload_n (pc' := 58) dX10_goesPath_57 rfl rfl ?_
        refine ev_iload_n (pc' := 59) dX10_goesPath_58 rfl rfl ?_
        refine ev_iload (pc' := 61) dX10_goesPath_59 rfl rfl ?_
        refine ev_iload (pc' := 63) dX10_goesPath_61 rfl rfl ?_
        refine ev_iload (pc' := 65) dX10_goesPath_63 rfl rfl ?_
        replace h := qbd h; obtain ⟨y8, hy8, h⟩ := h
        refine ev_callg (pc' := 68) (st2 := [iv y8, iv x.1, .ref 90]) dX10_goesPath_65 (qs_S tc_10_287 (by decide) rfl rfl) rfl rfl (eX10_codeOf (d := d + 3) hy8) rfl rfl ?_
        replace h := qbd h; obtain ⟨μ9, hμ9, h⟩ := h
        refine ev_iast (pc' := 69) dX10_goesPath_68 rfl sh90 hμ9 ?_
        refine ev_aload_n (pc' := 70) dX10_goesPath_69 rfl rfl ?_
        refine ev_iload_n (pc' := 71) dX10_goesPath_70 rfl rfl ?_
        refine ev_iload (pc' := 73) dX10_goesPath_71 rfl rfl ?_
        refine ev_iload (pc' := 75) dX10_goesPath_73 rfl rfl ?_
        refine ev_iload (pc' := 77) dX10_goesPath_75 rfl rfl ?_
        replace h := qbd h; obtain ⟨y10, hy10, h⟩ := h
        refine ev_callg (pc' := 80) (st2 := []) dX10_goesPath_77 (qs_V tc_10_281 rfl rfl (cS_cls sh78) rfl) rfl rfl (eX10_switches (d := d + 1) hy10) rfl rfl ?_
        refine ev_iinc (pc' := 83) (x := x.1) (L1 := [some (.ref 78), some (iv (x.1 + 1)), none, some (iv (idv x.2.1 8)), some (iv (irm x.2.1 8)), some (iv y3), some (iv y7)]) dX10_goesPath_80 rfl rfl rfl ?_
        refine ev_aload_n (pc' := 84) dX10_goesPath_83 rfl rfl ?_
        replace h := qbd h; obtain ⟨y11, hy11, h⟩ := h
        refine ev_callg (pc' := 87) (st2 := [iv y11]) dX10_goesPath_84 (qs_V tc_10_319 rfl rfl (cS_cls sh78) rfl) rfl rfl (eX10_firstLacking (d := d + 0) hy11) rfl rfl ?_
        refine ev_istore_n (pc' := 88) (L1 := [some (.ref 78), some (iv (x.1 + 1)), some (iv y11), some (iv (idv x.2.1 8)), some (iv (irm x.2.1 8)), some (iv y3), some (iv y7)]) dX10_goesPath_87 rfl rfl ?_
        refine ev_goto (pc' := 7) dX10_goesPath_88 (by decide) ?_
        cases h
        exact ev_wk (qLe_eq (qLe_eq (qLe_eq (qLe_sk (qLe_sk (qLe_sk (qLe_sk qLe_nil))))))) (ih _ _ h1 _ _ kE)
      refine ev_icmpne (pc' := 41) (tgt := 46) dX10_goesPath_38 (by decide) rfl (x1 := wr (idv x.2.1 8)) (y1 := wr (irm x.2.1 8)) rfl rfl  (fun c4 => ?_) (fun c4 => ?_)
      · skip
        refine ev_iload (pc' := 43) dX10_goesPath_41 rfl rfl ?_
        refine ev_goto (pc' := 47) dX10_goesPath_43 (by decide) ?_
        exact ev_wk (qLe_eq (qLe_eq (qLe_sk (qLe_eq (qLe_eq (qLe_eq (qLe_eq qLe_nil))))))) (k5 _ (qet c4 rfl))
      · skip
        refine ev_iconst (pc' := 47) dX10_goesPath_46 rfl ?_
        exact ev_wk (qLe_eq (qLe_eq (qLe_sk (qLe_eq (qLe_eq (qLe_eq (qLe_eq qLe_nil))))))) (k5 _ (qef c4 rfl))
set_option maxRecDepth 100000 in
theorem eX10_goesPath {Ls t d n : Nat} {μ : qMu} {r : Int × qMu} (h : fX10_goesPath n μ = some r) : Ev (d + 4) mX10_goesPath 0 [some (.ref 78), none, none, none, none, none, none] [] (cS Ls t μ) (.inl (some (iv r.1))) (cS Ls t r.2) := by
  unfold fX10_goesPath at h
  refine ev_iconst (pc' := 1) dX10_goesPath_0 rfl ?_
  refine ev_istore_n (pc' := 2) (L1 := [some (.ref 78), some (iv 0), none, none, none, none, none]) dX10_goesPath_1 rfl rfl ?_
  refine ev_aload_n (pc' := 3) dX10_goesPath_2 rfl rfl ?_
  replace h := qbd h; obtain ⟨y1, hy1, h⟩ := h
  refine ev_callg (pc' := 6) (st2 := [iv y1]) dX10_goesPath_3 (qs_V tc_10_319 rfl rfl (cS_cls sh78) rfl) rfl rfl (eX10_firstLacking (d := d + 0) hy1) rfl rfl ?_
  refine ev_istore_n (pc' := 7) (L1 := [some (.ref 78), some (iv 0), some (iv y1), none, none, none, none]) dX10_goesPath_6 rfl rfl ?_
  replace h := qbd h; obtain ⟨y12, hy12, h⟩ := h
  refine ev_wk (qLe_eq (qLe_eq (qLe_eq (qLe_eq (qLe_eq (qLe_eq (qLe_eq qLe_nil))))))) (?_ : Ev _ _ _ [some (.ref 78), some (iv 0), some (iv y1), none, none, none, none] _ _ _ _)
  refine ebX10_goesPath_7 _ _ _ hy12 _ _ ?_
  refine ev_iload_n (pc' := 92) dX10_goesPath_91 rfl rfl ?_
  cases h
  exact ev_ireturn dX10_goesPath_92 rfl rfl
set_option maxRecDepth 100000 in
theorem eX10_laysPath {Ls t d n : Nat} {μ : qMu} {r : Int × qMu} (h : fX10_laysPath n μ = some r) : Ev (d + 5) mX10_laysPath 0 [some (.ref 78), none] [] (cS Ls t μ) (.inl (some (iv r.1))) (cS Ls t r.2) := by
  unfold fX10_laysPath at h
  refine ev_aload_n (pc' := 1) dX10_laysPath_0 rfl rfl ?_
  replace h := qbd h; obtain ⟨y1, hy1, h⟩ := h
  refine ev_callg (pc' := 4) (st2 := []) dX10_laysPath_1 (qs_V tc_10_191 rfl rfl (cS_cls sh78) rfl) rfl rfl (eX10_putAside (d := d + 4) hy1) rfl rfl ?_
  refine ev_aload_n (pc' := 5) dX10_laysPath_4 rfl rfl ?_
  replace h := qbd h; obtain ⟨y2, hy2, h⟩ := h
  refine ev_callg (pc' := 8) (st2 := [iv y2.1]) dX10_laysPath_5 (qs_V tc_10_325 rfl rfl (cS_cls sh78) rfl) rfl rfl (eX10_goesPath (d := d + 0) hy2) rfl rfl ?_
  refine ev_istore_n (pc' := 9) (L1 := [some (.ref 78), some (iv y2.1)]) dX10_laysPath_8 rfl rfl ?_
  refine ev_aload_n (pc' := 10) dX10_laysPath_9 rfl rfl ?_
  replace h := qbd h; obtain ⟨y3, hy3, h⟩ := h
  refine ev_callg (pc' := 13) (st2 := []) dX10_laysPath_10 (qs_V tc_10_200 rfl rfl (cS_cls sh78) rfl) rfl rfl (eX10_layBack (d := d + 4) hy3) rfl rfl ?_
  refine ev_iload_n (pc' := 14) dX10_laysPath_13 rfl rfl ?_
  cases h
  exact ev_ireturn dX10_laysPath_14 rfl rfl
set_option maxRecDepth 100000 in
theorem eX10_pathLength {Ls t d n : Nat} {μ : qMu} {r : Int × qMu} (h : fX10_pathLength n μ = some r) : Ev (d + 6) mX10_pathLength 0 [some (.ref 78)] [] (cS Ls t μ) (.inl (some (iv r.1))) (cS Ls t r.2) := by
  unfold fX10_pathLength at h
  refine ev_aload_n (pc' := 1) dX10_pathLength_0 rfl rfl ?_
  refine ev_aload_n (pc' := 2) dX10_pathLength_1 rfl rfl ?_
  replace h := qbd h; obtain ⟨y1, hy1, h⟩ := h
  refine ev_callg (pc' := 5) (st2 := [iv y1, .ref 78]) dX10_pathLength_2 (qs_V tc_10_313 rfl rfl (cS_cls sh78) rfl) rfl rfl (eX10_areAlike (d := d + 2) hy1) rfl rfl ?_
  replace h := qbd h; obtain ⟨y2, hy2, h⟩ := h
  refine ev_callg (pc' := 8) (st2 := [iv y2.1]) dX10_pathLength_5 (qs_V tc_10_188 rfl rfl (cS_cls sh78) rfl) rfl rfl (eX10_good (d := d + 5) hy2) rfl rfl ?_
  refine ev_ifeq (pc' := 11) (tgt := 18) dX10_pathLength_8 (by decide) rfl (x1 := wr y2.1) rfl (fun c3 => ?_) (fun c3 => ?_)
  · replace h := qit c3 h
    refine ev_iconst (pc' := 19) dX10_pathLength_18 rfl ?_
    cases h
    exact ev_ireturn dX10_pathLength_19 rfl rfl
  · replace h := qif' c3 h
    refine ev_aload_n (pc' := 12) dX10_pathLength_11 rfl rfl ?_
    replace h := qbd h; obtain ⟨y4, hy4, h⟩ := h
    refine ev_callg (pc' := 15) (st2 := [iv y4.1]) dX10_pathLength_12 (qs_V tc_10_328 rfl rfl (cS_cls sh78) rfl) rfl rfl (eX10_laysPath (d := d + 0) hy4) rfl rfl ?_
    refine ev_goto (pc' := 19) dX10_pathLength_15 (by decide) ?_
    cases h
    exact ev_ireturn dX10_pathLength_19 rfl rfl
set_option maxRecDepth 100000 in
theorem eX10_path {Ls t d n : Nat} {p0 : Int} {p1 : Int} {μ : qMu} {r : Int × qMu} (h : fX10_path n p0 p1 μ = some r) : Ev (d + 6) mX10_path 0 [some (.ref 78), some (iv p0), some (iv p1), none, none] [] (cS Ls t μ) (.inl (some (iv r.1))) (cS Ls t r.2) := by
  unfold fX10_path at h
  refine ev_aload_n (pc' := 1) dX10_path_0 rfl rfl ?_
  replace h := qbd h; obtain ⟨y1, hy1, h⟩ := h
  refine ev_callg (pc' := 4) (st2 := [iv y1]) dX10_path_1 (qs_V tc_10_313 rfl rfl (cS_cls sh78) rfl) rfl rfl (eX10_areAlike (d := d + 2) hy1) rfl rfl ?_
  refine ev_istore_n (pc' := 5) (L1 := [some (.ref 78), some (iv p0), some (iv p1), some (iv y1), none]) dX10_path_4 rfl rfl ?_
  refine ev_iload_n (pc' := 6) dX10_path_5 rfl rfl ?_
  replace h := qbd h; obtain ⟨y3, hy3, h⟩ := h
  have kJ : Ev (d + 6) mX10_path 17 [some (.ref 78), some (iv p0), some (iv p1), some (iv y1), none] [iv y3.1] (cS Ls t y3.2) (.inl (some (iv r.1))) (cS Ls t r.2) := by
    refine ev_istore (pc' := 19) (L1 := [some (.ref 78), some (iv p0), some (iv p1), some (iv y1), some (iv y3.1)]) dX10_path_17 rfl rfl ?_
    refine ev_aload_n (pc' := 20) dX10_path_19 rfl rfl ?_
    refine ev_iload_n (pc' := 21) dX10_path_20 rfl rfl ?_
    refine ev_iload_n (pc' := 22) dX10_path_21 rfl rfl ?_
    refine ev_iconst (pc' := 23) dX10_path_22 rfl ?_
    refine ev_iload (pc' := 25) dX10_path_23 rfl rfl ?_
    refine ev_iconst (pc' := 26) dX10_path_25 rfl ?_
    refine ev_isub (pc' := 27) dX10_path_26 rfl ?_
    replace h := qbd h; obtain ⟨y5, hy5, h⟩ := h
    refine ev_callg (pc' := 30) (st2 := [iv y5, iv y1, .ref 78]) dX10_path_27 (qs_S tc_10_128 (by decide) rfl rfl) rfl rfl (eX10_isIn (d := d + 5) hy5) rfl rfl ?_
    refine ev_iload_n (pc' := 31) dX10_path_30 rfl rfl ?_
    refine ev_iconst (pc' := 32) dX10_path_31 rfl ?_
    refine ev_iconst (pc' := 33) dX10_path_32 rfl ?_
    replace h := qbd h; obtain ⟨y6, hy6, h⟩ := h
    refine ev_callg (pc' := 36) (st2 := [iv y6, iv y5, iv y1, .ref 78]) dX10_path_33 (qs_S tc_10_128 (by decide) rfl rfl) rfl rfl (eX10_isIn (d := d + 5) hy6) rfl rfl ?_
    replace h := qbd h; obtain ⟨y7, hy7, h⟩ := h
    refine ev_callg (pc' := 39) (st2 := [iv y7.1]) dX10_path_36 (qs_V tc_10_57 rfl rfl (cS_cls sh78) rfl) rfl rfl (eX10_good__ (d := d + 5) hy7) rfl rfl ?_
    refine ev_ifeq (pc' := 42) (tgt := 55) dX10_path_39 (by decide) rfl (x1 := wr y7.1) rfl (fun c8 => ?_) (fun c8 => ?_)
    · replace h := qit c8 h
      refine ev_iconst (pc' := 56) dX10_path_55 rfl ?_
      cases h
      exact ev_ireturn dX10_path_56 rfl rfl
    · replace h := qif' c8 h
      refine ev_aload_n (pc' := 43) dX10_path_42 rfl rfl ?_
      refine ev_getr (pc' := 46) dX10_path_43 rfl tf_10_48 sh78 rfl ?_
      refine ev_iload_n (pc' := 47) dX10_path_46 rfl rfl ?_
      replace h := qbd h; obtain ⟨x9, hx9, h⟩ := h
      refine ev_iald (pc' := 48) dX10_path_47 rfl sh90 hx9 ?_
      refine ev_iload_n (pc' := 49) dX10_path_48 rfl rfl ?_
      replace h := qbd h; obtain ⟨y10, hy10, h⟩ := h
      refine ev_callg (pc' := 52) (st2 := [iv y10]) dX10_path_49 (qs_S tc_10_278 (by decide) rfl rfl) rfl rfl (eX10_partOf (d := d + 5) hy10) rfl rfl ?_
      refine ev_goto (pc' := 56) dX10_path_52 (by decide) ?_
      cases h
      exact ev_ireturn dX10_path_56 rfl rfl
  replace h := hy3
  clear hy3
  refine ev_ifeq (pc' := 9) (tgt := 16) dX10_path_6 (by decide) rfl (x1 := wr y1) rfl (fun c2 => ?_) (fun c2 => ?_)
  · replace h := qit c2 h
    refine ev_iconst (pc' := 17) dX10_path_16 rfl ?_
    cases h
    exact ev_wk (qLe_eq (qLe_eq (qLe_eq (qLe_eq (qLe_eq qLe_nil))))) kJ
  · replace h := qif' c2 h
    refine ev_aload_n (pc' := 10) dX10_path_9 rfl rfl ?_
    replace h := qbd h; obtain ⟨y4, hy4, h⟩ := h
    refine ev_callg (pc' := 13) (st2 := [iv y4.1]) dX10_path_10 (qs_V tc_10_328 rfl rfl (cS_cls sh78) rfl) rfl rfl (eX10_laysPath (d := d + 0) hy4) rfl rfl ?_
    refine ev_goto (pc' := 17) dX10_path_13 (by decide) ?_
    cases h
    exact ev_wk (qLe_eq (qLe_eq (qLe_eq (qLe_eq (qLe_eq qLe_nil))))) kJ
set_option maxRecDepth 100000 in
theorem ebX10_isOneAway_12 {Ls t d n : Nat} : ∀ (k : Nat) (x : Int × qMu) (y : (qMu) ⊕ (Int × qMu)), lp (fun x : Int × qMu => bX10_isOneAway_12 n x.1 x.2) k x = some y → ∀ (o : qO) (s' : qSt), (∀ b : qMu, y = .inl b → Ev (d + 4) mX10_isOneAway 121 [none, none, none, none, none, none, none] [] (cS Ls t b) o s') → (∀ r : Int × qMu, y = .inr r → o = (.inl (some (iv r.1))) ∧ s' = (cS Ls t r.2)) → Ev (d + 4) mX10_isOneAway 12 [some (.ref 78), some (iv x.1), none, none, none, none, none] [] (cS Ls t x.2) o s' := by
  intro k
  induction k with
  | zero => intro x y h; cases h
  | succ k ih =>
    intro x y h o s' kE kR
    rw [lp_s] at h
    replace h := qbd h; obtain ⟨zz, h0, h1⟩ := h
    have h : bX10_isOneAway_12 n x.1 x.2 = some zz := h0
    clear h0
    unfold bX10_isOneAway_12 at h
    refine ev_iload_n (pc' := 13) dX10_isOneAway_12 rfl rfl ?_
    refine ev_sipush (pc' := 16) dX10_isOneAway_13 rfl sl_4096 ?_
    refine ev_icmpge (pc' := 19) (tgt := 121) dX10_isOneAway_16 (by decide) rfl (x1 := wr x.1) (y1 := 4096) rfl wl_4096  (fun c3 => ?_) (fun c3 => ?_)
    · replace h := qit c3 h
      refine ev_iload_n (pc' := 20) dX10_isOneAway_19 rfl rfl ?_
      refine ev_iconst (pc' := 21) dX10_isOneAway_20 rfl ?_
      replace h := qbd h; obtain ⟨y4, hy4, h⟩ := h
      refine ev_callg (pc' := 24) (st2 := [iv y4]) dX10_isOneAway_21 (qs_S tc_10_278 (by decide) rfl rfl) rfl rfl (eX10_partOf (d := d + 3) hy4) rfl rfl ?_
      refine ev_istore_n (pc' := 25) (L1 := [some (.ref 78), some (iv x.1), some (iv y4), none, none, none, none]) dX10_isOneAway_24 rfl rfl ?_
      refine ev_iload_n (pc' := 26) dX10_isOneAway_25 rfl rfl ?_
      refine ev_iconst (pc' := 27) dX10_isOneAway_26 rfl ?_
      replace h := qbd h; obtain ⟨y5, hy5, h⟩ := h
      refine ev_callg (pc' := 30) (st2 := [iv y5]) dX10_isOneAway_27 (qs_S tc_10_278 (by decide) rfl rfl) rfl rfl (eX10_partOf (d := d + 3) hy5) rfl rfl ?_
      refine ev_istore_n (pc' := 31) (L1 := [some (.ref 78), some (iv x.1), some (iv y4), some (iv y5), none, none, none]) dX10_isOneAway_30 rfl rfl ?_
      refine ev_iload_n (pc' := 32) dX10_isOneAway_31 rfl rfl ?_
      refine ev_iconst (pc' := 33) dX10_isOneAway_32 rfl ?_
      replace h := qbd h; obtain ⟨y6, hy6, h⟩ := h
      refine ev_callg (pc' := 36) (st2 := [iv y6]) dX10_isOneAway_33 (qs_S tc_10_278 (by decide) rfl rfl) rfl rfl (eX10_partOf (d := d + 3) hy6) rfl rfl ?_
      refine ev_istore (pc' := 38) (L1 := [some (.ref 78), some (iv x.1), some (iv y4), some (iv y5), some (iv y6), none, none]) dX10_isOneAway_36 rfl rfl ?_
      refine ev_iload_n (pc' := 39) dX10_isOneAway_38 rfl rfl ?_
      refine ev_iconst (pc' := 40) dX10_isOneAway_39 rfl ?_
      replace h := qbd h; obtain ⟨y7, hy7, h⟩ := h
      refine ev_callg (pc' := 43) (st2 := [iv y7]) dX10_isOneAway_40 (qs_S tc_10_278 (by decide) rfl rfl) rfl rfl (eX10_partOf (d := d + 3) hy7) rfl rfl ?_
      refine ev_istore (pc' := 45) (L1 := [some (.ref 78), some (iv x.1), some (iv y4), some (iv y5), some (iv y6), some (iv y7), none]) dX10_isOneAway_43 rfl rfl ?_
      refine ev_iload_n (pc' := 46) dX10_isOneAway_45 rfl rfl ?_
      refine ev_iload_n (pc' := 47) dX10_isOneAway_46 rfl rfl ?_
      refine ev_iload (pc' := 49) dX10_isOneAway_47 rfl rfl ?_
      refine ev_iload (pc' := 51) dX10_isOneAway_49 rfl rfl ?_
      replace h := qbd h; obtain ⟨y8, hy8, h⟩ := h
      refine ev_callg (pc' := 54) (st2 := [iv y8]) dX10_isOneAway_51 (qs_S tc_10_291 (by decide) rfl rfl) rfl rfl (eX10_isFirstOf (d := d + 2) hy8) rfl rfl ?_
      refine ev_ifeq (pc' := 57) (tgt := 115) dX10_isOneAway_54 (by decide) rfl (x1 := wr y8) rfl (fun c9 => ?_) (fun c9 => ?_)
      · replace h := qit c9 h
        refine ev_iinc (pc' := 118) (x := x.1) (L1 := [some (.ref 78), some (iv (x.1 + 1)), some (iv y4), some (iv y5), some (iv y6), some (iv y7), none]) dX10_isOneAway_115 rfl rfl rfl ?_
        refine ev_goto (pc' := 12) dX10_isOneAway_118 (by decide) ?_
        cases h
        exact ev_wk (qLe_eq (qLe_eq (qLe_sk (qLe_sk (qLe_sk (qLe_sk (qLe_eq qLe_nil))))))) (ih _ _ h1 _ _ kE kR)
      · replace h := qif' c9 h
        refine ev_aload_n (pc' := 58) dX10_isOneAway_57 rfl rfl ?_
        refine ev_iconst (pc' := 59) dX10_isOneAway_58 rfl ?_
        refine ev_iload_n (pc' := 60) dX10_isOneAway_59 rfl rfl ?_
        refine ev_iload_n (pc' := 61) dX10_isOneAway_60 rfl rfl ?_
        refine ev_iload (pc' := 63) dX10_isOneAway_61 rfl rfl ?_
        refine ev_iload (pc' := 65) dX10_isOneAway_63 rfl rfl ?_
        replace h := qbd h; obtain ⟨y10, hy10, h⟩ := h
        refine ev_callg (pc' := 68) (st2 := [iv y10.1]) dX10_isOneAway_65 (qs_V tc_10_294 rfl rfl (cS_cls sh78) rfl) rfl rfl (eX10_reasonBy (d := d + 0) hy10) rfl rfl ?_
        refine ev_ifeq (pc' := 71) (tgt := 74) dX10_isOneAway_68 (by decide) rfl (x1 := wr y10.1) rfl (fun c11 => ?_) (fun c11 => ?_)
        · replace h := qit c11 h
          refine ev_aload_n (pc' := 75) dX10_isOneAway_74 rfl rfl ?_
          refine ev_iload_n (pc' := 76) dX10_isOneAway_75 rfl rfl ?_
          refine ev_iload_n (pc' := 77) dX10_isOneAway_76 rfl rfl ?_
          refine ev_iload (pc' := 79) dX10_isOneAway_77 rfl rfl ?_
          refine ev_iload (pc' := 81) dX10_isOneAway_79 rfl rfl ?_
          replace h := qbd h; obtain ⟨y12, hy12, h⟩ := h
          refine ev_callg (pc' := 84) (st2 := []) dX10_isOneAway_81 (qs_V tc_10_281 rfl rfl (cS_cls sh78) rfl) rfl rfl (eX10_switches (d := d + 1) hy12) rfl rfl ?_
          refine ev_aload_n (pc' := 85) dX10_isOneAway_84 rfl rfl ?_
          replace h := qbd h; obtain ⟨y13, hy13, h⟩ := h
          refine ev_callg (pc' := 88) (st2 := [iv y13]) dX10_isOneAway_85 (qs_V tc_10_307 rfl rfl (cS_cls sh78) rfl) rfl rfl (eX10_differenceNow (d := d + 1) hy13) rfl rfl ?_
          have k15 : ∀ j16 : Int, j16 = (if wr y13 = 0 then 1 else 0) → Ev (d + 4) mX10_isOneAway 96 [some (.ref 78), some (iv x.1), some (iv y4), some (iv y5), some (iv y6), some (iv y7), none] [iv j16] (cS Ls t y12) o s' := by
            intro j16 ej16
            subst ej16
            refine ev_istore (pc' := 98) (L1 := [some (.ref 78), some (iv x.1), some (iv y4), some (iv y5), some (iv y6), some (iv y7), some (iv (if wr y13 = 0 then 1 else 0))]) dX10_isOneAway_96 rfl rfl ?_
            refine ev_aload_n (pc' := 99) dX10_isOneAway_98 rfl rfl ?_
            refine ev_iload_n (pc' := 100) dX10_isOneAway_99 rfl rfl ?_
            refine ev_iload_n (pc' := 101) dX10_isOneAway_100 rfl rfl ?_
            refine ev_iload (pc' := 103) dX10_isOneAway_101 rfl rfl ?_
            refine ev_iload (pc' := 105) dX10_isOneAway_103 rfl rfl ?_
            replace h := qbd h; obtain ⟨y17, hy17, h⟩ := h
            refine ev_callg (pc' := 108) (st2 := []) dX10_isOneAway_105 (qs_V tc_10_284 rfl rfl (cS_cls sh78) rfl) rfl rfl (eX10_takesBack (d := d + 1) hy17) rfl rfl ?_
            refine ev_iload (pc' := 110) dX10_isOneAway_108 rfl rfl ?_
            refine ev_ifeq (pc' := 113) (tgt := 115) dX10_isOneAway_110 (by decide) rfl (x1 := wr (if wr y13 = 0 then 1 else 0)) rfl (fun c18 => ?_) (fun c18 => ?_)
            · replace h := qit c18 h
              refine ev_iinc (pc' := 118) (x := x.1) (L1 := [some (.ref 78), some (iv (x.1 + 1)), some (iv y4), some (iv y5), some (iv y6), some (iv y7), some (iv (if wr y13 = 0 then 1 else 0))]) dX10_isOneAway_115 rfl rfl rfl ?_
              refine ev_goto (pc' := 12) dX10_isOneAway_118 (by decide) ?_
              cases h
              exact ev_wk (qLe_eq (qLe_eq (qLe_sk (qLe_sk (qLe_sk (qLe_sk (qLe_sk qLe_nil))))))) (ih _ _ h1 _ _ kE kR)
            · replace h := qif' c18 h
              refine ev_iconst (pc' := 114) dX10_isOneAway_113 rfl ?_
              cases h
              cases h1
              obtain ⟨rfl, rfl⟩ := kR _ rfl
              exact ev_ireturn dX10_isOneAway_114 rfl rfl
          refine ev_ifne (pc' := 91) (tgt := 95) dX10_isOneAway_88 (by decide) rfl (x1 := wr y13) rfl (fun c14 => ?_) (fun c14 => ?_)
          · skip
            refine ev_iconst (pc' := 92) dX10_isOneAway_91 rfl ?_
            refine ev_goto (pc' := 96) dX10_isOneAway_92 (by decide) ?_
            exact ev_wk (qLe_eq (qLe_eq (qLe_eq (qLe_eq (qLe_eq (qLe_eq (qLe_eq qLe_nil))))))) (k15 _ (qet c14 rfl))
          · skip
            refine ev_iconst (pc' := 96) dX10_isOneAway_95 rfl ?_
            exact ev_wk (qLe_eq (qLe_eq (qLe_eq (qLe_eq (qLe_eq (qLe_eq (qLe_eq qLe_nil))))))) (k15 _ (qef c14 rfl))
        · replace h := qif' c11 h
          refine ev_goto (pc' := 115) dX10_isOneAway_71 (by decide) ?_
          refine ev_iinc (pc' := 118) (x := x.1) (L1 := [some (.ref 78), some (iv (x.1 + 1)), some (iv y4), some (iv y5), some (iv y6), some (iv y7), none]) dX10_isOneAway_115 rfl rfl rfl ?_
          refine ev_goto (pc' := 12) dX10_isOneAway_118 (by decide) ?_
          cases h
          exact ev_wk (qLe_eq (qLe_eq (qLe_sk (qLe_sk (qLe_sk (qLe_sk (qLe_eq qLe_nil))))))) (ih _ _ h1 _ _ kE kR)
    · replace h := qif' c3 h
      cases h
      cases h1
      exact ev_wk (qLe_sk (qLe_sk (qLe_eq (qLe_eq (qLe_eq (qLe_eq (qLe_eq qLe_nil))))))) (kE _ rfl)
set_option maxRecDepth 100000 in
theorem eX10_isOneAway {Ls t d n : Nat} {μ : qMu} {r : Int × qMu} (h : fX10_isOneAway n μ = some r) : Ev (d + 4) mX10_isOneAway 0 [some (.ref 78), none, none, none, none, none, none] [] (cS Ls t μ) (.inl (some (iv r.1))) (cS Ls t r.2) := by
  unfold fX10_isOneAway at h
  refine ev_aload_n (pc' := 1) dX10_isOneAway_0 rfl rfl ?_
  replace h := qbd h; obtain ⟨y1, hy1, h⟩ := h
  refine ev_callg (pc' := 4) (st2 := [iv y1]) dX10_isOneAway_1 (qs_V tc_10_307 rfl rfl (cS_cls sh78) rfl) rfl rfl (eX10_differenceNow (d := d + 1) hy1) rfl rfl ?_
  refine ev_iconst (pc' := 5) dX10_isOneAway_4 rfl ?_
  refine ev_icmple (pc' := 8) (tgt := 10) dX10_isOneAway_5 (by decide) rfl (x1 := wr y1) (y1 := 2) rfl wl_2  (fun c2 => ?_) (fun c2 => ?_)
  · replace h := qit c2 h
    refine ev_iconst (pc' := 9) dX10_isOneAway_8 rfl ?_
    cases h
    exact ev_ireturn dX10_isOneAway_9 rfl rfl
  · replace h := qif' c2 h
    refine ev_iconst (pc' := 11) dX10_isOneAway_10 rfl ?_
    refine ev_istore_n (pc' := 12) (L1 := [some (.ref 78), some (iv 0), none, none, none, none, none]) dX10_isOneAway_11 rfl rfl ?_
    replace h := qbd h; obtain ⟨y19, hy19, h⟩ := h
    refine ev_wk (qLe_eq (qLe_eq (qLe_eq (qLe_eq (qLe_eq (qLe_eq (qLe_eq qLe_nil))))))) (?_ : Ev _ _ _ [some (.ref 78), some (iv 0), none, none, none, none, none] _ _ _ _)
    refine ebX10_isOneAway_12 _ _ _ hy19 _ _ ?_ ?_
    · intro b20 eb20
      subst eb20
      replace h := qel h
      refine ev_iconst (pc' := 122) dX10_isOneAway_121 rfl ?_
      cases h
      exact ev_ireturn dX10_isOneAway_122 rfl rfl
    · intro r21 er21
      subst er21
      replace h := qer h
      cases h
      exact ⟨rfl, rfl⟩
set_option maxRecDepth 100000 in
theorem ebX10_isTwoAway_22 {Ls t d n : Nat} {w1 : Int} : ∀ (k : Nat) (x : Int × Int × qMu) (y : Int × qMu), lp (fun x : Int × Int × qMu => bX10_isTwoAway_22 n w1 x.1 x.2.1 x.2.2) k x = some y → ∀ (o : qO) (s' : qSt), Ev (d + 5) mX10_isTwoAway 62 [none, none, some (iv y.1), none] [] (cS Ls t y.2) o s' → Ev (d + 5) mX10_isTwoAway 22 [some (.ref 78), some (iv w1), some (iv x.1), some (iv x.2.1)] [] (cS Ls t x.2.2) o s' := by
  intro k
  induction k with
  | zero => intro x y h; cases h
  | succ k ih =>
    intro x y h o s' kE
    rw [lp_s] at h
    replace h := qbd h; obtain ⟨zz, h0, h1⟩ := h
    have h : bX10_isTwoAway_22 n w1 x.1 x.2.1 x.2.2 = some zz := h0
    clear h0
    unfold bX10_isTwoAway_22 at h
    refine ev_iload_n (pc' := 23) dX10_isTwoAway_22 rfl rfl ?_
    refine ev_iload_n (pc' := 24) dX10_isTwoAway_23 rfl rfl ?_
    refine ev_icmpge (pc' := 27) (tgt := 62) dX10_isTwoAway_24 (by decide) rfl (x1 := wr x.2.1) (y1 := wr w1) rfl rfl  (fun c5 => ?_) (fun c5 => ?_)
    · replace h := qit c5 h
      refine ev_iload_n (pc' := 28) dX10_isTwoAway_27 rfl rfl ?_
      refine ev_ifne (pc' := 31) (tgt := 62) dX10_isTwoAway_28 (by decide) rfl (x1 := wr x.1) rfl (fun c6 => ?_) (fun c6 => ?_)
      · replace h := qit c6 h
        refine ev_aload_n (pc' := 32) dX10_isTwoAway_31 rfl rfl ?_
        refine ev_aload_n (pc' := 33) dX10_isTwoAway_32 rfl rfl ?_
        refine ev_getr (pc' := 36) dX10_isTwoAway_33 rfl tf_10_45 sh78 rfl ?_
        refine ev_iload_n (pc' := 37) dX10_isTwoAway_36 rfl rfl ?_
        replace h := qbd h; obtain ⟨x7, hx7, h⟩ := h
        refine ev_iald (pc' := 38) dX10_isTwoAway_37 rfl sh89 hx7 ?_
        replace h := qbd h; obtain ⟨y8, hy8, h⟩ := h
        refine ev_callg (pc' := 41) (st2 := []) dX10_isTwoAway_38 (qs_V tc_10_304 rfl rfl (cS_cls sh78) rfl) rfl rfl (eX10_switchesBy (d := d + 1) hy8) rfl rfl ?_
        refine ev_aload_n (pc' := 42) dX10_isTwoAway_41 rfl rfl ?_
        replace h := qbd h; obtain ⟨y9, hy9, h⟩ := h
        refine ev_callg (pc' := 45) (st2 := [iv y9.1]) dX10_isTwoAway_42 (qs_V tc_10_331 rfl rfl (cS_cls sh78) rfl) rfl rfl (eX10_isOneAway (d := d + 0) hy9) rfl rfl ?_
        refine ev_istore_n (pc' := 46) (L1 := [some (.ref 78), some (iv w1), some (iv y9.1), some (iv x.2.1)]) dX10_isTwoAway_45 rfl rfl ?_
        refine ev_aload_n (pc' := 47) dX10_isTwoAway_46 rfl rfl ?_
        refine ev_aload_n (pc' := 48) dX10_isTwoAway_47 rfl rfl ?_
        refine ev_getr (pc' := 51) dX10_isTwoAway_48 rfl tf_10_45 sh78 rfl ?_
        refine ev_iload_n (pc' := 52) dX10_isTwoAway_51 rfl rfl ?_
        replace h := qbd h; obtain ⟨x10, hx10, h⟩ := h
        refine ev_iald (pc' := 53) dX10_isTwoAway_52 rfl sh89 hx10 ?_
        replace h := qbd h; obtain ⟨y11, hy11, h⟩ := h
        refine ev_callg (pc' := 56) (st2 := []) dX10_isTwoAway_53 (qs_V tc_10_310 rfl rfl (cS_cls sh78) rfl) rfl rfl (eX10_takesBackBy (d := d + 1) hy11) rfl rfl ?_
        refine ev_iinc (pc' := 59) (x := x.2.1) (L1 := [some (.ref 78), some (iv w1), some (iv y9.1), some (iv (x.2.1 + 1))]) dX10_isTwoAway_56 rfl rfl rfl ?_
        refine ev_goto (pc' := 22) dX10_isTwoAway_59 (by decide) ?_
        cases h
        exact ev_wk (qLe_eq (qLe_eq (qLe_eq (qLe_eq qLe_nil)))) (ih _ _ h1 _ _ kE)
      · replace h := qif' c6 h
        cases h
        cases h1
        exact ev_wk (qLe_sk (qLe_sk (qLe_eq (qLe_sk qLe_nil)))) kE
    · replace h := qif' c5 h
      cases h
      cases h1
      exact ev_wk (qLe_sk (qLe_sk (qLe_eq (qLe_sk qLe_nil)))) kE
set_option maxRecDepth 100000 in
theorem eX10_isTwoAway {Ls t d n : Nat} {μ : qMu} {r : Int × qMu} (h : fX10_isTwoAway n μ = some r) : Ev (d + 5) mX10_isTwoAway 0 [some (.ref 78), none, none, none] [] (cS Ls t μ) (.inl (some (iv r.1))) (cS Ls t r.2) := by
  unfold fX10_isTwoAway at h
  refine ev_aload_n (pc' := 1) dX10_isTwoAway_0 rfl rfl ?_
  replace h := qbd h; obtain ⟨y1, hy1, h⟩ := h
  refine ev_callg (pc' := 4) (st2 := [iv y1]) dX10_isTwoAway_1 (qs_V tc_10_307 rfl rfl (cS_cls sh78) rfl) rfl rfl (eX10_differenceNow (d := d + 2) hy1) rfl rfl ?_
  refine ev_iconst (pc' := 5) dX10_isTwoAway_4 rfl ?_
  replace h := qbd h; obtain ⟨y3, hy3, h⟩ := h
  have kJ : Ev (d + 5) mX10_isTwoAway 17 [some (.ref 78), none, none, none] [iv y3.1] (cS Ls t y3.2) (.inl (some (iv r.1))) (cS Ls t r.2) := by
    refine ev_istore_n (pc' := 18) (L1 := [some (.ref 78), some (iv y3.1), none, none]) dX10_isTwoAway_17 rfl rfl ?_
    refine ev_iconst (pc' := 19) dX10_isTwoAway_18 rfl ?_
    refine ev_istore_n (pc' := 20) (L1 := [some (.ref 78), some (iv y3.1), some (iv 0), none]) dX10_isTwoAway_19 rfl rfl ?_
    refine ev_iconst (pc' := 21) dX10_isTwoAway_20 rfl ?_
    refine ev_istore_n (pc' := 22) (L1 := [some (.ref 78), some (iv y3.1), some (iv 0), some (iv 0)]) dX10_isTwoAway_21 rfl rfl ?_
    replace h := qbd h; obtain ⟨y12, hy12, h⟩ := h
    refine ev_wk (qLe_eq (qLe_eq (qLe_eq (qLe_eq qLe_nil)))) (?_ : Ev _ _ _ [some (.ref 78), some (iv y3.1), some (iv 0), some (iv 0)] _ _ _ _)
    refine ebX10_isTwoAway_22 _ _ _ hy12 _ _ ?_
    refine ev_iload_n (pc' := 63) dX10_isTwoAway_62 rfl rfl ?_
    replace h := qbd h; obtain ⟨x13, hx13, h⟩ := h
    obtain ⟨ex13, nx13⟩ := qbl_n hx13
    subst ex13
    cases h
    exact ev_ireturn dX10_isTwoAway_63 rfl nx13
  replace h := hy3
  clear hy3
  refine ev_icmple (pc' := 8) (tgt := 12) dX10_isTwoAway_5 (by decide) rfl (x1 := wr y1) (y1 := 4) rfl wl_4  (fun c2 => ?_) (fun c2 => ?_)
  · replace h := qit c2 h
    refine ev_iconst (pc' := 9) dX10_isTwoAway_8 rfl ?_
    refine ev_goto (pc' := 17) dX10_isTwoAway_9 (by decide) ?_
    cases h
    exact ev_wk (qLe_eq (qLe_eq (qLe_eq (qLe_eq qLe_nil)))) kJ
  · replace h := qif' c2 h
    refine ev_aload_n (pc' := 13) dX10_isTwoAway_12 rfl rfl ?_
    refine ev_iconst (pc' := 14) dX10_isTwoAway_13 rfl ?_
    replace h := qbd h; obtain ⟨y4, hy4, h⟩ := h
    refine ev_callg (pc' := 17) (st2 := [iv y4.1]) dX10_isTwoAway_14 (qs_V tc_10_298 rfl rfl (cS_cls sh78) rfl) rfl rfl (eX10_laysList (d := d + 0) hy4) rfl rfl ?_
    cases h
    exact ev_wk (qLe_eq (qLe_eq (qLe_eq (qLe_eq qLe_nil)))) kJ
set_option maxRecDepth 100000 in
theorem eX10_distance {Ls t d n : Nat} {μ : qMu} {r : Int × qMu} (h : fX10_distance n μ = some r) : Ev (d + 6) mX10_distance 0 [some (.ref 78)] [] (cS Ls t μ) (.inl (some (iv r.1))) (cS Ls t r.2) := by
  unfold fX10_distance at h
  refine ev_aload_n (pc' := 1) dX10_distance_0 rfl rfl ?_
  refine ev_aload_n (pc' := 2) dX10_distance_1 rfl rfl ?_
  replace h := qbd h; obtain ⟨y1, hy1, h⟩ := h
  refine ev_callg (pc' := 5) (st2 := [iv y1, .ref 78]) dX10_distance_2 (qs_V tc_10_313 rfl rfl (cS_cls sh78) rfl) rfl rfl (eX10_areAlike (d := d + 2) hy1) rfl rfl ?_
  replace h := qbd h; obtain ⟨y2, hy2, h⟩ := h
  refine ev_callg (pc' := 8) (st2 := [iv y2.1]) dX10_distance_5 (qs_V tc_10_188 rfl rfl (cS_cls sh78) rfl) rfl rfl (eX10_good (d := d + 5) hy2) rfl rfl ?_
  refine ev_ifeq (pc' := 11) (tgt := 18) dX10_distance_8 (by decide) rfl (x1 := wr y2.1) rfl (fun c3 => ?_) (fun c3 => ?_)
  · replace h := qit c3 h
    refine ev_iconst (pc' := 19) dX10_distance_18 rfl ?_
    cases h
    exact ev_ireturn dX10_distance_19 rfl rfl
  · replace h := qif' c3 h
    refine ev_aload_n (pc' := 12) dX10_distance_11 rfl rfl ?_
    replace h := qbd h; obtain ⟨y4, hy4, h⟩ := h
    refine ev_callg (pc' := 15) (st2 := [iv y4]) dX10_distance_12 (qs_V tc_10_307 rfl rfl (cS_cls sh78) rfl) rfl rfl (eX10_differenceNow (d := d + 3) hy4) rfl rfl ?_
    refine ev_ifne (pc' := 18) (tgt := 20) dX10_distance_15 (by decide) rfl (x1 := wr y4) rfl (fun c5 => ?_) (fun c5 => ?_)
    · replace h := qit c5 h
      refine ev_iconst (pc' := 19) dX10_distance_18 rfl ?_
      cases h
      exact ev_ireturn dX10_distance_19 rfl rfl
    · replace h := qif' c5 h
      refine ev_aload_n (pc' := 21) dX10_distance_20 rfl rfl ?_
      replace h := qbd h; obtain ⟨y6, hy6, h⟩ := h
      refine ev_callg (pc' := 24) (st2 := [iv y6.1]) dX10_distance_21 (qs_V tc_10_331 rfl rfl (cS_cls sh78) rfl) rfl rfl (eX10_isOneAway (d := d + 1) hy6) rfl rfl ?_
      refine ev_ifeq (pc' := 27) (tgt := 29) dX10_distance_24 (by decide) rfl (x1 := wr y6.1) rfl (fun c7 => ?_) (fun c7 => ?_)
      · replace h := qit c7 h
        refine ev_aload_n (pc' := 30) dX10_distance_29 rfl rfl ?_
        replace h := qbd h; obtain ⟨y8, hy8, h⟩ := h
        refine ev_callg (pc' := 33) (st2 := [iv y8.1]) dX10_distance_30 (qs_V tc_10_334 rfl rfl (cS_cls sh78) rfl) rfl rfl (eX10_isTwoAway (d := d + 0) hy8) rfl rfl ?_
        refine ev_ifeq (pc' := 36) (tgt := 40) dX10_distance_33 (by decide) rfl (x1 := wr y8.1) rfl (fun c9 => ?_) (fun c9 => ?_)
        · replace h := qit c9 h
          refine ev_iconst (pc' := 41) dX10_distance_40 rfl ?_
          cases h
          exact ev_ireturn dX10_distance_41 rfl rfl
        · replace h := qif' c9 h
          refine ev_iconst (pc' := 37) dX10_distance_36 rfl ?_
          refine ev_goto (pc' := 41) dX10_distance_37 (by decide) ?_
          cases h
          exact ev_ireturn dX10_distance_41 rfl rfl
      · replace h := qif' c7 h
        refine ev_iconst (pc' := 28) dX10_distance_27 rfl ?_
        cases h
        exact ev_ireturn dX10_distance_28 rfl rfl
set_option maxRecDepth 100000 in
theorem eX10_addEdge {Ls t d n : Nat} {p0 : Int} {p1 : Int} {μ : qMu} {r : Int × qMu} (h : fX10_addEdge n p0 p1 μ = some r) : Ev (d + 3) mX10_addEdge 0 [some (.ref 78), some (iv p0), some (iv p1)] [] (cS Ls t μ) (.inl (some (iv r.1))) (cS Ls t r.2) := by
  unfold fX10_addEdge at h
  refine ev_aload_n (pc' := 1) dX10_addEdge_0 rfl rfl ?_
  refine ev_aload_n (pc' := 2) dX10_addEdge_1 rfl rfl ?_
  refine ev_iload_n (pc' := 3) dX10_addEdge_2 rfl rfl ?_
  refine ev_iload_n (pc' := 4) dX10_addEdge_3 rfl rfl ?_
  replace h := qbd h; obtain ⟨y1, hy1, h⟩ := h
  refine ev_callg (pc' := 7) (st2 := [iv y1, .ref 78]) dX10_addEdge_4 (qs_V tc_10_210 rfl rfl (cS_cls sh78) rfl) rfl rfl (eX10_areVertices (d := d + 0) hy1) rfl rfl ?_
  refine ev_aload_n (pc' := 8) dX10_addEdge_7 rfl rfl ?_
  refine ev_iconst (pc' := 9) dX10_addEdge_8 rfl ?_
  replace h := qbd h; obtain ⟨y2, hy2, h⟩ := h
  refine ev_callg (pc' := 12) (st2 := [iv y2, iv y1, .ref 78]) dX10_addEdge_9 (qs_V tc_10_146 rfl rfl (cS_cls sh78) rfl) rfl rfl (eX10_edgesOf (d := d + 0) hy2) rfl rfl ?_
  refine ev_bipush (pc' := 14) dX10_addEdge_12 rfl bl_16 ?_
  have k4 : ∀ j5 : Int, j5 = (if wr y2 < 16 then 1 else 0) → Ev (d + 3) mX10_addEdge 22 [some (.ref 78), some (iv p0), some (iv p1)] [iv j5, iv y1, .ref 78] (cS Ls t μ) (.inl (some (iv r.1))) (cS Ls t r.2) := by
    intro j5 ej5
    subst ej5
    replace h := qbd h; obtain ⟨y6, hy6, h⟩ := h
    refine ev_callg (pc' := 25) (st2 := [iv y6.1]) dX10_addEdge_22 (qs_V tc_10_244 rfl rfl (cS_cls sh78) rfl) rfl rfl (eX10_good_ (d := d + 1) hy6) rfl rfl ?_
    refine ev_ifne (pc' := 28) (tgt := 30) dX10_addEdge_25 (by decide) rfl (x1 := wr y6.1) rfl (fun c7 => ?_) (fun c7 => ?_)
    · replace h := qit c7 h
      refine ev_iconst (pc' := 29) dX10_addEdge_28 rfl ?_
      cases h
      exact ev_ireturn dX10_addEdge_29 rfl rfl
    · replace h := qif' c7 h
      refine ev_aload_n (pc' := 31) dX10_addEdge_30 rfl rfl ?_
      replace h := qbd h; obtain ⟨y8, hy8, h⟩ := h
      refine ev_callg (pc' := 34) (st2 := []) dX10_addEdge_31 (qs_V tc_10_337 rfl rfl (cS_cls sh78) rfl) rfl rfl (eX10_remember (d := d + 2) hy8) rfl rfl ?_
      refine ev_aload_n (pc' := 35) dX10_addEdge_34 rfl rfl ?_
      refine ev_iconst (pc' := 36) dX10_addEdge_35 rfl ?_
      refine ev_iload_n (pc' := 37) dX10_addEdge_36 rfl rfl ?_
      refine ev_iload_n (pc' := 38) dX10_addEdge_37 rfl rfl ?_
      refine ev_iconst (pc' := 39) dX10_addEdge_38 rfl ?_
      replace h := qbd h; obtain ⟨y9, hy9, h⟩ := h
      refine ev_callg (pc' := 42) (st2 := []) dX10_addEdge_39 (qs_V tc_10_149 rfl rfl (cS_cls sh78) rfl) rfl rfl (eX10_adds (d := d + 1) hy9) rfl rfl ?_
      refine ev_aload_n (pc' := 43) dX10_addEdge_42 rfl rfl ?_
      refine ev_iconst (pc' := 44) dX10_addEdge_43 rfl ?_
      refine ev_iload_n (pc' := 45) dX10_addEdge_44 rfl rfl ?_
      refine ev_iload_n (pc' := 46) dX10_addEdge_45 rfl rfl ?_
      replace h := qbd h; obtain ⟨y10, hy10, h⟩ := h
      refine ev_callg (pc' := 49) (st2 := [iv y10]) dX10_addEdge_46 (qs_V tc_10_68 rfl rfl (cS_cls sh78) rfl) rfl rfl (eX10_many (d := d + 1) hy10) rfl rfl ?_
      cases h
      exact ev_ireturn dX10_addEdge_49 rfl rfl
  refine ev_icmpge (pc' := 17) (tgt := 21) dX10_addEdge_14 (by decide) rfl (x1 := wr y2) (y1 := 16) rfl wl_16  (fun c3 => ?_) (fun c3 => ?_)
  · skip
    refine ev_iconst (pc' := 18) dX10_addEdge_17 rfl ?_
    refine ev_goto (pc' := 22) dX10_addEdge_18 (by decide) ?_
    exact ev_wk (qLe_eq (qLe_eq (qLe_eq qLe_nil))) (k4 _ (qet c3 rfl))
  · skip
    refine ev_iconst (pc' := 22) dX10_addEdge_21 rfl ?_
    exact ev_wk (qLe_eq (qLe_eq (qLe_eq qLe_nil))) (k4 _ (qef c3 rfl))
set_option maxRecDepth 100000 in
theorem eX10_removeEdge {Ls t d n : Nat} {p0 : Int} {p1 : Int} {μ : qMu} {r : Int × qMu} (h : fX10_removeEdge n p0 p1 μ = some r) : Ev (d + 3) mX10_removeEdge 0 [some (.ref 78), some (iv p0), some (iv p1), none] [] (cS Ls t μ) (.inl (some (iv r.1))) (cS Ls t r.2) := by
  unfold fX10_removeEdge at h
  refine ev_aload_n (pc' := 1) dX10_removeEdge_0 rfl rfl ?_
  refine ev_iload_n (pc' := 2) dX10_removeEdge_1 rfl rfl ?_
  refine ev_iload_n (pc' := 3) dX10_removeEdge_2 rfl rfl ?_
  replace h := qbd h; obtain ⟨y1, hy1, h⟩ := h
  refine ev_callg (pc' := 6) (st2 := [iv y1]) dX10_removeEdge_3 (qs_V tc_10_210 rfl rfl (cS_cls sh78) rfl) rfl rfl (eX10_areVertices (d := d + 0) hy1) rfl rfl ?_
  refine ev_istore_n (pc' := 7) (L1 := [some (.ref 78), some (iv p0), some (iv p1), some (iv y1)]) dX10_removeEdge_6 rfl rfl ?_
  refine ev_aload_n (pc' := 8) dX10_removeEdge_7 rfl rfl ?_
  refine ev_iload_n (pc' := 9) dX10_removeEdge_8 rfl rfl ?_
  refine ev_iload_n (pc' := 10) dX10_removeEdge_9 rfl rfl ?_
  replace h := qbd h; obtain ⟨y3, hy3, h⟩ := h
  have kJ : Ev (d + 3) mX10_removeEdge 28 [some (.ref 78), some (iv p0), some (iv p1), none] [iv y3, iv y1, .ref 78] (cS Ls t μ) (.inl (some (iv r.1))) (cS Ls t r.2) := by
    replace h := qbd h; obtain ⟨y6, hy6, h⟩ := h
    refine ev_callg (pc' := 31) (st2 := [iv y6.1]) dX10_removeEdge_28 (qs_V tc_10_244 rfl rfl (cS_cls sh78) rfl) rfl rfl (eX10_good_ (d := d + 1) hy6) rfl rfl ?_
    refine ev_ifne (pc' := 34) (tgt := 36) dX10_removeEdge_31 (by decide) rfl (x1 := wr y6.1) rfl (fun c7 => ?_) (fun c7 => ?_)
    · replace h := qit c7 h
      refine ev_iconst (pc' := 35) dX10_removeEdge_34 rfl ?_
      cases h
      exact ev_ireturn dX10_removeEdge_35 rfl rfl
    · replace h := qif' c7 h
      refine ev_aload_n (pc' := 37) dX10_removeEdge_36 rfl rfl ?_
      replace h := qbd h; obtain ⟨y8, hy8, h⟩ := h
      refine ev_callg (pc' := 40) (st2 := []) dX10_removeEdge_37 (qs_V tc_10_337 rfl rfl (cS_cls sh78) rfl) rfl rfl (eX10_remember (d := d + 2) hy8) rfl rfl ?_
      refine ev_aload_n (pc' := 41) dX10_removeEdge_40 rfl rfl ?_
      refine ev_iconst (pc' := 42) dX10_removeEdge_41 rfl ?_
      refine ev_iload_n (pc' := 43) dX10_removeEdge_42 rfl rfl ?_
      refine ev_iload_n (pc' := 44) dX10_removeEdge_43 rfl rfl ?_
      refine ev_iconst (pc' := 45) dX10_removeEdge_44 rfl ?_
      replace h := qbd h; obtain ⟨y9, hy9, h⟩ := h
      refine ev_callg (pc' := 48) (st2 := []) dX10_removeEdge_45 (qs_V tc_10_149 rfl rfl (cS_cls sh78) rfl) rfl rfl (eX10_adds (d := d + 1) hy9) rfl rfl ?_
      refine ev_aload_n (pc' := 49) dX10_removeEdge_48 rfl rfl ?_
      refine ev_iconst (pc' := 50) dX10_removeEdge_49 rfl ?_
      refine ev_iload_n (pc' := 51) dX10_removeEdge_50 rfl rfl ?_
      refine ev_iload_n (pc' := 52) dX10_removeEdge_51 rfl rfl ?_
      replace h := qbd h; obtain ⟨y10, hy10, h⟩ := h
      refine ev_callg (pc' := 55) (st2 := [iv y10]) dX10_removeEdge_52 (qs_V tc_10_68 rfl rfl (cS_cls sh78) rfl) rfl rfl (eX10_many (d := d + 1) hy10) rfl rfl ?_
      cases h
      exact ev_ireturn dX10_removeEdge_55 rfl rfl
  replace h := hy3
  clear hy3
  refine ev_ifeq (pc' := 13) (tgt := 27) dX10_removeEdge_10 (by decide) rfl (x1 := wr y1) rfl (fun c2 => ?_) (fun c2 => ?_)
  · replace h := qit c2 h
    refine ev_iconst (pc' := 28) dX10_removeEdge_27 rfl ?_
    cases h
    exact ev_wk (qLe_eq (qLe_eq (qLe_eq (qLe_sk qLe_nil)))) kJ
  · replace h := qif' c2 h
    refine ev_aload_n (pc' := 14) dX10_removeEdge_13 rfl rfl ?_
    refine ev_iconst (pc' := 15) dX10_removeEdge_14 rfl ?_
    refine ev_iload_n (pc' := 16) dX10_removeEdge_15 rfl rfl ?_
    refine ev_iload_n (pc' := 17) dX10_removeEdge_16 rfl rfl ?_
    replace h := qbd h; obtain ⟨y4, hy4, h⟩ := h
    refine ev_callg (pc' := 20) (st2 := [iv y4, iv y1, .ref 78]) dX10_removeEdge_17 (qs_V tc_10_68 rfl rfl (cS_cls sh78) rfl) rfl rfl (eX10_many (d := d + 1) hy4) rfl rfl ?_
    refine ev_ifle (pc' := 23) (tgt := 27) dX10_removeEdge_20 (by decide) rfl (x1 := wr y4) rfl (fun c5 => ?_) (fun c5 => ?_)
    · replace h := qit c5 h
      refine ev_iconst (pc' := 24) dX10_removeEdge_23 rfl ?_
      refine ev_goto (pc' := 28) dX10_removeEdge_24 (by decide) ?_
      cases h
      exact ev_wk (qLe_eq (qLe_eq (qLe_eq (qLe_sk qLe_nil)))) kJ
    · replace h := qif' c5 h
      refine ev_iconst (pc' := 28) dX10_removeEdge_27 rfl ?_
      cases h
      exact ev_wk (qLe_eq (qLe_eq (qLe_eq (qLe_sk qLe_nil)))) kJ
set_option maxRecDepth 100000 in
theorem eX10_switchEdges {Ls t d n : Nat} {p0 : Int} {p1 : Int} {p2 : Int} {p3 : Int} {μ : qMu} {r : Int × qMu} (h : fX10_switchEdges n p0 p1 p2 p3 μ = some r) : Ev (d + 5) mX10_switchEdges 0 [some (.ref 78), some (iv p0), some (iv p1), some (iv p2), some (iv p3)] [] (cS Ls t μ) (.inl (some (iv r.1))) (cS Ls t r.2) := by
  unfold fX10_switchEdges at h
  refine ev_aload_n (pc' := 1) dX10_switchEdges_0 rfl rfl ?_
  refine ev_iload_n (pc' := 2) dX10_switchEdges_1 rfl rfl ?_
  refine ev_iload_n (pc' := 3) dX10_switchEdges_2 rfl rfl ?_
  refine ev_iload_n (pc' := 4) dX10_switchEdges_3 rfl rfl ?_
  refine ev_iload (pc' := 6) dX10_switchEdges_4 rfl rfl ?_
  replace h := qbd h; obtain ⟨y1, hy1, h⟩ := h
  refine ev_callg (pc' := 9) (st2 := [iv y1.1]) dX10_switchEdges_6 (qs_V tc_10_301 rfl rfl (cS_cls sh78) rfl) rfl rfl (eX10_canSwitch (d := d + 0) hy1) rfl rfl ?_
  refine ev_ifne (pc' := 12) (tgt := 14) dX10_switchEdges_9 (by decide) rfl (x1 := wr y1.1) rfl (fun c2 => ?_) (fun c2 => ?_)
  · replace h := qit c2 h
    refine ev_iconst (pc' := 13) dX10_switchEdges_12 rfl ?_
    cases h
    exact ev_ireturn dX10_switchEdges_13 rfl rfl
  · replace h := qif' c2 h
    refine ev_aload_n (pc' := 15) dX10_switchEdges_14 rfl rfl ?_
    replace h := qbd h; obtain ⟨y3, hy3, h⟩ := h
    refine ev_callg (pc' := 18) (st2 := []) dX10_switchEdges_15 (qs_V tc_10_337 rfl rfl (cS_cls sh78) rfl) rfl rfl (eX10_remember (d := d + 4) hy3) rfl rfl ?_
    refine ev_aload_n (pc' := 19) dX10_switchEdges_18 rfl rfl ?_
    refine ev_iload_n (pc' := 20) dX10_switchEdges_19 rfl rfl ?_
    refine ev_iload_n (pc' := 21) dX10_switchEdges_20 rfl rfl ?_
    refine ev_iload_n (pc' := 22) dX10_switchEdges_21 rfl rfl ?_
    refine ev_iload (pc' := 24) dX10_switchEdges_22 rfl rfl ?_
    replace h := qbd h; obtain ⟨y4, hy4, h⟩ := h
    refine ev_callg (pc' := 27) (st2 := []) dX10_switchEdges_24 (qs_V tc_10_281 rfl rfl (cS_cls sh78) rfl) rfl rfl (eX10_switches (d := d + 2) hy4) rfl rfl ?_
    refine ev_aload_n (pc' := 28) dX10_switchEdges_27 rfl rfl ?_
    replace h := qbd h; obtain ⟨y5, hy5, h⟩ := h
    refine ev_callg (pc' := 31) (st2 := [iv y5]) dX10_switchEdges_28 (qs_V tc_10_225 rfl rfl (cS_cls sh78) rfl) rfl rfl (eX10_defectsNow (d := d + 1) hy5) rfl rfl ?_
    cases h
    exact ev_ireturn dX10_switchEdges_31 rfl rfl
set_option maxRecDepth 100000 in
theorem eX10_realise {Ls t d n : Nat} {p0 : Int} {μ : qMu} {r : Int × qMu} (h : fX10_realise n p0 μ = some r) : Ev (d + 5) mX10_realise 0 [some (.ref 78), some (iv p0)] [] (cS Ls t μ) (.inl (some (iv r.1))) (cS Ls t r.2) := by
  unfold fX10_realise at h
  refine ev_aload_n (pc' := 1) dX10_realise_0 rfl rfl ?_
  refine ev_iload_n (pc' := 2) dX10_realise_1 rfl rfl ?_
  refine ev_iconst (pc' := 3) dX10_realise_2 rfl ?_
  refine ev_iconst (pc' := 4) dX10_realise_3 rfl ?_
  replace h := qbd h; obtain ⟨y1, hy1, h⟩ := h
  refine ev_callg (pc' := 7) (st2 := [iv y1, .ref 78]) dX10_realise_4 (qs_S tc_10_128 (by decide) rfl rfl) rfl rfl (eX10_isIn (d := d + 4) hy1) rfl rfl ?_
  refine ev_aload_n (pc' := 8) dX10_realise_7 rfl rfl ?_
  refine ev_iload_n (pc' := 9) dX10_realise_8 rfl rfl ?_
  replace h := qbd h; obtain ⟨y2, hy2, h⟩ := h
  refine ev_callg (pc' := 12) (st2 := [iv y2.1, iv y1, .ref 78]) dX10_realise_9 (qs_V tc_10_256 rfl rfl (cS_cls sh78) rfl) rfl rfl (eX10_isPossibleIn (d := d + 0) hy2) rfl rfl ?_
  replace h := qbd h; obtain ⟨y3, hy3, h⟩ := h
  refine ev_callg (pc' := 15) (st2 := [iv y3.1]) dX10_realise_12 (qs_V tc_10_244 rfl rfl (cS_cls sh78) rfl) rfl rfl (eX10_good_ (d := d + 3) hy3) rfl rfl ?_
  refine ev_ifne (pc' := 18) (tgt := 20) dX10_realise_15 (by decide) rfl (x1 := wr y3.1) rfl (fun c4 => ?_) (fun c4 => ?_)
  · replace h := qit c4 h
    refine ev_iconst (pc' := 19) dX10_realise_18 rfl ?_
    cases h
    exact ev_ireturn dX10_realise_19 rfl rfl
  · replace h := qif' c4 h
    refine ev_aload_n (pc' := 21) dX10_realise_20 rfl rfl ?_
    replace h := qbd h; obtain ⟨y5, hy5, h⟩ := h
    refine ev_callg (pc' := 24) (st2 := []) dX10_realise_21 (qs_V tc_10_337 rfl rfl (cS_cls sh78) rfl) rfl rfl (eX10_remember (d := d + 4) hy5) rfl rfl ?_
    refine ev_aload_n (pc' := 25) dX10_realise_24 rfl rfl ?_
    refine ev_iload_n (pc' := 26) dX10_realise_25 rfl rfl ?_
    replace h := qbd h; obtain ⟨y6, hy6, h⟩ := h
    refine ev_callg (pc' := 29) (st2 := []) dX10_realise_26 (qs_V tc_10_340 rfl rfl (cS_cls sh78) rfl) rfl rfl (eX10_realises (d := d + 1) hy6) rfl rfl ?_
    refine ev_aload_n (pc' := 30) dX10_realise_29 rfl rfl ?_
    replace h := qbd h; obtain ⟨y7, hy7, h⟩ := h
    refine ev_callg (pc' := 33) (st2 := [iv y7]) dX10_realise_30 (qs_V tc_10_225 rfl rfl (cS_cls sh78) rfl) rfl rfl (eX10_defectsNow (d := d + 1) hy7) rfl rfl ?_
    cases h
    exact ev_ireturn dX10_realise_33 rfl rfl
set_option maxRecDepth 100000 in
theorem ebX10_follow_31 {Ls t d n : Nat} {w1 : Int} {w2 : Int} : ∀ (k : Nat) (x : Int × qMu) (y : qMu), lp (fun x : Int × qMu => bX10_follow_31 n w1 w2 x.1 x.2) k x = some y → ∀ (o : qO) (s' : qSt), Ev (d + 6) mX10_follow 56 [some (.ref 78), none, none, none] [] (cS Ls t y) o s' → Ev (d + 6) mX10_follow 31 [some (.ref 78), some (iv w1), some (iv w2), some (iv x.1)] [] (cS Ls t x.2) o s' := by
  intro k
  induction k with
  | zero => intro x y h; cases h
  | succ k ih =>
    intro x y h o s' kE
    rw [lp_s] at h
    replace h := qbd h; obtain ⟨zz, h0, h1⟩ := h
    have h : bX10_follow_31 n w1 w2 x.1 x.2 = some zz := h0
    clear h0
    unfold bX10_follow_31 at h
    refine ev_iload_n (pc' := 32) dX10_follow_31 rfl rfl ?_
    refine ev_iload_n (pc' := 33) dX10_follow_32 rfl rfl ?_
    refine ev_iload_n (pc' := 34) dX10_follow_33 rfl rfl ?_
    refine ev_min (pc' := 37) dX10_follow_34 rfl tc_10_238 rfl ?_
    refine ev_icmpge (pc' := 40) (tgt := 56) dX10_follow_37 (by decide) rfl (x1 := wr x.1) (y1 := wr (mn w1 w2)) rfl rfl  (fun c7 => ?_) (fun c7 => ?_)
    · replace h := qit c7 h
      refine ev_aload_n (pc' := 41) dX10_follow_40 rfl rfl ?_
      refine ev_aload_n (pc' := 42) dX10_follow_41 rfl rfl ?_
      refine ev_getr (pc' := 45) dX10_follow_42 rfl tf_10_48 sh78 rfl ?_
      refine ev_iload_n (pc' := 46) dX10_follow_45 rfl rfl ?_
      replace h := qbd h; obtain ⟨x8, hx8, h⟩ := h
      refine ev_iald (pc' := 47) dX10_follow_46 rfl sh90 hx8 ?_
      replace h := qbd h; obtain ⟨y9, hy9, h⟩ := h
      refine ev_callg (pc' := 50) (st2 := []) dX10_follow_47 (qs_V tc_10_304 rfl rfl (cS_cls sh78) rfl) rfl rfl (eX10_switchesBy (d := d + 2) hy9) rfl rfl ?_
      refine ev_iinc (pc' := 53) (x := x.1) (L1 := [some (.ref 78), some (iv w1), some (iv w2), some (iv (x.1 + 1))]) dX10_follow_50 rfl rfl rfl ?_
      refine ev_goto (pc' := 31) dX10_follow_53 (by decide) ?_
      cases h
      exact ev_wk (qLe_eq (qLe_eq (qLe_eq (qLe_eq qLe_nil)))) (ih _ _ h1 _ _ kE)
    · replace h := qif' c7 h
      cases h
      cases h1
      exact ev_wk (qLe_eq (qLe_sk (qLe_sk (qLe_sk qLe_nil)))) kE
set_option maxRecDepth 100000 in
theorem eX10_follow {Ls t d n : Nat} {p0 : Int} {μ : qMu} {r : Int × qMu} (h : fX10_follow n p0 μ = some r) : Ev (d + 6) mX10_follow 0 [some (.ref 78), some (iv p0), none, none] [] (cS Ls t μ) (.inl (some (iv r.1))) (cS Ls t r.2) := by
  unfold fX10_follow at h
  refine ev_aload_n (pc' := 1) dX10_follow_0 rfl rfl ?_
  refine ev_iload_n (pc' := 2) dX10_follow_1 rfl rfl ?_
  refine ev_iconst (pc' := 3) dX10_follow_2 rfl ?_
  refine ev_bipush (pc' := 5) dX10_follow_3 rfl bl_16 ?_
  replace h := qbd h; obtain ⟨y1, hy1, h⟩ := h
  refine ev_callg (pc' := 8) (st2 := [iv y1, .ref 78]) dX10_follow_5 (qs_S tc_10_128 (by decide) rfl rfl) rfl rfl (eX10_isIn (d := d + 5) hy1) rfl rfl ?_
  refine ev_aload_n (pc' := 9) dX10_follow_8 rfl rfl ?_
  replace h := qbd h; obtain ⟨y2, hy2, h⟩ := h
  refine ev_callg (pc' := 12) (st2 := [iv y2, iv y1, .ref 78]) dX10_follow_9 (qs_V tc_10_313 rfl rfl (cS_cls sh78) rfl) rfl rfl (eX10_areAlike (d := d + 2) hy2) rfl rfl ?_
  replace h := qbd h; obtain ⟨y3, hy3, h⟩ := h
  refine ev_callg (pc' := 15) (st2 := [iv y3.1]) dX10_follow_12 (qs_V tc_10_244 rfl rfl (cS_cls sh78) rfl) rfl rfl (eX10_good_ (d := d + 4) hy3) rfl rfl ?_
  refine ev_ifne (pc' := 18) (tgt := 20) dX10_follow_15 (by decide) rfl (x1 := wr y3.1) rfl (fun c4 => ?_) (fun c4 => ?_)
  · replace h := qit c4 h
    refine ev_iconst (pc' := 19) dX10_follow_18 rfl ?_
    cases h
    exact ev_ireturn dX10_follow_19 rfl rfl
  · replace h := qif' c4 h
    refine ev_aload_n (pc' := 21) dX10_follow_20 rfl rfl ?_
    replace h := qbd h; obtain ⟨y5, hy5, h⟩ := h
    refine ev_callg (pc' := 24) (st2 := []) dX10_follow_21 (qs_V tc_10_337 rfl rfl (cS_cls sh78) rfl) rfl rfl (eX10_remember (d := d + 5) hy5) rfl rfl ?_
    refine ev_aload_n (pc' := 25) dX10_follow_24 rfl rfl ?_
    replace h := qbd h; obtain ⟨y6, hy6, h⟩ := h
    refine ev_callg (pc' := 28) (st2 := [iv y6.1]) dX10_follow_25 (qs_V tc_10_328 rfl rfl (cS_cls sh78) rfl) rfl rfl (eX10_laysPath (d := d + 0) hy6) rfl rfl ?_
    refine ev_istore_n (pc' := 29) (L1 := [some (.ref 78), some (iv p0), some (iv y6.1), none]) dX10_follow_28 rfl rfl ?_
    refine ev_iconst (pc' := 30) dX10_follow_29 rfl ?_
    refine ev_istore_n (pc' := 31) (L1 := [some (.ref 78), some (iv p0), some (iv y6.1), some (iv 0)]) dX10_follow_30 rfl rfl ?_
    replace h := qbd h; obtain ⟨y10, hy10, h⟩ := h
    refine ev_wk (qLe_eq (qLe_eq (qLe_eq (qLe_eq qLe_nil)))) (?_ : Ev _ _ _ [some (.ref 78), some (iv p0), some (iv y6.1), some (iv 0)] _ _ _ _)
    refine ebX10_follow_31 _ _ _ hy10 _ _ ?_
    refine ev_aload_n (pc' := 57) dX10_follow_56 rfl rfl ?_
    replace h := qbd h; obtain ⟨y11, hy11, h⟩ := h
    refine ev_callg (pc' := 60) (st2 := [iv y11]) dX10_follow_57 (qs_V tc_10_307 rfl rfl (cS_cls sh78) rfl) rfl rfl (eX10_differenceNow (d := d + 3) hy11) rfl rfl ?_
    cases h
    exact ev_ireturn dX10_follow_60 rfl rfl
set_option maxRecDepth 100000 in
theorem ebX10_connecting_18 {Ls t d n : Nat} {w1 : Int} {w2 : Int} : ∀ (k : Nat) (x : Int × qMu) (y : (qMu) ⊕ (Int × qMu)), lp (fun x : Int × qMu => bX10_connecting_18 n w1 w2 x.1 x.2) k x = some y → ∀ (o : qO) (s' : qSt), (∀ b : qMu, y = .inl b → Ev (d + 6) mX10_connecting 76 [none, none, none, none, none] [] (cS Ls t b) o s') → (∀ r : Int × qMu, y = .inr r → o = (.inl (some (iv r.1))) ∧ s' = (cS Ls t r.2)) → Ev (d + 6) mX10_connecting 18 [some (.ref 78), some (iv w1), some (iv w2), some (iv x.1), none] [] (cS Ls t x.2) o s' := by
  intro k
  induction k with
  | zero => intro x y h; cases h
  | succ k ih =>
    intro x y h o s' kE kR
    rw [lp_s] at h
    replace h := qbd h; obtain ⟨zz, h0, h1⟩ := h
    have h : bX10_connecting_18 n w1 w2 x.1 x.2 = some zz := h0
    clear h0
    unfold bX10_connecting_18 at h
    refine ev_iload_n (pc' := 19) dX10_connecting_18 rfl rfl ?_
    refine ev_iload_n (pc' := 20) dX10_connecting_19 rfl rfl ?_
    refine ev_icmpge (pc' := 23) (tgt := 76) dX10_connecting_20 (by decide) rfl (x1 := wr x.1) (y1 := wr w2) rfl rfl  (fun c4 => ?_) (fun c4 => ?_)
    · replace h := qit c4 h
      refine ev_aload_n (pc' := 24) dX10_connecting_23 rfl rfl ?_
      refine ev_aload_n (pc' := 25) dX10_connecting_24 rfl rfl ?_
      refine ev_getr (pc' := 28) dX10_connecting_25 rfl tf_10_45 sh78 rfl ?_
      refine ev_iload_n (pc' := 29) dX10_connecting_28 rfl rfl ?_
      replace h := qbd h; obtain ⟨x5, hx5, h⟩ := h
      refine ev_iald (pc' := 30) dX10_connecting_29 rfl sh89 hx5 ?_
      replace h := qbd h; obtain ⟨y6, hy6, h⟩ := h
      refine ev_callg (pc' := 33) (st2 := []) dX10_connecting_30 (qs_V tc_10_304 rfl rfl (cS_cls sh78) rfl) rfl rfl (eX10_switchesBy (d := d + 2) hy6) rfl rfl ?_
      refine ev_aload_n (pc' := 34) dX10_connecting_33 rfl rfl ?_
      replace h := qbd h; obtain ⟨y7, hy7, h⟩ := h
      refine ev_callg (pc' := 37) (st2 := [iv y7.1]) dX10_connecting_34 (qs_V tc_10_241 rfl rfl (cS_cls sh78) rfl) rfl rfl (eX10_partsWithEdges (d := d + 0) hy7) rfl rfl ?_
      refine ev_iload_n (pc' := 38) dX10_connecting_37 rfl rfl ?_
      have k9 : ∀ j10 : Int, j10 = (if wr y7.1 < wr w1 then 1 else 0) → Ev (d + 6) mX10_connecting 46 [some (.ref 78), some (iv w1), some (iv w2), some (iv x.1), none] [iv j10] (cS Ls t y7.2) o s' := by
        intro j10 ej10
        subst ej10
        refine ev_istore (pc' := 48) (L1 := [some (.ref 78), some (iv w1), some (iv w2), some (iv x.1), some (iv (if wr y7.1 < wr w1 then 1 else 0))]) dX10_connecting_46 rfl rfl ?_
        refine ev_aload_n (pc' := 49) dX10_connecting_48 rfl rfl ?_
        refine ev_aload_n (pc' := 50) dX10_connecting_49 rfl rfl ?_
        refine ev_getr (pc' := 53) dX10_connecting_50 rfl tf_10_45 sh78 rfl ?_
        refine ev_iload_n (pc' := 54) dX10_connecting_53 rfl rfl ?_
        replace h := qbd h; obtain ⟨x11, hx11, h⟩ := h
        refine ev_iald (pc' := 55) dX10_connecting_54 rfl sh89 hx11 ?_
        replace h := qbd h; obtain ⟨y12, hy12, h⟩ := h
        refine ev_callg (pc' := 58) (st2 := []) dX10_connecting_55 (qs_V tc_10_310 rfl rfl (cS_cls sh78) rfl) rfl rfl (eX10_takesBackBy (d := d + 2) hy12) rfl rfl ?_
        refine ev_iload (pc' := 60) dX10_connecting_58 rfl rfl ?_
        refine ev_ifeq (pc' := 63) (tgt := 70) dX10_connecting_60 (by decide) rfl (x1 := wr (if wr y7.1 < wr w1 then 1 else 0)) rfl (fun c13 => ?_) (fun c13 => ?_)
        · replace h := qit c13 h
          refine ev_iinc (pc' := 73) (x := x.1) (L1 := [some (.ref 78), some (iv w1), some (iv w2), some (iv (x.1 + 1)), some (iv (if wr y7.1 < wr w1 then 1 else 0))]) dX10_connecting_70 rfl rfl rfl ?_
          refine ev_goto (pc' := 18) dX10_connecting_73 (by decide) ?_
          cases h
          exact ev_wk (qLe_eq (qLe_eq (qLe_eq (qLe_eq (qLe_sk qLe_nil))))) (ih _ _ h1 _ _ kE kR)
        · replace h := qif' c13 h
          refine ev_aload_n (pc' := 64) dX10_connecting_63 rfl rfl ?_
          refine ev_getr (pc' := 67) dX10_connecting_64 rfl tf_10_45 sh78 rfl ?_
          refine ev_iload_n (pc' := 68) dX10_connecting_67 rfl rfl ?_
          replace h := qbd h; obtain ⟨x14, hx14, h⟩ := h
          refine ev_iald (pc' := 69) dX10_connecting_68 rfl sh89 hx14 ?_
          cases h
          cases h1
          obtain ⟨rfl, rfl⟩ := kR _ rfl
          exact ev_ireturn dX10_connecting_69 rfl rfl
      refine ev_icmpge (pc' := 41) (tgt := 45) dX10_connecting_38 (by decide) rfl (x1 := wr y7.1) (y1 := wr w1) rfl rfl  (fun c8 => ?_) (fun c8 => ?_)
      · skip
        refine ev_iconst (pc' := 42) dX10_connecting_41 rfl ?_
        refine ev_goto (pc' := 46) dX10_connecting_42 (by decide) ?_
        exact ev_wk (qLe_eq (qLe_eq (qLe_eq (qLe_eq (qLe_eq qLe_nil))))) (k9 _ (qet c8 rfl))
      · skip
        refine ev_iconst (pc' := 46) dX10_connecting_45 rfl ?_
        exact ev_wk (qLe_eq (qLe_eq (qLe_eq (qLe_eq (qLe_eq qLe_nil))))) (k9 _ (qef c8 rfl))
    · replace h := qif' c4 h
      cases h
      cases h1
      exact ev_wk (qLe_sk (qLe_sk (qLe_sk (qLe_sk (qLe_eq qLe_nil))))) (kE _ rfl)
set_option maxRecDepth 100000 in
theorem eX10_connecting {Ls t d n : Nat} {μ : qMu} {r : Int × qMu} (h : fX10_connecting n μ = some r) : Ev (d + 6) mX10_connecting 0 [some (.ref 78), none, none, none, none] [] (cS Ls t μ) (.inl (some (iv r.1))) (cS Ls t r.2) := by
  unfold fX10_connecting at h
  refine ev_aload_n (pc' := 1) dX10_connecting_0 rfl rfl ?_
  replace h := qbd h; obtain ⟨y1, hy1, h⟩ := h
  refine ev_callg (pc' := 4) (st2 := [iv y1.1]) dX10_connecting_1 (qs_V tc_10_241 rfl rfl (cS_cls sh78) rfl) rfl rfl (eX10_partsWithEdges (d := d + 0) hy1) rfl rfl ?_
  refine ev_istore_n (pc' := 5) (L1 := [some (.ref 78), some (iv y1.1), none, none, none]) dX10_connecting_4 rfl rfl ?_
  refine ev_aload_n (pc' := 6) dX10_connecting_5 rfl rfl ?_
  refine ev_aload_n (pc' := 7) dX10_connecting_6 rfl rfl ?_
  refine ev_getr (pc' := 10) dX10_connecting_7 rfl tf_10_7 sh78 rfl ?_
  refine ev_iconst (pc' := 11) dX10_connecting_10 rfl ?_
  replace h := qbd h; obtain ⟨x2, hx2, h⟩ := h
  refine ev_iald (pc' := 12) dX10_connecting_11 rfl sh79 hx2 ?_
  replace h := qbd h; obtain ⟨y3, hy3, h⟩ := h
  refine ev_callg (pc' := 15) (st2 := [iv y3.1]) dX10_connecting_12 (qs_V tc_10_298 rfl rfl (cS_cls sh78) rfl) rfl rfl (eX10_laysList (d := d + 1) hy3) rfl rfl ?_
  refine ev_istore_n (pc' := 16) (L1 := [some (.ref 78), some (iv y1.1), some (iv y3.1), none, none]) dX10_connecting_15 rfl rfl ?_
  refine ev_iconst (pc' := 17) dX10_connecting_16 rfl ?_
  refine ev_istore_n (pc' := 18) (L1 := [some (.ref 78), some (iv y1.1), some (iv y3.1), some (iv 0), none]) dX10_connecting_17 rfl rfl ?_
  replace h := qbd h; obtain ⟨y15, hy15, h⟩ := h
  refine ev_wk (qLe_eq (qLe_eq (qLe_eq (qLe_eq (qLe_eq qLe_nil))))) (?_ : Ev _ _ _ [some (.ref 78), some (iv y1.1), some (iv y3.1), some (iv 0), none] _ _ _ _)
  refine ebX10_connecting_18 _ _ _ hy15 _ _ ?_ ?_
  · intro b16 eb16
    subst eb16
    replace h := qel h
    refine ev_iconst (pc' := 77) dX10_connecting_76 rfl ?_
    cases h
    exact ev_ireturn dX10_connecting_77 rfl rfl
  · intro r17 er17
    subst er17
    replace h := qer h
    cases h
    exact ⟨rfl, rfl⟩
set_option maxRecDepth 100000 in
theorem ebX10_connect_14 {Ls t d n : Nat} : ∀ (k : Nat) (x : Int × qMu) (y : qMu), lp (fun x : Int × qMu => bX10_connect_14 n x.1 x.2) k x = some y → ∀ (o : qO) (s' : qSt), Ev (d + 7) mX10_connect 32 [some (.ref 78), none] [] (cS Ls t y) o s' → Ev (d + 7) mX10_connect 14 [some (.ref 78), some (iv x.1)] [] (cS Ls t x.2) o s' := by
  intro k
  induction k with
  | zero => intro x y h; cases h
  | succ k ih =>
    intro x y h o s' kE
    rw [lp_s] at h
    replace h := qbd h; obtain ⟨zz, h0, h1⟩ := h
    have h : bX10_connect_14 n x.1 x.2 = some zz := h0
    clear h0
    unfold bX10_connect_14 at h
    refine ev_iload_n (pc' := 15) dX10_connect_14 rfl rfl ?_
    refine ev_iconst (pc' := 16) dX10_connect_15 rfl ?_
    refine ev_icmpeq (pc' := 19) (tgt := 32) dX10_connect_16 (by decide) rfl (x1 := wr x.1) (y1 := (-1)) rfl wl_m1  (fun c4 => ?_) (fun c4 => ?_)
    · replace h := qit c4 h
      cases h
      cases h1
      exact ev_wk (qLe_eq (qLe_sk qLe_nil)) kE
    · replace h := qif' c4 h
      refine ev_aload_n (pc' := 20) dX10_connect_19 rfl rfl ?_
      refine ev_iload_n (pc' := 21) dX10_connect_20 rfl rfl ?_
      replace h := qbd h; obtain ⟨y5, hy5, h⟩ := h
      refine ev_callg (pc' := 24) (st2 := []) dX10_connect_21 (qs_V tc_10_304 rfl rfl (cS_cls sh78) rfl) rfl rfl (eX10_switchesBy (d := d + 3) hy5) rfl rfl ?_
      refine ev_aload_n (pc' := 25) dX10_connect_24 rfl rfl ?_
      replace h := qbd h; obtain ⟨y6, hy6, h⟩ := h
      refine ev_callg (pc' := 28) (st2 := [iv y6.1]) dX10_connect_25 (qs_V tc_10_343 rfl rfl (cS_cls sh78) rfl) rfl rfl (eX10_connecting (d := d + 0) hy6) rfl rfl ?_
      refine ev_istore_n (pc' := 29) (L1 := [some (.ref 78), some (iv y6.1)]) dX10_connect_28 rfl rfl ?_
      refine ev_goto (pc' := 14) dX10_connect_29 (by decide) ?_
      cases h
      exact ev_wk (qLe_eq (qLe_eq qLe_nil)) (ih _ _ h1 _ _ kE)
set_option maxRecDepth 100000 in
theorem eX10_connect {Ls t d n : Nat} {μ : qMu} {r : Int × qMu} (h : fX10_connect n μ = some r) : Ev (d + 7) mX10_connect 0 [some (.ref 78), none] [] (cS Ls t μ) (.inl (some (iv r.1))) (cS Ls t r.2) := by
  unfold fX10_connect at h
  refine ev_aload_n (pc' := 1) dX10_connect_0 rfl rfl ?_
  refine ev_iconst (pc' := 2) dX10_connect_1 rfl ?_
  replace h := qbd h; obtain ⟨μ1, hμ1, h⟩ := h
  refine ev_puti (pc' := 5) dX10_connect_2 rfl tf_10_54 sh78 rfl rfl (qw_9_4 _) rfl hμ1 ?_
  refine ev_aload_n (pc' := 6) dX10_connect_5 rfl rfl ?_
  replace h := qbd h; obtain ⟨y2, hy2, h⟩ := h
  refine ev_callg (pc' := 9) (st2 := []) dX10_connect_6 (qs_V tc_10_337 rfl rfl (cS_cls sh78) rfl) rfl rfl (eX10_remember (d := d + 6) hy2) rfl rfl ?_
  refine ev_aload_n (pc' := 10) dX10_connect_9 rfl rfl ?_
  replace h := qbd h; obtain ⟨y3, hy3, h⟩ := h
  refine ev_callg (pc' := 13) (st2 := [iv y3.1]) dX10_connect_10 (qs_V tc_10_343 rfl rfl (cS_cls sh78) rfl) rfl rfl (eX10_connecting (d := d + 0) hy3) rfl rfl ?_
  refine ev_istore_n (pc' := 14) (L1 := [some (.ref 78), some (iv y3.1)]) dX10_connect_13 rfl rfl ?_
  replace h := qbd h; obtain ⟨y7, hy7, h⟩ := h
  refine ev_wk (qLe_eq (qLe_eq qLe_nil)) (?_ : Ev _ _ _ [some (.ref 78), some (iv y3.1)] _ _ _ _)
  refine ebX10_connect_14 _ _ _ hy7 _ _ ?_
  refine ev_aload_n (pc' := 33) dX10_connect_32 rfl rfl ?_
  replace h := qbd h; obtain ⟨y8, hy8, h⟩ := h
  refine ev_callg (pc' := 36) (st2 := [iv y8.1]) dX10_connect_33 (qs_V tc_10_241 rfl rfl (cS_cls sh78) rfl) rfl rfl (eX10_partsWithEdges (d := d + 1) hy8) rfl rfl ?_
  cases h
  exact ev_ireturn dX10_connect_36 rfl rfl
set_option maxRecDepth 100000 in
theorem ebX10_simplifying_16 {Ls t d n : Nat} {w3 : Int} : ∀ (k : Nat) (x : Int × Int × Int × qMu) (y : Int × qMu), lp (fun x : Int × Int × Int × qMu => bX10_simplifying_16 n w3 x.1 x.2.1 x.2.2.1 x.2.2.2) k x = some y → ∀ (o : qO) (s' : qSt), Ev (d + 5) mX10_simplifying 73 [none, none, some (iv y.1), none, none, none] [] (cS Ls t y.2) o s' → Ev (d + 5) mX10_simplifying 16 [some (.ref 78), some (iv x.1), some (iv x.2.1), some (iv w3), some (iv x.2.2.1), none] [] (cS Ls t x.2.2.2) o s' := by
  intro k
  induction k with
  | zero => intro x y h; cases h
  | succ k ih =>
    intro x y h o s' kE
    rw [lp_s] at h
    replace h := qbd h; obtain ⟨zz, h0, h1⟩ := h
    have h : bX10_simplifying_16 n w3 x.1 x.2.1 x.2.2.1 x.2.2.2 = some zz := h0
    clear h0
    unfold bX10_simplifying_16 at h
    refine ev_iload (pc' := 18) dX10_simplifying_16 rfl rfl ?_
    refine ev_iload_n (pc' := 19) dX10_simplifying_18 rfl rfl ?_
    refine ev_icmpge (pc' := 22) (tgt := 73) dX10_simplifying_19 (by decide) rfl (x1 := wr x.2.2.1) (y1 := wr w3) rfl rfl  (fun c3 => ?_) (fun c3 => ?_)
    · replace h := qit c3 h
      refine ev_aload_n (pc' := 23) dX10_simplifying_22 rfl rfl ?_
      refine ev_aload_n (pc' := 24) dX10_simplifying_23 rfl rfl ?_
      refine ev_getr (pc' := 27) dX10_simplifying_24 rfl tf_10_45 sh78 rfl ?_
      refine ev_iload (pc' := 29) dX10_simplifying_27 rfl rfl ?_
      replace h := qbd h; obtain ⟨x4, hx4, h⟩ := h
      refine ev_iald (pc' := 30) dX10_simplifying_29 rfl sh89 hx4 ?_
      replace h := qbd h; obtain ⟨y5, hy5, h⟩ := h
      refine ev_callg (pc' := 33) (st2 := []) dX10_simplifying_30 (qs_V tc_10_304 rfl rfl (cS_cls sh78) rfl) rfl rfl (eX10_switchesBy (d := d + 1) hy5) rfl rfl ?_
      refine ev_aload_n (pc' := 34) dX10_simplifying_33 rfl rfl ?_
      replace h := qbd h; obtain ⟨y6, hy6, h⟩ := h
      refine ev_callg (pc' := 37) (st2 := [iv y6]) dX10_simplifying_34 (qs_V tc_10_225 rfl rfl (cS_cls sh78) rfl) rfl rfl (eX10_defectsNow (d := d + 1) hy6) rfl rfl ?_
      refine ev_istore (pc' := 39) (L1 := [some (.ref 78), some (iv x.1), some (iv x.2.1), some (iv w3), some (iv x.2.2.1), some (iv y6)]) dX10_simplifying_37 rfl rfl ?_
      refine ev_aload_n (pc' := 40) dX10_simplifying_39 rfl rfl ?_
      refine ev_aload_n (pc' := 41) dX10_simplifying_40 rfl rfl ?_
      refine ev_getr (pc' := 44) dX10_simplifying_41 rfl tf_10_45 sh78 rfl ?_
      refine ev_iload (pc' := 46) dX10_simplifying_44 rfl rfl ?_
      replace h := qbd h; obtain ⟨x7, hx7, h⟩ := h
      refine ev_iald (pc' := 47) dX10_simplifying_46 rfl sh89 hx7 ?_
      replace h := qbd h; obtain ⟨y8, hy8, h⟩ := h
      refine ev_callg (pc' := 50) (st2 := []) dX10_simplifying_47 (qs_V tc_10_310 rfl rfl (cS_cls sh78) rfl) rfl rfl (eX10_takesBackBy (d := d + 1) hy8) rfl rfl ?_
      refine ev_iload (pc' := 52) dX10_simplifying_50 rfl rfl ?_
      refine ev_iload_n (pc' := 53) dX10_simplifying_52 rfl rfl ?_
      replace h := qbd h; obtain ⟨y10, hy10, h⟩ := h
      have kJ : Ev (d + 5) mX10_simplifying 67 [some (.ref 78), some (iv y10.1), some (iv y10.2), some (iv w3), some (iv x.2.2.1), none] [] (cS Ls t y8) o s' := by
        refine ev_iinc (pc' := 70) (x := x.2.2.1) (L1 := [some (.ref 78), some (iv y10.1), some (iv y10.2), some (iv w3), some (iv (x.2.2.1 + 1)), none]) dX10_simplifying_67 rfl rfl rfl ?_
        refine ev_goto (pc' := 16) dX10_simplifying_70 (by decide) ?_
        cases h
        exact ev_wk (qLe_eq (qLe_eq (qLe_eq (qLe_eq (qLe_eq (qLe_eq qLe_nil)))))) (ih _ _ h1 _ _ kE)
      replace h := hy10
      clear hy10
      refine ev_icmpge (pc' := 56) (tgt := 67) dX10_simplifying_53 (by decide) rfl (x1 := wr y6) (y1 := wr x.1) rfl rfl  (fun c9 => ?_) (fun c9 => ?_)
      · replace h := qit c9 h
        refine ev_aload_n (pc' := 57) dX10_simplifying_56 rfl rfl ?_
        refine ev_getr (pc' := 60) dX10_simplifying_57 rfl tf_10_45 sh78 rfl ?_
        refine ev_iload (pc' := 62) dX10_simplifying_60 rfl rfl ?_
        replace h := qbd h; obtain ⟨x11, hx11, h⟩ := h
        refine ev_iald (pc' := 63) dX10_simplifying_62 rfl sh89 hx11 ?_
        refine ev_istore_n (pc' := 64) (L1 := [some (.ref 78), some (iv x.1), some (iv x11), some (iv w3), some (iv x.2.2.1), some (iv y6)]) dX10_simplifying_63 rfl rfl ?_
        refine ev_iload (pc' := 66) dX10_simplifying_64 rfl rfl ?_
        refine ev_istore_n (pc' := 67) (L1 := [some (.ref 78), some (iv y6), some (iv x11), some (iv w3), some (iv x.2.2.1), some (iv y6)]) dX10_simplifying_66 rfl rfl ?_
        cases h
        exact ev_wk (qLe_eq (qLe_eq (qLe_eq (qLe_eq (qLe_eq (qLe_sk qLe_nil)))))) kJ
      · replace h := qif' c9 h
        cases h
        exact ev_wk (qLe_eq (qLe_eq (qLe_eq (qLe_eq (qLe_eq (qLe_sk qLe_nil)))))) kJ
    · replace h := qif' c3 h
      cases h
      cases h1
      exact ev_wk (qLe_sk (qLe_sk (qLe_eq (qLe_sk (qLe_sk (qLe_eq qLe_nil)))))) kE
set_option maxRecDepth 100000 in
theorem eX10_simplifying {Ls t d n : Nat} {μ : qMu} {r : Int × qMu} (h : fX10_simplifying n μ = some r) : Ev (d + 5) mX10_simplifying 0 [some (.ref 78), none, none, none, none, none] [] (cS Ls t μ) (.inl (some (iv r.1))) (cS Ls t r.2) := by
  unfold fX10_simplifying at h
  refine ev_aload_n (pc' := 1) dX10_simplifying_0 rfl rfl ?_
  replace h := qbd h; obtain ⟨y1, hy1, h⟩ := h
  refine ev_callg (pc' := 4) (st2 := [iv y1]) dX10_simplifying_1 (qs_V tc_10_225 rfl rfl (cS_cls sh78) rfl) rfl rfl (eX10_defectsNow (d := d + 1) hy1) rfl rfl ?_
  refine ev_istore_n (pc' := 5) (L1 := [some (.ref 78), some (iv y1), none, none, none, none]) dX10_simplifying_4 rfl rfl ?_
  refine ev_iconst (pc' := 6) dX10_simplifying_5 rfl ?_
  refine ev_istore_n (pc' := 7) (L1 := [some (.ref 78), some (iv y1), some (iv (-1)), none, none, none]) dX10_simplifying_6 rfl rfl ?_
  refine ev_aload_n (pc' := 8) dX10_simplifying_7 rfl rfl ?_
  refine ev_iconst (pc' := 9) dX10_simplifying_8 rfl ?_
  replace h := qbd h; obtain ⟨y2, hy2, h⟩ := h
  refine ev_callg (pc' := 12) (st2 := [iv y2.1]) dX10_simplifying_9 (qs_V tc_10_298 rfl rfl (cS_cls sh78) rfl) rfl rfl (eX10_laysList (d := d + 0) hy2) rfl rfl ?_
  refine ev_istore_n (pc' := 13) (L1 := [some (.ref 78), some (iv y1), some (iv (-1)), some (iv y2.1), none, none]) dX10_simplifying_12 rfl rfl ?_
  refine ev_iconst (pc' := 14) dX10_simplifying_13 rfl ?_
  refine ev_istore (pc' := 16) (L1 := [some (.ref 78), some (iv y1), some (iv (-1)), some (iv y2.1), some (iv 0), none]) dX10_simplifying_14 rfl rfl ?_
  replace h := qbd h; obtain ⟨y12, hy12, h⟩ := h
  refine ev_wk (qLe_eq (qLe_eq (qLe_eq (qLe_eq (qLe_eq (qLe_eq qLe_nil)))))) (?_ : Ev _ _ _ [some (.ref 78), some (iv y1), some (iv (-1)), some (iv y2.1), some (iv 0), none] _ _ _ _)
  refine ebX10_simplifying_16 _ _ _ hy12 _ _ ?_
  refine ev_iload_n (pc' := 74) dX10_simplifying_73 rfl rfl ?_
  cases h
  exact ev_ireturn dX10_simplifying_74 rfl rfl
set_option maxRecDepth 100000 in
theorem ebX10_simplify_14 {Ls t d n : Nat} : ∀ (k : Nat) (x : Int × qMu) (y : qMu), lp (fun x : Int × qMu => bX10_simplify_14 n x.1 x.2) k x = some y → ∀ (o : qO) (s' : qSt), Ev (d + 6) mX10_simplify 32 [some (.ref 78), none] [] (cS Ls t y) o s' → Ev (d + 6) mX10_simplify 14 [some (.ref 78), some (iv x.1)] [] (cS Ls t x.2) o s' := by
  intro k
  induction k with
  | zero => intro x y h; cases h
  | succ k ih =>
    intro x y h o s' kE
    rw [lp_s] at h
    replace h := qbd h; obtain ⟨zz, h0, h1⟩ := h
    have h : bX10_simplify_14 n x.1 x.2 = some zz := h0
    clear h0
    unfold bX10_simplify_14 at h
    refine ev_iload_n (pc' := 15) dX10_simplify_14 rfl rfl ?_
    refine ev_iconst (pc' := 16) dX10_simplify_15 rfl ?_
    refine ev_icmpeq (pc' := 19) (tgt := 32) dX10_simplify_16 (by decide) rfl (x1 := wr x.1) (y1 := (-1)) rfl wl_m1  (fun c4 => ?_) (fun c4 => ?_)
    · replace h := qit c4 h
      cases h
      cases h1
      exact ev_wk (qLe_eq (qLe_sk qLe_nil)) kE
    · replace h := qif' c4 h
      refine ev_aload_n (pc' := 20) dX10_simplify_19 rfl rfl ?_
      refine ev_iload_n (pc' := 21) dX10_simplify_20 rfl rfl ?_
      replace h := qbd h; obtain ⟨y5, hy5, h⟩ := h
      refine ev_callg (pc' := 24) (st2 := []) dX10_simplify_21 (qs_V tc_10_304 rfl rfl (cS_cls sh78) rfl) rfl rfl (eX10_switchesBy (d := d + 2) hy5) rfl rfl ?_
      refine ev_aload_n (pc' := 25) dX10_simplify_24 rfl rfl ?_
      replace h := qbd h; obtain ⟨y6, hy6, h⟩ := h
      refine ev_callg (pc' := 28) (st2 := [iv y6.1]) dX10_simplify_25 (qs_V tc_10_346 rfl rfl (cS_cls sh78) rfl) rfl rfl (eX10_simplifying (d := d + 0) hy6) rfl rfl ?_
      refine ev_istore_n (pc' := 29) (L1 := [some (.ref 78), some (iv y6.1)]) dX10_simplify_28 rfl rfl ?_
      refine ev_goto (pc' := 14) dX10_simplify_29 (by decide) ?_
      cases h
      exact ev_wk (qLe_eq (qLe_eq qLe_nil)) (ih _ _ h1 _ _ kE)
set_option maxRecDepth 100000 in
theorem eX10_simplify {Ls t d n : Nat} {μ : qMu} {r : Int × qMu} (h : fX10_simplify n μ = some r) : Ev (d + 6) mX10_simplify 0 [some (.ref 78), none] [] (cS Ls t μ) (.inl (some (iv r.1))) (cS Ls t r.2) := by
  unfold fX10_simplify at h
  refine ev_aload_n (pc' := 1) dX10_simplify_0 rfl rfl ?_
  refine ev_iconst (pc' := 2) dX10_simplify_1 rfl ?_
  replace h := qbd h; obtain ⟨μ1, hμ1, h⟩ := h
  refine ev_puti (pc' := 5) dX10_simplify_2 rfl tf_10_54 sh78 rfl rfl (qw_9_4 _) rfl hμ1 ?_
  refine ev_aload_n (pc' := 6) dX10_simplify_5 rfl rfl ?_
  replace h := qbd h; obtain ⟨y2, hy2, h⟩ := h
  refine ev_callg (pc' := 9) (st2 := []) dX10_simplify_6 (qs_V tc_10_337 rfl rfl (cS_cls sh78) rfl) rfl rfl (eX10_remember (d := d + 5) hy2) rfl rfl ?_
  refine ev_aload_n (pc' := 10) dX10_simplify_9 rfl rfl ?_
  replace h := qbd h; obtain ⟨y3, hy3, h⟩ := h
  refine ev_callg (pc' := 13) (st2 := [iv y3.1]) dX10_simplify_10 (qs_V tc_10_346 rfl rfl (cS_cls sh78) rfl) rfl rfl (eX10_simplifying (d := d + 0) hy3) rfl rfl ?_
  refine ev_istore_n (pc' := 14) (L1 := [some (.ref 78), some (iv y3.1)]) dX10_simplify_13 rfl rfl ?_
  replace h := qbd h; obtain ⟨y7, hy7, h⟩ := h
  refine ev_wk (qLe_eq (qLe_eq qLe_nil)) (?_ : Ev _ _ _ [some (.ref 78), some (iv y3.1)] _ _ _ _)
  refine ebX10_simplify_14 _ _ _ hy7 _ _ ?_
  refine ev_aload_n (pc' := 33) dX10_simplify_32 rfl rfl ?_
  replace h := qbd h; obtain ⟨y8, hy8, h⟩ := h
  refine ev_callg (pc' := 36) (st2 := [iv y8]) dX10_simplify_33 (qs_V tc_10_225 rfl rfl (cS_cls sh78) rfl) rfl rfl (eX10_defectsNow (d := d + 2) hy8) rfl rfl ?_
  cases h
  exact ev_ireturn dX10_simplify_36 rfl rfl
set_option maxRecDepth 100000 in
theorem ebX10_exchange_11 {Ls t d n : Nat} : ∀ (k : Nat) (x : Int × qMu) (y : qMu), lp (fun x : Int × qMu => bX10_exchange_11 n x.1 x.2) k x = some y → ∀ (o : qO) (s' : qSt), Ev (d + 3) mX10_exchange 59 [some (.ref 78), none, none] [] (cS Ls t y) o s' → Ev (d + 3) mX10_exchange 11 [some (.ref 78), some (iv x.1), none] [] (cS Ls t x.2) o s' := by
  intro k
  induction k with
  | zero => intro x y h; cases h
  | succ k ih =>
    intro x y h o s' kE
    rw [lp_s] at h
    replace h := qbd h; obtain ⟨zz, h0, h1⟩ := h
    have h : bX10_exchange_11 n x.1 x.2 = some zz := h0
    clear h0
    unfold bX10_exchange_11 at h
    refine ev_iload_n (pc' := 12) dX10_exchange_11 rfl rfl ?_
    refine ev_bipush (pc' := 14) dX10_exchange_12 rfl bl_64 ?_
    refine ev_icmpge (pc' := 17) (tgt := 59) dX10_exchange_14 (by decide) rfl (x1 := wr x.1) (y1 := 64) rfl wl_64  (fun c3 => ?_) (fun c3 => ?_)
    · replace h := qit c3 h
      refine ev_aload_n (pc' := 18) dX10_exchange_17 rfl rfl ?_
      refine ev_getr (pc' := 21) dX10_exchange_18 rfl tf_10_7 sh78 rfl ?_
      refine ev_iconst (pc' := 22) dX10_exchange_21 rfl ?_
      refine ev_iload_n (pc' := 23) dX10_exchange_22 rfl rfl ?_
      refine ev_iadd (pc' := 24) dX10_exchange_23 rfl ?_
      replace h := qbd h; obtain ⟨x4, hx4, h⟩ := h
      refine ev_iald (pc' := 25) dX10_exchange_24 rfl sh79 hx4 ?_
      refine ev_istore_n (pc' := 26) (L1 := [some (.ref 78), some (iv x.1), some (iv x4)]) dX10_exchange_25 rfl rfl ?_
      refine ev_aload_n (pc' := 27) dX10_exchange_26 rfl rfl ?_
      refine ev_getr (pc' := 30) dX10_exchange_27 rfl tf_10_7 sh78 rfl ?_
      refine ev_iconst (pc' := 31) dX10_exchange_30 rfl ?_
      refine ev_iload_n (pc' := 32) dX10_exchange_31 rfl rfl ?_
      refine ev_iadd (pc' := 33) dX10_exchange_32 rfl ?_
      refine ev_aload_n (pc' := 34) dX10_exchange_33 rfl rfl ?_
      refine ev_getr (pc' := 37) dX10_exchange_34 rfl tf_10_7 sh78 rfl ?_
      refine ev_bipush (pc' := 39) dX10_exchange_37 rfl bl_66 ?_
      refine ev_iload_n (pc' := 40) dX10_exchange_39 rfl rfl ?_
      refine ev_iadd (pc' := 41) dX10_exchange_40 rfl ?_
      replace h := qbd h; obtain ⟨x5, hx5, h⟩ := h
      refine ev_iald (pc' := 42) dX10_exchange_41 rfl sh79 hx5 ?_
      replace h := qbd h; obtain ⟨μ6, hμ6, h⟩ := h
      refine ev_iast (pc' := 43) dX10_exchange_42 rfl sh79 hμ6 ?_
      refine ev_aload_n (pc' := 44) dX10_exchange_43 rfl rfl ?_
      refine ev_getr (pc' := 47) dX10_exchange_44 rfl tf_10_7 sh78 rfl ?_
      refine ev_bipush (pc' := 49) dX10_exchange_47 rfl bl_66 ?_
      refine ev_iload_n (pc' := 50) dX10_exchange_49 rfl rfl ?_
      refine ev_iadd (pc' := 51) dX10_exchange_50 rfl ?_
      refine ev_iload_n (pc' := 52) dX10_exchange_51 rfl rfl ?_
      replace h := qbd h; obtain ⟨μ7, hμ7, h⟩ := h
      refine ev_iast (pc' := 53) dX10_exchange_52 rfl sh79 hμ7 ?_
      refine ev_iinc (pc' := 56) (x := x.1) (L1 := [some (.ref 78), some (iv (x.1 + 1)), some (iv x4)]) dX10_exchange_53 rfl rfl rfl ?_
      refine ev_goto (pc' := 11) dX10_exchange_56 (by decide) ?_
      cases h
      exact ev_wk (qLe_eq (qLe_eq (qLe_sk qLe_nil))) (ih _ _ h1 _ _ kE)
    · replace h := qif' c3 h
      cases h
      cases h1
      exact ev_wk (qLe_eq (qLe_sk (qLe_eq qLe_nil))) kE
set_option maxRecDepth 100000 in
theorem eX10_exchange {Ls t d n : Nat} {μ : qMu} {r : Int × qMu} (h : fX10_exchange n μ = some r) : Ev (d + 3) mX10_exchange 0 [some (.ref 78), none, none] [] (cS Ls t μ) (.inl (some (iv r.1))) (cS Ls t r.2) := by
  unfold fX10_exchange at h
  refine ev_aload_n (pc' := 1) dX10_exchange_0 rfl rfl ?_
  refine ev_iconst (pc' := 2) dX10_exchange_1 rfl ?_
  replace h := qbd h; obtain ⟨μ1, hμ1, h⟩ := h
  refine ev_puti (pc' := 5) dX10_exchange_2 rfl tf_10_54 sh78 rfl rfl (qw_9_4 _) rfl hμ1 ?_
  refine ev_aload_n (pc' := 6) dX10_exchange_5 rfl rfl ?_
  replace h := qbd h; obtain ⟨y2, hy2, h⟩ := h
  refine ev_callg (pc' := 9) (st2 := []) dX10_exchange_6 (qs_V tc_10_337 rfl rfl (cS_cls sh78) rfl) rfl rfl (eX10_remember (d := d + 2) hy2) rfl rfl ?_
  refine ev_iconst (pc' := 10) dX10_exchange_9 rfl ?_
  refine ev_istore_n (pc' := 11) (L1 := [some (.ref 78), some (iv 0), none]) dX10_exchange_10 rfl rfl ?_
  replace h := qbd h; obtain ⟨y8, hy8, h⟩ := h
  refine ev_wk (qLe_eq (qLe_eq (qLe_eq qLe_nil))) (?_ : Ev _ _ _ [some (.ref 78), some (iv 0), none] _ _ _ _)
  refine ebX10_exchange_11 _ _ _ hy8 _ _ ?_
  refine ev_aload_n (pc' := 60) dX10_exchange_59 rfl rfl ?_
  replace h := qbd h; obtain ⟨y9, hy9, h⟩ := h
  refine ev_callg (pc' := 63) (st2 := [iv y9]) dX10_exchange_60 (qs_V tc_10_307 rfl rfl (cS_cls sh78) rfl) rfl rfl (eX10_differenceNow (d := d + 0) hy9) rfl rfl ?_
  cases h
  exact ev_ireturn dX10_exchange_63 rfl rfl
set_option maxRecDepth 100000 in
theorem ebX10_copyToTarget_16 {Ls t d n : Nat} {w1 : Int} : ∀ (k : Nat) (x : Int × qMu) (y : qMu), lp (fun x : Int × qMu => bX10_copyToTarget_16 n w1 x.1 x.2) k x = some y → ∀ (o : qO) (s' : qSt), Ev (d + 3) mX10_copyToTarget 45 [none, some (iv w1), none] [] (cS Ls t y) o s' → Ev (d + 3) mX10_copyToTarget 16 [some (.ref 78), some (iv w1), some (iv x.1)] [] (cS Ls t x.2) o s' := by
  intro k
  induction k with
  | zero => intro x y h; cases h
  | succ k ih =>
    intro x y h o s' kE
    rw [lp_s] at h
    replace h := qbd h; obtain ⟨zz, h0, h1⟩ := h
    have h : bX10_copyToTarget_16 n w1 x.1 x.2 = some zz := h0
    clear h0
    unfold bX10_copyToTarget_16 at h
    refine ev_iload_n (pc' := 17) dX10_copyToTarget_16 rfl rfl ?_
    refine ev_bipush (pc' := 19) dX10_copyToTarget_17 rfl bl_64 ?_
    refine ev_icmpge (pc' := 22) (tgt := 45) dX10_copyToTarget_19 (by decide) rfl (x1 := wr x.1) (y1 := 64) rfl wl_64  (fun c4 => ?_) (fun c4 => ?_)
    · replace h := qit c4 h
      refine ev_aload_n (pc' := 23) dX10_copyToTarget_22 rfl rfl ?_
      refine ev_getr (pc' := 26) dX10_copyToTarget_23 rfl tf_10_7 sh78 rfl ?_
      refine ev_bipush (pc' := 28) dX10_copyToTarget_26 rfl bl_66 ?_
      refine ev_iload_n (pc' := 29) dX10_copyToTarget_28 rfl rfl ?_
      refine ev_iadd (pc' := 30) dX10_copyToTarget_29 rfl ?_
      refine ev_aload_n (pc' := 31) dX10_copyToTarget_30 rfl rfl ?_
      refine ev_getr (pc' := 34) dX10_copyToTarget_31 rfl tf_10_7 sh78 rfl ?_
      refine ev_iconst (pc' := 35) dX10_copyToTarget_34 rfl ?_
      refine ev_iload_n (pc' := 36) dX10_copyToTarget_35 rfl rfl ?_
      refine ev_iadd (pc' := 37) dX10_copyToTarget_36 rfl ?_
      replace h := qbd h; obtain ⟨x5, hx5, h⟩ := h
      refine ev_iald (pc' := 38) dX10_copyToTarget_37 rfl sh79 hx5 ?_
      replace h := qbd h; obtain ⟨μ6, hμ6, h⟩ := h
      refine ev_iast (pc' := 39) dX10_copyToTarget_38 rfl sh79 hμ6 ?_
      refine ev_iinc (pc' := 42) (x := x.1) (L1 := [some (.ref 78), some (iv w1), some (iv (x.1 + 1))]) dX10_copyToTarget_39 rfl rfl rfl ?_
      refine ev_goto (pc' := 16) dX10_copyToTarget_42 (by decide) ?_
      cases h
      exact ev_wk (qLe_eq (qLe_eq (qLe_eq qLe_nil))) (ih _ _ h1 _ _ kE)
    · replace h := qif' c4 h
      cases h
      cases h1
      exact ev_wk (qLe_sk (qLe_eq (qLe_sk qLe_nil))) kE
set_option maxRecDepth 100000 in
theorem eX10_copyToTarget {Ls t d n : Nat} {μ : qMu} {r : Int × qMu} (h : fX10_copyToTarget n μ = some r) : Ev (d + 3) mX10_copyToTarget 0 [some (.ref 78), none, none] [] (cS Ls t μ) (.inl (some (iv r.1))) (cS Ls t r.2) := by
  unfold fX10_copyToTarget at h
  refine ev_aload_n (pc' := 1) dX10_copyToTarget_0 rfl rfl ?_
  refine ev_iconst (pc' := 2) dX10_copyToTarget_1 rfl ?_
  replace h := qbd h; obtain ⟨μ1, hμ1, h⟩ := h
  refine ev_puti (pc' := 5) dX10_copyToTarget_2 rfl tf_10_54 sh78 rfl rfl (qw_9_4 _) rfl hμ1 ?_
  refine ev_aload_n (pc' := 6) dX10_copyToTarget_5 rfl rfl ?_
  replace h := qbd h; obtain ⟨y2, hy2, h⟩ := h
  refine ev_callg (pc' := 9) (st2 := []) dX10_copyToTarget_6 (qs_V tc_10_337 rfl rfl (cS_cls sh78) rfl) rfl rfl (eX10_remember (d := d + 2) hy2) rfl rfl ?_
  refine ev_aload_n (pc' := 10) dX10_copyToTarget_9 rfl rfl ?_
  replace h := qbd h; obtain ⟨y3, hy3, h⟩ := h
  refine ev_callg (pc' := 13) (st2 := [iv y3]) dX10_copyToTarget_10 (qs_V tc_10_307 rfl rfl (cS_cls sh78) rfl) rfl rfl (eX10_differenceNow (d := d + 0) hy3) rfl rfl ?_
  refine ev_istore_n (pc' := 14) (L1 := [some (.ref 78), some (iv y3), none]) dX10_copyToTarget_13 rfl rfl ?_
  refine ev_iconst (pc' := 15) dX10_copyToTarget_14 rfl ?_
  refine ev_istore_n (pc' := 16) (L1 := [some (.ref 78), some (iv y3), some (iv 0)]) dX10_copyToTarget_15 rfl rfl ?_
  replace h := qbd h; obtain ⟨y7, hy7, h⟩ := h
  refine ev_wk (qLe_eq (qLe_eq (qLe_eq qLe_nil))) (?_ : Ev _ _ _ [some (.ref 78), some (iv y3), some (iv 0)] _ _ _ _)
  refine ebX10_copyToTarget_16 _ _ _ hy7 _ _ ?_
  refine ev_iload_n (pc' := 46) dX10_copyToTarget_45 rfl rfl ?_
  cases h
  exact ev_ireturn dX10_copyToTarget_46 rfl rfl
set_option maxRecDepth 100000 in
theorem eX10_setMode {Ls t d n : Nat} {p0 : Int} {μ : qMu} {r : Int × qMu} (h : fX10_setMode n p0 μ = some r) : Ev (d + 1) mX10_setMode 0 [some (.ref 78), some (iv p0), none] [] (cS Ls t μ) (.inl (some (iv r.1))) (cS Ls t r.2) := by
  unfold fX10_setMode at h
  refine ev_aload_n (pc' := 1) dX10_setMode_0 rfl rfl ?_
  refine ev_iload_n (pc' := 2) dX10_setMode_1 rfl rfl ?_
  refine ev_iconst (pc' := 3) dX10_setMode_2 rfl ?_
  refine ev_iconst (pc' := 4) dX10_setMode_3 rfl ?_
  replace h := qbd h; obtain ⟨y1, hy1, h⟩ := h
  refine ev_callg (pc' := 7) (st2 := [iv y1, .ref 78]) dX10_setMode_4 (qs_S tc_10_128 (by decide) rfl rfl) rfl rfl (eX10_isIn (d := d + 0) hy1) rfl rfl ?_
  replace h := qbd h; obtain ⟨y2, hy2, h⟩ := h
  refine ev_callg (pc' := 10) (st2 := [iv y2.1]) dX10_setMode_7 (qs_V tc_10_188 rfl rfl (cS_cls sh78) rfl) rfl rfl (eX10_good (d := d + 0) hy2) rfl rfl ?_
  refine ev_ifne (pc' := 13) (tgt := 15) dX10_setMode_10 (by decide) rfl (x1 := wr y2.1) rfl (fun c3 => ?_) (fun c3 => ?_)
  · replace h := qit c3 h
    refine ev_iconst (pc' := 14) dX10_setMode_13 rfl ?_
    cases h
    exact ev_ireturn dX10_setMode_14 rfl rfl
  · replace h := qif' c3 h
    refine ev_aload_n (pc' := 16) dX10_setMode_15 rfl rfl ?_
    replace h := qbd h; obtain ⟨y4, hy4, h⟩ := h
    refine ev_callg (pc' := 19) (st2 := []) dX10_setMode_16 (qs_V tc_10_337 rfl rfl (cS_cls sh78) rfl) rfl rfl (eX10_remember (d := d + 0) hy4) rfl rfl ?_
    refine ev_aload_n (pc' := 20) dX10_setMode_19 rfl rfl ?_
    refine ev_getr (pc' := 23) dX10_setMode_20 rfl tf_10_7 sh78 rfl ?_
    refine ev_iconst (pc' := 24) dX10_setMode_23 rfl ?_
    replace h := qbd h; obtain ⟨x5, hx5, h⟩ := h
    refine ev_iald (pc' := 25) dX10_setMode_24 rfl sh79 hx5 ?_
    refine ev_istore_n (pc' := 26) (L1 := [some (.ref 78), some (iv p0), some (iv x5)]) dX10_setMode_25 rfl rfl ?_
    refine ev_aload_n (pc' := 27) dX10_setMode_26 rfl rfl ?_
    refine ev_getr (pc' := 30) dX10_setMode_27 rfl tf_10_7 sh78 rfl ?_
    refine ev_iconst (pc' := 31) dX10_setMode_30 rfl ?_
    refine ev_iload_n (pc' := 32) dX10_setMode_31 rfl rfl ?_
    replace h := qbd h; obtain ⟨μ6, hμ6, h⟩ := h
    refine ev_iast (pc' := 33) dX10_setMode_32 rfl sh79 hμ6 ?_
    refine ev_iload_n (pc' := 34) dX10_setMode_33 rfl rfl ?_
    cases h
    exact ev_ireturn dX10_setMode_34 rfl rfl
set_option maxRecDepth 100000 in
theorem eX10_says {Ls t d : Nat} {p0 : Int} {μ : qMu} {r : qMu} (h : fX10_says p0 μ = some r) : Ev (d + 0) mX10_says 0 [some (.ref 78), some (iv p0)] [] (cS Ls t μ) (.inl none) (cS Ls t r) := by
  unfold fX10_says at h
  refine ev_aload_n (pc' := 1) dX10_says_0 rfl rfl ?_
  refine ev_getr (pc' := 4) dX10_says_1 rfl tf_10_51 sh78 rfl ?_
  refine ev_aload_n (pc' := 5) dX10_says_4 rfl rfl ?_
  refine ev_geti (pc' := 8) (ki := 26) dX10_says_5 rfl tf_10_349 sh78 rfl rfl ?_
  refine ev_iload_n (pc' := 9) dX10_says_8 rfl rfl ?_
  replace h := qbd h; obtain ⟨μ1, hμ1, h⟩ := h
  refine ev_iast (pc' := 10) dX10_says_9 rfl sh91 hμ1 ?_
  refine ev_aload_n (pc' := 11) dX10_says_10 rfl rfl ?_
  refine ev_dup (pc' := 12) dX10_says_11 rfl rfl ?_
  refine ev_geti (pc' := 15) (ki := 26) dX10_says_12 rfl tf_10_349 sh78 rfl rfl ?_
  refine ev_iconst (pc' := 16) dX10_says_15 rfl ?_
  refine ev_iadd (pc' := 17) dX10_says_16 rfl ?_
  replace h := qbd h; obtain ⟨μ2, hμ2, h⟩ := h
  refine ev_puti (pc' := 20) dX10_says_17 rfl tf_10_349 sh78 rfl rfl (qw_9_26 _) rfl hμ2 ?_
  cases h
  exact ev_return dX10_says_20 rfl
set_option maxRecDepth 100000 in
theorem eX10_saysNumberk {Ls t d : Nat} : ∀ (k : Nat) (p0 : Int) (μ r : qMu), fX10_saysNumber k p0 μ = some r → Ev (d + k) mX10_saysNumber 0 [some (.ref 78), some (iv p0)] [] (cS Ls t μ) (.inl none) (cS Ls t r) := by
  intro k
  induction k with
  | zero => intro p0 μ r h; cases h
  | succ k ih =>
    intro p0 μ r h
    unfold fX10_saysNumber at h
    refine ev_iload_n (pc' := 1) dX10_saysNumber_0 rfl rfl ?_
    refine ev_bipush (pc' := 3) dX10_saysNumber_1 rfl bl_9 ?_
    obtain ⟨y2, hy2, h⟩ := qbd h
    have kJ : Ev (d + k + 1) mX10_saysNumber 14 [some (.ref 78), some (iv p0)] [] (cS Ls t y2) (.inl none) (cS Ls t r) := by
      refine ev_aload_n (pc' := 15) dX10_saysNumber_14 rfl rfl ?_
      refine ev_bipush (pc' := 17) dX10_saysNumber_15 rfl bl_48 ?_
      refine ev_iload_n (pc' := 18) dX10_saysNumber_17 rfl rfl ?_
      refine ev_bipush (pc' := 20) dX10_saysNumber_18 rfl bl_10 ?_
      refine ev_irem (pc' := 21) dX10_saysNumber_20 rfl zl_10 ?_
      refine ev_iadd (pc' := 22) dX10_saysNumber_21 rfl ?_
      obtain ⟨y4, hy4, h⟩ := qbd h
      refine ev_callg (pc' := 25) (st2 := []) dX10_saysNumber_22 (qs_V tc_10_355 rfl rfl (cS_cls sh78) rfl) rfl rfl (eX10_says (d := d + k) hy4) rfl rfl ?_
      cases h
      exact ev_return dX10_saysNumber_25 rfl
    replace h := hy2
    clear hy2
    refine ev_icmple (pc' := 6) (tgt := 14) dX10_saysNumber_3 (by decide) rfl (x1 := wr p0) (y1 := 9) rfl wl_9  (fun c1 => ?_) (fun c1 => ?_)
    · replace h := qit c1 h
      refine ev_aload_n (pc' := 7) dX10_saysNumber_6 rfl rfl ?_
      refine ev_iload_n (pc' := 8) dX10_saysNumber_7 rfl rfl ?_
      refine ev_bipush (pc' := 10) dX10_saysNumber_8 rfl bl_10 ?_
      refine ev_idiv (pc' := 11) dX10_saysNumber_10 rfl zl_10 ?_
      obtain ⟨y3, hy3, h⟩ := qbd h
      refine ev_callg (pc' := 14) (st2 := []) dX10_saysNumber_11 (qs_V tc_10_352 rfl rfl (cS_cls sh78) rfl) rfl rfl (ih _ _ _ hy3) rfl rfl ?_
      cases h
      exact ev_wk (qLe_eq (qLe_eq qLe_nil)) kJ
    · replace h := qif' c1 h
      cases h
      exact ev_wk (qLe_eq (qLe_eq qLe_nil)) kJ
theorem eX10_saysNumber {Ls t d : Nat} {p0 : Int} {μ r : qMu} (h : fX10_saysNumber 3 p0 μ = some r) : Ev (d + 3) mX10_saysNumber 0 [some (.ref 78), some (iv p0)] [] (cS Ls t μ) (.inl none) (cS Ls t r) := eX10_saysNumberk 3 p0 μ r h
set_option maxRecDepth 100000 in
theorem eX10_saysEdges {Ls t d : Nat} {p0 : Int} {p1 : Int} {p2 : Int} {μ : qMu} {r : qMu} (h : fX10_saysEdges p0 p1 p2 μ = some r) : Ev (d + 4) mX10_saysEdges 0 [some (.ref 78), some (iv p0), some (iv p1), some (iv p2)] [] (cS Ls t μ) (.inl none) (cS Ls t r) := by
  unfold fX10_saysEdges at h
  refine ev_aload_n (pc' := 1) dX10_saysEdges_0 rfl rfl ?_
  refine ev_geti (pc' := 4) (ki := 26) dX10_saysEdges_1 rfl tf_10_349 sh78 rfl rfl ?_
  replace h := qbd h; obtain ⟨y2, hy2, h⟩ := h
  have kJ : Ev (d + 4) mX10_saysEdges 13 [some (.ref 78), some (iv p0), some (iv p1), some (iv p2)] [] (cS Ls t y2) (.inl none) (cS Ls t r) := by
    refine ev_aload_n (pc' := 14) dX10_saysEdges_13 rfl rfl ?_
    refine ev_iload_n (pc' := 15) dX10_saysEdges_14 rfl rfl ?_
    replace h := qbd h; obtain ⟨y4, hy4, h⟩ := h
    refine ev_callg (pc' := 18) (st2 := []) dX10_saysEdges_15 (qs_V tc_10_352 rfl rfl (cS_cls sh78) rfl) rfl rfl (eX10_saysNumber (d := d + 0) hy4) rfl rfl ?_
    refine ev_aload_n (pc' := 19) dX10_saysEdges_18 rfl rfl ?_
    refine ev_bipush (pc' := 21) dX10_saysEdges_19 rfl bl_45 ?_
    replace h := qbd h; obtain ⟨y5, hy5, h⟩ := h
    refine ev_callg (pc' := 24) (st2 := []) dX10_saysEdges_21 (qs_V tc_10_355 rfl rfl (cS_cls sh78) rfl) rfl rfl (eX10_says (d := d + 3) hy5) rfl rfl ?_
    refine ev_aload_n (pc' := 25) dX10_saysEdges_24 rfl rfl ?_
    refine ev_iload_n (pc' := 26) dX10_saysEdges_25 rfl rfl ?_
    replace h := qbd h; obtain ⟨y6, hy6, h⟩ := h
    refine ev_callg (pc' := 29) (st2 := []) dX10_saysEdges_26 (qs_V tc_10_352 rfl rfl (cS_cls sh78) rfl) rfl rfl (eX10_saysNumber (d := d + 0) hy6) rfl rfl ?_
    refine ev_iload_n (pc' := 30) dX10_saysEdges_29 rfl rfl ?_
    refine ev_iconst (pc' := 31) dX10_saysEdges_30 rfl ?_
    refine ev_icmple (pc' := 34) (tgt := 45) dX10_saysEdges_31 (by decide) rfl (x1 := wr p2) (y1 := 1) rfl wl_1  (fun c7 => ?_) (fun c7 => ?_)
    · replace h := qit c7 h
      refine ev_aload_n (pc' := 35) dX10_saysEdges_34 rfl rfl ?_
      refine ev_bipush (pc' := 37) dX10_saysEdges_35 rfl bl_120 ?_
      replace h := qbd h; obtain ⟨y8, hy8, h⟩ := h
      refine ev_callg (pc' := 40) (st2 := []) dX10_saysEdges_37 (qs_V tc_10_355 rfl rfl (cS_cls sh78) rfl) rfl rfl (eX10_says (d := d + 3) hy8) rfl rfl ?_
      refine ev_aload_n (pc' := 41) dX10_saysEdges_40 rfl rfl ?_
      refine ev_iload_n (pc' := 42) dX10_saysEdges_41 rfl rfl ?_
      replace h := qbd h; obtain ⟨y9, hy9, h⟩ := h
      refine ev_callg (pc' := 45) (st2 := []) dX10_saysEdges_42 (qs_V tc_10_352 rfl rfl (cS_cls sh78) rfl) rfl rfl (eX10_saysNumber (d := d + 0) hy9) rfl rfl ?_
      cases h
      exact ev_return dX10_saysEdges_45 rfl
    · replace h := qif' c7 h
      cases h
      exact ev_return dX10_saysEdges_45 rfl
  replace h := hy2
  clear hy2
  refine ev_ifle (pc' := 7) (tgt := 13) dX10_saysEdges_4 (by decide) rfl (x1 := wr (rd μ 78 26)) rfl (fun c1 => ?_) (fun c1 => ?_)
  · replace h := qit c1 h
    refine ev_aload_n (pc' := 8) dX10_saysEdges_7 rfl rfl ?_
    refine ev_bipush (pc' := 10) dX10_saysEdges_8 rfl bl_32 ?_
    replace h := qbd h; obtain ⟨y3, hy3, h⟩ := h
    refine ev_callg (pc' := 13) (st2 := []) dX10_saysEdges_10 (qs_V tc_10_355 rfl rfl (cS_cls sh78) rfl) rfl rfl (eX10_says (d := d + 3) hy3) rfl rfl ?_
    cases h
    exact ev_wk (qLe_eq (qLe_eq (qLe_eq (qLe_eq qLe_nil)))) kJ
  · replace h := qif' c1 h
    cases h
    exact ev_wk (qLe_eq (qLe_eq (qLe_eq (qLe_eq qLe_nil)))) kJ
set_option maxRecDepth 100000 in
theorem ebX10_write_20 {Ls t d n : Nat} {w1 : Int} {w2 : Int} : ∀ (k : Nat) (x : Int × qMu) (y : qMu), lp (fun x : Int × qMu => bX10_write_20 n w1 w2 x.1 x.2) k x = some y → ∀ (o : qO) (s' : qSt), Ev (d + 5) mX10_write 61 [some (.ref 78), some (iv w1), some (iv w2), none] [] (cS Ls t y) o s' → Ev (d + 5) mX10_write 20 [some (.ref 78), some (iv w1), some (iv w2), some (iv x.1)] [] (cS Ls t x.2) o s' := by
  intro k
  induction k with
  | zero => intro x y h; cases h
  | succ k ih =>
    intro x y h o s' kE
    rw [lp_s] at h
    replace h := qbd h; obtain ⟨zz, h0, h1⟩ := h
    have h : bX10_write_20 n w1 w2 x.1 x.2 = some zz := h0
    clear h0
    unfold bX10_write_20 at h
    refine ev_iload_n (pc' := 21) dX10_write_20 rfl rfl ?_
    refine ev_bipush (pc' := 23) dX10_write_21 rfl bl_8 ?_
    refine ev_icmpge (pc' := 26) (tgt := 61) dX10_write_23 (by decide) rfl (x1 := wr x.1) (y1 := 8) rfl wl_8  (fun c4 => ?_) (fun c4 => ?_)
    · replace h := qit c4 h
      refine ev_aload_n (pc' := 27) dX10_write_26 rfl rfl ?_
      refine ev_iload_n (pc' := 28) dX10_write_27 rfl rfl ?_
      replace h := qbd h; obtain ⟨y5, hy5, h⟩ := h
      refine ev_callg (pc' := 31) (st2 := [iv y5, .ref 78]) dX10_write_28 (qs_S tc_10_206 (by decide) rfl rfl) rfl rfl (eX10_table (d := d + 4) hy5) rfl rfl ?_
      refine ev_iload_n (pc' := 32) dX10_write_31 rfl rfl ?_
      refine ev_iload_n (pc' := 33) dX10_write_32 rfl rfl ?_
      replace h := qbd h; obtain ⟨y6, hy6, h⟩ := h
      refine ev_callg (pc' := 36) (st2 := [iv y6]) dX10_write_33 (qs_V tc_10_68 rfl rfl (cS_cls sh78) rfl) rfl rfl (eX10_many (d := d + 3) hy6) rfl rfl ?_
      replace h := qbd h; obtain ⟨y8, hy8, h⟩ := h
      have kJ : Ev (d + 5) mX10_write 55 [some (.ref 78), some (iv w1), some (iv w2), some (iv x.1)] [] (cS Ls t y8) o s' := by
        refine ev_iinc (pc' := 58) (x := x.1) (L1 := [some (.ref 78), some (iv w1), some (iv w2), some (iv (x.1 + 1))]) dX10_write_55 rfl rfl rfl ?_
        refine ev_goto (pc' := 20) dX10_write_58 (by decide) ?_
        cases h
        exact ev_wk (qLe_eq (qLe_eq (qLe_eq (qLe_eq qLe_nil)))) (ih _ _ h1 _ _ kE)
      replace h := hy8
      clear hy8
      refine ev_ifle (pc' := 39) (tgt := 55) dX10_write_36 (by decide) rfl (x1 := wr y6) rfl (fun c7 => ?_) (fun c7 => ?_)
      · replace h := qit c7 h
        refine ev_aload_n (pc' := 40) dX10_write_39 rfl rfl ?_
        refine ev_iload_n (pc' := 41) dX10_write_40 rfl rfl ?_
        refine ev_iload_n (pc' := 42) dX10_write_41 rfl rfl ?_
        refine ev_aload_n (pc' := 43) dX10_write_42 rfl rfl ?_
        refine ev_iload_n (pc' := 44) dX10_write_43 rfl rfl ?_
        replace h := qbd h; obtain ⟨y9, hy9, h⟩ := h
        refine ev_callg (pc' := 47) (st2 := [iv y9, .ref 78, iv x.1, iv w2, .ref 78]) dX10_write_44 (qs_S tc_10_206 (by decide) rfl rfl) rfl rfl (eX10_table (d := d + 4) hy9) rfl rfl ?_
        refine ev_iload_n (pc' := 48) dX10_write_47 rfl rfl ?_
        refine ev_iload_n (pc' := 49) dX10_write_48 rfl rfl ?_
        replace h := qbd h; obtain ⟨y10, hy10, h⟩ := h
        refine ev_callg (pc' := 52) (st2 := [iv y10, iv x.1, iv w2, .ref 78]) dX10_write_49 (qs_V tc_10_68 rfl rfl (cS_cls sh78) rfl) rfl rfl (eX10_many (d := d + 3) hy10) rfl rfl ?_
        replace h := qbd h; obtain ⟨y11, hy11, h⟩ := h
        refine ev_callg (pc' := 55) (st2 := []) dX10_write_52 (qs_V tc_10_358 rfl rfl (cS_cls sh78) rfl) rfl rfl (eX10_saysEdges (d := d + 0) hy11) rfl rfl ?_
        cases h
        exact ev_wk (qLe_eq (qLe_eq (qLe_eq (qLe_eq qLe_nil)))) kJ
      · replace h := qif' c7 h
        cases h
        exact ev_wk (qLe_eq (qLe_eq (qLe_eq (qLe_eq qLe_nil)))) kJ
    · replace h := qif' c4 h
      cases h
      cases h1
      exact ev_wk (qLe_eq (qLe_eq (qLe_eq (qLe_sk qLe_nil)))) kE
set_option maxRecDepth 100000 in
theorem ebX10_write_12 {Ls t d n : Nat} {w1 : Int} : ∀ (k : Nat) (x : Int × qMu) (y : qMu), lp (fun x : Int × qMu => bX10_write_12 n w1 x.1 x.2) k x = some y → ∀ (o : qO) (s' : qSt), Ev (d + 5) mX10_write 67 [some (.ref 78), none, none, none] [] (cS Ls t y) o s' → Ev (d + 5) mX10_write 12 [some (.ref 78), some (iv w1), some (iv x.1), none] [] (cS Ls t x.2) o s' := by
  intro k
  induction k with
  | zero => intro x y h; cases h
  | succ k ih =>
    intro x y h o s' kE
    rw [lp_s] at h
    replace h := qbd h; obtain ⟨zz, h0, h1⟩ := h
    have h : bX10_write_12 n w1 x.1 x.2 = some zz := h0
    clear h0
    unfold bX10_write_12 at h
    refine ev_iload_n (pc' := 13) dX10_write_12 rfl rfl ?_
    refine ev_bipush (pc' := 15) dX10_write_13 rfl bl_8 ?_
    refine ev_icmpge (pc' := 18) (tgt := 67) dX10_write_15 (by decide) rfl (x1 := wr x.1) (y1 := 8) rfl wl_8  (fun c3 => ?_) (fun c3 => ?_)
    · replace h := qit c3 h
      refine ev_iload_n (pc' := 19) dX10_write_18 rfl rfl ?_
      refine ev_istore_n (pc' := 20) (L1 := [some (.ref 78), some (iv w1), some (iv x.1), some (iv x.1)]) dX10_write_19 rfl rfl ?_
      replace h := qbd h; obtain ⟨y12, hy12, h⟩ := h
      refine ev_wk (qLe_eq (qLe_eq (qLe_eq (qLe_eq qLe_nil)))) (?_ : Ev _ _ _ [some (.ref 78), some (iv w1), some (iv x.1), some (iv x.1)] _ _ _ _)
      refine ebX10_write_20 _ _ _ hy12 _ _ ?_
      refine ev_iinc (pc' := 64) (x := x.1) (L1 := [some (.ref 78), some (iv w1), some (iv (x.1 + 1)), none]) dX10_write_61 rfl rfl rfl ?_
      refine ev_goto (pc' := 12) dX10_write_64 (by decide) ?_
      cases h
      exact ev_wk (qLe_eq (qLe_eq (qLe_eq (qLe_eq qLe_nil)))) (ih _ _ h1 _ _ kE)
    · replace h := qif' c3 h
      cases h
      cases h1
      exact ev_wk (qLe_eq (qLe_sk (qLe_sk (qLe_eq qLe_nil)))) kE
set_option maxRecDepth 100000 in
theorem eX10_write {Ls t d n : Nat} {p0 : Int} {μ : qMu} {r : Int × qMu} (h : fX10_write n p0 μ = some r) : Ev (d + 5) mX10_write 0 [some (.ref 78), some (iv p0), none, none] [] (cS Ls t μ) (.inl (some (iv r.1))) (cS Ls t r.2) := by
  unfold fX10_write at h
  refine ev_aload_n (pc' := 1) dX10_write_0 rfl rfl ?_
  refine ev_iconst (pc' := 2) dX10_write_1 rfl ?_
  replace h := qbd h; obtain ⟨μ1, hμ1, h⟩ := h
  refine ev_puti (pc' := 5) dX10_write_2 rfl tf_10_54 sh78 rfl rfl (qw_9_4 _) rfl hμ1 ?_
  refine ev_aload_n (pc' := 6) dX10_write_5 rfl rfl ?_
  refine ev_iconst (pc' := 7) dX10_write_6 rfl ?_
  replace h := qbd h; obtain ⟨μ2, hμ2, h⟩ := h
  refine ev_puti (pc' := 10) dX10_write_7 rfl tf_10_349 sh78 rfl rfl (qw_9_26 _) rfl hμ2 ?_
  refine ev_iconst (pc' := 11) dX10_write_10 rfl ?_
  refine ev_istore_n (pc' := 12) (L1 := [some (.ref 78), some (iv p0), some (iv 0), none]) dX10_write_11 rfl rfl ?_
  replace h := qbd h; obtain ⟨y13, hy13, h⟩ := h
  refine ev_wk (qLe_eq (qLe_eq (qLe_eq (qLe_eq qLe_nil)))) (?_ : Ev _ _ _ [some (.ref 78), some (iv p0), some (iv 0), none] _ _ _ _)
  refine ebX10_write_12 _ _ _ hy13 _ _ ?_
  refine ev_aload_n (pc' := 68) dX10_write_67 rfl rfl ?_
  refine ev_geti (pc' := 71) (ki := 26) dX10_write_68 rfl tf_10_349 sh78 rfl rfl ?_
  cases h
  exact ev_ireturn dX10_write_71 rfl rfl
set_option maxRecDepth 100000 in
theorem eX10_written {Ls t d : Nat} {p0 : Int} {μ : qMu} {r : Int × qMu} (h : fX10_written p0 μ = some r) : Ev (d + 1) mX10_written 0 [some (.ref 78), some (iv p0)] [] (cS Ls t μ) (.inl (some (iv r.1))) (cS Ls t r.2) := by
  unfold fX10_written at h
  refine ev_aload_n (pc' := 1) dX10_written_0 rfl rfl ?_
  refine ev_iload_n (pc' := 2) dX10_written_1 rfl rfl ?_
  refine ev_iconst (pc' := 3) dX10_written_2 rfl ?_
  refine ev_aload_n (pc' := 4) dX10_written_3 rfl rfl ?_
  refine ev_geti (pc' := 7) (ki := 26) dX10_written_4 rfl tf_10_349 sh78 rfl rfl ?_
  refine ev_iconst (pc' := 8) dX10_written_7 rfl ?_
  refine ev_isub (pc' := 9) dX10_written_8 rfl ?_
  replace h := qbd h; obtain ⟨y1, hy1, h⟩ := h
  refine ev_callg (pc' := 12) (st2 := [iv y1, .ref 78]) dX10_written_9 (qs_S tc_10_128 (by decide) rfl rfl) rfl rfl (eX10_isIn (d := d + 0) hy1) rfl rfl ?_
  replace h := qbd h; obtain ⟨y2, hy2, h⟩ := h
  refine ev_callg (pc' := 15) (st2 := [iv y2.1]) dX10_written_12 (qs_V tc_10_188 rfl rfl (cS_cls sh78) rfl) rfl rfl (eX10_good (d := d + 0) hy2) rfl rfl ?_
  refine ev_ifeq (pc' := 18) (tgt := 28) dX10_written_15 (by decide) rfl (x1 := wr y2.1) rfl (fun c3 => ?_) (fun c3 => ?_)
  · replace h := qit c3 h
    refine ev_iconst (pc' := 29) dX10_written_28 rfl ?_
    cases h
    exact ev_ireturn dX10_written_29 rfl rfl
  · replace h := qif' c3 h
    refine ev_aload_n (pc' := 19) dX10_written_18 rfl rfl ?_
    refine ev_getr (pc' := 22) dX10_written_19 rfl tf_10_51 sh78 rfl ?_
    refine ev_iload_n (pc' := 23) dX10_written_22 rfl rfl ?_
    replace h := qbd h; obtain ⟨x4, hx4, h⟩ := h
    refine ev_iald (pc' := 24) dX10_written_23 rfl sh91 hx4 ?_
    refine ev_i2c (pc' := 25) dX10_written_24 rfl ?_
    refine ev_goto (pc' := 29) dX10_written_25 (by decide) ?_
    replace h := qbd h; obtain ⟨x5, hx5, h⟩ := h
    obtain ⟨ex5, nx5⟩ := qch_n hx5
    subst ex5
    cases h
    exact ev_ireturn dX10_written_29 rfl nx5
set_option maxRecDepth 100000 in
theorem eL_load {Ls t d n : Nat} {p1 : Int} {μ : qMu} {r : Int × qMu} (h : fL_load n p1 μ = some r) : Ev (d + 8) mL_load 0 [some (.ref 0), some (iv p1), some (.ref 92), none] [] (cS Ls t μ) (.inl (some (iv r.1))) (cS Ls (qTw t r.1) r.2) := by
  unfold fL_load at h
  refine ev_aload_n (pc' := 1) dL_load_0 rfl rfl ?_
  refine ev_iconst (pc' := 2) dL_load_1 rfl ?_
  refine ev_aload_n (pc' := 3) dL_load_2 rfl rfl ?_
  refine ev_iload_n (pc' := 4) dL_load_3 rfl rfl ?_
  replace h := qbd h; obtain ⟨y1, hy1, h⟩ := h
  have hcy1 := eX9_load (d := d + 0) (Ls := Ls) (t := t) hy1
  obtain ⟨y1v, μ5⟩ := y1
  rcases y1v with v3 | E4
  · refine ev_callg (pc' := 7) (st2 := [iv v3, iv 0, .ref 92]) (s1 := cS Ls t μ5) dL_load_4 (qs_V tc_11_7 rfl rfl (cS_cls sh0) rfl) rfl rfl hcy1 rfl rfl ?_
    replace h := qel h
    refine ev_i2l (pc' := 8) dL_load_7 rfl ?_
    replace h := qbd h; obtain ⟨μ6, hμ6, h⟩ := h
    refine ev_last (pc' := 9) dL_load_8 rfl sh92 hμ6 ?_
    refine ev_goto (pc' := 15) dL_load_9 (by decide) ?_
    refine ev_iconst (pc' := 16) dL_load_15 rfl ?_
    cases h
    exact ev_ireturn dL_load_16 rfl rfl
  · replace h := qer h
    by_cases c7 : E4 = 1
    · subst c7
      replace h := qit rfl h
      refine ev_callhn (pc' := 13) (hpc := 12) (L1 := [some (.ref 0), some (iv p1), some (.ref 92), none]) dL_load_4 (qs_V tc_11_7 rfl rfl (cS_cls sh0) rfl) rfl hcy1 rfl rfl (qh_L_load_4_1) dL_load_12 (Nat.le_of_ble_eq_true rfl) rfl rfl ?_
      refine ev_iconst (pc' := 14) dL_load_13 rfl ?_
      cases h
      exact ev_ireturn dL_load_14 rfl rfl
    · replace h := qif' c7 h
      cases h
set_option maxRecDepth 100000 in
theorem eL_times {Ls t d : Nat} {p1 : Int} {p2 : Int} {p3 : Int} {μ : qMu} {r : Int × qMu} (h : fL_times p1 p2 p3 μ = some r) : Ev (d + 3) mL_times 0 [some (.ref 0), some (iv p1), some (iv p2), some (iv p3), some (.ref 92), none] [] (cS Ls t μ) (.inl (some (iv r.1))) (cS Ls (qTw t r.1) r.2) := by
  unfold fL_times at h
  refine ev_aload (pc' := 2) dL_times_0 rfl rfl ?_
  refine ev_iconst (pc' := 3) dL_times_2 rfl ?_
  refine ev_aload_n (pc' := 4) dL_times_3 rfl rfl ?_
  refine ev_iload_n (pc' := 5) dL_times_4 rfl rfl ?_
  refine ev_iload_n (pc' := 6) dL_times_5 rfl rfl ?_
  refine ev_iload_n (pc' := 7) dL_times_6 rfl rfl ?_
  replace h := qbd h; obtain ⟨y1, hy1, h⟩ := h
  have hcy1 := eX9_times (d := d + 0) (Ls := Ls) (t := t) hy1
  rcases y1 with v3 | E4
  · refine ev_callg (pc' := 10) (st2 := [iv v3, iv 0, .ref 92]) (s1 := cS Ls t μ) dL_times_7 (qs_V tc_11_15 rfl rfl (cS_cls sh0) rfl) rfl rfl hcy1 rfl rfl ?_
    replace h := qel h
    refine ev_i2l (pc' := 11) dL_times_10 rfl ?_
    replace h := qbd h; obtain ⟨μ5, hμ5, h⟩ := h
    refine ev_last (pc' := 12) dL_times_11 rfl sh92 hμ5 ?_
    refine ev_goto (pc' := 19) dL_times_12 (by decide) ?_
    refine ev_iconst (pc' := 20) dL_times_19 rfl ?_
    cases h
    exact ev_ireturn dL_times_20 rfl rfl
  · replace h := qer h
    by_cases c6 : E4 = 0
    · subst c6
      replace h := qit rfl h
      refine ev_callh (pc' := 17) (hpc := 15) (L1 := [some (.ref 0), some (iv p1), some (iv p2), some (iv p3), some (.ref 92), none]) dL_times_7 (qs_V tc_11_15 rfl rfl (cS_cls sh0) rfl) rfl hcy1 rfl rfl (qh_L_times_7_0) dL_times_15 (Nat.le_of_ble_eq_true rfl) rfl rfl ?_
      refine ev_iconst (pc' := 18) dL_times_17 rfl ?_
      cases h
      exact ev_ireturn dL_times_18 rfl rfl
    · replace h := qif' c6 h
      cases h
set_option maxRecDepth 100000 in
theorem eL_degree {Ls t d n : Nat} {p1 : Int} {p2 : Int} {μ : qMu} {r : Int × qMu} (h : fL_degree n p1 p2 μ = some r) : Ev (d + 3) mL_degree 0 [some (.ref 0), some (iv p1), some (iv p2), some (.ref 92), none] [] (cS Ls t μ) (.inl (some (iv r.1))) (cS Ls (qTw t r.1) r.2) := by
  unfold fL_degree at h
  refine ev_aload_n (pc' := 1) dL_degree_0 rfl rfl ?_
  refine ev_iconst (pc' := 2) dL_degree_1 rfl ?_
  refine ev_aload_n (pc' := 3) dL_degree_2 rfl rfl ?_
  refine ev_iload_n (pc' := 4) dL_degree_3 rfl rfl ?_
  refine ev_iload_n (pc' := 5) dL_degree_4 rfl rfl ?_
  replace h := qbd h; obtain ⟨y1, hy1, h⟩ := h
  have hcy1 := eX9_degree (d := d + 0) (Ls := Ls) (t := t) hy1
  rcases y1 with v3 | E4
  · refine ev_callg (pc' := 8) (st2 := [iv v3, iv 0, .ref 92]) (s1 := cS Ls t μ) dL_degree_5 (qs_V tc_11_21 rfl rfl (cS_cls sh0) rfl) rfl rfl hcy1 rfl rfl ?_
    replace h := qel h
    refine ev_i2l (pc' := 9) dL_degree_8 rfl ?_
    replace h := qbd h; obtain ⟨μ5, hμ5, h⟩ := h
    refine ev_last (pc' := 10) dL_degree_9 rfl sh92 hμ5 ?_
    refine ev_goto (pc' := 17) dL_degree_10 (by decide) ?_
    refine ev_iconst (pc' := 18) dL_degree_17 rfl ?_
    cases h
    exact ev_ireturn dL_degree_18 rfl rfl
  · replace h := qer h
    by_cases c6 : E4 = 0
    · subst c6
      replace h := qit rfl h
      refine ev_callh (pc' := 15) (hpc := 13) (L1 := [some (.ref 0), some (iv p1), some (iv p2), some (.ref 92), none]) dL_degree_5 (qs_V tc_11_21 rfl rfl (cS_cls sh0) rfl) rfl hcy1 rfl rfl (qh_L_degree_5_0) dL_degree_13 (Nat.le_of_ble_eq_true rfl) rfl rfl ?_
      refine ev_iconst (pc' := 16) dL_degree_15 rfl ?_
      cases h
      exact ev_ireturn dL_degree_16 rfl rfl
    · replace h := qif' c6 h
      cases h
set_option maxRecDepth 100000 in
theorem eL_neighbours {Ls t d n : Nat} {p1 : Int} {μ : qMu} {r : Int × qMu} (h : fL_neighbours n p1 μ = some r) : Ev (d + 3) mL_neighbours 0 [some (.ref 0), some (iv p1), some (.ref 92), none] [] (cS Ls t μ) (.inl (some (iv r.1))) (cS Ls (qTw t r.1) r.2) := by
  unfold fL_neighbours at h
  refine ev_aload_n (pc' := 1) dL_neighbours_0 rfl rfl ?_
  refine ev_iconst (pc' := 2) dL_neighbours_1 rfl ?_
  refine ev_aload_n (pc' := 3) dL_neighbours_2 rfl rfl ?_
  refine ev_iload_n (pc' := 4) dL_neighbours_3 rfl rfl ?_
  replace h := qbd h; obtain ⟨y1, hy1, h⟩ := h
  have hcy1 := eX9_neighbours (d := d + 0) (Ls := Ls) (t := t) hy1
  rcases y1 with v3 | E4
  · refine ev_callg (pc' := 7) (st2 := [iv v3, iv 0, .ref 92]) (s1 := cS Ls t μ) dL_neighbours_4 (qs_V tc_11_25 rfl rfl (cS_cls sh0) rfl) rfl rfl hcy1 rfl rfl ?_
    replace h := qel h
    refine ev_i2l (pc' := 8) dL_neighbours_7 rfl ?_
    replace h := qbd h; obtain ⟨μ5, hμ5, h⟩ := h
    refine ev_last (pc' := 9) dL_neighbours_8 rfl sh92 hμ5 ?_
    refine ev_goto (pc' := 15) dL_neighbours_9 (by decide) ?_
    refine ev_iconst (pc' := 16) dL_neighbours_15 rfl ?_
    cases h
    exact ev_ireturn dL_neighbours_16 rfl rfl
  · replace h := qer h
    by_cases c6 : E4 = 0
    · subst c6
      replace h := qit rfl h
      refine ev_callhn (pc' := 13) (hpc := 12) (L1 := [some (.ref 0), some (iv p1), some (.ref 92), none]) dL_neighbours_4 (qs_V tc_11_25 rfl rfl (cS_cls sh0) rfl) rfl hcy1 rfl rfl (qh_L_neighbours_4_0) dL_neighbours_12 (Nat.le_of_ble_eq_true rfl) rfl rfl ?_
      refine ev_iconst (pc' := 14) dL_neighbours_13 rfl ?_
      cases h
      exact ev_ireturn dL_neighbours_14 rfl rfl
    · replace h := qif' c6 h
      cases h
set_option maxRecDepth 100000 in
theorem eL_component {Ls t d n : Nat} {p1 : Int} {μ : qMu} {r : Int × qMu} (h : fL_component n p1 μ = some r) : Ev (d + 3) mL_component 0 [some (.ref 0), some (iv p1), some (.ref 92), none] [] (cS Ls t μ) (.inl (some (iv r.1))) (cS Ls (qTw t r.1) r.2) := by
  unfold fL_component at h
  refine ev_aload_n (pc' := 1) dL_component_0 rfl rfl ?_
  refine ev_iconst (pc' := 2) dL_component_1 rfl ?_
  refine ev_aload_n (pc' := 3) dL_component_2 rfl rfl ?_
  refine ev_iload_n (pc' := 4) dL_component_3 rfl rfl ?_
  replace h := qbd h; obtain ⟨y1, hy1, h⟩ := h
  have hcy1 := eX9_component (d := d + 0) (Ls := Ls) (t := t) hy1
  obtain ⟨y1v, μ5⟩ := y1
  rcases y1v with v3 | E4
  · refine ev_callg (pc' := 7) (st2 := [iv v3, iv 0, .ref 92]) (s1 := cS Ls t μ5) dL_component_4 (qs_V tc_11_28 rfl rfl (cS_cls sh0) rfl) rfl rfl hcy1 rfl rfl ?_
    replace h := qel h
    refine ev_i2l (pc' := 8) dL_component_7 rfl ?_
    replace h := qbd h; obtain ⟨μ6, hμ6, h⟩ := h
    refine ev_last (pc' := 9) dL_component_8 rfl sh92 hμ6 ?_
    refine ev_goto (pc' := 15) dL_component_9 (by decide) ?_
    refine ev_iconst (pc' := 16) dL_component_15 rfl ?_
    cases h
    exact ev_ireturn dL_component_16 rfl rfl
  · replace h := qer h
    by_cases c7 : E4 = 0
    · subst c7
      replace h := qit rfl h
      refine ev_callhn (pc' := 13) (hpc := 12) (L1 := [some (.ref 0), some (iv p1), some (.ref 92), none]) dL_component_4 (qs_V tc_11_28 rfl rfl (cS_cls sh0) rfl) rfl hcy1 rfl rfl (qh_L_component_4_0) dL_component_12 (Nat.le_of_ble_eq_true rfl) rfl rfl ?_
      refine ev_iconst (pc' := 14) dL_component_13 rfl ?_
      cases h
      exact ev_ireturn dL_component_14 rfl rfl
    · replace h := qif' c7 h
      cases h
set_option maxRecDepth 100000 in
theorem eL_isBridge {Ls t d n : Nat} {p1 : Int} {p2 : Int} {μ : qMu} {r : Int × qMu} (h : fL_isBridge n p1 p2 μ = some r) : Ev (d + 4) mL_isBridge 0 [some (.ref 0), some (iv p1), some (iv p2), some (.ref 92), none] [] (cS Ls t μ) (.inl (some (iv r.1))) (cS Ls (qTw t r.1) r.2) := by
  unfold fL_isBridge at h
  refine ev_aload_n (pc' := 1) dL_isBridge_0 rfl rfl ?_
  refine ev_iconst (pc' := 2) dL_isBridge_1 rfl ?_
  refine ev_aload_n (pc' := 3) dL_isBridge_2 rfl rfl ?_
  refine ev_iload_n (pc' := 4) dL_isBridge_3 rfl rfl ?_
  refine ev_iload_n (pc' := 5) dL_isBridge_4 rfl rfl ?_
  replace h := qbd h; obtain ⟨y1, hy1, h⟩ := h
  have hcy1 := eX9_isBridge (d := d + 0) (Ls := Ls) (t := t) hy1
  obtain ⟨y1v, μ5⟩ := y1
  rcases y1v with v3 | E4
  · refine ev_callg (pc' := 8) (st2 := [iv v3, iv 0, .ref 92]) (s1 := cS Ls t μ5) dL_isBridge_5 (qs_V tc_11_31 rfl rfl (cS_cls sh0) rfl) rfl rfl hcy1 rfl rfl ?_
    replace h := qel h
    have k7 : ∀ j8 : Int, j8 = (if wr v3 = 0 then 0 else 1) → Ev (d + 4) mL_isBridge 16 [none, none, none, none, none] [ql j8, iv 0, .ref 92] (cS Ls t μ5) (.inl (some (iv r.1))) (cS Ls (qTw t r.1) r.2) := by
      intro j8 ej8
      subst ej8
      replace h := qbd h; obtain ⟨μ9, hμ9, h⟩ := h
      refine ev_last (pc' := 17) dL_isBridge_16 rfl sh92 hμ9 ?_
      refine ev_goto (pc' := 28) dL_isBridge_17 (by decide) ?_
      refine ev_iconst (pc' := 29) dL_isBridge_28 rfl ?_
      cases h
      exact ev_ireturn dL_isBridge_29 rfl rfl
    refine ev_ifeq (pc' := 11) (tgt := 15) dL_isBridge_8 (by decide) rfl (x1 := wr v3) rfl (fun c6 => ?_) (fun c6 => ?_)
    · skip
      refine ev_lconst0 (pc' := 16) dL_isBridge_15 rfl ?_
      exact ev_wk (qLe_sk (qLe_sk (qLe_sk (qLe_sk (qLe_eq qLe_nil))))) (k7 _ (qet c6 rfl))
    · skip
      refine ev_lconst1 (pc' := 12) dL_isBridge_11 rfl ?_
      refine ev_goto (pc' := 16) dL_isBridge_12 (by decide) ?_
      exact ev_wk (qLe_sk (qLe_sk (qLe_sk (qLe_sk (qLe_eq qLe_nil))))) (k7 _ (qef c6 rfl))
  · replace h := qer h
    by_cases c11 : E4 = 0
    · subst c11
      replace h := qit rfl h
      refine ev_callh (pc' := 22) (hpc := 20) (L1 := [some (.ref 0), some (iv p1), some (iv p2), some (.ref 92), none]) dL_isBridge_5 (qs_V tc_11_31 rfl rfl (cS_cls sh0) rfl) rfl hcy1 rfl rfl (qh_L_isBridge_5_0) dL_isBridge_20 (Nat.le_of_ble_eq_true rfl) rfl rfl ?_
      refine ev_iconst (pc' := 23) dL_isBridge_22 rfl ?_
      cases h
      exact ev_ireturn dL_isBridge_23 rfl rfl
    · replace h := qif' c11 h
      by_cases c10 : E4 = 2
      · subst c10
        replace h := qit rfl h
        refine ev_callh (pc' := 26) (hpc := 24) (L1 := [some (.ref 0), some (iv p1), some (iv p2), some (.ref 92), none]) dL_isBridge_5 (qs_V tc_11_31 rfl rfl (cS_cls sh0) rfl) rfl hcy1 rfl rfl (qh_L_isBridge_5_2) dL_isBridge_24 (Nat.le_of_ble_eq_true rfl) rfl rfl ?_
        refine ev_iconst (pc' := 27) dL_isBridge_26 rfl ?_
        cases h
        exact ev_ireturn dL_isBridge_27 rfl rfl
      · replace h := qif' c10 h
        cases h
set_option maxRecDepth 100000 in
theorem eL_way {Ls t d n : Nat} {p1 : Int} {p2 : Int} {μ : qMu} {r : Int × qMu} (h : fL_way n p1 p2 μ = some r) : Ev (d + 4) mL_way 0 [some (.ref 0), some (iv p1), some (iv p2), some (.ref 92), none] [] (cS Ls t μ) (.inl (some (iv r.1))) (cS Ls (qTw t r.1) r.2) := by
  unfold fL_way at h
  refine ev_aload_n (pc' := 1) dL_way_0 rfl rfl ?_
  refine ev_iconst (pc' := 2) dL_way_1 rfl ?_
  refine ev_aload_n (pc' := 3) dL_way_2 rfl rfl ?_
  refine ev_iload_n (pc' := 4) dL_way_3 rfl rfl ?_
  refine ev_iload_n (pc' := 5) dL_way_4 rfl rfl ?_
  replace h := qbd h; obtain ⟨y1, hy1, h⟩ := h
  have hcy1 := eX9_way (d := d + 0) (Ls := Ls) (t := t) hy1
  obtain ⟨y1v, μ5⟩ := y1
  rcases y1v with v3 | E4
  · refine ev_callg (pc' := 8) (st2 := [iv v3, iv 0, .ref 92]) (s1 := cS Ls t μ5) dL_way_5 (qs_V tc_11_37 rfl rfl (cS_cls sh0) rfl) rfl rfl hcy1 rfl rfl ?_
    replace h := qel h
    refine ev_i2l (pc' := 9) dL_way_8 rfl ?_
    replace h := qbd h; obtain ⟨μ6, hμ6, h⟩ := h
    refine ev_last (pc' := 10) dL_way_9 rfl sh92 hμ6 ?_
    refine ev_goto (pc' := 17) dL_way_10 (by decide) ?_
    refine ev_iconst (pc' := 18) dL_way_17 rfl ?_
    cases h
    exact ev_ireturn dL_way_18 rfl rfl
  · replace h := qer h
    by_cases c7 : E4 = 0
    · subst c7
      replace h := qit rfl h
      refine ev_callh (pc' := 15) (hpc := 13) (L1 := [some (.ref 0), some (iv p1), some (iv p2), some (.ref 92), none]) dL_way_5 (qs_V tc_11_37 rfl rfl (cS_cls sh0) rfl) rfl hcy1 rfl rfl (qh_L_way_5_0) dL_way_13 (Nat.le_of_ble_eq_true rfl) rfl rfl ?_
      refine ev_iconst (pc' := 16) dL_way_15 rfl ?_
      cases h
      exact ev_ireturn dL_way_16 rfl rfl
    · replace h := qif' c7 h
      cases h
set_option maxRecDepth 100000 in
theorem eL_sorted {Ls t d n : Nat} {p1 : Int} {μ : qMu} {r : Int × qMu} (h : fL_sorted n p1 μ = some r) : Ev (d + 4) mL_sorted 0 [some (.ref 0), some (iv p1), some (.ref 92), none] [] (cS Ls t μ) (.inl (some (iv r.1))) (cS Ls (qTw t r.1) r.2) := by
  unfold fL_sorted at h
  refine ev_aload_n (pc' := 1) dL_sorted_0 rfl rfl ?_
  refine ev_iconst (pc' := 2) dL_sorted_1 rfl ?_
  refine ev_aload_n (pc' := 3) dL_sorted_2 rfl rfl ?_
  refine ev_iload_n (pc' := 4) dL_sorted_3 rfl rfl ?_
  replace h := qbd h; obtain ⟨y1, hy1, h⟩ := h
  have hcy1 := eX9_sorted (d := d + 0) (Ls := Ls) (t := t) hy1
  obtain ⟨y1v, μ5⟩ := y1
  rcases y1v with v3 | E4
  · refine ev_callg (pc' := 7) (st2 := [iv v3, iv 0, .ref 92]) (s1 := cS Ls t μ5) dL_sorted_4 (qs_V tc_11_41 rfl rfl (cS_cls sh0) rfl) rfl rfl hcy1 rfl rfl ?_
    replace h := qel h
    refine ev_i2l (pc' := 8) dL_sorted_7 rfl ?_
    replace h := qbd h; obtain ⟨μ6, hμ6, h⟩ := h
    refine ev_last (pc' := 9) dL_sorted_8 rfl sh92 hμ6 ?_
    refine ev_goto (pc' := 15) dL_sorted_9 (by decide) ?_
    refine ev_iconst (pc' := 16) dL_sorted_15 rfl ?_
    cases h
    exact ev_ireturn dL_sorted_16 rfl rfl
  · replace h := qer h
    by_cases c7 : E4 = 0
    · subst c7
      replace h := qit rfl h
      refine ev_callhn (pc' := 13) (hpc := 12) (L1 := [some (.ref 0), some (iv p1), some (.ref 92), none]) dL_sorted_4 (qs_V tc_11_41 rfl rfl (cS_cls sh0) rfl) rfl hcy1 rfl rfl (qh_L_sorted_4_0) dL_sorted_12 (Nat.le_of_ble_eq_true rfl) rfl rfl ?_
      refine ev_iconst (pc' := 14) dL_sorted_13 rfl ?_
      cases h
      exact ev_ireturn dL_sorted_14 rfl rfl
    · replace h := qif' c7 h
      cases h
set_option maxRecDepth 100000 in
theorem eL_slack {Ls t d n : Nat} {p1 : Int} {μ : qMu} {r : Int × qMu} (h : fL_slack n p1 μ = some r) : Ev (d + 4) mL_slack 0 [some (.ref 0), some (iv p1), some (.ref 92), none] [] (cS Ls t μ) (.inl (some (iv r.1))) (cS Ls (qTw t r.1) r.2) := by
  unfold fL_slack at h
  refine ev_aload_n (pc' := 1) dL_slack_0 rfl rfl ?_
  refine ev_iconst (pc' := 2) dL_slack_1 rfl ?_
  refine ev_aload_n (pc' := 3) dL_slack_2 rfl rfl ?_
  refine ev_iload_n (pc' := 4) dL_slack_3 rfl rfl ?_
  replace h := qbd h; obtain ⟨y1, hy1, h⟩ := h
  have hcy1 := eX9_slack (d := d + 0) (Ls := Ls) (t := t) hy1
  obtain ⟨y1v, μ5⟩ := y1
  rcases y1v with v3 | E4
  · refine ev_callg (pc' := 7) (st2 := [iv v3, iv 0, .ref 92]) (s1 := cS Ls t μ5) dL_slack_4 (qs_V tc_11_44 rfl rfl (cS_cls sh0) rfl) rfl rfl hcy1 rfl rfl ?_
    replace h := qel h
    refine ev_i2l (pc' := 8) dL_slack_7 rfl ?_
    replace h := qbd h; obtain ⟨μ6, hμ6, h⟩ := h
    refine ev_last (pc' := 9) dL_slack_8 rfl sh92 hμ6 ?_
    refine ev_goto (pc' := 15) dL_slack_9 (by decide) ?_
    refine ev_iconst (pc' := 16) dL_slack_15 rfl ?_
    cases h
    exact ev_ireturn dL_slack_16 rfl rfl
  · replace h := qer h
    by_cases c7 : E4 = 0
    · subst c7
      replace h := qit rfl h
      refine ev_callhn (pc' := 13) (hpc := 12) (L1 := [some (.ref 0), some (iv p1), some (.ref 92), none]) dL_slack_4 (qs_V tc_11_44 rfl rfl (cS_cls sh0) rfl) rfl hcy1 rfl rfl (qh_L_slack_4_0) dL_slack_12 (Nat.le_of_ble_eq_true rfl) rfl rfl ?_
      refine ev_iconst (pc' := 14) dL_slack_13 rfl ?_
      cases h
      exact ev_ireturn dL_slack_14 rfl rfl
    · replace h := qif' c7 h
      cases h
set_option maxRecDepth 100000 in
theorem eL_isPossible {Ls t d n : Nat} {p1 : Int} {μ : qMu} {r : Int × qMu} (h : fL_isPossible n p1 μ = some r) : Ev (d + 4) mL_isPossible 0 [some (.ref 0), some (iv p1), some (.ref 92), none] [] (cS Ls t μ) (.inl (some (iv r.1))) (cS Ls (qTw t r.1) r.2) := by
  unfold fL_isPossible at h
  refine ev_aload_n (pc' := 1) dL_isPossible_0 rfl rfl ?_
  refine ev_iconst (pc' := 2) dL_isPossible_1 rfl ?_
  refine ev_aload_n (pc' := 3) dL_isPossible_2 rfl rfl ?_
  refine ev_iload_n (pc' := 4) dL_isPossible_3 rfl rfl ?_
  replace h := qbd h; obtain ⟨y1, hy1, h⟩ := h
  have hcy1 := eX9_isPossible (d := d + 0) (Ls := Ls) (t := t) hy1
  obtain ⟨y1v, μ5⟩ := y1
  rcases y1v with v3 | E4
  · refine ev_callg (pc' := 7) (st2 := [iv v3, iv 0, .ref 92]) (s1 := cS Ls t μ5) dL_isPossible_4 (qs_V tc_11_47 rfl rfl (cS_cls sh0) rfl) rfl rfl hcy1 rfl rfl ?_
    replace h := qel h
    have k7 : ∀ j8 : Int, j8 = (if wr v3 = 0 then 0 else 1) → Ev (d + 4) mL_isPossible 15 [none, none, none, none] [ql j8, iv 0, .ref 92] (cS Ls t μ5) (.inl (some (iv r.1))) (cS Ls (qTw t r.1) r.2) := by
      intro j8 ej8
      subst ej8
      replace h := qbd h; obtain ⟨μ9, hμ9, h⟩ := h
      refine ev_last (pc' := 16) dL_isPossible_15 rfl sh92 hμ9 ?_
      refine ev_goto (pc' := 22) dL_isPossible_16 (by decide) ?_
      refine ev_iconst (pc' := 23) dL_isPossible_22 rfl ?_
      cases h
      exact ev_ireturn dL_isPossible_23 rfl rfl
    refine ev_ifeq (pc' := 10) (tgt := 14) dL_isPossible_7 (by decide) rfl (x1 := wr v3) rfl (fun c6 => ?_) (fun c6 => ?_)
    · skip
      refine ev_lconst0 (pc' := 15) dL_isPossible_14 rfl ?_
      exact ev_wk (qLe_sk (qLe_sk (qLe_sk (qLe_eq qLe_nil)))) (k7 _ (qet c6 rfl))
    · skip
      refine ev_lconst1 (pc' := 11) dL_isPossible_10 rfl ?_
      refine ev_goto (pc' := 15) dL_isPossible_11 (by decide) ?_
      exact ev_wk (qLe_sk (qLe_sk (qLe_sk (qLe_eq qLe_nil)))) (k7 _ (qef c6 rfl))
  · replace h := qer h
    by_cases c10 : E4 = 1
    · subst c10
      replace h := qit rfl h
      refine ev_callhn (pc' := 20) (hpc := 19) (L1 := [some (.ref 0), some (iv p1), some (.ref 92), none]) dL_isPossible_4 (qs_V tc_11_47 rfl rfl (cS_cls sh0) rfl) rfl hcy1 rfl rfl (qh_L_isPossible_4_1) dL_isPossible_19 (Nat.le_of_ble_eq_true rfl) rfl rfl ?_
      refine ev_iconst (pc' := 21) dL_isPossible_20 rfl ?_
      cases h
      exact ev_ireturn dL_isPossible_21 rfl rfl
    · replace h := qif' c10 h
      cases h
set_option maxRecDepth 100000 in
theorem eL_reason {Ls t d : Nat} {p1 : Int} {p2 : Int} {p3 : Int} {p4 : Int} {μ : qMu} {r : Int × qMu} (h : fL_reason p1 p2 p3 p4 μ = some r) : Ev (d + 4) mL_reason 0 [some (.ref 0), some (iv p1), some (iv p2), some (iv p3), some (iv p4), some (.ref 92), none] [] (cS Ls t μ) (.inl (some (iv r.1))) (cS Ls (qTw t r.1) r.2) := by
  unfold fL_reason at h
  refine ev_aload (pc' := 2) dL_reason_0 rfl rfl ?_
  refine ev_iconst (pc' := 3) dL_reason_2 rfl ?_
  refine ev_aload_n (pc' := 4) dL_reason_3 rfl rfl ?_
  refine ev_iload_n (pc' := 5) dL_reason_4 rfl rfl ?_
  refine ev_iload_n (pc' := 6) dL_reason_5 rfl rfl ?_
  refine ev_iload_n (pc' := 7) dL_reason_6 rfl rfl ?_
  refine ev_iload (pc' := 9) dL_reason_7 rfl rfl ?_
  replace h := qbd h; obtain ⟨y1, hy1, h⟩ := h
  have hcy1 := eX9_reason (d := d + 0) (Ls := Ls) (t := t) hy1
  rcases y1 with v3 | E4
  · refine ev_callg (pc' := 12) (st2 := [iv v3, iv 0, .ref 92]) (s1 := cS Ls t μ) dL_reason_9 (qs_V tc_11_51 rfl rfl (cS_cls sh0) rfl) rfl rfl hcy1 rfl rfl ?_
    replace h := qel h
    refine ev_i2l (pc' := 13) dL_reason_12 rfl ?_
    replace h := qbd h; obtain ⟨μ5, hμ5, h⟩ := h
    refine ev_last (pc' := 14) dL_reason_13 rfl sh92 hμ5 ?_
    refine ev_goto (pc' := 21) dL_reason_14 (by decide) ?_
    refine ev_iconst (pc' := 22) dL_reason_21 rfl ?_
    cases h
    exact ev_ireturn dL_reason_22 rfl rfl
  · replace h := qer h
    by_cases c6 : E4 = 0
    · subst c6
      replace h := qit rfl h
      refine ev_callh (pc' := 19) (hpc := 17) (L1 := [some (.ref 0), some (iv p1), some (iv p2), some (iv p3), some (iv p4), some (.ref 92), none]) dL_reason_9 (qs_V tc_11_51 rfl rfl (cS_cls sh0) rfl) rfl hcy1 rfl rfl (qh_L_reason_9_0) dL_reason_17 (Nat.le_of_ble_eq_true rfl) rfl rfl ?_
      refine ev_iconst (pc' := 20) dL_reason_19 rfl ?_
      cases h
      exact ev_ireturn dL_reason_20 rfl rfl
    · replace h := qif' c6 h
      cases h
set_option maxRecDepth 100000 in
theorem eL_switchAt {Ls t d n : Nat} {p1 : Int} {p2 : Int} {μ : qMu} {r : Int × qMu} (h : fL_switchAt n p1 p2 μ = some r) : Ev (d + 5) mL_switchAt 0 [some (.ref 0), some (iv p1), some (iv p2), some (.ref 92), none] [] (cS Ls t μ) (.inl (some (iv r.1))) (cS Ls (qTw t r.1) r.2) := by
  unfold fL_switchAt at h
  refine ev_aload_n (pc' := 1) dL_switchAt_0 rfl rfl ?_
  refine ev_iconst (pc' := 2) dL_switchAt_1 rfl ?_
  refine ev_aload_n (pc' := 3) dL_switchAt_2 rfl rfl ?_
  refine ev_iload_n (pc' := 4) dL_switchAt_3 rfl rfl ?_
  refine ev_iload_n (pc' := 5) dL_switchAt_4 rfl rfl ?_
  replace h := qbd h; obtain ⟨y1, hy1, h⟩ := h
  have hcy1 := eX9_switchAt (d := d + 0) (Ls := Ls) (t := t) hy1
  obtain ⟨y1v, μ5⟩ := y1
  rcases y1v with v3 | E4
  · refine ev_callg (pc' := 8) (st2 := [iv v3, iv 0, .ref 92]) (s1 := cS Ls t μ5) dL_switchAt_5 (qs_V tc_11_55 rfl rfl (cS_cls sh0) rfl) rfl rfl hcy1 rfl rfl ?_
    replace h := qel h
    refine ev_i2l (pc' := 9) dL_switchAt_8 rfl ?_
    replace h := qbd h; obtain ⟨μ6, hμ6, h⟩ := h
    refine ev_last (pc' := 10) dL_switchAt_9 rfl sh92 hμ6 ?_
    refine ev_goto (pc' := 21) dL_switchAt_10 (by decide) ?_
    refine ev_iconst (pc' := 22) dL_switchAt_21 rfl ?_
    cases h
    exact ev_ireturn dL_switchAt_22 rfl rfl
  · replace h := qer h
    by_cases c8 : E4 = 0
    · subst c8
      replace h := qit rfl h
      refine ev_callh (pc' := 15) (hpc := 13) (L1 := [some (.ref 0), some (iv p1), some (iv p2), some (.ref 92), none]) dL_switchAt_5 (qs_V tc_11_55 rfl rfl (cS_cls sh0) rfl) rfl hcy1 rfl rfl (qh_L_switchAt_5_0) dL_switchAt_13 (Nat.le_of_ble_eq_true rfl) rfl rfl ?_
      refine ev_iconst (pc' := 16) dL_switchAt_15 rfl ?_
      cases h
      exact ev_ireturn dL_switchAt_16 rfl rfl
    · replace h := qif' c8 h
      by_cases c7 : E4 = 1
      · subst c7
        replace h := qit rfl h
        refine ev_callh (pc' := 19) (hpc := 17) (L1 := [some (.ref 0), some (iv p1), some (iv p2), some (.ref 92), none]) dL_switchAt_5 (qs_V tc_11_55 rfl rfl (cS_cls sh0) rfl) rfl hcy1 rfl rfl (qh_L_switchAt_5_1) dL_switchAt_17 (Nat.le_of_ble_eq_true rfl) rfl rfl ?_
        refine ev_iconst (pc' := 20) dL_switchAt_19 rfl ?_
        cases h
        exact ev_ireturn dL_switchAt_20 rfl rfl
      · replace h := qif' c7 h
        cases h
set_option maxRecDepth 100000 in
theorem eL_componentsBehind {Ls t d n : Nat} {p1 : Int} {p2 : Int} {p3 : Int} {p4 : Int} {μ : qMu} {r : Int × qMu} (h : fL_componentsBehind n p1 p2 p3 p4 μ = some r) : Ev (d + 4) mL_componentsBehind 0 [some (.ref 0), some (iv p1), some (iv p2), some (iv p3), some (iv p4), some (.ref 92), none] [] (cS Ls t μ) (.inl (some (iv r.1))) (cS Ls (qTw t r.1) r.2) := by
  unfold fL_componentsBehind at h
  refine ev_aload (pc' := 2) dL_componentsBehind_0 rfl rfl ?_
  refine ev_iconst (pc' := 3) dL_componentsBehind_2 rfl ?_
  refine ev_aload_n (pc' := 4) dL_componentsBehind_3 rfl rfl ?_
  refine ev_iload_n (pc' := 5) dL_componentsBehind_4 rfl rfl ?_
  refine ev_iload_n (pc' := 6) dL_componentsBehind_5 rfl rfl ?_
  refine ev_iload_n (pc' := 7) dL_componentsBehind_6 rfl rfl ?_
  refine ev_iload (pc' := 9) dL_componentsBehind_7 rfl rfl ?_
  replace h := qbd h; obtain ⟨y1, hy1, h⟩ := h
  have hcy1 := eX9_componentsBehind (d := d + 0) (Ls := Ls) (t := t) hy1
  obtain ⟨y1v, μ5⟩ := y1
  rcases y1v with v3 | E4
  · refine ev_callg (pc' := 12) (st2 := [iv v3, iv 0, .ref 92]) (s1 := cS Ls t μ5) dL_componentsBehind_9 (qs_V tc_11_58 rfl rfl (cS_cls sh0) rfl) rfl rfl hcy1 rfl rfl ?_
    replace h := qel h
    refine ev_i2l (pc' := 13) dL_componentsBehind_12 rfl ?_
    replace h := qbd h; obtain ⟨μ6, hμ6, h⟩ := h
    refine ev_last (pc' := 14) dL_componentsBehind_13 rfl sh92 hμ6 ?_
    refine ev_goto (pc' := 25) dL_componentsBehind_14 (by decide) ?_
    refine ev_iconst (pc' := 26) dL_componentsBehind_25 rfl ?_
    cases h
    exact ev_ireturn dL_componentsBehind_26 rfl rfl
  · replace h := qer h
    by_cases c8 : E4 = 0
    · subst c8
      replace h := qit rfl h
      refine ev_callh (pc' := 19) (hpc := 17) (L1 := [some (.ref 0), some (iv p1), some (iv p2), some (iv p3), some (iv p4), some (.ref 92), none]) dL_componentsBehind_9 (qs_V tc_11_58 rfl rfl (cS_cls sh0) rfl) rfl hcy1 rfl rfl (qh_L_componentsBehind_9_0) dL_componentsBehind_17 (Nat.le_of_ble_eq_true rfl) rfl rfl ?_
      refine ev_iconst (pc' := 20) dL_componentsBehind_19 rfl ?_
      cases h
      exact ev_ireturn dL_componentsBehind_20 rfl rfl
    · replace h := qif' c8 h
      by_cases c7 : E4 = 3
      · subst c7
        replace h := qit rfl h
        refine ev_callh (pc' := 23) (hpc := 21) (L1 := [some (.ref 0), some (iv p1), some (iv p2), some (iv p3), some (iv p4), some (.ref 92), none]) dL_componentsBehind_9 (qs_V tc_11_58 rfl rfl (cS_cls sh0) rfl) rfl hcy1 rfl rfl (qh_L_componentsBehind_9_3) dL_componentsBehind_21 (Nat.le_of_ble_eq_true rfl) rfl rfl ?_
        refine ev_iconst (pc' := 24) dL_componentsBehind_23 rfl ?_
        cases h
        exact ev_ireturn dL_componentsBehind_24 rfl rfl
      · replace h := qif' c7 h
        cases h
set_option maxRecDepth 100000 in
theorem eL_nearest {Ls t d n : Nat} {μ : qMu} {r : Int × qMu} (h : fL_nearest n μ = some r) : Ev (d + 5) mL_nearest 0 [some (.ref 0), some (.ref 92), none] [] (cS Ls t μ) (.inl (some (iv r.1))) (cS Ls (qTw t r.1) r.2) := by
  unfold fL_nearest at h
  refine ev_aload_n (pc' := 1) dL_nearest_0 rfl rfl ?_
  refine ev_iconst (pc' := 2) dL_nearest_1 rfl ?_
  refine ev_aload_n (pc' := 3) dL_nearest_2 rfl rfl ?_
  replace h := qbd h; obtain ⟨y1, hy1, h⟩ := h
  have hcy1 := eX9_nearest (d := d + 0) (Ls := Ls) (t := t) hy1
  obtain ⟨y1v, μ5⟩ := y1
  rcases y1v with v3 | E4
  · refine ev_callg (pc' := 6) (st2 := [iv v3, iv 0, .ref 92]) (s1 := cS Ls t μ5) dL_nearest_3 (qs_V tc_11_63 rfl rfl (cS_cls sh0) rfl) rfl rfl hcy1 rfl rfl ?_
    replace h := qel h
    refine ev_i2l (pc' := 7) dL_nearest_6 rfl ?_
    replace h := qbd h; obtain ⟨μ6, hμ6, h⟩ := h
    refine ev_last (pc' := 8) dL_nearest_7 rfl sh92 hμ6 ?_
    refine ev_goto (pc' := 14) dL_nearest_8 (by decide) ?_
    refine ev_iconst (pc' := 15) dL_nearest_14 rfl ?_
    cases h
    exact ev_ireturn dL_nearest_15 rfl rfl
  · replace h := qer h
    by_cases c7 : E4 = 2
    · subst c7
      replace h := qit rfl h
      refine ev_callhn (pc' := 12) (hpc := 11) (L1 := [some (.ref 0), some (.ref 92), none]) dL_nearest_3 (qs_V tc_11_63 rfl rfl (cS_cls sh0) rfl) rfl hcy1 rfl rfl (qh_L_nearest_3_2) dL_nearest_11 (Nat.le_of_ble_eq_true rfl) rfl rfl ?_
      refine ev_iconst (pc' := 13) dL_nearest_12 rfl ?_
      cases h
      exact ev_ireturn dL_nearest_13 rfl rfl
    · replace h := qif' c7 h
      cases h
set_option maxRecDepth 100000 in
theorem eL_pathLength {Ls t d n : Nat} {μ : qMu} {r : Int × qMu} (h : fL_pathLength n μ = some r) : Ev (d + 6) mL_pathLength 0 [some (.ref 0), some (.ref 92), none] [] (cS Ls t μ) (.inl (some (iv r.1))) (cS Ls (qTw t r.1) r.2) := by
  unfold fL_pathLength at h
  refine ev_aload_n (pc' := 1) dL_pathLength_0 rfl rfl ?_
  refine ev_iconst (pc' := 2) dL_pathLength_1 rfl ?_
  refine ev_aload_n (pc' := 3) dL_pathLength_2 rfl rfl ?_
  replace h := qbd h; obtain ⟨y1, hy1, h⟩ := h
  have hcy1 := eX9_pathLength (d := d + 0) (Ls := Ls) (t := t) hy1
  obtain ⟨y1v, μ5⟩ := y1
  rcases y1v with v3 | E4
  · refine ev_callg (pc' := 6) (st2 := [iv v3, iv 0, .ref 92]) (s1 := cS Ls t μ5) dL_pathLength_3 (qs_V tc_11_67 rfl rfl (cS_cls sh0) rfl) rfl rfl hcy1 rfl rfl ?_
    replace h := qel h
    refine ev_i2l (pc' := 7) dL_pathLength_6 rfl ?_
    replace h := qbd h; obtain ⟨μ6, hμ6, h⟩ := h
    refine ev_last (pc' := 8) dL_pathLength_7 rfl sh92 hμ6 ?_
    refine ev_goto (pc' := 14) dL_pathLength_8 (by decide) ?_
    refine ev_iconst (pc' := 15) dL_pathLength_14 rfl ?_
    cases h
    exact ev_ireturn dL_pathLength_15 rfl rfl
  · replace h := qer h
    by_cases c7 : E4 = 3
    · subst c7
      replace h := qit rfl h
      refine ev_callhn (pc' := 12) (hpc := 11) (L1 := [some (.ref 0), some (.ref 92), none]) dL_pathLength_3 (qs_V tc_11_67 rfl rfl (cS_cls sh0) rfl) rfl hcy1 rfl rfl (qh_L_pathLength_3_3) dL_pathLength_11 (Nat.le_of_ble_eq_true rfl) rfl rfl ?_
      refine ev_iconst (pc' := 13) dL_pathLength_12 rfl ?_
      cases h
      exact ev_ireturn dL_pathLength_13 rfl rfl
    · replace h := qif' c7 h
      cases h
set_option maxRecDepth 100000 in
theorem eL_path {Ls t d n : Nat} {p1 : Int} {p2 : Int} {μ : qMu} {r : Int × qMu} (h : fL_path n p1 p2 μ = some r) : Ev (d + 6) mL_path 0 [some (.ref 0), some (iv p1), some (iv p2), some (.ref 92), none] [] (cS Ls t μ) (.inl (some (iv r.1))) (cS Ls (qTw t r.1) r.2) := by
  unfold fL_path at h
  refine ev_aload_n (pc' := 1) dL_path_0 rfl rfl ?_
  refine ev_iconst (pc' := 2) dL_path_1 rfl ?_
  refine ev_aload_n (pc' := 3) dL_path_2 rfl rfl ?_
  refine ev_iload_n (pc' := 4) dL_path_3 rfl rfl ?_
  refine ev_iload_n (pc' := 5) dL_path_4 rfl rfl ?_
  replace h := qbd h; obtain ⟨y1, hy1, h⟩ := h
  have hcy1 := eX9_path (d := d + 0) (Ls := Ls) (t := t) hy1
  obtain ⟨y1v, μ5⟩ := y1
  rcases y1v with v3 | E4
  · refine ev_callg (pc' := 8) (st2 := [iv v3, iv 0, .ref 92]) (s1 := cS Ls t μ5) dL_path_5 (qs_V tc_11_70 rfl rfl (cS_cls sh0) rfl) rfl rfl hcy1 rfl rfl ?_
    replace h := qel h
    refine ev_i2l (pc' := 9) dL_path_8 rfl ?_
    replace h := qbd h; obtain ⟨μ6, hμ6, h⟩ := h
    refine ev_last (pc' := 10) dL_path_9 rfl sh92 hμ6 ?_
    refine ev_goto (pc' := 25) dL_path_10 (by decide) ?_
    refine ev_iconst (pc' := 26) dL_path_25 rfl ?_
    cases h
    exact ev_ireturn dL_path_26 rfl rfl
  · replace h := qer h
    by_cases c9 : E4 = 3
    · subst c9
      replace h := qit rfl h
      refine ev_callh (pc' := 15) (hpc := 13) (L1 := [some (.ref 0), some (iv p1), some (iv p2), some (.ref 92), none]) dL_path_5 (qs_V tc_11_70 rfl rfl (cS_cls sh0) rfl) rfl hcy1 rfl rfl (qh_L_path_5_3) dL_path_13 (Nat.le_of_ble_eq_true rfl) rfl rfl ?_
      refine ev_iconst (pc' := 16) dL_path_15 rfl ?_
      cases h
      exact ev_ireturn dL_path_16 rfl rfl
    · replace h := qif' c9 h
      by_cases c8 : E4 = 0
      · subst c8
        replace h := qit rfl h
        refine ev_callh (pc' := 19) (hpc := 17) (L1 := [some (.ref 0), some (iv p1), some (iv p2), some (.ref 92), none]) dL_path_5 (qs_V tc_11_70 rfl rfl (cS_cls sh0) rfl) rfl hcy1 rfl rfl (qh_L_path_5_0) dL_path_17 (Nat.le_of_ble_eq_true rfl) rfl rfl ?_
        refine ev_iconst (pc' := 20) dL_path_19 rfl ?_
        cases h
        exact ev_ireturn dL_path_20 rfl rfl
      · replace h := qif' c8 h
        by_cases c7 : E4 = 1
        · subst c7
          replace h := qit rfl h
          refine ev_callh (pc' := 23) (hpc := 21) (L1 := [some (.ref 0), some (iv p1), some (iv p2), some (.ref 92), none]) dL_path_5 (qs_V tc_11_70 rfl rfl (cS_cls sh0) rfl) rfl hcy1 rfl rfl (qh_L_path_5_1) dL_path_21 (Nat.le_of_ble_eq_true rfl) rfl rfl ?_
          refine ev_iconst (pc' := 24) dL_path_23 rfl ?_
          cases h
          exact ev_ireturn dL_path_24 rfl rfl
        · replace h := qif' c7 h
          cases h
set_option maxRecDepth 100000 in
theorem eL_distance {Ls t d n : Nat} {μ : qMu} {r : Int × qMu} (h : fL_distance n μ = some r) : Ev (d + 6) mL_distance 0 [some (.ref 0), some (.ref 92), none] [] (cS Ls t μ) (.inl (some (iv r.1))) (cS Ls (qTw t r.1) r.2) := by
  unfold fL_distance at h
  refine ev_aload_n (pc' := 1) dL_distance_0 rfl rfl ?_
  refine ev_iconst (pc' := 2) dL_distance_1 rfl ?_
  refine ev_aload_n (pc' := 3) dL_distance_2 rfl rfl ?_
  replace h := qbd h; obtain ⟨y1, hy1, h⟩ := h
  have hcy1 := eX9_distance (d := d + 0) (Ls := Ls) (t := t) hy1
  obtain ⟨y1v, μ5⟩ := y1
  rcases y1v with v3 | E4
  · refine ev_callg (pc' := 6) (st2 := [iv v3, iv 0, .ref 92]) (s1 := cS Ls t μ5) dL_distance_3 (qs_V tc_11_73 rfl rfl (cS_cls sh0) rfl) rfl rfl hcy1 rfl rfl ?_
    replace h := qel h
    refine ev_i2l (pc' := 7) dL_distance_6 rfl ?_
    replace h := qbd h; obtain ⟨μ6, hμ6, h⟩ := h
    refine ev_last (pc' := 8) dL_distance_7 rfl sh92 hμ6 ?_
    refine ev_goto (pc' := 14) dL_distance_8 (by decide) ?_
    refine ev_iconst (pc' := 15) dL_distance_14 rfl ?_
    cases h
    exact ev_ireturn dL_distance_15 rfl rfl
  · replace h := qer h
    by_cases c7 : E4 = 3
    · subst c7
      replace h := qit rfl h
      refine ev_callhn (pc' := 12) (hpc := 11) (L1 := [some (.ref 0), some (.ref 92), none]) dL_distance_3 (qs_V tc_11_73 rfl rfl (cS_cls sh0) rfl) rfl hcy1 rfl rfl (qh_L_distance_3_3) dL_distance_11 (Nat.le_of_ble_eq_true rfl) rfl rfl ?_
      refine ev_iconst (pc' := 13) dL_distance_12 rfl ?_
      cases h
      exact ev_ireturn dL_distance_13 rfl rfl
    · replace h := qif' c7 h
      cases h
set_option maxRecDepth 100000 in
theorem eL_addEdge {Ls t d n : Nat} {p1 : Int} {p2 : Int} {μ : qMu} {r : Int × qMu} (h : fL_addEdge n p1 p2 μ = some r) : Ev (d + 4) mL_addEdge 0 [some (.ref 0), some (iv p1), some (iv p2), some (.ref 92), none] [] (cS Ls t μ) (.inl (some (iv r.1))) (cS Ls (qTw t r.1) r.2) := by
  unfold fL_addEdge at h
  refine ev_aload_n (pc' := 1) dL_addEdge_0 rfl rfl ?_
  refine ev_iconst (pc' := 2) dL_addEdge_1 rfl ?_
  refine ev_aload_n (pc' := 3) dL_addEdge_2 rfl rfl ?_
  refine ev_iload_n (pc' := 4) dL_addEdge_3 rfl rfl ?_
  refine ev_iload_n (pc' := 5) dL_addEdge_4 rfl rfl ?_
  replace h := qbd h; obtain ⟨y1, hy1, h⟩ := h
  have hcy1 := eX9_addEdge (d := d + 0) (Ls := Ls) (t := t) hy1
  obtain ⟨y1v, μ5⟩ := y1
  rcases y1v with v3 | E4
  · refine ev_callg (pc' := 8) (st2 := [iv v3, iv 0, .ref 92]) (s1 := cS Ls t μ5) dL_addEdge_5 (qs_V tc_11_76 rfl rfl (cS_cls sh0) rfl) rfl rfl hcy1 rfl rfl ?_
    replace h := qel h
    refine ev_i2l (pc' := 9) dL_addEdge_8 rfl ?_
    replace h := qbd h; obtain ⟨μ6, hμ6, h⟩ := h
    refine ev_last (pc' := 10) dL_addEdge_9 rfl sh92 hμ6 ?_
    refine ev_goto (pc' := 21) dL_addEdge_10 (by decide) ?_
    refine ev_iconst (pc' := 22) dL_addEdge_21 rfl ?_
    cases h
    exact ev_ireturn dL_addEdge_22 rfl rfl
  · replace h := qer h
    by_cases c8 : E4 = 0
    · subst c8
      replace h := qit rfl h
      refine ev_callh (pc' := 15) (hpc := 13) (L1 := [some (.ref 0), some (iv p1), some (iv p2), some (.ref 92), none]) dL_addEdge_5 (qs_V tc_11_76 rfl rfl (cS_cls sh0) rfl) rfl hcy1 rfl rfl (qh_L_addEdge_5_0) dL_addEdge_13 (Nat.le_of_ble_eq_true rfl) rfl rfl ?_
      refine ev_iconst (pc' := 16) dL_addEdge_15 rfl ?_
      cases h
      exact ev_ireturn dL_addEdge_16 rfl rfl
    · replace h := qif' c8 h
      by_cases c7 : E4 = 3
      · subst c7
        replace h := qit rfl h
        refine ev_callh (pc' := 19) (hpc := 17) (L1 := [some (.ref 0), some (iv p1), some (iv p2), some (.ref 92), none]) dL_addEdge_5 (qs_V tc_11_76 rfl rfl (cS_cls sh0) rfl) rfl hcy1 rfl rfl (qh_L_addEdge_5_3) dL_addEdge_17 (Nat.le_of_ble_eq_true rfl) rfl rfl ?_
        refine ev_iconst (pc' := 20) dL_addEdge_19 rfl ?_
        cases h
        exact ev_ireturn dL_addEdge_20 rfl rfl
      · replace h := qif' c7 h
        cases h
set_option maxRecDepth 100000 in
theorem eL_removeEdge {Ls t d n : Nat} {p1 : Int} {p2 : Int} {μ : qMu} {r : Int × qMu} (h : fL_removeEdge n p1 p2 μ = some r) : Ev (d + 4) mL_removeEdge 0 [some (.ref 0), some (iv p1), some (iv p2), some (.ref 92), none] [] (cS Ls t μ) (.inl (some (iv r.1))) (cS Ls (qTw t r.1) r.2) := by
  unfold fL_removeEdge at h
  refine ev_aload_n (pc' := 1) dL_removeEdge_0 rfl rfl ?_
  refine ev_iconst (pc' := 2) dL_removeEdge_1 rfl ?_
  refine ev_aload_n (pc' := 3) dL_removeEdge_2 rfl rfl ?_
  refine ev_iload_n (pc' := 4) dL_removeEdge_3 rfl rfl ?_
  refine ev_iload_n (pc' := 5) dL_removeEdge_4 rfl rfl ?_
  replace h := qbd h; obtain ⟨y1, hy1, h⟩ := h
  have hcy1 := eX9_removeEdge (d := d + 0) (Ls := Ls) (t := t) hy1
  obtain ⟨y1v, μ5⟩ := y1
  rcases y1v with v3 | E4
  · refine ev_callg (pc' := 8) (st2 := [iv v3, iv 0, .ref 92]) (s1 := cS Ls t μ5) dL_removeEdge_5 (qs_V tc_11_79 rfl rfl (cS_cls sh0) rfl) rfl rfl hcy1 rfl rfl ?_
    replace h := qel h
    refine ev_i2l (pc' := 9) dL_removeEdge_8 rfl ?_
    replace h := qbd h; obtain ⟨μ6, hμ6, h⟩ := h
    refine ev_last (pc' := 10) dL_removeEdge_9 rfl sh92 hμ6 ?_
    refine ev_goto (pc' := 21) dL_removeEdge_10 (by decide) ?_
    refine ev_iconst (pc' := 22) dL_removeEdge_21 rfl ?_
    cases h
    exact ev_ireturn dL_removeEdge_22 rfl rfl
  · replace h := qer h
    by_cases c8 : E4 = 0
    · subst c8
      replace h := qit rfl h
      refine ev_callh (pc' := 15) (hpc := 13) (L1 := [some (.ref 0), some (iv p1), some (iv p2), some (.ref 92), none]) dL_removeEdge_5 (qs_V tc_11_79 rfl rfl (cS_cls sh0) rfl) rfl hcy1 rfl rfl (qh_L_removeEdge_5_0) dL_removeEdge_13 (Nat.le_of_ble_eq_true rfl) rfl rfl ?_
      refine ev_iconst (pc' := 16) dL_removeEdge_15 rfl ?_
      cases h
      exact ev_ireturn dL_removeEdge_16 rfl rfl
    · replace h := qif' c8 h
      by_cases c7 : E4 = 2
      · subst c7
        replace h := qit rfl h
        refine ev_callh (pc' := 19) (hpc := 17) (L1 := [some (.ref 0), some (iv p1), some (iv p2), some (.ref 92), none]) dL_removeEdge_5 (qs_V tc_11_79 rfl rfl (cS_cls sh0) rfl) rfl hcy1 rfl rfl (qh_L_removeEdge_5_2) dL_removeEdge_17 (Nat.le_of_ble_eq_true rfl) rfl rfl ?_
        refine ev_iconst (pc' := 20) dL_removeEdge_19 rfl ?_
        cases h
        exact ev_ireturn dL_removeEdge_20 rfl rfl
      · replace h := qif' c7 h
        cases h
set_option maxRecDepth 100000 in
theorem eL_switchEdges {Ls t d n : Nat} {p1 : Int} {p2 : Int} {p3 : Int} {p4 : Int} {μ : qMu} {r : Int × qMu} (h : fL_switchEdges n p1 p2 p3 p4 μ = some r) : Ev (d + 4) mL_switchEdges 0 [some (.ref 0), some (iv p1), some (iv p2), some (iv p3), some (iv p4), some (.ref 92), none] [] (cS Ls t μ) (.inl (some (iv r.1))) (cS Ls (qTw t r.1) r.2) := by
  unfold fL_switchEdges at h
  refine ev_aload (pc' := 2) dL_switchEdges_0 rfl rfl ?_
  refine ev_iconst (pc' := 3) dL_switchEdges_2 rfl ?_
  refine ev_aload_n (pc' := 4) dL_switchEdges_3 rfl rfl ?_
  refine ev_iload_n (pc' := 5) dL_switchEdges_4 rfl rfl ?_
  refine ev_iload_n (pc' := 6) dL_switchEdges_5 rfl rfl ?_
  refine ev_iload_n (pc' := 7) dL_switchEdges_6 rfl rfl ?_
  refine ev_iload (pc' := 9) dL_switchEdges_7 rfl rfl ?_
  replace h := qbd h; obtain ⟨y1, hy1, h⟩ := h
  have hcy1 := eX9_switchEdges (d := d + 0) (Ls := Ls) (t := t) hy1
  obtain ⟨y1v, μ5⟩ := y1
  rcases y1v with v3 | E4
  · refine ev_callg (pc' := 12) (st2 := [iv v3, iv 0, .ref 92]) (s1 := cS Ls t μ5) dL_switchEdges_9 (qs_V tc_11_82 rfl rfl (cS_cls sh0) rfl) rfl rfl hcy1 rfl rfl ?_
    replace h := qel h
    refine ev_i2l (pc' := 13) dL_switchEdges_12 rfl ?_
    replace h := qbd h; obtain ⟨μ6, hμ6, h⟩ := h
    refine ev_last (pc' := 14) dL_switchEdges_13 rfl sh92 hμ6 ?_
    refine ev_goto (pc' := 25) dL_switchEdges_14 (by decide) ?_
    refine ev_iconst (pc' := 26) dL_switchEdges_25 rfl ?_
    cases h
    exact ev_ireturn dL_switchEdges_26 rfl rfl
  · replace h := qer h
    by_cases c8 : E4 = 0
    · subst c8
      replace h := qit rfl h
      refine ev_callh (pc' := 19) (hpc := 17) (L1 := [some (.ref 0), some (iv p1), some (iv p2), some (iv p3), some (iv p4), some (.ref 92), none]) dL_switchEdges_9 (qs_V tc_11_82 rfl rfl (cS_cls sh0) rfl) rfl hcy1 rfl rfl (qh_L_switchEdges_9_0) dL_switchEdges_17 (Nat.le_of_ble_eq_true rfl) rfl rfl ?_
      refine ev_iconst (pc' := 20) dL_switchEdges_19 rfl ?_
      cases h
      exact ev_ireturn dL_switchEdges_20 rfl rfl
    · replace h := qif' c8 h
      by_cases c7 : E4 = 3
      · subst c7
        replace h := qit rfl h
        refine ev_callh (pc' := 23) (hpc := 21) (L1 := [some (.ref 0), some (iv p1), some (iv p2), some (iv p3), some (iv p4), some (.ref 92), none]) dL_switchEdges_9 (qs_V tc_11_82 rfl rfl (cS_cls sh0) rfl) rfl hcy1 rfl rfl (qh_L_switchEdges_9_3) dL_switchEdges_21 (Nat.le_of_ble_eq_true rfl) rfl rfl ?_
        refine ev_iconst (pc' := 24) dL_switchEdges_23 rfl ?_
        cases h
        exact ev_ireturn dL_switchEdges_24 rfl rfl
      · replace h := qif' c7 h
        cases h
set_option maxRecDepth 100000 in
theorem eL_realise {Ls t d n : Nat} {p1 : Int} {μ : qMu} {r : Int × qMu} (h : fL_realise n p1 μ = some r) : Ev (d + 5) mL_realise 0 [some (.ref 0), some (iv p1), some (.ref 92), none] [] (cS Ls t μ) (.inl (some (iv r.1))) (cS Ls (qTw t r.1) r.2) := by
  unfold fL_realise at h
  refine ev_aload_n (pc' := 1) dL_realise_0 rfl rfl ?_
  refine ev_iconst (pc' := 2) dL_realise_1 rfl ?_
  refine ev_aload_n (pc' := 3) dL_realise_2 rfl rfl ?_
  refine ev_iload_n (pc' := 4) dL_realise_3 rfl rfl ?_
  replace h := qbd h; obtain ⟨y1, hy1, h⟩ := h
  have hcy1 := eX9_realise (d := d + 0) (Ls := Ls) (t := t) hy1
  obtain ⟨y1v, μ5⟩ := y1
  rcases y1v with v3 | E4
  · refine ev_callg (pc' := 7) (st2 := [iv v3, iv 0, .ref 92]) (s1 := cS Ls t μ5) dL_realise_4 (qs_V tc_11_85 rfl rfl (cS_cls sh0) rfl) rfl rfl hcy1 rfl rfl ?_
    replace h := qel h
    refine ev_i2l (pc' := 8) dL_realise_7 rfl ?_
    replace h := qbd h; obtain ⟨μ6, hμ6, h⟩ := h
    refine ev_last (pc' := 9) dL_realise_8 rfl sh92 hμ6 ?_
    refine ev_goto (pc' := 18) dL_realise_9 (by decide) ?_
    refine ev_iconst (pc' := 19) dL_realise_18 rfl ?_
    cases h
    exact ev_ireturn dL_realise_19 rfl rfl
  · replace h := qer h
    by_cases c8 : E4 = 1
    · subst c8
      replace h := qit rfl h
      refine ev_callhn (pc' := 13) (hpc := 12) (L1 := [some (.ref 0), some (iv p1), some (.ref 92), none]) dL_realise_4 (qs_V tc_11_85 rfl rfl (cS_cls sh0) rfl) rfl hcy1 rfl rfl (qh_L_realise_4_1) dL_realise_12 (Nat.le_of_ble_eq_true rfl) rfl rfl ?_
      refine ev_iconst (pc' := 14) dL_realise_13 rfl ?_
      cases h
      exact ev_ireturn dL_realise_14 rfl rfl
    · replace h := qif' c8 h
      by_cases c7 : E4 = 3
      · subst c7
        replace h := qit rfl h
        refine ev_callhn (pc' := 16) (hpc := 15) (L1 := [some (.ref 0), some (iv p1), some (.ref 92), none]) dL_realise_4 (qs_V tc_11_85 rfl rfl (cS_cls sh0) rfl) rfl hcy1 rfl rfl (qh_L_realise_4_3) dL_realise_15 (Nat.le_of_ble_eq_true rfl) rfl rfl ?_
        refine ev_iconst (pc' := 17) dL_realise_16 rfl ?_
        cases h
        exact ev_ireturn dL_realise_17 rfl rfl
      · replace h := qif' c7 h
        cases h
set_option maxRecDepth 100000 in
theorem eL_follow {Ls t d n : Nat} {p1 : Int} {μ : qMu} {r : Int × qMu} (h : fL_follow n p1 μ = some r) : Ev (d + 6) mL_follow 0 [some (.ref 0), some (iv p1), some (.ref 92), none] [] (cS Ls t μ) (.inl (some (iv r.1))) (cS Ls (qTw t r.1) r.2) := by
  unfold fL_follow at h
  refine ev_aload_n (pc' := 1) dL_follow_0 rfl rfl ?_
  refine ev_iconst (pc' := 2) dL_follow_1 rfl ?_
  refine ev_aload_n (pc' := 3) dL_follow_2 rfl rfl ?_
  refine ev_iload_n (pc' := 4) dL_follow_3 rfl rfl ?_
  replace h := qbd h; obtain ⟨y1, hy1, h⟩ := h
  have hcy1 := eX9_follow (d := d + 0) (Ls := Ls) (t := t) hy1
  obtain ⟨y1v, μ5⟩ := y1
  rcases y1v with v3 | E4
  · refine ev_callg (pc' := 7) (st2 := [iv v3, iv 0, .ref 92]) (s1 := cS Ls t μ5) dL_follow_4 (qs_V tc_11_88 rfl rfl (cS_cls sh0) rfl) rfl rfl hcy1 rfl rfl ?_
    replace h := qel h
    refine ev_i2l (pc' := 8) dL_follow_7 rfl ?_
    replace h := qbd h; obtain ⟨μ6, hμ6, h⟩ := h
    refine ev_last (pc' := 9) dL_follow_8 rfl sh92 hμ6 ?_
    refine ev_goto (pc' := 18) dL_follow_9 (by decide) ?_
    refine ev_iconst (pc' := 19) dL_follow_18 rfl ?_
    cases h
    exact ev_ireturn dL_follow_19 rfl rfl
  · replace h := qer h
    by_cases c8 : E4 = 1
    · subst c8
      replace h := qit rfl h
      refine ev_callhn (pc' := 13) (hpc := 12) (L1 := [some (.ref 0), some (iv p1), some (.ref 92), none]) dL_follow_4 (qs_V tc_11_88 rfl rfl (cS_cls sh0) rfl) rfl hcy1 rfl rfl (qh_L_follow_4_1) dL_follow_12 (Nat.le_of_ble_eq_true rfl) rfl rfl ?_
      refine ev_iconst (pc' := 14) dL_follow_13 rfl ?_
      cases h
      exact ev_ireturn dL_follow_14 rfl rfl
    · replace h := qif' c8 h
      by_cases c7 : E4 = 3
      · subst c7
        replace h := qit rfl h
        refine ev_callhn (pc' := 16) (hpc := 15) (L1 := [some (.ref 0), some (iv p1), some (.ref 92), none]) dL_follow_4 (qs_V tc_11_88 rfl rfl (cS_cls sh0) rfl) rfl hcy1 rfl rfl (qh_L_follow_4_3) dL_follow_15 (Nat.le_of_ble_eq_true rfl) rfl rfl ?_
        refine ev_iconst (pc' := 17) dL_follow_16 rfl ?_
        cases h
        exact ev_ireturn dL_follow_17 rfl rfl
      · replace h := qif' c7 h
        cases h
set_option maxRecDepth 100000 in
theorem eL_setMode {Ls t d n : Nat} {p1 : Int} {μ : qMu} {r : Int × qMu} (h : fL_setMode n p1 μ = some r) : Ev (d + 4) mL_setMode 0 [some (.ref 0), some (iv p1), some (.ref 92), none] [] (cS Ls t μ) (.inl (some (iv r.1))) (cS Ls (qTw t r.1) r.2) := by
  unfold fL_setMode at h
  refine ev_aload_n (pc' := 1) dL_setMode_0 rfl rfl ?_
  refine ev_iconst (pc' := 2) dL_setMode_1 rfl ?_
  refine ev_aload_n (pc' := 3) dL_setMode_2 rfl rfl ?_
  refine ev_iload_n (pc' := 4) dL_setMode_3 rfl rfl ?_
  replace h := qbd h; obtain ⟨y1, hy1, h⟩ := h
  have hcy1 := eX9_setMode (d := d + 0) (Ls := Ls) (t := t) hy1
  obtain ⟨y1v, μ5⟩ := y1
  rcases y1v with v3 | E4
  · refine ev_callg (pc' := 7) (st2 := [iv v3, iv 0, .ref 92]) (s1 := cS Ls t μ5) dL_setMode_4 (qs_V tc_11_91 rfl rfl (cS_cls sh0) rfl) rfl rfl hcy1 rfl rfl ?_
    replace h := qel h
    refine ev_i2l (pc' := 8) dL_setMode_7 rfl ?_
    replace h := qbd h; obtain ⟨μ6, hμ6, h⟩ := h
    refine ev_last (pc' := 9) dL_setMode_8 rfl sh92 hμ6 ?_
    refine ev_goto (pc' := 15) dL_setMode_9 (by decide) ?_
    refine ev_iconst (pc' := 16) dL_setMode_15 rfl ?_
    cases h
    exact ev_ireturn dL_setMode_16 rfl rfl
  · replace h := qer h
    by_cases c7 : E4 = 1
    · subst c7
      replace h := qit rfl h
      refine ev_callhn (pc' := 13) (hpc := 12) (L1 := [some (.ref 0), some (iv p1), some (.ref 92), none]) dL_setMode_4 (qs_V tc_11_91 rfl rfl (cS_cls sh0) rfl) rfl hcy1 rfl rfl (qh_L_setMode_4_1) dL_setMode_12 (Nat.le_of_ble_eq_true rfl) rfl rfl ?_
      refine ev_iconst (pc' := 14) dL_setMode_13 rfl ?_
      cases h
      exact ev_ireturn dL_setMode_14 rfl rfl
    · replace h := qif' c7 h
      cases h
set_option maxRecDepth 100000 in
theorem eL_written {Ls t d : Nat} {p1 : Int} {μ : qMu} {r : Int × qMu} (h : fL_written p1 μ = some r) : Ev (d + 2) mL_written 0 [some (.ref 0), some (iv p1), some (.ref 92), none] [] (cS Ls t μ) (.inl (some (iv r.1))) (cS Ls (qTw t r.1) r.2) := by
  unfold fL_written at h
  refine ev_aload_n (pc' := 1) dL_written_0 rfl rfl ?_
  refine ev_iconst (pc' := 2) dL_written_1 rfl ?_
  refine ev_aload_n (pc' := 3) dL_written_2 rfl rfl ?_
  refine ev_iload_n (pc' := 4) dL_written_3 rfl rfl ?_
  replace h := qbd h; obtain ⟨y1, hy1, h⟩ := h
  have hcy1 := eX9_written (d := d + 0) (Ls := Ls) (t := t) hy1
  rcases y1 with v3 | E4
  · refine ev_callg (pc' := 7) (st2 := [iv v3, iv 0, .ref 92]) (s1 := cS Ls t μ) dL_written_4 (qs_V tc_11_94 rfl rfl (cS_cls sh0) rfl) rfl rfl hcy1 rfl rfl ?_
    replace h := qel h
    refine ev_i2l (pc' := 8) dL_written_7 rfl ?_
    replace h := qbd h; obtain ⟨μ5, hμ5, h⟩ := h
    refine ev_last (pc' := 9) dL_written_8 rfl sh92 hμ5 ?_
    refine ev_goto (pc' := 15) dL_written_9 (by decide) ?_
    refine ev_iconst (pc' := 16) dL_written_15 rfl ?_
    cases h
    exact ev_ireturn dL_written_16 rfl rfl
  · replace h := qer h
    by_cases c6 : E4 = 0
    · subst c6
      replace h := qit rfl h
      refine ev_callhn (pc' := 13) (hpc := 12) (L1 := [some (.ref 0), some (iv p1), some (.ref 92), none]) dL_written_4 (qs_V tc_11_94 rfl rfl (cS_cls sh0) rfl) rfl hcy1 rfl rfl (qh_L_written_4_0) dL_written_12 (Nat.le_of_ble_eq_true rfl) rfl rfl ?_
      refine ev_iconst (pc' := 14) dL_written_13 rfl ?_
      cases h
      exact ev_ireturn dL_written_14 rfl rfl
    · replace h := qif' c6 h
      cases h
set_option maxRecDepth 100000 in
theorem esL_244 {Ls t d n : Nat} {i : Int} {μ : qMu} {z : Int × qMu} (hLs : Ls ≤ 5000) (h : sL_244 n Ls i μ = some z) (o : qO) (s' : qSt) (kE : Ev (d + 9) mL_law 2257 [some (.ref 1001000), some (.ref 0), some (.ref 78), some (.ref 92), some (iv i), none, none, none, none] [] (cS Ls (qTw t z.1) z.2) o s') : Ev (d + 9) mL_law 244 [some (.ref 1001000), some (.ref 0), some (.ref 78), some (.ref 92), some (iv i), none, none, none, none] [] (cS Ls t μ) o s' := by
  unfold sL_244 at h
  refine ev_aload_n (pc' := 245) dL_law_244 rfl rfl ?_
  refine ev_aload_n (pc' := 246) dL_law_245 rfl rfl ?_
  refine ev_iload (pc' := 248) dL_law_246 rfl rfl ?_
  refine ev_iconst (pc' := 249) dL_law_248 rfl ?_
  refine ev_iadd (pc' := 250) dL_law_249 rfl ?_
  replace h := qbd h; obtain ⟨x1, hx1, h⟩ := h
  refine ev_sald (pc' := 251) hLs dL_law_250 rfl hx1 ?_
  refine ev_aload_n (pc' := 252) dL_law_251 rfl rfl ?_
  refine ev_iload (pc' := 254) dL_law_252 rfl rfl ?_
  refine ev_iconst (pc' := 255) dL_law_254 rfl ?_
  refine ev_iadd (pc' := 256) dL_law_255 rfl ?_
  replace h := qbd h; obtain ⟨x2, hx2, h⟩ := h
  refine ev_sald (pc' := 257) hLs dL_law_256 rfl hx2 ?_
  refine ev_aload_n (pc' := 258) dL_law_257 rfl rfl ?_
  refine ev_iload (pc' := 260) dL_law_258 rfl rfl ?_
  refine ev_iconst (pc' := 261) dL_law_260 rfl ?_
  refine ev_iadd (pc' := 262) dL_law_261 rfl ?_
  replace h := qbd h; obtain ⟨x3, hx3, h⟩ := h
  refine ev_sald (pc' := 263) hLs dL_law_262 rfl hx3 ?_
  refine ev_aload_n (pc' := 264) dL_law_263 rfl rfl ?_
  refine ev_iload (pc' := 266) dL_law_264 rfl rfl ?_
  refine ev_iconst (pc' := 267) dL_law_266 rfl ?_
  refine ev_iadd (pc' := 268) dL_law_267 rfl ?_
  replace h := qbd h; obtain ⟨x4, hx4, h⟩ := h
  refine ev_sald (pc' := 269) hLs dL_law_268 rfl hx4 ?_
  refine ev_aload_n (pc' := 270) dL_law_269 rfl rfl ?_
  refine ev_iload (pc' := 272) dL_law_270 rfl rfl ?_
  refine ev_iconst (pc' := 273) dL_law_272 rfl ?_
  refine ev_iadd (pc' := 274) dL_law_273 rfl ?_
  replace h := qbd h; obtain ⟨x5, hx5, h⟩ := h
  refine ev_sald (pc' := 275) hLs dL_law_274 rfl hx5 ?_
  replace h := qbd h; obtain ⟨y6, hy6, h⟩ := h
  refine ev_callg (pc' := 278) (st2 := [iv y6.1]) dL_law_275 (qs_V tc_11_102 rfl rfl (cS_cls sh0) rfl) rfl rfl (eX9_feed (d := d + 7) hy6) rfl rfl ?_
  refine ev_aload_n (pc' := 279) dL_law_278 rfl rfl ?_
  refine ev_aload_n (pc' := 280) dL_law_279 rfl rfl ?_
  refine ev_iload (pc' := 282) dL_law_280 rfl rfl ?_
  refine ev_iconst (pc' := 283) dL_law_282 rfl ?_
  refine ev_iadd (pc' := 284) dL_law_283 rfl ?_
  replace h := qbd h; obtain ⟨x7, hx7, h⟩ := h
  refine ev_sald (pc' := 285) hLs dL_law_284 rfl hx7 ?_
  refine ev_aload_n (pc' := 286) dL_law_285 rfl rfl ?_
  refine ev_iload (pc' := 288) dL_law_286 rfl rfl ?_
  refine ev_iconst (pc' := 289) dL_law_288 rfl ?_
  refine ev_iadd (pc' := 290) dL_law_289 rfl ?_
  replace h := qbd h; obtain ⟨x8, hx8, h⟩ := h
  refine ev_sald (pc' := 291) hLs dL_law_290 rfl hx8 ?_
  refine ev_aload_n (pc' := 292) dL_law_291 rfl rfl ?_
  refine ev_iload (pc' := 294) dL_law_292 rfl rfl ?_
  refine ev_iconst (pc' := 295) dL_law_294 rfl ?_
  refine ev_iadd (pc' := 296) dL_law_295 rfl ?_
  replace h := qbd h; obtain ⟨x9, hx9, h⟩ := h
  refine ev_sald (pc' := 297) hLs dL_law_296 rfl hx9 ?_
  refine ev_aload_n (pc' := 298) dL_law_297 rfl rfl ?_
  refine ev_iload (pc' := 300) dL_law_298 rfl rfl ?_
  refine ev_iconst (pc' := 301) dL_law_300 rfl ?_
  refine ev_iadd (pc' := 302) dL_law_301 rfl ?_
  replace h := qbd h; obtain ⟨x10, hx10, h⟩ := h
  refine ev_sald (pc' := 303) hLs dL_law_302 rfl hx10 ?_
  refine ev_aload_n (pc' := 304) dL_law_303 rfl rfl ?_
  refine ev_iload (pc' := 306) dL_law_304 rfl rfl ?_
  refine ev_iconst (pc' := 307) dL_law_306 rfl ?_
  refine ev_iadd (pc' := 308) dL_law_307 rfl ?_
  replace h := qbd h; obtain ⟨x11, hx11, h⟩ := h
  refine ev_sald (pc' := 309) hLs dL_law_308 rfl hx11 ?_
  replace h := qbd h; obtain ⟨y12, hy12, h⟩ := h
  refine ev_callg (pc' := 312) (st2 := [iv y12.1, iv y6.1]) dL_law_309 (qs_V tc_11_106 rfl rfl (cS_cls sh78) rfl) rfl rfl (eX10_feed (d := d + 7) hy12) rfl rfl ?_
  refine ev_icmpeq (pc' := 315) (tgt := 2257) dL_law_312 (by decide) rfl (x1 := wr y6.1) (y1 := wr y12.1) rfl rfl  (fun c13 => ?_) (fun c13 => ?_)
  · replace h := qit c13 h
    cases h
    exact ev_wk (qLe_eq (qLe_eq (qLe_eq (qLe_eq (qLe_eq (qLe_eq (qLe_eq (qLe_eq (qLe_eq qLe_nil))))))))) kE
  · replace h := qif' c13 h
    refine ev_iconst (pc' := 316) dL_law_315 rfl ?_
    cases h
set_option maxRecDepth 100000 in
theorem esL_317 {Ls t d n : Nat} {i : Int} {μ : qMu} {z : Int × qMu} (hLs : Ls ≤ 5000) (h : sL_317 n Ls i μ = some z) (o : qO) (s' : qSt) (kE : Ev (d + 9) mL_law 2257 [some (.ref 1001000), some (.ref 0), some (.ref 78), some (.ref 92), some (iv i), none, none, none, none] [] (cS Ls (qTw t z.1) z.2) o s') : Ev (d + 9) mL_law 317 [some (.ref 1001000), some (.ref 0), some (.ref 78), some (.ref 92), some (iv i), none, none, none, none] [] (cS Ls t μ) o s' := by
  unfold sL_317 at h
  refine ev_aload_n (pc' := 318) dL_law_317 rfl rfl ?_
  refine ev_aload_n (pc' := 319) dL_law_318 rfl rfl ?_
  refine ev_iload (pc' := 321) dL_law_319 rfl rfl ?_
  refine ev_iconst (pc' := 322) dL_law_321 rfl ?_
  refine ev_iadd (pc' := 323) dL_law_322 rfl ?_
  replace h := qbd h; obtain ⟨x1, hx1, h⟩ := h
  refine ev_sald (pc' := 324) hLs dL_law_323 rfl hx1 ?_
  refine ev_aload_n (pc' := 325) dL_law_324 rfl rfl ?_
  replace h := qbd h; obtain ⟨y2, hy2, h⟩ := h
  refine ev_callg (pc' := 328) (st2 := [iv y2.1]) dL_law_325 (qs_S tc_11_107 (by decide) rfl rfl) rfl rfl (eL_load (d := d + 0) hy2) rfl rfl ?_
  refine ev_istore (pc' := 330) (L1 := [some (.ref 1001000), some (.ref 0), some (.ref 78), some (.ref 92), some (iv i), some (iv y2.1), none, none, none]) dL_law_328 rfl rfl ?_
  refine ev_aload_n (pc' := 331) dL_law_330 rfl rfl ?_
  refine ev_aload_n (pc' := 332) dL_law_331 rfl rfl ?_
  refine ev_iload (pc' := 334) dL_law_332 rfl rfl ?_
  refine ev_iconst (pc' := 335) dL_law_334 rfl ?_
  refine ev_iadd (pc' := 336) dL_law_335 rfl ?_
  replace h := qbd h; obtain ⟨x3, hx3, h⟩ := h
  refine ev_sald (pc' := 337) hLs dL_law_336 rfl hx3 ?_
  replace h := qbd h; obtain ⟨y4, hy4, h⟩ := h
  refine ev_callg (pc' := 340) (st2 := [iv y4.1]) dL_law_337 (qs_V tc_11_112 rfl rfl (cS_cls sh78) rfl) rfl rfl (eX10_load (d := d + 1) hy4) rfl rfl ?_
  refine ev_istore (pc' := 342) (L1 := [some (.ref 1001000), some (.ref 0), some (.ref 78), some (.ref 92), some (iv i), some (iv y2.1), some (iv y4.1), none, none]) dL_law_340 rfl rfl ?_
  refine ev_aload_n (pc' := 343) dL_law_342 rfl rfl ?_
  replace h := qbd h; obtain ⟨y5, hy5, h⟩ := h
  refine ev_callg (pc' := 346) (st2 := [iv y5]) dL_law_343 (qs_V tc_11_113 rfl rfl (cS_cls sh78) rfl) rfl rfl (eX10_thrown (d := d + 8) hy5) rfl rfl ?_
  refine ev_iload (pc' := 348) dL_law_346 rfl rfl ?_
  refine ev_icmpeq (pc' := 351) (tgt := 353) dL_law_348 (by decide) rfl (x1 := wr y5) (y1 := wr y2.1) rfl rfl  (fun c6 => ?_) (fun c6 => ?_)
  · replace h := qit c6 h
    refine ev_iload (pc' := 355) dL_law_353 rfl rfl ?_
    refine ev_ifne (pc' := 358) (tgt := 370) dL_law_355 (by decide) rfl (x1 := wr y2.1) rfl (fun c7 => ?_) (fun c7 => ?_)
    · replace h := qit c7 h
      refine ev_aload_n (pc' := 359) dL_law_358 rfl rfl ?_
      refine ev_iconst (pc' := 360) dL_law_359 rfl ?_
      replace h := qbd h; obtain ⟨x8, hx8, h⟩ := h
      refine ev_lald (pc' := 361) dL_law_360 rfl sh92 hx8 ?_
      refine ev_iload (pc' := 363) dL_law_361 rfl rfl ?_
      refine ev_i2l (pc' := 364) dL_law_363 rfl ?_
      refine ev_lcmp (pc' := 365) dL_law_364 rfl ?_
      refine ev_ifeq (pc' := 368) (tgt := 370) dL_law_365 (by decide) rfl (x1 := wr (lcm x8 y4.1)) rfl (fun c9 => ?_) (fun c9 => ?_)
      · replace h := qit c9 h
        refine ev_goto (pc' := 2257) dL_law_370 (by decide) ?_
        cases h
        exact ev_wk (qLe_eq (qLe_eq (qLe_eq (qLe_eq (qLe_eq (qLe_sk (qLe_sk (qLe_eq (qLe_eq qLe_nil))))))))) kE
      · replace h := qif' c9 h
        refine ev_iconst (pc' := 369) dL_law_368 rfl ?_
        cases h
    · replace h := qif' c7 h
      refine ev_goto (pc' := 2257) dL_law_370 (by decide) ?_
      cases h
      exact ev_wk (qLe_eq (qLe_eq (qLe_eq (qLe_eq (qLe_eq (qLe_sk (qLe_sk (qLe_eq (qLe_eq qLe_nil))))))))) kE
  · replace h := qif' c6 h
    refine ev_iconst (pc' := 352) dL_law_351 rfl ?_
    cases h
set_option maxRecDepth 100000 in
theorem esL_373 {Ls t d n : Nat} {i : Int} {μ : qMu} {z : Int × qMu} (hLs : Ls ≤ 5000) (h : sL_373 n Ls i μ = some z) (o : qO) (s' : qSt) (kE : Ev (d + 9) mL_law 2257 [some (.ref 1001000), some (.ref 0), some (.ref 78), some (.ref 92), some (iv i), none, none, none, none] [] (cS Ls (qTw t z.1) z.2) o s') : Ev (d + 9) mL_law 373 [some (.ref 1001000), some (.ref 0), some (.ref 78), some (.ref 92), some (iv i), none, none, none, none] [] (cS Ls t μ) o s' := by
  unfold sL_373 at h
  refine ev_aload_n (pc' := 374) dL_law_373 rfl rfl ?_
  replace h := qbd h; obtain ⟨y1, hy1, h⟩ := h
  refine ev_callg (pc' := 377) (st2 := [iv y1]) dL_law_374 (qs_V tc_11_116 rfl rfl (cS_cls sh0) rfl) rfl rfl (eX9_errorKind (d := d + 7) hy1) rfl rfl ?_
  refine ev_aload_n (pc' := 378) dL_law_377 rfl rfl ?_
  replace h := qbd h; obtain ⟨y2, hy2, h⟩ := h
  refine ev_callg (pc' := 381) (st2 := [iv y2.1, iv y1]) dL_law_378 (qs_V tc_11_119 rfl rfl (cS_cls sh78) rfl) rfl rfl (eX10_errorKind (d := d + 8) hy2) rfl rfl ?_
  refine ev_icmpeq (pc' := 384) (tgt := 2257) dL_law_381 (by decide) rfl (x1 := wr y1) (y1 := wr y2.1) rfl rfl  (fun c3 => ?_) (fun c3 => ?_)
  · replace h := qit c3 h
    cases h
    exact ev_wk (qLe_eq (qLe_eq (qLe_eq (qLe_eq (qLe_eq (qLe_eq (qLe_eq (qLe_eq (qLe_eq qLe_nil))))))))) kE
  · replace h := qif' c3 h
    refine ev_iconst (pc' := 385) dL_law_384 rfl ?_
    cases h
set_option maxRecDepth 100000 in
theorem esL_386 {Ls t d n : Nat} {i : Int} {μ : qMu} {z : Int × qMu} (hLs : Ls ≤ 5000) (h : sL_386 n Ls i μ = some z) (o : qO) (s' : qSt) (kE : Ev (d + 9) mL_law 2257 [some (.ref 1001000), some (.ref 0), some (.ref 78), some (.ref 92), some (iv i), none, none, none, none] [] (cS Ls (qTw t z.1) z.2) o s') : Ev (d + 9) mL_law 386 [some (.ref 1001000), some (.ref 0), some (.ref 78), some (.ref 92), some (iv i), none, none, none, none] [] (cS Ls t μ) o s' := by
  unfold sL_386 at h
  refine ev_aload_n (pc' := 387) dL_law_386 rfl rfl ?_
  replace h := qbd h; obtain ⟨y1, hy1, h⟩ := h
  refine ev_callg (pc' := 390) (st2 := [iv y1]) dL_law_387 (qs_V tc_11_120 rfl rfl (cS_cls sh0) rfl) rfl rfl (eX9_errorPosition (d := d + 7) hy1) rfl rfl ?_
  refine ev_aload_n (pc' := 391) dL_law_390 rfl rfl ?_
  replace h := qbd h; obtain ⟨y2, hy2, h⟩ := h
  refine ev_callg (pc' := 394) (st2 := [iv y2.1, iv y1]) dL_law_391 (qs_V tc_11_123 rfl rfl (cS_cls sh78) rfl) rfl rfl (eX10_errorPosition (d := d + 8) hy2) rfl rfl ?_
  refine ev_icmpeq (pc' := 397) (tgt := 2257) dL_law_394 (by decide) rfl (x1 := wr y1) (y1 := wr y2.1) rfl rfl  (fun c3 => ?_) (fun c3 => ?_)
  · replace h := qit c3 h
    cases h
    exact ev_wk (qLe_eq (qLe_eq (qLe_eq (qLe_eq (qLe_eq (qLe_eq (qLe_eq (qLe_eq (qLe_eq qLe_nil))))))))) kE
  · replace h := qif' c3 h
    refine ev_iconst (pc' := 398) dL_law_397 rfl ?_
    cases h
set_option maxRecDepth 100000 in
theorem esL_399 {Ls t d n : Nat} {i : Int} {μ : qMu} {z : Int × qMu} (hLs : Ls ≤ 5000) (h : sL_399 n Ls i μ = some z) (o : qO) (s' : qSt) (kE : Ev (d + 9) mL_law 2257 [some (.ref 1001000), some (.ref 0), some (.ref 78), some (.ref 92), some (iv i), none, none, none, none] [] (cS Ls (qTw t z.1) z.2) o s') : Ev (d + 9) mL_law 399 [some (.ref 1001000), some (.ref 0), some (.ref 78), some (.ref 92), some (iv i), none, none, none, none] [] (cS Ls t μ) o s' := by
  unfold sL_399 at h
  refine ev_aload_n (pc' := 400) dL_law_399 rfl rfl ?_
  replace h := qbd h; obtain ⟨y1, hy1, h⟩ := h
  refine ev_callg (pc' := 403) (st2 := [iv y1]) dL_law_400 (qs_V tc_11_124 rfl rfl (cS_cls sh0) rfl) rfl rfl (eX9_vertices (d := d + 7) hy1) rfl rfl ?_
  refine ev_aload_n (pc' := 404) dL_law_403 rfl rfl ?_
  replace h := qbd h; obtain ⟨y2, hy2, h⟩ := h
  refine ev_callg (pc' := 407) (st2 := [iv y2.1, iv y1]) dL_law_404 (qs_V tc_11_127 rfl rfl (cS_cls sh78) rfl) rfl rfl (eX10_vertices (d := d + 8) hy2) rfl rfl ?_
  refine ev_icmpeq (pc' := 410) (tgt := 2257) dL_law_407 (by decide) rfl (x1 := wr y1) (y1 := wr y2.1) rfl rfl  (fun c3 => ?_) (fun c3 => ?_)
  · replace h := qit c3 h
    cases h
    exact ev_wk (qLe_eq (qLe_eq (qLe_eq (qLe_eq (qLe_eq (qLe_eq (qLe_eq (qLe_eq (qLe_eq qLe_nil))))))))) kE
  · replace h := qif' c3 h
    refine ev_iconst (pc' := 411) dL_law_410 rfl ?_
    cases h
set_option maxRecDepth 100000 in
theorem esL_412 {Ls t d n : Nat} {i : Int} {μ : qMu} {z : Int × qMu} (hLs : Ls ≤ 5000) (h : sL_412 n Ls i μ = some z) (o : qO) (s' : qSt) (kE : Ev (d + 9) mL_law 2257 [some (.ref 1001000), some (.ref 0), some (.ref 78), some (.ref 92), some (iv i), none, none, none, none] [] (cS Ls (qTw t z.1) z.2) o s') : Ev (d + 9) mL_law 412 [some (.ref 1001000), some (.ref 0), some (.ref 78), some (.ref 92), some (iv i), none, none, none, none] [] (cS Ls t μ) o s' := by
  unfold sL_412 at h
  refine ev_aload_n (pc' := 413) dL_law_412 rfl rfl ?_
  replace h := qbd h; obtain ⟨y1, hy1, h⟩ := h
  refine ev_callg (pc' := 416) (st2 := [iv y1]) dL_law_413 (qs_V tc_11_128 rfl rfl (cS_cls sh0) rfl) rfl rfl (eX9_mode (d := d + 8) hy1) rfl rfl ?_
  refine ev_aload_n (pc' := 417) dL_law_416 rfl rfl ?_
  replace h := qbd h; obtain ⟨y2, hy2, h⟩ := h
  refine ev_callg (pc' := 420) (st2 := [iv y2.1, iv y1]) dL_law_417 (qs_V tc_11_131 rfl rfl (cS_cls sh78) rfl) rfl rfl (eX10_mode (d := d + 8) hy2) rfl rfl ?_
  refine ev_icmpeq (pc' := 423) (tgt := 2257) dL_law_420 (by decide) rfl (x1 := wr y1) (y1 := wr y2.1) rfl rfl  (fun c3 => ?_) (fun c3 => ?_)
  · replace h := qit c3 h
    cases h
    exact ev_wk (qLe_eq (qLe_eq (qLe_eq (qLe_eq (qLe_eq (qLe_eq (qLe_eq (qLe_eq (qLe_eq qLe_nil))))))))) kE
  · replace h := qif' c3 h
    refine ev_iconst (pc' := 424) dL_law_423 rfl ?_
    cases h
set_option maxRecDepth 100000 in
theorem esL_425 {Ls t d n : Nat} {i : Int} {μ : qMu} {z : Int × qMu} (hLs : Ls ≤ 5000) (h : sL_425 n Ls i μ = some z) (o : qO) (s' : qSt) (kE : Ev (d + 9) mL_law 2257 [some (.ref 1001000), some (.ref 0), some (.ref 78), some (.ref 92), some (iv i), none, none, none, none] [] (cS Ls (qTw t z.1) z.2) o s') : Ev (d + 9) mL_law 425 [some (.ref 1001000), some (.ref 0), some (.ref 78), some (.ref 92), some (iv i), none, none, none, none] [] (cS Ls t μ) o s' := by
  unfold sL_425 at h
  refine ev_aload_n (pc' := 426) dL_law_425 rfl rfl ?_
  refine ev_aload_n (pc' := 427) dL_law_426 rfl rfl ?_
  refine ev_iload (pc' := 429) dL_law_427 rfl rfl ?_
  refine ev_iconst (pc' := 430) dL_law_429 rfl ?_
  refine ev_iadd (pc' := 431) dL_law_430 rfl ?_
  replace h := qbd h; obtain ⟨x1, hx1, h⟩ := h
  refine ev_sald (pc' := 432) hLs dL_law_431 rfl hx1 ?_
  have k3 : ∀ j4 : Int, j4 = (if wr x1 = 0 then 0 else 1) → Ev (d + 9) mL_law 440 [some (.ref 1001000), some (.ref 0), some (.ref 78), some (.ref 92), some (iv i), none, none, none, none] [iv j4, .ref 0] (cS Ls t μ) o s' := by
    intro j4 ej4
    subst ej4
    replace h := qbd h; obtain ⟨y5, hy5, h⟩ := h
    refine ev_callg (pc' := 443) (st2 := [iv y5]) dL_law_440 (qs_V tc_11_132 rfl rfl (cS_cls sh0) rfl) rfl rfl (eX9_edges (d := d + 7) hy5) rfl rfl ?_
    refine ev_aload_n (pc' := 444) dL_law_443 rfl rfl ?_
    refine ev_aload_n (pc' := 445) dL_law_444 rfl rfl ?_
    refine ev_iload (pc' := 447) dL_law_445 rfl rfl ?_
    refine ev_iconst (pc' := 448) dL_law_447 rfl ?_
    refine ev_iadd (pc' := 449) dL_law_448 rfl ?_
    replace h := qbd h; obtain ⟨x6, hx6, h⟩ := h
    refine ev_sald (pc' := 450) hLs dL_law_449 rfl hx6 ?_
    have k8 : ∀ j9 : Int, j9 = (if wr x6 = 0 then 0 else 1) → Ev (d + 9) mL_law 458 [some (.ref 1001000), some (.ref 0), some (.ref 78), some (.ref 92), some (iv i), none, none, none, none] [iv j9, .ref 78, iv y5] (cS Ls t μ) o s' := by
      intro j9 ej9
      subst ej9
      replace h := qbd h; obtain ⟨y10, hy10, h⟩ := h
      refine ev_callg (pc' := 461) (st2 := [iv y10.1, iv y5]) dL_law_458 (qs_V tc_11_136 rfl rfl (cS_cls sh78) rfl) rfl rfl (eX10_edges (d := d + 5) hy10) rfl rfl ?_
      refine ev_icmpeq (pc' := 464) (tgt := 2257) dL_law_461 (by decide) rfl (x1 := wr y5) (y1 := wr y10.1) rfl rfl  (fun c11 => ?_) (fun c11 => ?_)
      · replace h := qit c11 h
        cases h
        exact ev_wk (qLe_eq (qLe_eq (qLe_eq (qLe_eq (qLe_eq (qLe_eq (qLe_eq (qLe_eq (qLe_eq qLe_nil))))))))) kE
      · replace h := qif' c11 h
        refine ev_iconst (pc' := 465) dL_law_464 rfl ?_
        cases h
    refine ev_ifeq (pc' := 453) (tgt := 457) dL_law_450 (by decide) rfl (x1 := wr x6) rfl (fun c7 => ?_) (fun c7 => ?_)
    · skip
      refine ev_iconst (pc' := 458) dL_law_457 rfl ?_
      exact ev_wk (qLe_eq (qLe_eq (qLe_eq (qLe_eq (qLe_eq (qLe_eq (qLe_eq (qLe_eq (qLe_eq qLe_nil))))))))) (k8 _ (qet c7 rfl))
    · skip
      refine ev_iconst (pc' := 454) dL_law_453 rfl ?_
      refine ev_goto (pc' := 458) dL_law_454 (by decide) ?_
      exact ev_wk (qLe_eq (qLe_eq (qLe_eq (qLe_eq (qLe_eq (qLe_eq (qLe_eq (qLe_eq (qLe_eq qLe_nil))))))))) (k8 _ (qef c7 rfl))
  refine ev_ifeq (pc' := 435) (tgt := 439) dL_law_432 (by decide) rfl (x1 := wr x1) rfl (fun c2 => ?_) (fun c2 => ?_)
  · skip
    refine ev_iconst (pc' := 440) dL_law_439 rfl ?_
    exact ev_wk (qLe_eq (qLe_eq (qLe_eq (qLe_eq (qLe_eq (qLe_eq (qLe_eq (qLe_eq (qLe_eq qLe_nil))))))))) (k3 _ (qet c2 rfl))
  · skip
    refine ev_iconst (pc' := 436) dL_law_435 rfl ?_
    refine ev_goto (pc' := 440) dL_law_436 (by decide) ?_
    exact ev_wk (qLe_eq (qLe_eq (qLe_eq (qLe_eq (qLe_eq (qLe_eq (qLe_eq (qLe_eq (qLe_eq qLe_nil))))))))) (k3 _ (qef c2 rfl))
set_option maxRecDepth 100000 in
theorem esL_466 {Ls t d n : Nat} {i : Int} {μ : qMu} {z : Int × qMu} (hLs : Ls ≤ 5000) (h : sL_466 n Ls i μ = some z) (o : qO) (s' : qSt) (kE : Ev (d + 9) mL_law 2257 [some (.ref 1001000), some (.ref 0), some (.ref 78), some (.ref 92), some (iv i), none, none, none, none] [] (cS Ls (qTw t z.1) z.2) o s') : Ev (d + 9) mL_law 466 [some (.ref 1001000), some (.ref 0), some (.ref 78), some (.ref 92), some (iv i), none, none, none, none] [] (cS Ls t μ) o s' := by
  unfold sL_466 at h
  refine ev_aload_n (pc' := 467) dL_law_466 rfl rfl ?_
  refine ev_aload_n (pc' := 468) dL_law_467 rfl rfl ?_
  refine ev_iload (pc' := 470) dL_law_468 rfl rfl ?_
  refine ev_iconst (pc' := 471) dL_law_470 rfl ?_
  refine ev_iadd (pc' := 472) dL_law_471 rfl ?_
  replace h := qbd h; obtain ⟨x1, hx1, h⟩ := h
  refine ev_sald (pc' := 473) hLs dL_law_472 rfl hx1 ?_
  refine ev_aload_n (pc' := 474) dL_law_473 rfl rfl ?_
  refine ev_iload (pc' := 476) dL_law_474 rfl rfl ?_
  refine ev_iconst (pc' := 477) dL_law_476 rfl ?_
  refine ev_iadd (pc' := 478) dL_law_477 rfl ?_
  replace h := qbd h; obtain ⟨x2, hx2, h⟩ := h
  refine ev_sald (pc' := 479) hLs dL_law_478 rfl hx2 ?_
  refine ev_aload_n (pc' := 480) dL_law_479 rfl rfl ?_
  refine ev_iload (pc' := 482) dL_law_480 rfl rfl ?_
  refine ev_iconst (pc' := 483) dL_law_482 rfl ?_
  refine ev_iadd (pc' := 484) dL_law_483 rfl ?_
  replace h := qbd h; obtain ⟨x3, hx3, h⟩ := h
  refine ev_sald (pc' := 485) hLs dL_law_484 rfl hx3 ?_
  have k5 : ∀ j6 : Int, j6 = (if wr x3 = 0 then 0 else 1) → Ev (d + 9) mL_law 493 [some (.ref 1001000), some (.ref 0), some (.ref 78), some (.ref 92), some (iv i), none, none, none, none] [iv j6, iv x2, iv x1, .ref 0] (cS Ls t μ) o s' := by
    intro j6 ej6
    subst ej6
    refine ev_aload_n (pc' := 494) dL_law_493 rfl rfl ?_
    replace h := qbd h; obtain ⟨y7, hy7, h⟩ := h
    refine ev_callg (pc' := 497) (st2 := [iv y7.1]) dL_law_494 (qs_S tc_11_137 (by decide) rfl rfl) rfl rfl (eL_times (d := d + 5) hy7) rfl rfl ?_
    refine ev_istore (pc' := 499) (L1 := [some (.ref 1001000), some (.ref 0), some (.ref 78), some (.ref 92), some (iv i), some (iv y7.1), none, none, none]) dL_law_497 rfl rfl ?_
    refine ev_aload_n (pc' := 500) dL_law_499 rfl rfl ?_
    refine ev_aload_n (pc' := 501) dL_law_500 rfl rfl ?_
    refine ev_iload (pc' := 503) dL_law_501 rfl rfl ?_
    refine ev_iconst (pc' := 504) dL_law_503 rfl ?_
    refine ev_iadd (pc' := 505) dL_law_504 rfl ?_
    replace h := qbd h; obtain ⟨x8, hx8, h⟩ := h
    refine ev_sald (pc' := 506) hLs dL_law_505 rfl hx8 ?_
    refine ev_aload_n (pc' := 507) dL_law_506 rfl rfl ?_
    refine ev_iload (pc' := 509) dL_law_507 rfl rfl ?_
    refine ev_iconst (pc' := 510) dL_law_509 rfl ?_
    refine ev_iadd (pc' := 511) dL_law_510 rfl ?_
    replace h := qbd h; obtain ⟨x9, hx9, h⟩ := h
    refine ev_sald (pc' := 512) hLs dL_law_511 rfl hx9 ?_
    refine ev_aload_n (pc' := 513) dL_law_512 rfl rfl ?_
    refine ev_iload (pc' := 515) dL_law_513 rfl rfl ?_
    refine ev_iconst (pc' := 516) dL_law_515 rfl ?_
    refine ev_iadd (pc' := 517) dL_law_516 rfl ?_
    replace h := qbd h; obtain ⟨x10, hx10, h⟩ := h
    refine ev_sald (pc' := 518) hLs dL_law_517 rfl hx10 ?_
    have k12 : ∀ j13 : Int, j13 = (if wr x10 = 0 then 0 else 1) → Ev (d + 9) mL_law 526 [some (.ref 1001000), some (.ref 0), some (.ref 78), some (.ref 92), some (iv i), some (iv y7.1), none, none, none] [iv j13, iv x9, iv x8, .ref 78] (cS Ls (qTw t y7.1) y7.2) o s' := by
      intro j13 ej13
      subst ej13
      replace h := qbd h; obtain ⟨y14, hy14, h⟩ := h
      refine ev_callg (pc' := 529) (st2 := [iv y14.1]) dL_law_526 (qs_V tc_11_140 rfl rfl (cS_cls sh78) rfl) rfl rfl (eX10_times (d := d + 5) hy14) rfl rfl ?_
      refine ev_istore (pc' := 531) (L1 := [some (.ref 1001000), some (.ref 0), some (.ref 78), some (.ref 92), some (iv i), some (iv y7.1), some (iv y14.1), none, none]) dL_law_529 rfl rfl ?_
      refine ev_aload_n (pc' := 532) dL_law_531 rfl rfl ?_
      replace h := qbd h; obtain ⟨y15, hy15, h⟩ := h
      refine ev_callg (pc' := 535) (st2 := [iv y15]) dL_law_532 (qs_V tc_11_113 rfl rfl (cS_cls sh78) rfl) rfl rfl (eX10_thrown (d := d + 8) hy15) rfl rfl ?_
      refine ev_iload (pc' := 537) dL_law_535 rfl rfl ?_
      refine ev_icmpeq (pc' := 540) (tgt := 542) dL_law_537 (by decide) rfl (x1 := wr y15) (y1 := wr y7.1) rfl rfl  (fun c16 => ?_) (fun c16 => ?_)
      · replace h := qit c16 h
        refine ev_iload (pc' := 544) dL_law_542 rfl rfl ?_
        refine ev_ifne (pc' := 547) (tgt := 559) dL_law_544 (by decide) rfl (x1 := wr y7.1) rfl (fun c17 => ?_) (fun c17 => ?_)
        · replace h := qit c17 h
          refine ev_aload_n (pc' := 548) dL_law_547 rfl rfl ?_
          refine ev_iconst (pc' := 549) dL_law_548 rfl ?_
          replace h := qbd h; obtain ⟨x18, hx18, h⟩ := h
          refine ev_lald (pc' := 550) dL_law_549 rfl sh92 hx18 ?_
          refine ev_iload (pc' := 552) dL_law_550 rfl rfl ?_
          refine ev_i2l (pc' := 553) dL_law_552 rfl ?_
          refine ev_lcmp (pc' := 554) dL_law_553 rfl ?_
          refine ev_ifeq (pc' := 557) (tgt := 559) dL_law_554 (by decide) rfl (x1 := wr (lcm x18 y14.1)) rfl (fun c19 => ?_) (fun c19 => ?_)
          · replace h := qit c19 h
            refine ev_goto (pc' := 2257) dL_law_559 (by decide) ?_
            cases h
            exact ev_wk (qLe_eq (qLe_eq (qLe_eq (qLe_eq (qLe_eq (qLe_sk (qLe_sk (qLe_eq (qLe_eq qLe_nil))))))))) kE
          · replace h := qif' c19 h
            refine ev_iconst (pc' := 558) dL_law_557 rfl ?_
            cases h
        · replace h := qif' c17 h
          refine ev_goto (pc' := 2257) dL_law_559 (by decide) ?_
          cases h
          exact ev_wk (qLe_eq (qLe_eq (qLe_eq (qLe_eq (qLe_eq (qLe_sk (qLe_sk (qLe_eq (qLe_eq qLe_nil))))))))) kE
      · replace h := qif' c16 h
        refine ev_iconst (pc' := 541) dL_law_540 rfl ?_
        cases h
    refine ev_ifeq (pc' := 521) (tgt := 525) dL_law_518 (by decide) rfl (x1 := wr x10) rfl (fun c11 => ?_) (fun c11 => ?_)
    · skip
      refine ev_iconst (pc' := 526) dL_law_525 rfl ?_
      exact ev_wk (qLe_eq (qLe_eq (qLe_eq (qLe_eq (qLe_eq (qLe_eq (qLe_eq (qLe_eq (qLe_eq qLe_nil))))))))) (k12 _ (qet c11 rfl))
    · skip
      refine ev_iconst (pc' := 522) dL_law_521 rfl ?_
      refine ev_goto (pc' := 526) dL_law_522 (by decide) ?_
      exact ev_wk (qLe_eq (qLe_eq (qLe_eq (qLe_eq (qLe_eq (qLe_eq (qLe_eq (qLe_eq (qLe_eq qLe_nil))))))))) (k12 _ (qef c11 rfl))
  refine ev_ifeq (pc' := 488) (tgt := 492) dL_law_485 (by decide) rfl (x1 := wr x3) rfl (fun c4 => ?_) (fun c4 => ?_)
  · skip
    refine ev_iconst (pc' := 493) dL_law_492 rfl ?_
    exact ev_wk (qLe_eq (qLe_eq (qLe_eq (qLe_eq (qLe_eq (qLe_eq (qLe_eq (qLe_eq (qLe_eq qLe_nil))))))))) (k5 _ (qet c4 rfl))
  · skip
    refine ev_iconst (pc' := 489) dL_law_488 rfl ?_
    refine ev_goto (pc' := 493) dL_law_489 (by decide) ?_
    exact ev_wk (qLe_eq (qLe_eq (qLe_eq (qLe_eq (qLe_eq (qLe_eq (qLe_eq (qLe_eq (qLe_eq qLe_nil))))))))) (k5 _ (qef c4 rfl))
set_option maxRecDepth 100000 in
theorem esL_562 {Ls t d n : Nat} {i : Int} {μ : qMu} {z : Int × qMu} (hLs : Ls ≤ 5000) (h : sL_562 n Ls i μ = some z) (o : qO) (s' : qSt) (kE : Ev (d + 9) mL_law 2257 [some (.ref 1001000), some (.ref 0), some (.ref 78), some (.ref 92), some (iv i), none, none, none, none] [] (cS Ls (qTw t z.1) z.2) o s') : Ev (d + 9) mL_law 562 [some (.ref 1001000), some (.ref 0), some (.ref 78), some (.ref 92), some (iv i), none, none, none, none] [] (cS Ls t μ) o s' := by
  unfold sL_562 at h
  refine ev_aload_n (pc' := 563) dL_law_562 rfl rfl ?_
  refine ev_aload_n (pc' := 564) dL_law_563 rfl rfl ?_
  refine ev_iload (pc' := 566) dL_law_564 rfl rfl ?_
  refine ev_iconst (pc' := 567) dL_law_566 rfl ?_
  refine ev_iadd (pc' := 568) dL_law_567 rfl ?_
  replace h := qbd h; obtain ⟨x1, hx1, h⟩ := h
  refine ev_sald (pc' := 569) hLs dL_law_568 rfl hx1 ?_
  refine ev_aload_n (pc' := 570) dL_law_569 rfl rfl ?_
  refine ev_iload (pc' := 572) dL_law_570 rfl rfl ?_
  refine ev_iconst (pc' := 573) dL_law_572 rfl ?_
  refine ev_iadd (pc' := 574) dL_law_573 rfl ?_
  replace h := qbd h; obtain ⟨x2, hx2, h⟩ := h
  refine ev_sald (pc' := 575) hLs dL_law_574 rfl hx2 ?_
  have k4 : ∀ j5 : Int, j5 = (if wr x2 = 0 then 0 else 1) → Ev (d + 9) mL_law 583 [some (.ref 1001000), some (.ref 0), some (.ref 78), some (.ref 92), some (iv i), none, none, none, none] [iv j5, iv x1, .ref 0] (cS Ls t μ) o s' := by
    intro j5 ej5
    subst ej5
    refine ev_aload_n (pc' := 584) dL_law_583 rfl rfl ?_
    replace h := qbd h; obtain ⟨y6, hy6, h⟩ := h
    refine ev_callg (pc' := 587) (st2 := [iv y6.1]) dL_law_584 (qs_S tc_11_141 (by decide) rfl rfl) rfl rfl (eL_degree (d := d + 5) hy6) rfl rfl ?_
    refine ev_istore (pc' := 589) (L1 := [some (.ref 1001000), some (.ref 0), some (.ref 78), some (.ref 92), some (iv i), some (iv y6.1), none, none, none]) dL_law_587 rfl rfl ?_
    refine ev_aload_n (pc' := 590) dL_law_589 rfl rfl ?_
    refine ev_aload_n (pc' := 591) dL_law_590 rfl rfl ?_
    refine ev_iload (pc' := 593) dL_law_591 rfl rfl ?_
    refine ev_iconst (pc' := 594) dL_law_593 rfl ?_
    refine ev_iadd (pc' := 595) dL_law_594 rfl ?_
    replace h := qbd h; obtain ⟨x7, hx7, h⟩ := h
    refine ev_sald (pc' := 596) hLs dL_law_595 rfl hx7 ?_
    refine ev_aload_n (pc' := 597) dL_law_596 rfl rfl ?_
    refine ev_iload (pc' := 599) dL_law_597 rfl rfl ?_
    refine ev_iconst (pc' := 600) dL_law_599 rfl ?_
    refine ev_iadd (pc' := 601) dL_law_600 rfl ?_
    replace h := qbd h; obtain ⟨x8, hx8, h⟩ := h
    refine ev_sald (pc' := 602) hLs dL_law_601 rfl hx8 ?_
    have k10 : ∀ j11 : Int, j11 = (if wr x8 = 0 then 0 else 1) → Ev (d + 9) mL_law 610 [some (.ref 1001000), some (.ref 0), some (.ref 78), some (.ref 92), some (iv i), some (iv y6.1), none, none, none] [iv j11, iv x7, .ref 78] (cS Ls (qTw t y6.1) y6.2) o s' := by
      intro j11 ej11
      subst ej11
      replace h := qbd h; obtain ⟨y12, hy12, h⟩ := h
      refine ev_callg (pc' := 613) (st2 := [iv y12.1]) dL_law_610 (qs_V tc_11_144 rfl rfl (cS_cls sh78) rfl) rfl rfl (eX10_degree (d := d + 5) hy12) rfl rfl ?_
      refine ev_istore (pc' := 615) (L1 := [some (.ref 1001000), some (.ref 0), some (.ref 78), some (.ref 92), some (iv i), some (iv y6.1), some (iv y12.1), none, none]) dL_law_613 rfl rfl ?_
      refine ev_aload_n (pc' := 616) dL_law_615 rfl rfl ?_
      replace h := qbd h; obtain ⟨y13, hy13, h⟩ := h
      refine ev_callg (pc' := 619) (st2 := [iv y13]) dL_law_616 (qs_V tc_11_113 rfl rfl (cS_cls sh78) rfl) rfl rfl (eX10_thrown (d := d + 8) hy13) rfl rfl ?_
      refine ev_iload (pc' := 621) dL_law_619 rfl rfl ?_
      refine ev_icmpeq (pc' := 624) (tgt := 626) dL_law_621 (by decide) rfl (x1 := wr y13) (y1 := wr y6.1) rfl rfl  (fun c14 => ?_) (fun c14 => ?_)
      · replace h := qit c14 h
        refine ev_iload (pc' := 628) dL_law_626 rfl rfl ?_
        refine ev_ifne (pc' := 631) (tgt := 643) dL_law_628 (by decide) rfl (x1 := wr y6.1) rfl (fun c15 => ?_) (fun c15 => ?_)
        · replace h := qit c15 h
          refine ev_aload_n (pc' := 632) dL_law_631 rfl rfl ?_
          refine ev_iconst (pc' := 633) dL_law_632 rfl ?_
          replace h := qbd h; obtain ⟨x16, hx16, h⟩ := h
          refine ev_lald (pc' := 634) dL_law_633 rfl sh92 hx16 ?_
          refine ev_iload (pc' := 636) dL_law_634 rfl rfl ?_
          refine ev_i2l (pc' := 637) dL_law_636 rfl ?_
          refine ev_lcmp (pc' := 638) dL_law_637 rfl ?_
          refine ev_ifeq (pc' := 641) (tgt := 643) dL_law_638 (by decide) rfl (x1 := wr (lcm x16 y12.1)) rfl (fun c17 => ?_) (fun c17 => ?_)
          · replace h := qit c17 h
            refine ev_goto (pc' := 2257) dL_law_643 (by decide) ?_
            cases h
            exact ev_wk (qLe_eq (qLe_eq (qLe_eq (qLe_eq (qLe_eq (qLe_sk (qLe_sk (qLe_eq (qLe_eq qLe_nil))))))))) kE
          · replace h := qif' c17 h
            refine ev_iconst (pc' := 642) dL_law_641 rfl ?_
            cases h
        · replace h := qif' c15 h
          refine ev_goto (pc' := 2257) dL_law_643 (by decide) ?_
          cases h
          exact ev_wk (qLe_eq (qLe_eq (qLe_eq (qLe_eq (qLe_eq (qLe_sk (qLe_sk (qLe_eq (qLe_eq qLe_nil))))))))) kE
      · replace h := qif' c14 h
        refine ev_iconst (pc' := 625) dL_law_624 rfl ?_
        cases h
    refine ev_ifeq (pc' := 605) (tgt := 609) dL_law_602 (by decide) rfl (x1 := wr x8) rfl (fun c9 => ?_) (fun c9 => ?_)
    · skip
      refine ev_iconst (pc' := 610) dL_law_609 rfl ?_
      exact ev_wk (qLe_eq (qLe_eq (qLe_eq (qLe_eq (qLe_eq (qLe_eq (qLe_eq (qLe_eq (qLe_eq qLe_nil))))))))) (k10 _ (qet c9 rfl))
    · skip
      refine ev_iconst (pc' := 606) dL_law_605 rfl ?_
      refine ev_goto (pc' := 610) dL_law_606 (by decide) ?_
      exact ev_wk (qLe_eq (qLe_eq (qLe_eq (qLe_eq (qLe_eq (qLe_eq (qLe_eq (qLe_eq (qLe_eq qLe_nil))))))))) (k10 _ (qef c9 rfl))
  refine ev_ifeq (pc' := 578) (tgt := 582) dL_law_575 (by decide) rfl (x1 := wr x2) rfl (fun c3 => ?_) (fun c3 => ?_)
  · skip
    refine ev_iconst (pc' := 583) dL_law_582 rfl ?_
    exact ev_wk (qLe_eq (qLe_eq (qLe_eq (qLe_eq (qLe_eq (qLe_eq (qLe_eq (qLe_eq (qLe_eq qLe_nil))))))))) (k4 _ (qet c3 rfl))
  · skip
    refine ev_iconst (pc' := 579) dL_law_578 rfl ?_
    refine ev_goto (pc' := 583) dL_law_579 (by decide) ?_
    exact ev_wk (qLe_eq (qLe_eq (qLe_eq (qLe_eq (qLe_eq (qLe_eq (qLe_eq (qLe_eq (qLe_eq qLe_nil))))))))) (k4 _ (qef c3 rfl))
set_option maxRecDepth 100000 in
theorem esL_646 {Ls t d n : Nat} {i : Int} {μ : qMu} {z : Int × qMu} (hLs : Ls ≤ 5000) (h : sL_646 n Ls i μ = some z) (o : qO) (s' : qSt) (kE : Ev (d + 9) mL_law 2257 [some (.ref 1001000), some (.ref 0), some (.ref 78), some (.ref 92), some (iv i), none, none, none, none] [] (cS Ls (qTw t z.1) z.2) o s') : Ev (d + 9) mL_law 646 [some (.ref 1001000), some (.ref 0), some (.ref 78), some (.ref 92), some (iv i), none, none, none, none] [] (cS Ls t μ) o s' := by
  unfold sL_646 at h
  refine ev_aload_n (pc' := 647) dL_law_646 rfl rfl ?_
  replace h := qbd h; obtain ⟨y1, hy1, h⟩ := h
  refine ev_callg (pc' := 650) (st2 := [iv y1]) dL_law_647 (qs_V tc_11_145 rfl rfl (cS_cls sh0) rfl) rfl rfl (eX9_loops (d := d + 6) hy1) rfl rfl ?_
  refine ev_aload_n (pc' := 651) dL_law_650 rfl rfl ?_
  replace h := qbd h; obtain ⟨y2, hy2, h⟩ := h
  refine ev_callg (pc' := 654) (st2 := [iv y2.1, iv y1]) dL_law_651 (qs_V tc_11_148 rfl rfl (cS_cls sh78) rfl) rfl rfl (eX10_loops (d := d + 5) hy2) rfl rfl ?_
  refine ev_icmpeq (pc' := 657) (tgt := 2257) dL_law_654 (by decide) rfl (x1 := wr y1) (y1 := wr y2.1) rfl rfl  (fun c3 => ?_) (fun c3 => ?_)
  · replace h := qit c3 h
    cases h
    exact ev_wk (qLe_eq (qLe_eq (qLe_eq (qLe_eq (qLe_eq (qLe_eq (qLe_eq (qLe_eq (qLe_eq qLe_nil))))))))) kE
  · replace h := qif' c3 h
    refine ev_iconst (pc' := 658) dL_law_657 rfl ?_
    cases h
set_option maxRecDepth 100000 in
theorem esL_659 {Ls t d n : Nat} {i : Int} {μ : qMu} {z : Int × qMu} (hLs : Ls ≤ 5000) (h : sL_659 n Ls i μ = some z) (o : qO) (s' : qSt) (kE : Ev (d + 9) mL_law 2257 [some (.ref 1001000), some (.ref 0), some (.ref 78), some (.ref 92), some (iv i), none, none, none, none] [] (cS Ls (qTw t z.1) z.2) o s') : Ev (d + 9) mL_law 659 [some (.ref 1001000), some (.ref 0), some (.ref 78), some (.ref 92), some (iv i), none, none, none, none] [] (cS Ls t μ) o s' := by
  unfold sL_659 at h
  refine ev_aload_n (pc' := 660) dL_law_659 rfl rfl ?_
  replace h := qbd h; obtain ⟨y1, hy1, h⟩ := h
  refine ev_callg (pc' := 663) (st2 := [iv y1]) dL_law_660 (qs_V tc_11_149 rfl rfl (cS_cls sh0) rfl) rfl rfl (eX9_defects (d := d + 5) hy1) rfl rfl ?_
  refine ev_aload_n (pc' := 664) dL_law_663 rfl rfl ?_
  replace h := qbd h; obtain ⟨y2, hy2, h⟩ := h
  refine ev_callg (pc' := 667) (st2 := [iv y2.1, iv y1]) dL_law_664 (qs_V tc_11_152 rfl rfl (cS_cls sh78) rfl) rfl rfl (eX10_defects (d := d + 4) hy2) rfl rfl ?_
  refine ev_icmpeq (pc' := 670) (tgt := 2257) dL_law_667 (by decide) rfl (x1 := wr y1) (y1 := wr y2.1) rfl rfl  (fun c3 => ?_) (fun c3 => ?_)
  · replace h := qit c3 h
    cases h
    exact ev_wk (qLe_eq (qLe_eq (qLe_eq (qLe_eq (qLe_eq (qLe_eq (qLe_eq (qLe_eq (qLe_eq qLe_nil))))))))) kE
  · replace h := qif' c3 h
    refine ev_iconst (pc' := 671) dL_law_670 rfl ?_
    cases h
set_option maxRecDepth 100000 in
theorem esL_672 {Ls t d n : Nat} {i : Int} {μ : qMu} {z : Int × qMu} (hLs : Ls ≤ 5000) (h : sL_672 n Ls i μ = some z) (o : qO) (s' : qSt) (kE : Ev (d + 9) mL_law 2257 [some (.ref 1001000), some (.ref 0), some (.ref 78), some (.ref 92), some (iv i), none, none, none, none] [] (cS Ls (qTw t z.1) z.2) o s') : Ev (d + 9) mL_law 672 [some (.ref 1001000), some (.ref 0), some (.ref 78), some (.ref 92), some (iv i), none, none, none, none] [] (cS Ls t μ) o s' := by
  unfold sL_672 at h
  refine ev_aload_n (pc' := 673) dL_law_672 rfl rfl ?_
  replace h := qbd h; obtain ⟨y1, hy1, h⟩ := h
  refine ev_callg (pc' := 676) (st2 := [iv y1]) dL_law_673 (qs_V tc_11_153 rfl rfl (cS_cls sh0) rfl) rfl rfl (eX9_isSimple (d := d + 5) hy1) rfl rfl ?_
  refine ev_aload_n (pc' := 677) dL_law_676 rfl rfl ?_
  replace h := qbd h; obtain ⟨y2, hy2, h⟩ := h
  refine ev_callg (pc' := 680) (st2 := [iv y2.1, iv y1]) dL_law_677 (qs_V tc_11_157 rfl rfl (cS_cls sh78) rfl) rfl rfl (eX10_isSimple (d := d + 4) hy2) rfl rfl ?_
  refine ev_icmpeq (pc' := 683) (tgt := 2257) dL_law_680 (by decide) rfl (x1 := wr y1) (y1 := wr y2.1) rfl rfl  (fun c3 => ?_) (fun c3 => ?_)
  · replace h := qit c3 h
    cases h
    exact ev_wk (qLe_eq (qLe_eq (qLe_eq (qLe_eq (qLe_eq (qLe_eq (qLe_eq (qLe_eq (qLe_eq qLe_nil))))))))) kE
  · replace h := qif' c3 h
    refine ev_iconst (pc' := 684) dL_law_683 rfl ?_
    cases h
set_option maxRecDepth 100000 in
theorem esL_685 {Ls t d n : Nat} {i : Int} {μ : qMu} {z : Int × qMu} (hLs : Ls ≤ 5000) (h : sL_685 n Ls i μ = some z) (o : qO) (s' : qSt) (kE : Ev (d + 9) mL_law 2257 [some (.ref 1001000), some (.ref 0), some (.ref 78), some (.ref 92), some (iv i), none, none, none, none] [] (cS Ls (qTw t z.1) z.2) o s') : Ev (d + 9) mL_law 685 [some (.ref 1001000), some (.ref 0), some (.ref 78), some (.ref 92), some (iv i), none, none, none, none] [] (cS Ls t μ) o s' := by
  unfold sL_685 at h
  refine ev_aload_n (pc' := 686) dL_law_685 rfl rfl ?_
  refine ev_aload_n (pc' := 687) dL_law_686 rfl rfl ?_
  refine ev_iload (pc' := 689) dL_law_687 rfl rfl ?_
  refine ev_iconst (pc' := 690) dL_law_689 rfl ?_
  refine ev_iadd (pc' := 691) dL_law_690 rfl ?_
  replace h := qbd h; obtain ⟨x1, hx1, h⟩ := h
  refine ev_sald (pc' := 692) hLs dL_law_691 rfl hx1 ?_
  refine ev_aload_n (pc' := 693) dL_law_692 rfl rfl ?_
  replace h := qbd h; obtain ⟨y2, hy2, h⟩ := h
  refine ev_callg (pc' := 696) (st2 := [iv y2.1]) dL_law_693 (qs_S tc_11_158 (by decide) rfl rfl) rfl rfl (eL_neighbours (d := d + 5) hy2) rfl rfl ?_
  refine ev_istore (pc' := 698) (L1 := [some (.ref 1001000), some (.ref 0), some (.ref 78), some (.ref 92), some (iv i), some (iv y2.1), none, none, none]) dL_law_696 rfl rfl ?_
  refine ev_aload_n (pc' := 699) dL_law_698 rfl rfl ?_
  refine ev_aload_n (pc' := 700) dL_law_699 rfl rfl ?_
  refine ev_iload (pc' := 702) dL_law_700 rfl rfl ?_
  refine ev_iconst (pc' := 703) dL_law_702 rfl ?_
  refine ev_iadd (pc' := 704) dL_law_703 rfl ?_
  replace h := qbd h; obtain ⟨x3, hx3, h⟩ := h
  refine ev_sald (pc' := 705) hLs dL_law_704 rfl hx3 ?_
  replace h := qbd h; obtain ⟨y4, hy4, h⟩ := h
  refine ev_callg (pc' := 708) (st2 := [iv y4.1]) dL_law_705 (qs_V tc_11_160 rfl rfl (cS_cls sh78) rfl) rfl rfl (eX10_neighbours (d := d + 5) hy4) rfl rfl ?_
  refine ev_istore (pc' := 710) (L1 := [some (.ref 1001000), some (.ref 0), some (.ref 78), some (.ref 92), some (iv i), some (iv y2.1), some (iv y4.1), none, none]) dL_law_708 rfl rfl ?_
  refine ev_aload_n (pc' := 711) dL_law_710 rfl rfl ?_
  replace h := qbd h; obtain ⟨y5, hy5, h⟩ := h
  refine ev_callg (pc' := 714) (st2 := [iv y5]) dL_law_711 (qs_V tc_11_113 rfl rfl (cS_cls sh78) rfl) rfl rfl (eX10_thrown (d := d + 8) hy5) rfl rfl ?_
  refine ev_iload (pc' := 716) dL_law_714 rfl rfl ?_
  refine ev_icmpeq (pc' := 719) (tgt := 721) dL_law_716 (by decide) rfl (x1 := wr y5) (y1 := wr y2.1) rfl rfl  (fun c6 => ?_) (fun c6 => ?_)
  · replace h := qit c6 h
    refine ev_iload (pc' := 723) dL_law_721 rfl rfl ?_
    refine ev_ifne (pc' := 726) (tgt := 738) dL_law_723 (by decide) rfl (x1 := wr y2.1) rfl (fun c7 => ?_) (fun c7 => ?_)
    · replace h := qit c7 h
      refine ev_aload_n (pc' := 727) dL_law_726 rfl rfl ?_
      refine ev_iconst (pc' := 728) dL_law_727 rfl ?_
      replace h := qbd h; obtain ⟨x8, hx8, h⟩ := h
      refine ev_lald (pc' := 729) dL_law_728 rfl sh92 hx8 ?_
      refine ev_iload (pc' := 731) dL_law_729 rfl rfl ?_
      refine ev_i2l (pc' := 732) dL_law_731 rfl ?_
      refine ev_lcmp (pc' := 733) dL_law_732 rfl ?_
      refine ev_ifeq (pc' := 736) (tgt := 738) dL_law_733 (by decide) rfl (x1 := wr (lcm x8 y4.1)) rfl (fun c9 => ?_) (fun c9 => ?_)
      · replace h := qit c9 h
        refine ev_goto (pc' := 2257) dL_law_738 (by decide) ?_
        cases h
        exact ev_wk (qLe_eq (qLe_eq (qLe_eq (qLe_eq (qLe_eq (qLe_sk (qLe_sk (qLe_eq (qLe_eq qLe_nil))))))))) kE
      · replace h := qif' c9 h
        refine ev_iconst (pc' := 737) dL_law_736 rfl ?_
        cases h
    · replace h := qif' c7 h
      refine ev_goto (pc' := 2257) dL_law_738 (by decide) ?_
      cases h
      exact ev_wk (qLe_eq (qLe_eq (qLe_eq (qLe_eq (qLe_eq (qLe_sk (qLe_sk (qLe_eq (qLe_eq qLe_nil))))))))) kE
  · replace h := qif' c6 h
    refine ev_iconst (pc' := 720) dL_law_719 rfl ?_
    cases h
set_option maxRecDepth 100000 in
theorem esL_741 {Ls t d n : Nat} {i : Int} {μ : qMu} {z : Int × qMu} (hLs : Ls ≤ 5000) (h : sL_741 n Ls i μ = some z) (o : qO) (s' : qSt) (kE : Ev (d + 9) mL_law 2257 [some (.ref 1001000), some (.ref 0), some (.ref 78), some (.ref 92), some (iv i), none, none, none, none] [] (cS Ls (qTw t z.1) z.2) o s') : Ev (d + 9) mL_law 741 [some (.ref 1001000), some (.ref 0), some (.ref 78), some (.ref 92), some (iv i), none, none, none, none] [] (cS Ls t μ) o s' := by
  unfold sL_741 at h
  refine ev_aload_n (pc' := 742) dL_law_741 rfl rfl ?_
  replace h := qbd h; obtain ⟨y1, hy1, h⟩ := h
  refine ev_callg (pc' := 745) (st2 := [iv y1]) dL_law_742 (qs_V tc_11_161 rfl rfl (cS_cls sh0) rfl) rfl rfl (eX9_triangles (d := d + 5) hy1) rfl rfl ?_
  refine ev_aload_n (pc' := 746) dL_law_745 rfl rfl ?_
  replace h := qbd h; obtain ⟨y2, hy2, h⟩ := h
  refine ev_callg (pc' := 749) (st2 := [iv y2.1, iv y1]) dL_law_746 (qs_V tc_11_164 rfl rfl (cS_cls sh78) rfl) rfl rfl (eX10_triangles (d := d + 5) hy2) rfl rfl ?_
  refine ev_icmpeq (pc' := 752) (tgt := 2257) dL_law_749 (by decide) rfl (x1 := wr y1) (y1 := wr y2.1) rfl rfl  (fun c3 => ?_) (fun c3 => ?_)
  · replace h := qit c3 h
    cases h
    exact ev_wk (qLe_eq (qLe_eq (qLe_eq (qLe_eq (qLe_eq (qLe_eq (qLe_eq (qLe_eq (qLe_eq qLe_nil))))))))) kE
  · replace h := qif' c3 h
    refine ev_iconst (pc' := 753) dL_law_752 rfl ?_
    cases h
set_option maxRecDepth 100000 in
theorem esL_754 {Ls t d n : Nat} {i : Int} {μ : qMu} {z : Int × qMu} (hLs : Ls ≤ 5000) (h : sL_754 n Ls i μ = some z) (o : qO) (s' : qSt) (kE : Ev (d + 9) mL_law 2257 [some (.ref 1001000), some (.ref 0), some (.ref 78), some (.ref 92), some (iv i), none, none, none, none] [] (cS Ls (qTw t z.1) z.2) o s') : Ev (d + 9) mL_law 754 [some (.ref 1001000), some (.ref 0), some (.ref 78), some (.ref 92), some (iv i), none, none, none, none] [] (cS Ls t μ) o s' := by
  unfold sL_754 at h
  refine ev_aload_n (pc' := 755) dL_law_754 rfl rfl ?_
  replace h := qbd h; obtain ⟨y1, hy1, h⟩ := h
  refine ev_callg (pc' := 758) (st2 := [iv y1.1]) dL_law_755 (qs_V tc_11_165 rfl rfl (cS_cls sh0) rfl) rfl rfl (eX9_components (d := d + 6) hy1) rfl rfl ?_
  refine ev_aload_n (pc' := 759) dL_law_758 rfl rfl ?_
  replace h := qbd h; obtain ⟨y2, hy2, h⟩ := h
  refine ev_callg (pc' := 762) (st2 := [iv y2.1, iv y1.1]) dL_law_759 (qs_V tc_11_168 rfl rfl (cS_cls sh78) rfl) rfl rfl (eX10_components (d := d + 3) hy2) rfl rfl ?_
  refine ev_icmpeq (pc' := 765) (tgt := 2257) dL_law_762 (by decide) rfl (x1 := wr y1.1) (y1 := wr y2.1) rfl rfl  (fun c3 => ?_) (fun c3 => ?_)
  · replace h := qit c3 h
    cases h
    exact ev_wk (qLe_eq (qLe_eq (qLe_eq (qLe_eq (qLe_eq (qLe_eq (qLe_eq (qLe_eq (qLe_eq qLe_nil))))))))) kE
  · replace h := qif' c3 h
    refine ev_iconst (pc' := 766) dL_law_765 rfl ?_
    cases h
set_option maxRecDepth 100000 in
theorem esL_767 {Ls t d n : Nat} {i : Int} {μ : qMu} {z : Int × qMu} (hLs : Ls ≤ 5000) (h : sL_767 n Ls i μ = some z) (o : qO) (s' : qSt) (kE : Ev (d + 9) mL_law 2257 [some (.ref 1001000), some (.ref 0), some (.ref 78), some (.ref 92), some (iv i), none, none, none, none] [] (cS Ls (qTw t z.1) z.2) o s') : Ev (d + 9) mL_law 767 [some (.ref 1001000), some (.ref 0), some (.ref 78), some (.ref 92), some (iv i), none, none, none, none] [] (cS Ls t μ) o s' := by
  unfold sL_767 at h
  refine ev_aload_n (pc' := 768) dL_law_767 rfl rfl ?_
  refine ev_aload_n (pc' := 769) dL_law_768 rfl rfl ?_
  refine ev_iload (pc' := 771) dL_law_769 rfl rfl ?_
  refine ev_iconst (pc' := 772) dL_law_771 rfl ?_
  refine ev_iadd (pc' := 773) dL_law_772 rfl ?_
  replace h := qbd h; obtain ⟨x1, hx1, h⟩ := h
  refine ev_sald (pc' := 774) hLs dL_law_773 rfl hx1 ?_
  refine ev_aload_n (pc' := 775) dL_law_774 rfl rfl ?_
  replace h := qbd h; obtain ⟨y2, hy2, h⟩ := h
  refine ev_callg (pc' := 778) (st2 := [iv y2.1]) dL_law_775 (qs_S tc_11_169 (by decide) rfl rfl) rfl rfl (eL_component (d := d + 5) hy2) rfl rfl ?_
  refine ev_istore (pc' := 780) (L1 := [some (.ref 1001000), some (.ref 0), some (.ref 78), some (.ref 92), some (iv i), some (iv y2.1), none, none, none]) dL_law_778 rfl rfl ?_
  refine ev_aload_n (pc' := 781) dL_law_780 rfl rfl ?_
  refine ev_aload_n (pc' := 782) dL_law_781 rfl rfl ?_
  refine ev_iload (pc' := 784) dL_law_782 rfl rfl ?_
  refine ev_iconst (pc' := 785) dL_law_784 rfl ?_
  refine ev_iadd (pc' := 786) dL_law_785 rfl ?_
  replace h := qbd h; obtain ⟨x3, hx3, h⟩ := h
  refine ev_sald (pc' := 787) hLs dL_law_786 rfl hx3 ?_
  replace h := qbd h; obtain ⟨y4, hy4, h⟩ := h
  refine ev_callg (pc' := 790) (st2 := [iv y4.1]) dL_law_787 (qs_V tc_11_171 rfl rfl (cS_cls sh78) rfl) rfl rfl (eX10_component (d := d + 3) hy4) rfl rfl ?_
  refine ev_istore (pc' := 792) (L1 := [some (.ref 1001000), some (.ref 0), some (.ref 78), some (.ref 92), some (iv i), some (iv y2.1), some (iv y4.1), none, none]) dL_law_790 rfl rfl ?_
  refine ev_aload_n (pc' := 793) dL_law_792 rfl rfl ?_
  replace h := qbd h; obtain ⟨y5, hy5, h⟩ := h
  refine ev_callg (pc' := 796) (st2 := [iv y5]) dL_law_793 (qs_V tc_11_113 rfl rfl (cS_cls sh78) rfl) rfl rfl (eX10_thrown (d := d + 8) hy5) rfl rfl ?_
  refine ev_iload (pc' := 798) dL_law_796 rfl rfl ?_
  refine ev_icmpeq (pc' := 801) (tgt := 803) dL_law_798 (by decide) rfl (x1 := wr y5) (y1 := wr y2.1) rfl rfl  (fun c6 => ?_) (fun c6 => ?_)
  · replace h := qit c6 h
    refine ev_iload (pc' := 805) dL_law_803 rfl rfl ?_
    refine ev_ifne (pc' := 808) (tgt := 820) dL_law_805 (by decide) rfl (x1 := wr y2.1) rfl (fun c7 => ?_) (fun c7 => ?_)
    · replace h := qit c7 h
      refine ev_aload_n (pc' := 809) dL_law_808 rfl rfl ?_
      refine ev_iconst (pc' := 810) dL_law_809 rfl ?_
      replace h := qbd h; obtain ⟨x8, hx8, h⟩ := h
      refine ev_lald (pc' := 811) dL_law_810 rfl sh92 hx8 ?_
      refine ev_iload (pc' := 813) dL_law_811 rfl rfl ?_
      refine ev_i2l (pc' := 814) dL_law_813 rfl ?_
      refine ev_lcmp (pc' := 815) dL_law_814 rfl ?_
      refine ev_ifeq (pc' := 818) (tgt := 820) dL_law_815 (by decide) rfl (x1 := wr (lcm x8 y4.1)) rfl (fun c9 => ?_) (fun c9 => ?_)
      · replace h := qit c9 h
        refine ev_goto (pc' := 2257) dL_law_820 (by decide) ?_
        cases h
        exact ev_wk (qLe_eq (qLe_eq (qLe_eq (qLe_eq (qLe_eq (qLe_sk (qLe_sk (qLe_eq (qLe_eq qLe_nil))))))))) kE
      · replace h := qif' c9 h
        refine ev_iconst (pc' := 819) dL_law_818 rfl ?_
        cases h
    · replace h := qif' c7 h
      refine ev_goto (pc' := 2257) dL_law_820 (by decide) ?_
      cases h
      exact ev_wk (qLe_eq (qLe_eq (qLe_eq (qLe_eq (qLe_eq (qLe_sk (qLe_sk (qLe_eq (qLe_eq qLe_nil))))))))) kE
  · replace h := qif' c6 h
    refine ev_iconst (pc' := 802) dL_law_801 rfl ?_
    cases h
set_option maxRecDepth 100000 in
theorem esL_823 {Ls t d n : Nat} {i : Int} {μ : qMu} {z : Int × qMu} (hLs : Ls ≤ 5000) (h : sL_823 n Ls i μ = some z) (o : qO) (s' : qSt) (kE : Ev (d + 9) mL_law 2257 [some (.ref 1001000), some (.ref 0), some (.ref 78), some (.ref 92), some (iv i), none, none, none, none] [] (cS Ls (qTw t z.1) z.2) o s') : Ev (d + 9) mL_law 823 [some (.ref 1001000), some (.ref 0), some (.ref 78), some (.ref 92), some (iv i), none, none, none, none] [] (cS Ls t μ) o s' := by
  unfold sL_823 at h
  refine ev_aload_n (pc' := 824) dL_law_823 rfl rfl ?_
  replace h := qbd h; obtain ⟨y1, hy1, h⟩ := h
  refine ev_callg (pc' := 827) (st2 := [iv y1.1]) dL_law_824 (qs_V tc_11_172 rfl rfl (cS_cls sh0) rfl) rfl rfl (eX9_isConnected (d := d + 4) hy1) rfl rfl ?_
  refine ev_aload_n (pc' := 828) dL_law_827 rfl rfl ?_
  replace h := qbd h; obtain ⟨y2, hy2, h⟩ := h
  refine ev_callg (pc' := 831) (st2 := [iv y2.1, iv y1.1]) dL_law_828 (qs_V tc_11_175 rfl rfl (cS_cls sh78) rfl) rfl rfl (eX10_isConnected (d := d + 2) hy2) rfl rfl ?_
  refine ev_icmpeq (pc' := 834) (tgt := 2257) dL_law_831 (by decide) rfl (x1 := wr y1.1) (y1 := wr y2.1) rfl rfl  (fun c3 => ?_) (fun c3 => ?_)
  · replace h := qit c3 h
    cases h
    exact ev_wk (qLe_eq (qLe_eq (qLe_eq (qLe_eq (qLe_eq (qLe_eq (qLe_eq (qLe_eq (qLe_eq qLe_nil))))))))) kE
  · replace h := qif' c3 h
    refine ev_iconst (pc' := 835) dL_law_834 rfl ?_
    cases h
set_option maxRecDepth 100000 in
theorem esL_836 {Ls t d n : Nat} {i : Int} {μ : qMu} {z : Int × qMu} (hLs : Ls ≤ 5000) (h : sL_836 n Ls i μ = some z) (o : qO) (s' : qSt) (kE : Ev (d + 9) mL_law 2257 [some (.ref 1001000), some (.ref 0), some (.ref 78), some (.ref 92), some (iv i), none, none, none, none] [] (cS Ls (qTw t z.1) z.2) o s') : Ev (d + 9) mL_law 836 [some (.ref 1001000), some (.ref 0), some (.ref 78), some (.ref 92), some (iv i), none, none, none, none] [] (cS Ls t μ) o s' := by
  unfold sL_836 at h
  refine ev_aload_n (pc' := 837) dL_law_836 rfl rfl ?_
  refine ev_aload_n (pc' := 838) dL_law_837 rfl rfl ?_
  refine ev_iload (pc' := 840) dL_law_838 rfl rfl ?_
  refine ev_iconst (pc' := 841) dL_law_840 rfl ?_
  refine ev_iadd (pc' := 842) dL_law_841 rfl ?_
  replace h := qbd h; obtain ⟨x1, hx1, h⟩ := h
  refine ev_sald (pc' := 843) hLs dL_law_842 rfl hx1 ?_
  refine ev_aload_n (pc' := 844) dL_law_843 rfl rfl ?_
  refine ev_iload (pc' := 846) dL_law_844 rfl rfl ?_
  refine ev_iconst (pc' := 847) dL_law_846 rfl ?_
  refine ev_iadd (pc' := 848) dL_law_847 rfl ?_
  replace h := qbd h; obtain ⟨x2, hx2, h⟩ := h
  refine ev_sald (pc' := 849) hLs dL_law_848 rfl hx2 ?_
  refine ev_aload_n (pc' := 850) dL_law_849 rfl rfl ?_
  replace h := qbd h; obtain ⟨y3, hy3, h⟩ := h
  refine ev_callg (pc' := 853) (st2 := [iv y3.1]) dL_law_850 (qs_S tc_11_176 (by decide) rfl rfl) rfl rfl (eL_isBridge (d := d + 4) hy3) rfl rfl ?_
  refine ev_istore (pc' := 855) (L1 := [some (.ref 1001000), some (.ref 0), some (.ref 78), some (.ref 92), some (iv i), some (iv y3.1), none, none, none]) dL_law_853 rfl rfl ?_
  refine ev_aload_n (pc' := 856) dL_law_855 rfl rfl ?_
  refine ev_aload_n (pc' := 857) dL_law_856 rfl rfl ?_
  refine ev_iload (pc' := 859) dL_law_857 rfl rfl ?_
  refine ev_iconst (pc' := 860) dL_law_859 rfl ?_
  refine ev_iadd (pc' := 861) dL_law_860 rfl ?_
  replace h := qbd h; obtain ⟨x4, hx4, h⟩ := h
  refine ev_sald (pc' := 862) hLs dL_law_861 rfl hx4 ?_
  refine ev_aload_n (pc' := 863) dL_law_862 rfl rfl ?_
  refine ev_iload (pc' := 865) dL_law_863 rfl rfl ?_
  refine ev_iconst (pc' := 866) dL_law_865 rfl ?_
  refine ev_iadd (pc' := 867) dL_law_866 rfl ?_
  replace h := qbd h; obtain ⟨x5, hx5, h⟩ := h
  refine ev_sald (pc' := 868) hLs dL_law_867 rfl hx5 ?_
  replace h := qbd h; obtain ⟨y6, hy6, h⟩ := h
  refine ev_callg (pc' := 871) (st2 := [iv y6.1]) dL_law_868 (qs_V tc_11_179 rfl rfl (cS_cls sh78) rfl) rfl rfl (eX10_isBridge (d := d + 2) hy6) rfl rfl ?_
  refine ev_istore (pc' := 873) (L1 := [some (.ref 1001000), some (.ref 0), some (.ref 78), some (.ref 92), some (iv i), some (iv y3.1), some (iv y6.1), none, none]) dL_law_871 rfl rfl ?_
  refine ev_aload_n (pc' := 874) dL_law_873 rfl rfl ?_
  replace h := qbd h; obtain ⟨y7, hy7, h⟩ := h
  refine ev_callg (pc' := 877) (st2 := [iv y7]) dL_law_874 (qs_V tc_11_113 rfl rfl (cS_cls sh78) rfl) rfl rfl (eX10_thrown (d := d + 8) hy7) rfl rfl ?_
  refine ev_iload (pc' := 879) dL_law_877 rfl rfl ?_
  refine ev_icmpeq (pc' := 882) (tgt := 884) dL_law_879 (by decide) rfl (x1 := wr y7) (y1 := wr y3.1) rfl rfl  (fun c8 => ?_) (fun c8 => ?_)
  · replace h := qit c8 h
    refine ev_iload (pc' := 886) dL_law_884 rfl rfl ?_
    refine ev_ifne (pc' := 889) (tgt := 908) dL_law_886 (by decide) rfl (x1 := wr y3.1) rfl (fun c9 => ?_) (fun c9 => ?_)
    · replace h := qit c9 h
      refine ev_aload_n (pc' := 890) dL_law_889 rfl rfl ?_
      refine ev_iconst (pc' := 891) dL_law_890 rfl ?_
      replace h := qbd h; obtain ⟨x10, hx10, h⟩ := h
      refine ev_lald (pc' := 892) dL_law_891 rfl sh92 hx10 ?_
      refine ev_iload (pc' := 894) dL_law_892 rfl rfl ?_
      have k12 : ∀ j13 : Int, j13 = (if wr y6.1 = 0 then 0 else 1) → Ev (d + 9) mL_law 902 [some (.ref 1001000), some (.ref 0), some (.ref 78), some (.ref 92), some (iv i), none, none, none, none] [ql j13, ql x10] (cS Ls (qTw t y3.1) y6.2) o s' := by
        intro j13 ej13
        subst ej13
        refine ev_lcmp (pc' := 903) dL_law_902 rfl ?_
        refine ev_ifeq (pc' := 906) (tgt := 908) dL_law_903 (by decide) rfl (x1 := wr (lcm x10 (if wr y6.1 = 0 then 0 else 1))) rfl (fun c14 => ?_) (fun c14 => ?_)
        · replace h := qit c14 h
          refine ev_goto (pc' := 2257) dL_law_908 (by decide) ?_
          cases h
          exact ev_wk (qLe_eq (qLe_eq (qLe_eq (qLe_eq (qLe_eq (qLe_eq (qLe_eq (qLe_eq (qLe_eq qLe_nil))))))))) kE
        · replace h := qif' c14 h
          refine ev_iconst (pc' := 907) dL_law_906 rfl ?_
          cases h
      refine ev_ifeq (pc' := 897) (tgt := 901) dL_law_894 (by decide) rfl (x1 := wr y6.1) rfl (fun c11 => ?_) (fun c11 => ?_)
      · skip
        refine ev_lconst0 (pc' := 902) dL_law_901 rfl ?_
        exact ev_wk (qLe_eq (qLe_eq (qLe_eq (qLe_eq (qLe_eq (qLe_sk (qLe_sk (qLe_eq (qLe_eq qLe_nil))))))))) (k12 _ (qet c11 rfl))
      · skip
        refine ev_lconst1 (pc' := 898) dL_law_897 rfl ?_
        refine ev_goto (pc' := 902) dL_law_898 (by decide) ?_
        exact ev_wk (qLe_eq (qLe_eq (qLe_eq (qLe_eq (qLe_eq (qLe_sk (qLe_sk (qLe_eq (qLe_eq qLe_nil))))))))) (k12 _ (qef c11 rfl))
    · replace h := qif' c9 h
      refine ev_goto (pc' := 2257) dL_law_908 (by decide) ?_
      cases h
      exact ev_wk (qLe_eq (qLe_eq (qLe_eq (qLe_eq (qLe_eq (qLe_sk (qLe_sk (qLe_eq (qLe_eq qLe_nil))))))))) kE
  · replace h := qif' c8 h
    refine ev_iconst (pc' := 883) dL_law_882 rfl ?_
    cases h
set_option maxRecDepth 100000 in
theorem esL_911 {Ls t d n : Nat} {i : Int} {μ : qMu} {z : Int × qMu} (hLs : Ls ≤ 5000) (h : sL_911 n Ls i μ = some z) (o : qO) (s' : qSt) (kE : Ev (d + 9) mL_law 2257 [some (.ref 1001000), some (.ref 0), some (.ref 78), some (.ref 92), some (iv i), none, none, none, none] [] (cS Ls (qTw t z.1) z.2) o s') : Ev (d + 9) mL_law 911 [some (.ref 1001000), some (.ref 0), some (.ref 78), some (.ref 92), some (iv i), none, none, none, none] [] (cS Ls t μ) o s' := by
  unfold sL_911 at h
  refine ev_aload_n (pc' := 912) dL_law_911 rfl rfl ?_
  replace h := qbd h; obtain ⟨y1, hy1, h⟩ := h
  refine ev_callg (pc' := 915) (st2 := [iv y1.1]) dL_law_912 (qs_V tc_11_180 rfl rfl (cS_cls sh0) rfl) rfl rfl (eX9_bridges (d := d + 5) hy1) rfl rfl ?_
  refine ev_aload_n (pc' := 916) dL_law_915 rfl rfl ?_
  replace h := qbd h; obtain ⟨y2, hy2, h⟩ := h
  refine ev_callg (pc' := 919) (st2 := [iv y2.1, iv y1.1]) dL_law_916 (qs_V tc_11_183 rfl rfl (cS_cls sh78) rfl) rfl rfl (eX10_bridges (d := d + 2) hy2) rfl rfl ?_
  refine ev_icmpeq (pc' := 922) (tgt := 2257) dL_law_919 (by decide) rfl (x1 := wr y1.1) (y1 := wr y2.1) rfl rfl  (fun c3 => ?_) (fun c3 => ?_)
  · replace h := qit c3 h
    cases h
    exact ev_wk (qLe_eq (qLe_eq (qLe_eq (qLe_eq (qLe_eq (qLe_eq (qLe_eq (qLe_eq (qLe_eq qLe_nil))))))))) kE
  · replace h := qif' c3 h
    refine ev_iconst (pc' := 923) dL_law_922 rfl ?_
    cases h
set_option maxRecDepth 100000 in
theorem esL_924 {Ls t d n : Nat} {i : Int} {μ : qMu} {z : Int × qMu} (hLs : Ls ≤ 5000) (h : sL_924 n Ls i μ = some z) (o : qO) (s' : qSt) (kE : Ev (d + 9) mL_law 2257 [some (.ref 1001000), some (.ref 0), some (.ref 78), some (.ref 92), some (iv i), none, none, none, none] [] (cS Ls (qTw t z.1) z.2) o s') : Ev (d + 9) mL_law 924 [some (.ref 1001000), some (.ref 0), some (.ref 78), some (.ref 92), some (iv i), none, none, none, none] [] (cS Ls t μ) o s' := by
  unfold sL_924 at h
  refine ev_aload_n (pc' := 925) dL_law_924 rfl rfl ?_
  refine ev_aload_n (pc' := 926) dL_law_925 rfl rfl ?_
  refine ev_iload (pc' := 928) dL_law_926 rfl rfl ?_
  refine ev_iconst (pc' := 929) dL_law_928 rfl ?_
  refine ev_iadd (pc' := 930) dL_law_929 rfl ?_
  replace h := qbd h; obtain ⟨x1, hx1, h⟩ := h
  refine ev_sald (pc' := 931) hLs dL_law_930 rfl hx1 ?_
  refine ev_aload_n (pc' := 932) dL_law_931 rfl rfl ?_
  refine ev_iload (pc' := 934) dL_law_932 rfl rfl ?_
  refine ev_iconst (pc' := 935) dL_law_934 rfl ?_
  refine ev_iadd (pc' := 936) dL_law_935 rfl ?_
  replace h := qbd h; obtain ⟨x2, hx2, h⟩ := h
  refine ev_sald (pc' := 937) hLs dL_law_936 rfl hx2 ?_
  refine ev_aload_n (pc' := 938) dL_law_937 rfl rfl ?_
  replace h := qbd h; obtain ⟨y3, hy3, h⟩ := h
  refine ev_callg (pc' := 941) (st2 := [iv y3.1]) dL_law_938 (qs_S tc_11_184 (by decide) rfl rfl) rfl rfl (eL_way (d := d + 4) hy3) rfl rfl ?_
  refine ev_istore (pc' := 943) (L1 := [some (.ref 1001000), some (.ref 0), some (.ref 78), some (.ref 92), some (iv i), some (iv y3.1), none, none, none]) dL_law_941 rfl rfl ?_
  refine ev_aload_n (pc' := 944) dL_law_943 rfl rfl ?_
  refine ev_aload_n (pc' := 945) dL_law_944 rfl rfl ?_
  refine ev_iload (pc' := 947) dL_law_945 rfl rfl ?_
  refine ev_iconst (pc' := 948) dL_law_947 rfl ?_
  refine ev_iadd (pc' := 949) dL_law_948 rfl ?_
  replace h := qbd h; obtain ⟨x4, hx4, h⟩ := h
  refine ev_sald (pc' := 950) hLs dL_law_949 rfl hx4 ?_
  refine ev_aload_n (pc' := 951) dL_law_950 rfl rfl ?_
  refine ev_iload (pc' := 953) dL_law_951 rfl rfl ?_
  refine ev_iconst (pc' := 954) dL_law_953 rfl ?_
  refine ev_iadd (pc' := 955) dL_law_954 rfl ?_
  replace h := qbd h; obtain ⟨x5, hx5, h⟩ := h
  refine ev_sald (pc' := 956) hLs dL_law_955 rfl hx5 ?_
  replace h := qbd h; obtain ⟨y6, hy6, h⟩ := h
  refine ev_callg (pc' := 959) (st2 := [iv y6.1]) dL_law_956 (qs_V tc_11_186 rfl rfl (cS_cls sh78) rfl) rfl rfl (eX10_way (d := d + 5) hy6) rfl rfl ?_
  refine ev_istore (pc' := 961) (L1 := [some (.ref 1001000), some (.ref 0), some (.ref 78), some (.ref 92), some (iv i), some (iv y3.1), some (iv y6.1), none, none]) dL_law_959 rfl rfl ?_
  refine ev_aload_n (pc' := 962) dL_law_961 rfl rfl ?_
  replace h := qbd h; obtain ⟨y7, hy7, h⟩ := h
  refine ev_callg (pc' := 965) (st2 := [iv y7]) dL_law_962 (qs_V tc_11_113 rfl rfl (cS_cls sh78) rfl) rfl rfl (eX10_thrown (d := d + 8) hy7) rfl rfl ?_
  refine ev_iload (pc' := 967) dL_law_965 rfl rfl ?_
  refine ev_icmpeq (pc' := 970) (tgt := 972) dL_law_967 (by decide) rfl (x1 := wr y7) (y1 := wr y3.1) rfl rfl  (fun c8 => ?_) (fun c8 => ?_)
  · replace h := qit c8 h
    refine ev_iload (pc' := 974) dL_law_972 rfl rfl ?_
    refine ev_ifne (pc' := 977) (tgt := 989) dL_law_974 (by decide) rfl (x1 := wr y3.1) rfl (fun c9 => ?_) (fun c9 => ?_)
    · replace h := qit c9 h
      refine ev_aload_n (pc' := 978) dL_law_977 rfl rfl ?_
      refine ev_iconst (pc' := 979) dL_law_978 rfl ?_
      replace h := qbd h; obtain ⟨x10, hx10, h⟩ := h
      refine ev_lald (pc' := 980) dL_law_979 rfl sh92 hx10 ?_
      refine ev_iload (pc' := 982) dL_law_980 rfl rfl ?_
      refine ev_i2l (pc' := 983) dL_law_982 rfl ?_
      refine ev_lcmp (pc' := 984) dL_law_983 rfl ?_
      refine ev_ifeq (pc' := 987) (tgt := 989) dL_law_984 (by decide) rfl (x1 := wr (lcm x10 y6.1)) rfl (fun c11 => ?_) (fun c11 => ?_)
      · replace h := qit c11 h
        refine ev_goto (pc' := 2257) dL_law_989 (by decide) ?_
        cases h
        exact ev_wk (qLe_eq (qLe_eq (qLe_eq (qLe_eq (qLe_eq (qLe_sk (qLe_sk (qLe_eq (qLe_eq qLe_nil))))))))) kE
      · replace h := qif' c11 h
        refine ev_iconst (pc' := 988) dL_law_987 rfl ?_
        cases h
    · replace h := qif' c9 h
      refine ev_goto (pc' := 2257) dL_law_989 (by decide) ?_
      cases h
      exact ev_wk (qLe_eq (qLe_eq (qLe_eq (qLe_eq (qLe_eq (qLe_sk (qLe_sk (qLe_eq (qLe_eq qLe_nil))))))))) kE
  · replace h := qif' c8 h
    refine ev_iconst (pc' := 971) dL_law_970 rfl ?_
    cases h
set_option maxRecDepth 100000 in
theorem esL_992 {Ls t d n : Nat} {i : Int} {μ : qMu} {z : Int × qMu} (hLs : Ls ≤ 5000) (h : sL_992 n Ls i μ = some z) (o : qO) (s' : qSt) (kE : Ev (d + 9) mL_law 2257 [some (.ref 1001000), some (.ref 0), some (.ref 78), some (.ref 92), some (iv i), none, none, none, none] [] (cS Ls (qTw t z.1) z.2) o s') : Ev (d + 9) mL_law 992 [some (.ref 1001000), some (.ref 0), some (.ref 78), some (.ref 92), some (iv i), none, none, none, none] [] (cS Ls t μ) o s' := by
  unfold sL_992 at h
  refine ev_aload_n (pc' := 993) dL_law_992 rfl rfl ?_
  refine ev_aload_n (pc' := 994) dL_law_993 rfl rfl ?_
  refine ev_iload (pc' := 996) dL_law_994 rfl rfl ?_
  refine ev_iconst (pc' := 997) dL_law_996 rfl ?_
  refine ev_iadd (pc' := 998) dL_law_997 rfl ?_
  replace h := qbd h; obtain ⟨x1, hx1, h⟩ := h
  refine ev_sald (pc' := 999) hLs dL_law_998 rfl hx1 ?_
  refine ev_aload_n (pc' := 1000) dL_law_999 rfl rfl ?_
  replace h := qbd h; obtain ⟨y2, hy2, h⟩ := h
  refine ev_callg (pc' := 1003) (st2 := [iv y2.1]) dL_law_1000 (qs_S tc_11_187 (by decide) rfl rfl) rfl rfl (eL_sorted (d := d + 4) hy2) rfl rfl ?_
  refine ev_istore (pc' := 1005) (L1 := [some (.ref 1001000), some (.ref 0), some (.ref 78), some (.ref 92), some (iv i), some (iv y2.1), none, none, none]) dL_law_1003 rfl rfl ?_
  refine ev_aload_n (pc' := 1006) dL_law_1005 rfl rfl ?_
  refine ev_aload_n (pc' := 1007) dL_law_1006 rfl rfl ?_
  refine ev_iload (pc' := 1009) dL_law_1007 rfl rfl ?_
  refine ev_iconst (pc' := 1010) dL_law_1009 rfl ?_
  refine ev_iadd (pc' := 1011) dL_law_1010 rfl ?_
  replace h := qbd h; obtain ⟨x3, hx3, h⟩ := h
  refine ev_sald (pc' := 1012) hLs dL_law_1011 rfl hx3 ?_
  replace h := qbd h; obtain ⟨y4, hy4, h⟩ := h
  refine ev_callg (pc' := 1015) (st2 := [iv y4.1]) dL_law_1012 (qs_V tc_11_189 rfl rfl (cS_cls sh78) rfl) rfl rfl (eX10_sorted (d := d + 4) hy4) rfl rfl ?_
  refine ev_istore (pc' := 1017) (L1 := [some (.ref 1001000), some (.ref 0), some (.ref 78), some (.ref 92), some (iv i), some (iv y2.1), some (iv y4.1), none, none]) dL_law_1015 rfl rfl ?_
  refine ev_aload_n (pc' := 1018) dL_law_1017 rfl rfl ?_
  replace h := qbd h; obtain ⟨y5, hy5, h⟩ := h
  refine ev_callg (pc' := 1021) (st2 := [iv y5]) dL_law_1018 (qs_V tc_11_113 rfl rfl (cS_cls sh78) rfl) rfl rfl (eX10_thrown (d := d + 8) hy5) rfl rfl ?_
  refine ev_iload (pc' := 1023) dL_law_1021 rfl rfl ?_
  refine ev_icmpeq (pc' := 1026) (tgt := 1028) dL_law_1023 (by decide) rfl (x1 := wr y5) (y1 := wr y2.1) rfl rfl  (fun c6 => ?_) (fun c6 => ?_)
  · replace h := qit c6 h
    refine ev_iload (pc' := 1030) dL_law_1028 rfl rfl ?_
    refine ev_ifne (pc' := 1033) (tgt := 1045) dL_law_1030 (by decide) rfl (x1 := wr y2.1) rfl (fun c7 => ?_) (fun c7 => ?_)
    · replace h := qit c7 h
      refine ev_aload_n (pc' := 1034) dL_law_1033 rfl rfl ?_
      refine ev_iconst (pc' := 1035) dL_law_1034 rfl ?_
      replace h := qbd h; obtain ⟨x8, hx8, h⟩ := h
      refine ev_lald (pc' := 1036) dL_law_1035 rfl sh92 hx8 ?_
      refine ev_iload (pc' := 1038) dL_law_1036 rfl rfl ?_
      refine ev_i2l (pc' := 1039) dL_law_1038 rfl ?_
      refine ev_lcmp (pc' := 1040) dL_law_1039 rfl ?_
      refine ev_ifeq (pc' := 1043) (tgt := 1045) dL_law_1040 (by decide) rfl (x1 := wr (lcm x8 y4.1)) rfl (fun c9 => ?_) (fun c9 => ?_)
      · replace h := qit c9 h
        refine ev_goto (pc' := 2257) dL_law_1045 (by decide) ?_
        cases h
        exact ev_wk (qLe_eq (qLe_eq (qLe_eq (qLe_eq (qLe_eq (qLe_sk (qLe_sk (qLe_eq (qLe_eq qLe_nil))))))))) kE
      · replace h := qif' c9 h
        refine ev_iconst (pc' := 1044) dL_law_1043 rfl ?_
        cases h
    · replace h := qif' c7 h
      refine ev_goto (pc' := 2257) dL_law_1045 (by decide) ?_
      cases h
      exact ev_wk (qLe_eq (qLe_eq (qLe_eq (qLe_eq (qLe_eq (qLe_sk (qLe_sk (qLe_eq (qLe_eq qLe_nil))))))))) kE
  · replace h := qif' c6 h
    refine ev_iconst (pc' := 1027) dL_law_1026 rfl ?_
    cases h
set_option maxRecDepth 100000 in
theorem esL_1048 {Ls t d n : Nat} {i : Int} {μ : qMu} {z : Int × qMu} (hLs : Ls ≤ 5000) (h : sL_1048 n Ls i μ = some z) (o : qO) (s' : qSt) (kE : Ev (d + 9) mL_law 2257 [some (.ref 1001000), some (.ref 0), some (.ref 78), some (.ref 92), some (iv i), none, none, none, none] [] (cS Ls (qTw t z.1) z.2) o s') : Ev (d + 9) mL_law 1048 [some (.ref 1001000), some (.ref 0), some (.ref 78), some (.ref 92), some (iv i), none, none, none, none] [] (cS Ls t μ) o s' := by
  unfold sL_1048 at h
  refine ev_aload_n (pc' := 1049) dL_law_1048 rfl rfl ?_
  refine ev_aload_n (pc' := 1050) dL_law_1049 rfl rfl ?_
  refine ev_iload (pc' := 1052) dL_law_1050 rfl rfl ?_
  refine ev_iconst (pc' := 1053) dL_law_1052 rfl ?_
  refine ev_iadd (pc' := 1054) dL_law_1053 rfl ?_
  replace h := qbd h; obtain ⟨x1, hx1, h⟩ := h
  refine ev_sald (pc' := 1055) hLs dL_law_1054 rfl hx1 ?_
  refine ev_aload_n (pc' := 1056) dL_law_1055 rfl rfl ?_
  replace h := qbd h; obtain ⟨y2, hy2, h⟩ := h
  refine ev_callg (pc' := 1059) (st2 := [iv y2.1]) dL_law_1056 (qs_S tc_11_190 (by decide) rfl rfl) rfl rfl (eL_slack (d := d + 4) hy2) rfl rfl ?_
  refine ev_istore (pc' := 1061) (L1 := [some (.ref 1001000), some (.ref 0), some (.ref 78), some (.ref 92), some (iv i), some (iv y2.1), none, none, none]) dL_law_1059 rfl rfl ?_
  refine ev_aload_n (pc' := 1062) dL_law_1061 rfl rfl ?_
  refine ev_aload_n (pc' := 1063) dL_law_1062 rfl rfl ?_
  refine ev_iload (pc' := 1065) dL_law_1063 rfl rfl ?_
  refine ev_iconst (pc' := 1066) dL_law_1065 rfl ?_
  refine ev_iadd (pc' := 1067) dL_law_1066 rfl ?_
  replace h := qbd h; obtain ⟨x3, hx3, h⟩ := h
  refine ev_sald (pc' := 1068) hLs dL_law_1067 rfl hx3 ?_
  replace h := qbd h; obtain ⟨y4, hy4, h⟩ := h
  refine ev_callg (pc' := 1071) (st2 := [iv y4.1]) dL_law_1068 (qs_V tc_11_192 rfl rfl (cS_cls sh78) rfl) rfl rfl (eX10_slack (d := d + 4) hy4) rfl rfl ?_
  refine ev_istore (pc' := 1073) (L1 := [some (.ref 1001000), some (.ref 0), some (.ref 78), some (.ref 92), some (iv i), some (iv y2.1), some (iv y4.1), none, none]) dL_law_1071 rfl rfl ?_
  refine ev_aload_n (pc' := 1074) dL_law_1073 rfl rfl ?_
  replace h := qbd h; obtain ⟨y5, hy5, h⟩ := h
  refine ev_callg (pc' := 1077) (st2 := [iv y5]) dL_law_1074 (qs_V tc_11_113 rfl rfl (cS_cls sh78) rfl) rfl rfl (eX10_thrown (d := d + 8) hy5) rfl rfl ?_
  refine ev_iload (pc' := 1079) dL_law_1077 rfl rfl ?_
  refine ev_icmpeq (pc' := 1082) (tgt := 1084) dL_law_1079 (by decide) rfl (x1 := wr y5) (y1 := wr y2.1) rfl rfl  (fun c6 => ?_) (fun c6 => ?_)
  · replace h := qit c6 h
    refine ev_iload (pc' := 1086) dL_law_1084 rfl rfl ?_
    refine ev_ifne (pc' := 1089) (tgt := 1101) dL_law_1086 (by decide) rfl (x1 := wr y2.1) rfl (fun c7 => ?_) (fun c7 => ?_)
    · replace h := qit c7 h
      refine ev_aload_n (pc' := 1090) dL_law_1089 rfl rfl ?_
      refine ev_iconst (pc' := 1091) dL_law_1090 rfl ?_
      replace h := qbd h; obtain ⟨x8, hx8, h⟩ := h
      refine ev_lald (pc' := 1092) dL_law_1091 rfl sh92 hx8 ?_
      refine ev_iload (pc' := 1094) dL_law_1092 rfl rfl ?_
      refine ev_i2l (pc' := 1095) dL_law_1094 rfl ?_
      refine ev_lcmp (pc' := 1096) dL_law_1095 rfl ?_
      refine ev_ifeq (pc' := 1099) (tgt := 1101) dL_law_1096 (by decide) rfl (x1 := wr (lcm x8 y4.1)) rfl (fun c9 => ?_) (fun c9 => ?_)
      · replace h := qit c9 h
        refine ev_goto (pc' := 2257) dL_law_1101 (by decide) ?_
        cases h
        exact ev_wk (qLe_eq (qLe_eq (qLe_eq (qLe_eq (qLe_eq (qLe_sk (qLe_sk (qLe_eq (qLe_eq qLe_nil))))))))) kE
      · replace h := qif' c9 h
        refine ev_iconst (pc' := 1100) dL_law_1099 rfl ?_
        cases h
    · replace h := qif' c7 h
      refine ev_goto (pc' := 2257) dL_law_1101 (by decide) ?_
      cases h
      exact ev_wk (qLe_eq (qLe_eq (qLe_eq (qLe_eq (qLe_eq (qLe_sk (qLe_sk (qLe_eq (qLe_eq qLe_nil))))))))) kE
  · replace h := qif' c6 h
    refine ev_iconst (pc' := 1083) dL_law_1082 rfl ?_
    cases h
set_option maxRecDepth 100000 in
theorem esL_1104 {Ls t d n : Nat} {i : Int} {μ : qMu} {z : Int × qMu} (hLs : Ls ≤ 5000) (h : sL_1104 n Ls i μ = some z) (o : qO) (s' : qSt) (kE : Ev (d + 9) mL_law 2257 [some (.ref 1001000), some (.ref 0), some (.ref 78), some (.ref 92), some (iv i), none, none, none, none] [] (cS Ls (qTw t z.1) z.2) o s') : Ev (d + 9) mL_law 1104 [some (.ref 1001000), some (.ref 0), some (.ref 78), some (.ref 92), some (iv i), none, none, none, none] [] (cS Ls t μ) o s' := by
  unfold sL_1104 at h
  refine ev_aload_n (pc' := 1105) dL_law_1104 rfl rfl ?_
  refine ev_aload_n (pc' := 1106) dL_law_1105 rfl rfl ?_
  refine ev_iload (pc' := 1108) dL_law_1106 rfl rfl ?_
  refine ev_iconst (pc' := 1109) dL_law_1108 rfl ?_
  refine ev_iadd (pc' := 1110) dL_law_1109 rfl ?_
  replace h := qbd h; obtain ⟨x1, hx1, h⟩ := h
  refine ev_sald (pc' := 1111) hLs dL_law_1110 rfl hx1 ?_
  refine ev_aload_n (pc' := 1112) dL_law_1111 rfl rfl ?_
  replace h := qbd h; obtain ⟨y2, hy2, h⟩ := h
  refine ev_callg (pc' := 1115) (st2 := [iv y2.1]) dL_law_1112 (qs_S tc_11_193 (by decide) rfl rfl) rfl rfl (eL_isPossible (d := d + 4) hy2) rfl rfl ?_
  refine ev_istore (pc' := 1117) (L1 := [some (.ref 1001000), some (.ref 0), some (.ref 78), some (.ref 92), some (iv i), some (iv y2.1), none, none, none]) dL_law_1115 rfl rfl ?_
  refine ev_aload_n (pc' := 1118) dL_law_1117 rfl rfl ?_
  refine ev_aload_n (pc' := 1119) dL_law_1118 rfl rfl ?_
  refine ev_iload (pc' := 1121) dL_law_1119 rfl rfl ?_
  refine ev_iconst (pc' := 1122) dL_law_1121 rfl ?_
  refine ev_iadd (pc' := 1123) dL_law_1122 rfl ?_
  replace h := qbd h; obtain ⟨x3, hx3, h⟩ := h
  refine ev_sald (pc' := 1124) hLs dL_law_1123 rfl hx3 ?_
  replace h := qbd h; obtain ⟨y4, hy4, h⟩ := h
  refine ev_callg (pc' := 1127) (st2 := [iv y4.1]) dL_law_1124 (qs_V tc_11_195 rfl rfl (cS_cls sh78) rfl) rfl rfl (eX10_isPossible (d := d + 3) hy4) rfl rfl ?_
  refine ev_istore (pc' := 1129) (L1 := [some (.ref 1001000), some (.ref 0), some (.ref 78), some (.ref 92), some (iv i), some (iv y2.1), some (iv y4.1), none, none]) dL_law_1127 rfl rfl ?_
  refine ev_aload_n (pc' := 1130) dL_law_1129 rfl rfl ?_
  replace h := qbd h; obtain ⟨y5, hy5, h⟩ := h
  refine ev_callg (pc' := 1133) (st2 := [iv y5]) dL_law_1130 (qs_V tc_11_113 rfl rfl (cS_cls sh78) rfl) rfl rfl (eX10_thrown (d := d + 8) hy5) rfl rfl ?_
  refine ev_iload (pc' := 1135) dL_law_1133 rfl rfl ?_
  refine ev_icmpeq (pc' := 1138) (tgt := 1140) dL_law_1135 (by decide) rfl (x1 := wr y5) (y1 := wr y2.1) rfl rfl  (fun c6 => ?_) (fun c6 => ?_)
  · replace h := qit c6 h
    refine ev_iload (pc' := 1142) dL_law_1140 rfl rfl ?_
    refine ev_ifne (pc' := 1145) (tgt := 1164) dL_law_1142 (by decide) rfl (x1 := wr y2.1) rfl (fun c7 => ?_) (fun c7 => ?_)
    · replace h := qit c7 h
      refine ev_aload_n (pc' := 1146) dL_law_1145 rfl rfl ?_
      refine ev_iconst (pc' := 1147) dL_law_1146 rfl ?_
      replace h := qbd h; obtain ⟨x8, hx8, h⟩ := h
      refine ev_lald (pc' := 1148) dL_law_1147 rfl sh92 hx8 ?_
      refine ev_iload (pc' := 1150) dL_law_1148 rfl rfl ?_
      have k10 : ∀ j11 : Int, j11 = (if wr y4.1 = 0 then 0 else 1) → Ev (d + 9) mL_law 1158 [some (.ref 1001000), some (.ref 0), some (.ref 78), some (.ref 92), some (iv i), none, none, none, none] [ql j11, ql x8] (cS Ls (qTw t y2.1) y4.2) o s' := by
        intro j11 ej11
        subst ej11
        refine ev_lcmp (pc' := 1159) dL_law_1158 rfl ?_
        refine ev_ifeq (pc' := 1162) (tgt := 1164) dL_law_1159 (by decide) rfl (x1 := wr (lcm x8 (if wr y4.1 = 0 then 0 else 1))) rfl (fun c12 => ?_) (fun c12 => ?_)
        · replace h := qit c12 h
          refine ev_goto (pc' := 2257) dL_law_1164 (by decide) ?_
          cases h
          exact ev_wk (qLe_eq (qLe_eq (qLe_eq (qLe_eq (qLe_eq (qLe_eq (qLe_eq (qLe_eq (qLe_eq qLe_nil))))))))) kE
        · replace h := qif' c12 h
          refine ev_iconst (pc' := 1163) dL_law_1162 rfl ?_
          cases h
      refine ev_ifeq (pc' := 1153) (tgt := 1157) dL_law_1150 (by decide) rfl (x1 := wr y4.1) rfl (fun c9 => ?_) (fun c9 => ?_)
      · skip
        refine ev_lconst0 (pc' := 1158) dL_law_1157 rfl ?_
        exact ev_wk (qLe_eq (qLe_eq (qLe_eq (qLe_eq (qLe_eq (qLe_sk (qLe_sk (qLe_eq (qLe_eq qLe_nil))))))))) (k10 _ (qet c9 rfl))
      · skip
        refine ev_lconst1 (pc' := 1154) dL_law_1153 rfl ?_
        refine ev_goto (pc' := 1158) dL_law_1154 (by decide) ?_
        exact ev_wk (qLe_eq (qLe_eq (qLe_eq (qLe_eq (qLe_eq (qLe_sk (qLe_sk (qLe_eq (qLe_eq qLe_nil))))))))) (k10 _ (qef c9 rfl))
    · replace h := qif' c7 h
      refine ev_goto (pc' := 2257) dL_law_1164 (by decide) ?_
      cases h
      exact ev_wk (qLe_eq (qLe_eq (qLe_eq (qLe_eq (qLe_eq (qLe_sk (qLe_sk (qLe_eq (qLe_eq qLe_nil))))))))) kE
  · replace h := qif' c6 h
    refine ev_iconst (pc' := 1139) dL_law_1138 rfl ?_
    cases h
set_option maxRecDepth 100000 in
theorem esL_1167 {Ls t d n : Nat} {i : Int} {μ : qMu} {z : Int × qMu} (hLs : Ls ≤ 5000) (h : sL_1167 n Ls i μ = some z) (o : qO) (s' : qSt) (kE : Ev (d + 9) mL_law 2257 [some (.ref 1001000), some (.ref 0), some (.ref 78), some (.ref 92), some (iv i), none, none, none, none] [] (cS Ls (qTw t z.1) z.2) o s') : Ev (d + 9) mL_law 1167 [some (.ref 1001000), some (.ref 0), some (.ref 78), some (.ref 92), some (iv i), none, none, none, none] [] (cS Ls t μ) o s' := by
  unfold sL_1167 at h
  refine ev_aload_n (pc' := 1168) dL_law_1167 rfl rfl ?_
  replace h := qbd h; obtain ⟨y1, hy1, h⟩ := h
  refine ev_callg (pc' := 1171) (st2 := [.double y1]) dL_law_1168 (qs_V tc_11_196 rfl rfl (cS_cls sh0) rfl) rfl rfl (eX9_meanDegree (d := d + 7) hy1) rfl rfl ?_
  refine ev_dstore (pc' := 1173) (L1 := [some (.ref 1001000), some (.ref 0), some (.ref 78), some (.ref 92), some (iv i), some (.double y1), none, none, none]) dL_law_1171 rfl rfl ?_
  refine ev_aload_n (pc' := 1174) dL_law_1173 rfl rfl ?_
  replace h := qbd h; obtain ⟨y2, hy2, h⟩ := h
  refine ev_callg (pc' := 1177) (st2 := [.double y2.1]) dL_law_1174 (qs_V tc_11_200 rfl rfl (cS_cls sh78) rfl) rfl rfl (eX10_meanDegree (d := d + 5) hy2) rfl rfl ?_
  refine ev_dstore (pc' := 1179) (L1 := [some (.ref 1001000), some (.ref 0), some (.ref 78), some (.ref 92), some (iv i), some (.double y1), none, some (.double y2.1), none]) dL_law_1177 rfl rfl ?_
  refine ev_dload (pc' := 1181) dL_law_1179 rfl rfl ?_
  refine ev_dload (pc' := 1183) dL_law_1181 rfl rfl ?_
  refine ev_dcmp (pc' := 1184) dL_law_1183 rfl ?_
  refine ev_ifeq (pc' := 1187) (tgt := 1205) dL_law_1184 (by decide) rfl (x1 := wr (dcm y1 y2.1 .l)) rfl (fun c3 => ?_) (fun c3 => ?_)
  · replace h := qit c3 h
    refine ev_goto (pc' := 2257) dL_law_1205 (by decide) ?_
    cases h
    exact ev_wk (qLe_eq (qLe_eq (qLe_eq (qLe_eq (qLe_eq (qLe_sk (qLe_eq (qLe_sk (qLe_eq qLe_nil))))))))) kE
  · replace h := qif' c3 h
    refine ev_dload (pc' := 1189) dL_law_1187 rfl rfl ?_
    refine ev_dload (pc' := 1191) dL_law_1189 rfl rfl ?_
    refine ev_dcmp (pc' := 1192) dL_law_1191 rfl ?_
    refine ev_ifeq (pc' := 1195) (tgt := 1203) dL_law_1192 (by decide) rfl (x1 := wr (dcm y1 y1 .l)) rfl (fun c4 => ?_) (fun c4 => ?_)
    · replace h := qit c4 h
      refine ev_iconst (pc' := 1204) dL_law_1203 rfl ?_
      cases h
    · replace h := qif' c4 h
      refine ev_dload (pc' := 1197) dL_law_1195 rfl rfl ?_
      refine ev_dload (pc' := 1199) dL_law_1197 rfl rfl ?_
      refine ev_dcmp (pc' := 1200) dL_law_1199 rfl ?_
      refine ev_ifne (pc' := 1203) (tgt := 1205) dL_law_1200 (by decide) rfl (x1 := wr (dcm y2.1 y2.1 .l)) rfl (fun c5 => ?_) (fun c5 => ?_)
      · replace h := qit c5 h
        refine ev_iconst (pc' := 1204) dL_law_1203 rfl ?_
        cases h
      · replace h := qif' c5 h
        refine ev_goto (pc' := 2257) dL_law_1205 (by decide) ?_
        cases h
        exact ev_wk (qLe_eq (qLe_eq (qLe_eq (qLe_eq (qLe_eq (qLe_sk (qLe_eq (qLe_sk (qLe_eq qLe_nil))))))))) kE
set_option maxRecDepth 100000 in
theorem esL_1208 {Ls t d n : Nat} {i : Int} {μ : qMu} {z : Int × qMu} (hLs : Ls ≤ 5000) (h : sL_1208 n Ls i μ = some z) (o : qO) (s' : qSt) (kE : Ev (d + 9) mL_law 2257 [some (.ref 1001000), some (.ref 0), some (.ref 78), some (.ref 92), some (iv i), none, none, none, none] [] (cS Ls (qTw t z.1) z.2) o s') : Ev (d + 9) mL_law 1208 [some (.ref 1001000), some (.ref 0), some (.ref 78), some (.ref 92), some (iv i), none, none, none, none] [] (cS Ls t μ) o s' := by
  unfold sL_1208 at h
  refine ev_aload_n (pc' := 1209) dL_law_1208 rfl rfl ?_
  refine ev_aload_n (pc' := 1210) dL_law_1209 rfl rfl ?_
  refine ev_iload (pc' := 1212) dL_law_1210 rfl rfl ?_
  refine ev_iconst (pc' := 1213) dL_law_1212 rfl ?_
  refine ev_iadd (pc' := 1214) dL_law_1213 rfl ?_
  replace h := qbd h; obtain ⟨x1, hx1, h⟩ := h
  refine ev_sald (pc' := 1215) hLs dL_law_1214 rfl hx1 ?_
  refine ev_aload_n (pc' := 1216) dL_law_1215 rfl rfl ?_
  refine ev_iload (pc' := 1218) dL_law_1216 rfl rfl ?_
  refine ev_iconst (pc' := 1219) dL_law_1218 rfl ?_
  refine ev_iadd (pc' := 1220) dL_law_1219 rfl ?_
  replace h := qbd h; obtain ⟨x2, hx2, h⟩ := h
  refine ev_sald (pc' := 1221) hLs dL_law_1220 rfl hx2 ?_
  refine ev_aload_n (pc' := 1222) dL_law_1221 rfl rfl ?_
  refine ev_iload (pc' := 1224) dL_law_1222 rfl rfl ?_
  refine ev_iconst (pc' := 1225) dL_law_1224 rfl ?_
  refine ev_iadd (pc' := 1226) dL_law_1225 rfl ?_
  replace h := qbd h; obtain ⟨x3, hx3, h⟩ := h
  refine ev_sald (pc' := 1227) hLs dL_law_1226 rfl hx3 ?_
  refine ev_aload_n (pc' := 1228) dL_law_1227 rfl rfl ?_
  refine ev_iload (pc' := 1230) dL_law_1228 rfl rfl ?_
  refine ev_iconst (pc' := 1231) dL_law_1230 rfl ?_
  refine ev_iadd (pc' := 1232) dL_law_1231 rfl ?_
  replace h := qbd h; obtain ⟨x4, hx4, h⟩ := h
  refine ev_sald (pc' := 1233) hLs dL_law_1232 rfl hx4 ?_
  refine ev_aload_n (pc' := 1234) dL_law_1233 rfl rfl ?_
  replace h := qbd h; obtain ⟨y5, hy5, h⟩ := h
  refine ev_callg (pc' := 1237) (st2 := [iv y5.1]) dL_law_1234 (qs_S tc_11_201 (by decide) rfl rfl) rfl rfl (eL_reason (d := d + 4) hy5) rfl rfl ?_
  refine ev_istore (pc' := 1239) (L1 := [some (.ref 1001000), some (.ref 0), some (.ref 78), some (.ref 92), some (iv i), some (iv y5.1), none, none, none]) dL_law_1237 rfl rfl ?_
  refine ev_aload_n (pc' := 1240) dL_law_1239 rfl rfl ?_
  refine ev_aload_n (pc' := 1241) dL_law_1240 rfl rfl ?_
  refine ev_iload (pc' := 1243) dL_law_1241 rfl rfl ?_
  refine ev_iconst (pc' := 1244) dL_law_1243 rfl ?_
  refine ev_iadd (pc' := 1245) dL_law_1244 rfl ?_
  replace h := qbd h; obtain ⟨x6, hx6, h⟩ := h
  refine ev_sald (pc' := 1246) hLs dL_law_1245 rfl hx6 ?_
  refine ev_aload_n (pc' := 1247) dL_law_1246 rfl rfl ?_
  refine ev_iload (pc' := 1249) dL_law_1247 rfl rfl ?_
  refine ev_iconst (pc' := 1250) dL_law_1249 rfl ?_
  refine ev_iadd (pc' := 1251) dL_law_1250 rfl ?_
  replace h := qbd h; obtain ⟨x7, hx7, h⟩ := h
  refine ev_sald (pc' := 1252) hLs dL_law_1251 rfl hx7 ?_
  refine ev_aload_n (pc' := 1253) dL_law_1252 rfl rfl ?_
  refine ev_iload (pc' := 1255) dL_law_1253 rfl rfl ?_
  refine ev_iconst (pc' := 1256) dL_law_1255 rfl ?_
  refine ev_iadd (pc' := 1257) dL_law_1256 rfl ?_
  replace h := qbd h; obtain ⟨x8, hx8, h⟩ := h
  refine ev_sald (pc' := 1258) hLs dL_law_1257 rfl hx8 ?_
  refine ev_aload_n (pc' := 1259) dL_law_1258 rfl rfl ?_
  refine ev_iload (pc' := 1261) dL_law_1259 rfl rfl ?_
  refine ev_iconst (pc' := 1262) dL_law_1261 rfl ?_
  refine ev_iadd (pc' := 1263) dL_law_1262 rfl ?_
  replace h := qbd h; obtain ⟨x9, hx9, h⟩ := h
  refine ev_sald (pc' := 1264) hLs dL_law_1263 rfl hx9 ?_
  replace h := qbd h; obtain ⟨y10, hy10, h⟩ := h
  refine ev_callg (pc' := 1267) (st2 := [iv y10.1]) dL_law_1264 (qs_V tc_11_204 rfl rfl (cS_cls sh78) rfl) rfl rfl (eX10_reason (d := d + 4) hy10) rfl rfl ?_
  refine ev_istore (pc' := 1269) (L1 := [some (.ref 1001000), some (.ref 0), some (.ref 78), some (.ref 92), some (iv i), some (iv y5.1), some (iv y10.1), none, none]) dL_law_1267 rfl rfl ?_
  refine ev_aload_n (pc' := 1270) dL_law_1269 rfl rfl ?_
  replace h := qbd h; obtain ⟨y11, hy11, h⟩ := h
  refine ev_callg (pc' := 1273) (st2 := [iv y11]) dL_law_1270 (qs_V tc_11_113 rfl rfl (cS_cls sh78) rfl) rfl rfl (eX10_thrown (d := d + 8) hy11) rfl rfl ?_
  refine ev_iload (pc' := 1275) dL_law_1273 rfl rfl ?_
  refine ev_icmpeq (pc' := 1278) (tgt := 1280) dL_law_1275 (by decide) rfl (x1 := wr y11) (y1 := wr y5.1) rfl rfl  (fun c12 => ?_) (fun c12 => ?_)
  · replace h := qit c12 h
    refine ev_iload (pc' := 1282) dL_law_1280 rfl rfl ?_
    refine ev_ifne (pc' := 1285) (tgt := 1297) dL_law_1282 (by decide) rfl (x1 := wr y5.1) rfl (fun c13 => ?_) (fun c13 => ?_)
    · replace h := qit c13 h
      refine ev_aload_n (pc' := 1286) dL_law_1285 rfl rfl ?_
      refine ev_iconst (pc' := 1287) dL_law_1286 rfl ?_
      replace h := qbd h; obtain ⟨x14, hx14, h⟩ := h
      refine ev_lald (pc' := 1288) dL_law_1287 rfl sh92 hx14 ?_
      refine ev_iload (pc' := 1290) dL_law_1288 rfl rfl ?_
      refine ev_i2l (pc' := 1291) dL_law_1290 rfl ?_
      refine ev_lcmp (pc' := 1292) dL_law_1291 rfl ?_
      refine ev_ifeq (pc' := 1295) (tgt := 1297) dL_law_1292 (by decide) rfl (x1 := wr (lcm x14 y10.1)) rfl (fun c15 => ?_) (fun c15 => ?_)
      · replace h := qit c15 h
        refine ev_goto (pc' := 2257) dL_law_1297 (by decide) ?_
        cases h
        exact ev_wk (qLe_eq (qLe_eq (qLe_eq (qLe_eq (qLe_eq (qLe_sk (qLe_sk (qLe_eq (qLe_eq qLe_nil))))))))) kE
      · replace h := qif' c15 h
        refine ev_iconst (pc' := 1296) dL_law_1295 rfl ?_
        cases h
    · replace h := qif' c13 h
      refine ev_goto (pc' := 2257) dL_law_1297 (by decide) ?_
      cases h
      exact ev_wk (qLe_eq (qLe_eq (qLe_eq (qLe_eq (qLe_eq (qLe_sk (qLe_sk (qLe_eq (qLe_eq qLe_nil))))))))) kE
  · replace h := qif' c12 h
    refine ev_iconst (pc' := 1279) dL_law_1278 rfl ?_
    cases h
set_option maxRecDepth 100000 in
theorem esL_1300 {Ls t d n : Nat} {i : Int} {μ : qMu} {z : Int × qMu} (hLs : Ls ≤ 5000) (h : sL_1300 n Ls i μ = some z) (o : qO) (s' : qSt) (kE : Ev (d + 9) mL_law 2257 [some (.ref 1001000), some (.ref 0), some (.ref 78), some (.ref 92), some (iv i), none, none, none, none] [] (cS Ls (qTw t z.1) z.2) o s') : Ev (d + 9) mL_law 1300 [some (.ref 1001000), some (.ref 0), some (.ref 78), some (.ref 92), some (iv i), none, none, none, none] [] (cS Ls t μ) o s' := by
  unfold sL_1300 at h
  refine ev_aload_n (pc' := 1301) dL_law_1300 rfl rfl ?_
  replace h := qbd h; obtain ⟨y1, hy1, h⟩ := h
  refine ev_callg (pc' := 1304) (st2 := [iv y1.1]) dL_law_1301 (qs_V tc_11_205 rfl rfl (cS_cls sh0) rfl) rfl rfl (eX9_switches (d := d + 4) hy1) rfl rfl ?_
  refine ev_aload_n (pc' := 1305) dL_law_1304 rfl rfl ?_
  replace h := qbd h; obtain ⟨y2, hy2, h⟩ := h
  refine ev_callg (pc' := 1308) (st2 := [iv y2.1, iv y1.1]) dL_law_1305 (qs_V tc_11_208 rfl rfl (cS_cls sh78) rfl) rfl rfl (eX10_switches_ (d := d + 3) hy2) rfl rfl ?_
  refine ev_icmpeq (pc' := 1311) (tgt := 2257) dL_law_1308 (by decide) rfl (x1 := wr y1.1) (y1 := wr y2.1) rfl rfl  (fun c3 => ?_) (fun c3 => ?_)
  · replace h := qit c3 h
    cases h
    exact ev_wk (qLe_eq (qLe_eq (qLe_eq (qLe_eq (qLe_eq (qLe_eq (qLe_eq (qLe_eq (qLe_eq qLe_nil))))))))) kE
  · replace h := qif' c3 h
    refine ev_iconst (pc' := 1312) dL_law_1311 rfl ?_
    cases h
set_option maxRecDepth 100000 in
theorem esL_1313 {Ls t d n : Nat} {i : Int} {μ : qMu} {z : Int × qMu} (hLs : Ls ≤ 5000) (h : sL_1313 n Ls i μ = some z) (o : qO) (s' : qSt) (kE : Ev (d + 9) mL_law 2257 [some (.ref 1001000), some (.ref 0), some (.ref 78), some (.ref 92), some (iv i), none, none, none, none] [] (cS Ls (qTw t z.1) z.2) o s') : Ev (d + 9) mL_law 1313 [some (.ref 1001000), some (.ref 0), some (.ref 78), some (.ref 92), some (iv i), none, none, none, none] [] (cS Ls t μ) o s' := by
  unfold sL_1313 at h
  refine ev_aload_n (pc' := 1314) dL_law_1313 rfl rfl ?_
  refine ev_aload_n (pc' := 1315) dL_law_1314 rfl rfl ?_
  refine ev_iload (pc' := 1317) dL_law_1315 rfl rfl ?_
  refine ev_iconst (pc' := 1318) dL_law_1317 rfl ?_
  refine ev_iadd (pc' := 1319) dL_law_1318 rfl ?_
  replace h := qbd h; obtain ⟨x1, hx1, h⟩ := h
  refine ev_sald (pc' := 1320) hLs dL_law_1319 rfl hx1 ?_
  refine ev_aload_n (pc' := 1321) dL_law_1320 rfl rfl ?_
  refine ev_iload (pc' := 1323) dL_law_1321 rfl rfl ?_
  refine ev_iconst (pc' := 1324) dL_law_1323 rfl ?_
  refine ev_iadd (pc' := 1325) dL_law_1324 rfl ?_
  replace h := qbd h; obtain ⟨x2, hx2, h⟩ := h
  refine ev_sald (pc' := 1326) hLs dL_law_1325 rfl hx2 ?_
  refine ev_aload_n (pc' := 1327) dL_law_1326 rfl rfl ?_
  replace h := qbd h; obtain ⟨y3, hy3, h⟩ := h
  refine ev_callg (pc' := 1330) (st2 := [iv y3.1]) dL_law_1327 (qs_S tc_11_209 (by decide) rfl rfl) rfl rfl (eL_switchAt (d := d + 3) hy3) rfl rfl ?_
  refine ev_istore (pc' := 1332) (L1 := [some (.ref 1001000), some (.ref 0), some (.ref 78), some (.ref 92), some (iv i), some (iv y3.1), none, none, none]) dL_law_1330 rfl rfl ?_
  refine ev_aload_n (pc' := 1333) dL_law_1332 rfl rfl ?_
  refine ev_aload_n (pc' := 1334) dL_law_1333 rfl rfl ?_
  refine ev_iload (pc' := 1336) dL_law_1334 rfl rfl ?_
  refine ev_iconst (pc' := 1337) dL_law_1336 rfl ?_
  refine ev_iadd (pc' := 1338) dL_law_1337 rfl ?_
  replace h := qbd h; obtain ⟨x4, hx4, h⟩ := h
  refine ev_sald (pc' := 1339) hLs dL_law_1338 rfl hx4 ?_
  refine ev_aload_n (pc' := 1340) dL_law_1339 rfl rfl ?_
  refine ev_iload (pc' := 1342) dL_law_1340 rfl rfl ?_
  refine ev_iconst (pc' := 1343) dL_law_1342 rfl ?_
  refine ev_iadd (pc' := 1344) dL_law_1343 rfl ?_
  replace h := qbd h; obtain ⟨x5, hx5, h⟩ := h
  refine ev_sald (pc' := 1345) hLs dL_law_1344 rfl hx5 ?_
  replace h := qbd h; obtain ⟨y6, hy6, h⟩ := h
  refine ev_callg (pc' := 1348) (st2 := [iv y6.1]) dL_law_1345 (qs_V tc_11_211 rfl rfl (cS_cls sh78) rfl) rfl rfl (eX10_switchAt (d := d + 3) hy6) rfl rfl ?_
  refine ev_istore (pc' := 1350) (L1 := [some (.ref 1001000), some (.ref 0), some (.ref 78), some (.ref 92), some (iv i), some (iv y3.1), some (iv y6.1), none, none]) dL_law_1348 rfl rfl ?_
  refine ev_aload_n (pc' := 1351) dL_law_1350 rfl rfl ?_
  replace h := qbd h; obtain ⟨y7, hy7, h⟩ := h
  refine ev_callg (pc' := 1354) (st2 := [iv y7]) dL_law_1351 (qs_V tc_11_113 rfl rfl (cS_cls sh78) rfl) rfl rfl (eX10_thrown (d := d + 8) hy7) rfl rfl ?_
  refine ev_iload (pc' := 1356) dL_law_1354 rfl rfl ?_
  refine ev_icmpeq (pc' := 1359) (tgt := 1361) dL_law_1356 (by decide) rfl (x1 := wr y7) (y1 := wr y3.1) rfl rfl  (fun c8 => ?_) (fun c8 => ?_)
  · replace h := qit c8 h
    refine ev_iload (pc' := 1363) dL_law_1361 rfl rfl ?_
    refine ev_ifne (pc' := 1366) (tgt := 1378) dL_law_1363 (by decide) rfl (x1 := wr y3.1) rfl (fun c9 => ?_) (fun c9 => ?_)
    · replace h := qit c9 h
      refine ev_aload_n (pc' := 1367) dL_law_1366 rfl rfl ?_
      refine ev_iconst (pc' := 1368) dL_law_1367 rfl ?_
      replace h := qbd h; obtain ⟨x10, hx10, h⟩ := h
      refine ev_lald (pc' := 1369) dL_law_1368 rfl sh92 hx10 ?_
      refine ev_iload (pc' := 1371) dL_law_1369 rfl rfl ?_
      refine ev_i2l (pc' := 1372) dL_law_1371 rfl ?_
      refine ev_lcmp (pc' := 1373) dL_law_1372 rfl ?_
      refine ev_ifeq (pc' := 1376) (tgt := 1378) dL_law_1373 (by decide) rfl (x1 := wr (lcm x10 y6.1)) rfl (fun c11 => ?_) (fun c11 => ?_)
      · replace h := qit c11 h
        refine ev_goto (pc' := 2257) dL_law_1378 (by decide) ?_
        cases h
        exact ev_wk (qLe_eq (qLe_eq (qLe_eq (qLe_eq (qLe_eq (qLe_sk (qLe_sk (qLe_eq (qLe_eq qLe_nil))))))))) kE
      · replace h := qif' c11 h
        refine ev_iconst (pc' := 1377) dL_law_1376 rfl ?_
        cases h
    · replace h := qif' c9 h
      refine ev_goto (pc' := 2257) dL_law_1378 (by decide) ?_
      cases h
      exact ev_wk (qLe_eq (qLe_eq (qLe_eq (qLe_eq (qLe_eq (qLe_sk (qLe_sk (qLe_eq (qLe_eq qLe_nil))))))))) kE
  · replace h := qif' c8 h
    refine ev_iconst (pc' := 1360) dL_law_1359 rfl ?_
    cases h
set_option maxRecDepth 100000 in
theorem esL_1381 {Ls t d n : Nat} {i : Int} {μ : qMu} {z : Int × qMu} (hLs : Ls ≤ 5000) (h : sL_1381 n Ls i μ = some z) (o : qO) (s' : qSt) (kE : Ev (d + 9) mL_law 2257 [some (.ref 1001000), some (.ref 0), some (.ref 78), some (.ref 92), some (iv i), none, none, none, none] [] (cS Ls (qTw t z.1) z.2) o s') : Ev (d + 9) mL_law 1381 [some (.ref 1001000), some (.ref 0), some (.ref 78), some (.ref 92), some (iv i), none, none, none, none] [] (cS Ls t μ) o s' := by
  unfold sL_1381 at h
  refine ev_aload_n (pc' := 1382) dL_law_1381 rfl rfl ?_
  refine ev_aload_n (pc' := 1383) dL_law_1382 rfl rfl ?_
  refine ev_iload (pc' := 1385) dL_law_1383 rfl rfl ?_
  refine ev_iconst (pc' := 1386) dL_law_1385 rfl ?_
  refine ev_iadd (pc' := 1387) dL_law_1386 rfl ?_
  replace h := qbd h; obtain ⟨x1, hx1, h⟩ := h
  refine ev_sald (pc' := 1388) hLs dL_law_1387 rfl hx1 ?_
  refine ev_aload_n (pc' := 1389) dL_law_1388 rfl rfl ?_
  refine ev_iload (pc' := 1391) dL_law_1389 rfl rfl ?_
  refine ev_iconst (pc' := 1392) dL_law_1391 rfl ?_
  refine ev_iadd (pc' := 1393) dL_law_1392 rfl ?_
  replace h := qbd h; obtain ⟨x2, hx2, h⟩ := h
  refine ev_sald (pc' := 1394) hLs dL_law_1393 rfl hx2 ?_
  refine ev_aload_n (pc' := 1395) dL_law_1394 rfl rfl ?_
  refine ev_iload (pc' := 1397) dL_law_1395 rfl rfl ?_
  refine ev_iconst (pc' := 1398) dL_law_1397 rfl ?_
  refine ev_iadd (pc' := 1399) dL_law_1398 rfl ?_
  replace h := qbd h; obtain ⟨x3, hx3, h⟩ := h
  refine ev_sald (pc' := 1400) hLs dL_law_1399 rfl hx3 ?_
  refine ev_aload_n (pc' := 1401) dL_law_1400 rfl rfl ?_
  refine ev_iload (pc' := 1403) dL_law_1401 rfl rfl ?_
  refine ev_iconst (pc' := 1404) dL_law_1403 rfl ?_
  refine ev_iadd (pc' := 1405) dL_law_1404 rfl ?_
  replace h := qbd h; obtain ⟨x4, hx4, h⟩ := h
  refine ev_sald (pc' := 1406) hLs dL_law_1405 rfl hx4 ?_
  refine ev_aload_n (pc' := 1407) dL_law_1406 rfl rfl ?_
  replace h := qbd h; obtain ⟨y5, hy5, h⟩ := h
  refine ev_callg (pc' := 1410) (st2 := [iv y5.1]) dL_law_1407 (qs_S tc_11_212 (by decide) rfl rfl) rfl rfl (eL_componentsBehind (d := d + 4) hy5) rfl rfl ?_
  refine ev_istore (pc' := 1412) (L1 := [some (.ref 1001000), some (.ref 0), some (.ref 78), some (.ref 92), some (iv i), some (iv y5.1), none, none, none]) dL_law_1410 rfl rfl ?_
  refine ev_aload_n (pc' := 1413) dL_law_1412 rfl rfl ?_
  refine ev_aload_n (pc' := 1414) dL_law_1413 rfl rfl ?_
  refine ev_iload (pc' := 1416) dL_law_1414 rfl rfl ?_
  refine ev_iconst (pc' := 1417) dL_law_1416 rfl ?_
  refine ev_iadd (pc' := 1418) dL_law_1417 rfl ?_
  replace h := qbd h; obtain ⟨x6, hx6, h⟩ := h
  refine ev_sald (pc' := 1419) hLs dL_law_1418 rfl hx6 ?_
  refine ev_aload_n (pc' := 1420) dL_law_1419 rfl rfl ?_
  refine ev_iload (pc' := 1422) dL_law_1420 rfl rfl ?_
  refine ev_iconst (pc' := 1423) dL_law_1422 rfl ?_
  refine ev_iadd (pc' := 1424) dL_law_1423 rfl ?_
  replace h := qbd h; obtain ⟨x7, hx7, h⟩ := h
  refine ev_sald (pc' := 1425) hLs dL_law_1424 rfl hx7 ?_
  refine ev_aload_n (pc' := 1426) dL_law_1425 rfl rfl ?_
  refine ev_iload (pc' := 1428) dL_law_1426 rfl rfl ?_
  refine ev_iconst (pc' := 1429) dL_law_1428 rfl ?_
  refine ev_iadd (pc' := 1430) dL_law_1429 rfl ?_
  replace h := qbd h; obtain ⟨x8, hx8, h⟩ := h
  refine ev_sald (pc' := 1431) hLs dL_law_1430 rfl hx8 ?_
  refine ev_aload_n (pc' := 1432) dL_law_1431 rfl rfl ?_
  refine ev_iload (pc' := 1434) dL_law_1432 rfl rfl ?_
  refine ev_iconst (pc' := 1435) dL_law_1434 rfl ?_
  refine ev_iadd (pc' := 1436) dL_law_1435 rfl ?_
  replace h := qbd h; obtain ⟨x9, hx9, h⟩ := h
  refine ev_sald (pc' := 1437) hLs dL_law_1436 rfl hx9 ?_
  replace h := qbd h; obtain ⟨y10, hy10, h⟩ := h
  refine ev_callg (pc' := 1440) (st2 := [iv y10.1]) dL_law_1437 (qs_V tc_11_214 rfl rfl (cS_cls sh78) rfl) rfl rfl (eX10_componentsBehind (d := d + 3) hy10) rfl rfl ?_
  refine ev_istore (pc' := 1442) (L1 := [some (.ref 1001000), some (.ref 0), some (.ref 78), some (.ref 92), some (iv i), some (iv y5.1), some (iv y10.1), none, none]) dL_law_1440 rfl rfl ?_
  refine ev_aload_n (pc' := 1443) dL_law_1442 rfl rfl ?_
  replace h := qbd h; obtain ⟨y11, hy11, h⟩ := h
  refine ev_callg (pc' := 1446) (st2 := [iv y11]) dL_law_1443 (qs_V tc_11_113 rfl rfl (cS_cls sh78) rfl) rfl rfl (eX10_thrown (d := d + 8) hy11) rfl rfl ?_
  refine ev_iload (pc' := 1448) dL_law_1446 rfl rfl ?_
  refine ev_icmpeq (pc' := 1451) (tgt := 1453) dL_law_1448 (by decide) rfl (x1 := wr y11) (y1 := wr y5.1) rfl rfl  (fun c12 => ?_) (fun c12 => ?_)
  · replace h := qit c12 h
    refine ev_iload (pc' := 1455) dL_law_1453 rfl rfl ?_
    refine ev_ifne (pc' := 1458) (tgt := 1470) dL_law_1455 (by decide) rfl (x1 := wr y5.1) rfl (fun c13 => ?_) (fun c13 => ?_)
    · replace h := qit c13 h
      refine ev_aload_n (pc' := 1459) dL_law_1458 rfl rfl ?_
      refine ev_iconst (pc' := 1460) dL_law_1459 rfl ?_
      replace h := qbd h; obtain ⟨x14, hx14, h⟩ := h
      refine ev_lald (pc' := 1461) dL_law_1460 rfl sh92 hx14 ?_
      refine ev_iload (pc' := 1463) dL_law_1461 rfl rfl ?_
      refine ev_i2l (pc' := 1464) dL_law_1463 rfl ?_
      refine ev_lcmp (pc' := 1465) dL_law_1464 rfl ?_
      refine ev_ifeq (pc' := 1468) (tgt := 1470) dL_law_1465 (by decide) rfl (x1 := wr (lcm x14 y10.1)) rfl (fun c15 => ?_) (fun c15 => ?_)
      · replace h := qit c15 h
        refine ev_goto (pc' := 2257) dL_law_1470 (by decide) ?_
        cases h
        exact ev_wk (qLe_eq (qLe_eq (qLe_eq (qLe_eq (qLe_eq (qLe_sk (qLe_sk (qLe_eq (qLe_eq qLe_nil))))))))) kE
      · replace h := qif' c15 h
        refine ev_iconst (pc' := 1469) dL_law_1468 rfl ?_
        cases h
    · replace h := qif' c13 h
      refine ev_goto (pc' := 2257) dL_law_1470 (by decide) ?_
      cases h
      exact ev_wk (qLe_eq (qLe_eq (qLe_eq (qLe_eq (qLe_eq (qLe_sk (qLe_sk (qLe_eq (qLe_eq qLe_nil))))))))) kE
  · replace h := qif' c12 h
    refine ev_iconst (pc' := 1452) dL_law_1451 rfl ?_
    cases h
set_option maxRecDepth 100000 in
theorem esL_1473 {Ls t d n : Nat} {i : Int} {μ : qMu} {z : Int × qMu} (hLs : Ls ≤ 5000) (h : sL_1473 n Ls i μ = some z) (o : qO) (s' : qSt) (kE : Ev (d + 9) mL_law 2257 [some (.ref 1001000), some (.ref 0), some (.ref 78), some (.ref 92), some (iv i), none, none, none, none] [] (cS Ls (qTw t z.1) z.2) o s') : Ev (d + 9) mL_law 1473 [some (.ref 1001000), some (.ref 0), some (.ref 78), some (.ref 92), some (iv i), none, none, none, none] [] (cS Ls t μ) o s' := by
  unfold sL_1473 at h
  refine ev_aload_n (pc' := 1474) dL_law_1473 rfl rfl ?_
  refine ev_aload_n (pc' := 1475) dL_law_1474 rfl rfl ?_
  replace h := qbd h; obtain ⟨y1, hy1, h⟩ := h
  refine ev_callg (pc' := 1478) (st2 := [iv y1.1]) dL_law_1475 (qs_S tc_11_215 (by decide) rfl rfl) rfl rfl (eL_nearest (d := d + 3) hy1) rfl rfl ?_
  refine ev_istore (pc' := 1480) (L1 := [some (.ref 1001000), some (.ref 0), some (.ref 78), some (.ref 92), some (iv i), some (iv y1.1), none, none, none]) dL_law_1478 rfl rfl ?_
  refine ev_aload_n (pc' := 1481) dL_law_1480 rfl rfl ?_
  replace h := qbd h; obtain ⟨y2, hy2, h⟩ := h
  refine ev_callg (pc' := 1484) (st2 := [iv y2.1]) dL_law_1481 (qs_V tc_11_218 rfl rfl (cS_cls sh78) rfl) rfl rfl (eX10_nearest (d := d + 3) hy2) rfl rfl ?_
  refine ev_istore (pc' := 1486) (L1 := [some (.ref 1001000), some (.ref 0), some (.ref 78), some (.ref 92), some (iv i), some (iv y1.1), some (iv y2.1), none, none]) dL_law_1484 rfl rfl ?_
  refine ev_aload_n (pc' := 1487) dL_law_1486 rfl rfl ?_
  replace h := qbd h; obtain ⟨y3, hy3, h⟩ := h
  refine ev_callg (pc' := 1490) (st2 := [iv y3]) dL_law_1487 (qs_V tc_11_113 rfl rfl (cS_cls sh78) rfl) rfl rfl (eX10_thrown (d := d + 8) hy3) rfl rfl ?_
  refine ev_iload (pc' := 1492) dL_law_1490 rfl rfl ?_
  refine ev_icmpeq (pc' := 1495) (tgt := 1497) dL_law_1492 (by decide) rfl (x1 := wr y3) (y1 := wr y1.1) rfl rfl  (fun c4 => ?_) (fun c4 => ?_)
  · replace h := qit c4 h
    refine ev_iload (pc' := 1499) dL_law_1497 rfl rfl ?_
    refine ev_ifne (pc' := 1502) (tgt := 1514) dL_law_1499 (by decide) rfl (x1 := wr y1.1) rfl (fun c5 => ?_) (fun c5 => ?_)
    · replace h := qit c5 h
      refine ev_aload_n (pc' := 1503) dL_law_1502 rfl rfl ?_
      refine ev_iconst (pc' := 1504) dL_law_1503 rfl ?_
      replace h := qbd h; obtain ⟨x6, hx6, h⟩ := h
      refine ev_lald (pc' := 1505) dL_law_1504 rfl sh92 hx6 ?_
      refine ev_iload (pc' := 1507) dL_law_1505 rfl rfl ?_
      refine ev_i2l (pc' := 1508) dL_law_1507 rfl ?_
      refine ev_lcmp (pc' := 1509) dL_law_1508 rfl ?_
      refine ev_ifeq (pc' := 1512) (tgt := 1514) dL_law_1509 (by decide) rfl (x1 := wr (lcm x6 y2.1)) rfl (fun c7 => ?_) (fun c7 => ?_)
      · replace h := qit c7 h
        refine ev_goto (pc' := 2257) dL_law_1514 (by decide) ?_
        cases h
        exact ev_wk (qLe_eq (qLe_eq (qLe_eq (qLe_eq (qLe_eq (qLe_sk (qLe_sk (qLe_eq (qLe_eq qLe_nil))))))))) kE
      · replace h := qif' c7 h
        refine ev_iconst (pc' := 1513) dL_law_1512 rfl ?_
        cases h
    · replace h := qif' c5 h
      refine ev_goto (pc' := 2257) dL_law_1514 (by decide) ?_
      cases h
      exact ev_wk (qLe_eq (qLe_eq (qLe_eq (qLe_eq (qLe_eq (qLe_sk (qLe_sk (qLe_eq (qLe_eq qLe_nil))))))))) kE
  · replace h := qif' c4 h
    refine ev_iconst (pc' := 1496) dL_law_1495 rfl ?_
    cases h
set_option maxRecDepth 100000 in
theorem esL_1517 {Ls t d n : Nat} {i : Int} {μ : qMu} {z : Int × qMu} (hLs : Ls ≤ 5000) (h : sL_1517 n Ls i μ = some z) (o : qO) (s' : qSt) (kE : Ev (d + 9) mL_law 2257 [some (.ref 1001000), some (.ref 0), some (.ref 78), some (.ref 92), some (iv i), none, none, none, none] [] (cS Ls (qTw t z.1) z.2) o s') : Ev (d + 9) mL_law 1517 [some (.ref 1001000), some (.ref 0), some (.ref 78), some (.ref 92), some (iv i), none, none, none, none] [] (cS Ls t μ) o s' := by
  unfold sL_1517 at h
  refine ev_aload_n (pc' := 1518) dL_law_1517 rfl rfl ?_
  replace h := qbd h; obtain ⟨y1, hy1, h⟩ := h
  refine ev_callg (pc' := 1521) (st2 := [iv y1]) dL_law_1518 (qs_V tc_11_219 rfl rfl (cS_cls sh0) rfl) rfl rfl (eX9_isAlike (d := d + 5) hy1) rfl rfl ?_
  refine ev_aload_n (pc' := 1522) dL_law_1521 rfl rfl ?_
  replace h := qbd h; obtain ⟨y2, hy2, h⟩ := h
  refine ev_callg (pc' := 1525) (st2 := [iv y2.1, iv y1]) dL_law_1522 (qs_V tc_11_222 rfl rfl (cS_cls sh78) rfl) rfl rfl (eX10_isAlike (d := d + 4) hy2) rfl rfl ?_
  refine ev_icmpeq (pc' := 1528) (tgt := 2257) dL_law_1525 (by decide) rfl (x1 := wr y1) (y1 := wr y2.1) rfl rfl  (fun c3 => ?_) (fun c3 => ?_)
  · replace h := qit c3 h
    cases h
    exact ev_wk (qLe_eq (qLe_eq (qLe_eq (qLe_eq (qLe_eq (qLe_eq (qLe_eq (qLe_eq (qLe_eq qLe_nil))))))))) kE
  · replace h := qif' c3 h
    refine ev_iconst (pc' := 1529) dL_law_1528 rfl ?_
    cases h
set_option maxRecDepth 100000 in
theorem esL_1530 {Ls t d n : Nat} {i : Int} {μ : qMu} {z : Int × qMu} (hLs : Ls ≤ 5000) (h : sL_1530 n Ls i μ = some z) (o : qO) (s' : qSt) (kE : Ev (d + 9) mL_law 2257 [some (.ref 1001000), some (.ref 0), some (.ref 78), some (.ref 92), some (iv i), none, none, none, none] [] (cS Ls (qTw t z.1) z.2) o s') : Ev (d + 9) mL_law 1530 [some (.ref 1001000), some (.ref 0), some (.ref 78), some (.ref 92), some (iv i), none, none, none, none] [] (cS Ls t μ) o s' := by
  unfold sL_1530 at h
  refine ev_aload_n (pc' := 1531) dL_law_1530 rfl rfl ?_
  replace h := qbd h; obtain ⟨y1, hy1, h⟩ := h
  refine ev_callg (pc' := 1534) (st2 := [iv y1]) dL_law_1531 (qs_V tc_11_223 rfl rfl (cS_cls sh0) rfl) rfl rfl (eX9_difference (d := d + 6) hy1) rfl rfl ?_
  refine ev_aload_n (pc' := 1535) dL_law_1534 rfl rfl ?_
  replace h := qbd h; obtain ⟨y2, hy2, h⟩ := h
  refine ev_callg (pc' := 1538) (st2 := [iv y2.1, iv y1]) dL_law_1535 (qs_V tc_11_226 rfl rfl (cS_cls sh78) rfl) rfl rfl (eX10_difference (d := d + 5) hy2) rfl rfl ?_
  refine ev_icmpeq (pc' := 1541) (tgt := 2257) dL_law_1538 (by decide) rfl (x1 := wr y1) (y1 := wr y2.1) rfl rfl  (fun c3 => ?_) (fun c3 => ?_)
  · replace h := qit c3 h
    cases h
    exact ev_wk (qLe_eq (qLe_eq (qLe_eq (qLe_eq (qLe_eq (qLe_eq (qLe_eq (qLe_eq (qLe_eq qLe_nil))))))))) kE
  · replace h := qif' c3 h
    refine ev_iconst (pc' := 1542) dL_law_1541 rfl ?_
    cases h
set_option maxRecDepth 100000 in
theorem esL_1543 {Ls t d n : Nat} {i : Int} {μ : qMu} {z : Int × qMu} (hLs : Ls ≤ 5000) (h : sL_1543 n Ls i μ = some z) (o : qO) (s' : qSt) (kE : Ev (d + 9) mL_law 2257 [some (.ref 1001000), some (.ref 0), some (.ref 78), some (.ref 92), some (iv i), none, none, none, none] [] (cS Ls (qTw t z.1) z.2) o s') : Ev (d + 9) mL_law 1543 [some (.ref 1001000), some (.ref 0), some (.ref 78), some (.ref 92), some (iv i), none, none, none, none] [] (cS Ls t μ) o s' := by
  unfold sL_1543 at h
  refine ev_aload_n (pc' := 1544) dL_law_1543 rfl rfl ?_
  refine ev_aload_n (pc' := 1545) dL_law_1544 rfl rfl ?_
  replace h := qbd h; obtain ⟨y1, hy1, h⟩ := h
  refine ev_callg (pc' := 1548) (st2 := [iv y1.1]) dL_law_1545 (qs_S tc_11_227 (by decide) rfl rfl) rfl rfl (eL_pathLength (d := d + 2) hy1) rfl rfl ?_
  refine ev_istore (pc' := 1550) (L1 := [some (.ref 1001000), some (.ref 0), some (.ref 78), some (.ref 92), some (iv i), some (iv y1.1), none, none, none]) dL_law_1548 rfl rfl ?_
  refine ev_aload_n (pc' := 1551) dL_law_1550 rfl rfl ?_
  replace h := qbd h; obtain ⟨y2, hy2, h⟩ := h
  refine ev_callg (pc' := 1554) (st2 := [iv y2.1]) dL_law_1551 (qs_V tc_11_229 rfl rfl (cS_cls sh78) rfl) rfl rfl (eX10_pathLength (d := d + 2) hy2) rfl rfl ?_
  refine ev_istore (pc' := 1556) (L1 := [some (.ref 1001000), some (.ref 0), some (.ref 78), some (.ref 92), some (iv i), some (iv y1.1), some (iv y2.1), none, none]) dL_law_1554 rfl rfl ?_
  refine ev_aload_n (pc' := 1557) dL_law_1556 rfl rfl ?_
  replace h := qbd h; obtain ⟨y3, hy3, h⟩ := h
  refine ev_callg (pc' := 1560) (st2 := [iv y3]) dL_law_1557 (qs_V tc_11_113 rfl rfl (cS_cls sh78) rfl) rfl rfl (eX10_thrown (d := d + 8) hy3) rfl rfl ?_
  refine ev_iload (pc' := 1562) dL_law_1560 rfl rfl ?_
  refine ev_icmpeq (pc' := 1565) (tgt := 1567) dL_law_1562 (by decide) rfl (x1 := wr y3) (y1 := wr y1.1) rfl rfl  (fun c4 => ?_) (fun c4 => ?_)
  · replace h := qit c4 h
    refine ev_iload (pc' := 1569) dL_law_1567 rfl rfl ?_
    refine ev_ifne (pc' := 1572) (tgt := 1584) dL_law_1569 (by decide) rfl (x1 := wr y1.1) rfl (fun c5 => ?_) (fun c5 => ?_)
    · replace h := qit c5 h
      refine ev_aload_n (pc' := 1573) dL_law_1572 rfl rfl ?_
      refine ev_iconst (pc' := 1574) dL_law_1573 rfl ?_
      replace h := qbd h; obtain ⟨x6, hx6, h⟩ := h
      refine ev_lald (pc' := 1575) dL_law_1574 rfl sh92 hx6 ?_
      refine ev_iload (pc' := 1577) dL_law_1575 rfl rfl ?_
      refine ev_i2l (pc' := 1578) dL_law_1577 rfl ?_
      refine ev_lcmp (pc' := 1579) dL_law_1578 rfl ?_
      refine ev_ifeq (pc' := 1582) (tgt := 1584) dL_law_1579 (by decide) rfl (x1 := wr (lcm x6 y2.1)) rfl (fun c7 => ?_) (fun c7 => ?_)
      · replace h := qit c7 h
        refine ev_goto (pc' := 2257) dL_law_1584 (by decide) ?_
        cases h
        exact ev_wk (qLe_eq (qLe_eq (qLe_eq (qLe_eq (qLe_eq (qLe_sk (qLe_sk (qLe_eq (qLe_eq qLe_nil))))))))) kE
      · replace h := qif' c7 h
        refine ev_iconst (pc' := 1583) dL_law_1582 rfl ?_
        cases h
    · replace h := qif' c5 h
      refine ev_goto (pc' := 2257) dL_law_1584 (by decide) ?_
      cases h
      exact ev_wk (qLe_eq (qLe_eq (qLe_eq (qLe_eq (qLe_eq (qLe_sk (qLe_sk (qLe_eq (qLe_eq qLe_nil))))))))) kE
  · replace h := qif' c4 h
    refine ev_iconst (pc' := 1566) dL_law_1565 rfl ?_
    cases h
set_option maxRecDepth 100000 in
theorem esL_1587 {Ls t d n : Nat} {i : Int} {μ : qMu} {z : Int × qMu} (hLs : Ls ≤ 5000) (h : sL_1587 n Ls i μ = some z) (o : qO) (s' : qSt) (kE : Ev (d + 9) mL_law 2257 [some (.ref 1001000), some (.ref 0), some (.ref 78), some (.ref 92), some (iv i), none, none, none, none] [] (cS Ls (qTw t z.1) z.2) o s') : Ev (d + 9) mL_law 1587 [some (.ref 1001000), some (.ref 0), some (.ref 78), some (.ref 92), some (iv i), none, none, none, none] [] (cS Ls t μ) o s' := by
  unfold sL_1587 at h
  refine ev_aload_n (pc' := 1588) dL_law_1587 rfl rfl ?_
  refine ev_aload_n (pc' := 1589) dL_law_1588 rfl rfl ?_
  refine ev_iload (pc' := 1591) dL_law_1589 rfl rfl ?_
  refine ev_iconst (pc' := 1592) dL_law_1591 rfl ?_
  refine ev_iadd (pc' := 1593) dL_law_1592 rfl ?_
  replace h := qbd h; obtain ⟨x1, hx1, h⟩ := h
  refine ev_sald (pc' := 1594) hLs dL_law_1593 rfl hx1 ?_
  refine ev_aload_n (pc' := 1595) dL_law_1594 rfl rfl ?_
  refine ev_iload (pc' := 1597) dL_law_1595 rfl rfl ?_
  refine ev_iconst (pc' := 1598) dL_law_1597 rfl ?_
  refine ev_iadd (pc' := 1599) dL_law_1598 rfl ?_
  replace h := qbd h; obtain ⟨x2, hx2, h⟩ := h
  refine ev_sald (pc' := 1600) hLs dL_law_1599 rfl hx2 ?_
  refine ev_aload_n (pc' := 1601) dL_law_1600 rfl rfl ?_
  replace h := qbd h; obtain ⟨y3, hy3, h⟩ := h
  refine ev_callg (pc' := 1604) (st2 := [iv y3.1]) dL_law_1601 (qs_S tc_11_230 (by decide) rfl rfl) rfl rfl (eL_path (d := d + 2) hy3) rfl rfl ?_
  refine ev_istore (pc' := 1606) (L1 := [some (.ref 1001000), some (.ref 0), some (.ref 78), some (.ref 92), some (iv i), some (iv y3.1), none, none, none]) dL_law_1604 rfl rfl ?_
  refine ev_aload_n (pc' := 1607) dL_law_1606 rfl rfl ?_
  refine ev_aload_n (pc' := 1608) dL_law_1607 rfl rfl ?_
  refine ev_iload (pc' := 1610) dL_law_1608 rfl rfl ?_
  refine ev_iconst (pc' := 1611) dL_law_1610 rfl ?_
  refine ev_iadd (pc' := 1612) dL_law_1611 rfl ?_
  replace h := qbd h; obtain ⟨x4, hx4, h⟩ := h
  refine ev_sald (pc' := 1613) hLs dL_law_1612 rfl hx4 ?_
  refine ev_aload_n (pc' := 1614) dL_law_1613 rfl rfl ?_
  refine ev_iload (pc' := 1616) dL_law_1614 rfl rfl ?_
  refine ev_iconst (pc' := 1617) dL_law_1616 rfl ?_
  refine ev_iadd (pc' := 1618) dL_law_1617 rfl ?_
  replace h := qbd h; obtain ⟨x5, hx5, h⟩ := h
  refine ev_sald (pc' := 1619) hLs dL_law_1618 rfl hx5 ?_
  replace h := qbd h; obtain ⟨y6, hy6, h⟩ := h
  refine ev_callg (pc' := 1622) (st2 := [iv y6.1]) dL_law_1619 (qs_V tc_11_232 rfl rfl (cS_cls sh78) rfl) rfl rfl (eX10_path (d := d + 2) hy6) rfl rfl ?_
  refine ev_istore (pc' := 1624) (L1 := [some (.ref 1001000), some (.ref 0), some (.ref 78), some (.ref 92), some (iv i), some (iv y3.1), some (iv y6.1), none, none]) dL_law_1622 rfl rfl ?_
  refine ev_aload_n (pc' := 1625) dL_law_1624 rfl rfl ?_
  replace h := qbd h; obtain ⟨y7, hy7, h⟩ := h
  refine ev_callg (pc' := 1628) (st2 := [iv y7]) dL_law_1625 (qs_V tc_11_113 rfl rfl (cS_cls sh78) rfl) rfl rfl (eX10_thrown (d := d + 8) hy7) rfl rfl ?_
  refine ev_iload (pc' := 1630) dL_law_1628 rfl rfl ?_
  refine ev_icmpeq (pc' := 1633) (tgt := 1635) dL_law_1630 (by decide) rfl (x1 := wr y7) (y1 := wr y3.1) rfl rfl  (fun c8 => ?_) (fun c8 => ?_)
  · replace h := qit c8 h
    refine ev_iload (pc' := 1637) dL_law_1635 rfl rfl ?_
    refine ev_ifne (pc' := 1640) (tgt := 1652) dL_law_1637 (by decide) rfl (x1 := wr y3.1) rfl (fun c9 => ?_) (fun c9 => ?_)
    · replace h := qit c9 h
      refine ev_aload_n (pc' := 1641) dL_law_1640 rfl rfl ?_
      refine ev_iconst (pc' := 1642) dL_law_1641 rfl ?_
      replace h := qbd h; obtain ⟨x10, hx10, h⟩ := h
      refine ev_lald (pc' := 1643) dL_law_1642 rfl sh92 hx10 ?_
      refine ev_iload (pc' := 1645) dL_law_1643 rfl rfl ?_
      refine ev_i2l (pc' := 1646) dL_law_1645 rfl ?_
      refine ev_lcmp (pc' := 1647) dL_law_1646 rfl ?_
      refine ev_ifeq (pc' := 1650) (tgt := 1652) dL_law_1647 (by decide) rfl (x1 := wr (lcm x10 y6.1)) rfl (fun c11 => ?_) (fun c11 => ?_)
      · replace h := qit c11 h
        refine ev_goto (pc' := 2257) dL_law_1652 (by decide) ?_
        cases h
        exact ev_wk (qLe_eq (qLe_eq (qLe_eq (qLe_eq (qLe_eq (qLe_sk (qLe_sk (qLe_eq (qLe_eq qLe_nil))))))))) kE
      · replace h := qif' c11 h
        refine ev_iconst (pc' := 1651) dL_law_1650 rfl ?_
        cases h
    · replace h := qif' c9 h
      refine ev_goto (pc' := 2257) dL_law_1652 (by decide) ?_
      cases h
      exact ev_wk (qLe_eq (qLe_eq (qLe_eq (qLe_eq (qLe_eq (qLe_sk (qLe_sk (qLe_eq (qLe_eq qLe_nil))))))))) kE
  · replace h := qif' c8 h
    refine ev_iconst (pc' := 1634) dL_law_1633 rfl ?_
    cases h
set_option maxRecDepth 100000 in
theorem esL_1655 {Ls t d n : Nat} {i : Int} {μ : qMu} {z : Int × qMu} (hLs : Ls ≤ 5000) (h : sL_1655 n Ls i μ = some z) (o : qO) (s' : qSt) (kE : Ev (d + 9) mL_law 2257 [some (.ref 1001000), some (.ref 0), some (.ref 78), some (.ref 92), some (iv i), none, none, none, none] [] (cS Ls (qTw t z.1) z.2) o s') : Ev (d + 9) mL_law 1655 [some (.ref 1001000), some (.ref 0), some (.ref 78), some (.ref 92), some (iv i), none, none, none, none] [] (cS Ls t μ) o s' := by
  unfold sL_1655 at h
  refine ev_aload_n (pc' := 1656) dL_law_1655 rfl rfl ?_
  refine ev_aload_n (pc' := 1657) dL_law_1656 rfl rfl ?_
  replace h := qbd h; obtain ⟨y1, hy1, h⟩ := h
  refine ev_callg (pc' := 1660) (st2 := [iv y1.1]) dL_law_1657 (qs_S tc_11_233 (by decide) rfl rfl) rfl rfl (eL_distance (d := d + 2) hy1) rfl rfl ?_
  refine ev_istore (pc' := 1662) (L1 := [some (.ref 1001000), some (.ref 0), some (.ref 78), some (.ref 92), some (iv i), some (iv y1.1), none, none, none]) dL_law_1660 rfl rfl ?_
  refine ev_aload_n (pc' := 1663) dL_law_1662 rfl rfl ?_
  replace h := qbd h; obtain ⟨y2, hy2, h⟩ := h
  refine ev_callg (pc' := 1666) (st2 := [iv y2.1]) dL_law_1663 (qs_V tc_11_235 rfl rfl (cS_cls sh78) rfl) rfl rfl (eX10_distance (d := d + 2) hy2) rfl rfl ?_
  refine ev_istore (pc' := 1668) (L1 := [some (.ref 1001000), some (.ref 0), some (.ref 78), some (.ref 92), some (iv i), some (iv y1.1), some (iv y2.1), none, none]) dL_law_1666 rfl rfl ?_
  refine ev_aload_n (pc' := 1669) dL_law_1668 rfl rfl ?_
  replace h := qbd h; obtain ⟨y3, hy3, h⟩ := h
  refine ev_callg (pc' := 1672) (st2 := [iv y3]) dL_law_1669 (qs_V tc_11_113 rfl rfl (cS_cls sh78) rfl) rfl rfl (eX10_thrown (d := d + 8) hy3) rfl rfl ?_
  refine ev_iload (pc' := 1674) dL_law_1672 rfl rfl ?_
  refine ev_icmpeq (pc' := 1677) (tgt := 1679) dL_law_1674 (by decide) rfl (x1 := wr y3) (y1 := wr y1.1) rfl rfl  (fun c4 => ?_) (fun c4 => ?_)
  · replace h := qit c4 h
    refine ev_iload (pc' := 1681) dL_law_1679 rfl rfl ?_
    refine ev_ifne (pc' := 1684) (tgt := 1696) dL_law_1681 (by decide) rfl (x1 := wr y1.1) rfl (fun c5 => ?_) (fun c5 => ?_)
    · replace h := qit c5 h
      refine ev_aload_n (pc' := 1685) dL_law_1684 rfl rfl ?_
      refine ev_iconst (pc' := 1686) dL_law_1685 rfl ?_
      replace h := qbd h; obtain ⟨x6, hx6, h⟩ := h
      refine ev_lald (pc' := 1687) dL_law_1686 rfl sh92 hx6 ?_
      refine ev_iload (pc' := 1689) dL_law_1687 rfl rfl ?_
      refine ev_i2l (pc' := 1690) dL_law_1689 rfl ?_
      refine ev_lcmp (pc' := 1691) dL_law_1690 rfl ?_
      refine ev_ifeq (pc' := 1694) (tgt := 1696) dL_law_1691 (by decide) rfl (x1 := wr (lcm x6 y2.1)) rfl (fun c7 => ?_) (fun c7 => ?_)
      · replace h := qit c7 h
        refine ev_goto (pc' := 2257) dL_law_1696 (by decide) ?_
        cases h
        exact ev_wk (qLe_eq (qLe_eq (qLe_eq (qLe_eq (qLe_eq (qLe_sk (qLe_sk (qLe_eq (qLe_eq qLe_nil))))))))) kE
      · replace h := qif' c7 h
        refine ev_iconst (pc' := 1695) dL_law_1694 rfl ?_
        cases h
    · replace h := qif' c5 h
      refine ev_goto (pc' := 2257) dL_law_1696 (by decide) ?_
      cases h
      exact ev_wk (qLe_eq (qLe_eq (qLe_eq (qLe_eq (qLe_eq (qLe_sk (qLe_sk (qLe_eq (qLe_eq qLe_nil))))))))) kE
  · replace h := qif' c4 h
    refine ev_iconst (pc' := 1678) dL_law_1677 rfl ?_
    cases h
set_option maxRecDepth 100000 in
theorem esL_1699 {Ls t d n : Nat} {i : Int} {μ : qMu} {z : Int × qMu} (hLs : Ls ≤ 5000) (h : sL_1699 n Ls i μ = some z) (o : qO) (s' : qSt) (kE : Ev (d + 9) mL_law 2257 [some (.ref 1001000), some (.ref 0), some (.ref 78), some (.ref 92), some (iv i), none, none, none, none] [] (cS Ls (qTw t z.1) z.2) o s') : Ev (d + 9) mL_law 1699 [some (.ref 1001000), some (.ref 0), some (.ref 78), some (.ref 92), some (iv i), none, none, none, none] [] (cS Ls t μ) o s' := by
  unfold sL_1699 at h
  refine ev_aload_n (pc' := 1700) dL_law_1699 rfl rfl ?_
  refine ev_aload_n (pc' := 1701) dL_law_1700 rfl rfl ?_
  refine ev_iload (pc' := 1703) dL_law_1701 rfl rfl ?_
  refine ev_iconst (pc' := 1704) dL_law_1703 rfl ?_
  refine ev_iadd (pc' := 1705) dL_law_1704 rfl ?_
  replace h := qbd h; obtain ⟨x1, hx1, h⟩ := h
  refine ev_sald (pc' := 1706) hLs dL_law_1705 rfl hx1 ?_
  refine ev_aload_n (pc' := 1707) dL_law_1706 rfl rfl ?_
  refine ev_iload (pc' := 1709) dL_law_1707 rfl rfl ?_
  refine ev_iconst (pc' := 1710) dL_law_1709 rfl ?_
  refine ev_iadd (pc' := 1711) dL_law_1710 rfl ?_
  replace h := qbd h; obtain ⟨x2, hx2, h⟩ := h
  refine ev_sald (pc' := 1712) hLs dL_law_1711 rfl hx2 ?_
  refine ev_aload_n (pc' := 1713) dL_law_1712 rfl rfl ?_
  replace h := qbd h; obtain ⟨y3, hy3, h⟩ := h
  refine ev_callg (pc' := 1716) (st2 := [iv y3.1]) dL_law_1713 (qs_S tc_11_236 (by decide) rfl rfl) rfl rfl (eL_addEdge (d := d + 4) hy3) rfl rfl ?_
  refine ev_istore (pc' := 1718) (L1 := [some (.ref 1001000), some (.ref 0), some (.ref 78), some (.ref 92), some (iv i), some (iv y3.1), none, none, none]) dL_law_1716 rfl rfl ?_
  refine ev_aload_n (pc' := 1719) dL_law_1718 rfl rfl ?_
  refine ev_aload_n (pc' := 1720) dL_law_1719 rfl rfl ?_
  refine ev_iload (pc' := 1722) dL_law_1720 rfl rfl ?_
  refine ev_iconst (pc' := 1723) dL_law_1722 rfl ?_
  refine ev_iadd (pc' := 1724) dL_law_1723 rfl ?_
  replace h := qbd h; obtain ⟨x4, hx4, h⟩ := h
  refine ev_sald (pc' := 1725) hLs dL_law_1724 rfl hx4 ?_
  refine ev_aload_n (pc' := 1726) dL_law_1725 rfl rfl ?_
  refine ev_iload (pc' := 1728) dL_law_1726 rfl rfl ?_
  refine ev_iconst (pc' := 1729) dL_law_1728 rfl ?_
  refine ev_iadd (pc' := 1730) dL_law_1729 rfl ?_
  replace h := qbd h; obtain ⟨x5, hx5, h⟩ := h
  refine ev_sald (pc' := 1731) hLs dL_law_1730 rfl hx5 ?_
  replace h := qbd h; obtain ⟨y6, hy6, h⟩ := h
  refine ev_callg (pc' := 1734) (st2 := [iv y6.1]) dL_law_1731 (qs_V tc_11_238 rfl rfl (cS_cls sh78) rfl) rfl rfl (eX10_addEdge (d := d + 5) hy6) rfl rfl ?_
  refine ev_istore (pc' := 1736) (L1 := [some (.ref 1001000), some (.ref 0), some (.ref 78), some (.ref 92), some (iv i), some (iv y3.1), some (iv y6.1), none, none]) dL_law_1734 rfl rfl ?_
  refine ev_aload_n (pc' := 1737) dL_law_1736 rfl rfl ?_
  replace h := qbd h; obtain ⟨y7, hy7, h⟩ := h
  refine ev_callg (pc' := 1740) (st2 := [iv y7]) dL_law_1737 (qs_V tc_11_113 rfl rfl (cS_cls sh78) rfl) rfl rfl (eX10_thrown (d := d + 8) hy7) rfl rfl ?_
  refine ev_iload (pc' := 1742) dL_law_1740 rfl rfl ?_
  refine ev_icmpeq (pc' := 1745) (tgt := 1747) dL_law_1742 (by decide) rfl (x1 := wr y7) (y1 := wr y3.1) rfl rfl  (fun c8 => ?_) (fun c8 => ?_)
  · replace h := qit c8 h
    refine ev_iload (pc' := 1749) dL_law_1747 rfl rfl ?_
    refine ev_ifne (pc' := 1752) (tgt := 1764) dL_law_1749 (by decide) rfl (x1 := wr y3.1) rfl (fun c9 => ?_) (fun c9 => ?_)
    · replace h := qit c9 h
      refine ev_aload_n (pc' := 1753) dL_law_1752 rfl rfl ?_
      refine ev_iconst (pc' := 1754) dL_law_1753 rfl ?_
      replace h := qbd h; obtain ⟨x10, hx10, h⟩ := h
      refine ev_lald (pc' := 1755) dL_law_1754 rfl sh92 hx10 ?_
      refine ev_iload (pc' := 1757) dL_law_1755 rfl rfl ?_
      refine ev_i2l (pc' := 1758) dL_law_1757 rfl ?_
      refine ev_lcmp (pc' := 1759) dL_law_1758 rfl ?_
      refine ev_ifeq (pc' := 1762) (tgt := 1764) dL_law_1759 (by decide) rfl (x1 := wr (lcm x10 y6.1)) rfl (fun c11 => ?_) (fun c11 => ?_)
      · replace h := qit c11 h
        refine ev_goto (pc' := 2257) dL_law_1764 (by decide) ?_
        cases h
        exact ev_wk (qLe_eq (qLe_eq (qLe_eq (qLe_eq (qLe_eq (qLe_sk (qLe_sk (qLe_eq (qLe_eq qLe_nil))))))))) kE
      · replace h := qif' c11 h
        refine ev_iconst (pc' := 1763) dL_law_1762 rfl ?_
        cases h
    · replace h := qif' c9 h
      refine ev_goto (pc' := 2257) dL_law_1764 (by decide) ?_
      cases h
      exact ev_wk (qLe_eq (qLe_eq (qLe_eq (qLe_eq (qLe_eq (qLe_sk (qLe_sk (qLe_eq (qLe_eq qLe_nil))))))))) kE
  · replace h := qif' c8 h
    refine ev_iconst (pc' := 1746) dL_law_1745 rfl ?_
    cases h
set_option maxRecDepth 100000 in
theorem esL_1767 {Ls t d n : Nat} {i : Int} {μ : qMu} {z : Int × qMu} (hLs : Ls ≤ 5000) (h : sL_1767 n Ls i μ = some z) (o : qO) (s' : qSt) (kE : Ev (d + 9) mL_law 2257 [some (.ref 1001000), some (.ref 0), some (.ref 78), some (.ref 92), some (iv i), none, none, none, none] [] (cS Ls (qTw t z.1) z.2) o s') : Ev (d + 9) mL_law 1767 [some (.ref 1001000), some (.ref 0), some (.ref 78), some (.ref 92), some (iv i), none, none, none, none] [] (cS Ls t μ) o s' := by
  unfold sL_1767 at h
  refine ev_aload_n (pc' := 1768) dL_law_1767 rfl rfl ?_
  refine ev_aload_n (pc' := 1769) dL_law_1768 rfl rfl ?_
  refine ev_iload (pc' := 1771) dL_law_1769 rfl rfl ?_
  refine ev_iconst (pc' := 1772) dL_law_1771 rfl ?_
  refine ev_iadd (pc' := 1773) dL_law_1772 rfl ?_
  replace h := qbd h; obtain ⟨x1, hx1, h⟩ := h
  refine ev_sald (pc' := 1774) hLs dL_law_1773 rfl hx1 ?_
  refine ev_aload_n (pc' := 1775) dL_law_1774 rfl rfl ?_
  refine ev_iload (pc' := 1777) dL_law_1775 rfl rfl ?_
  refine ev_iconst (pc' := 1778) dL_law_1777 rfl ?_
  refine ev_iadd (pc' := 1779) dL_law_1778 rfl ?_
  replace h := qbd h; obtain ⟨x2, hx2, h⟩ := h
  refine ev_sald (pc' := 1780) hLs dL_law_1779 rfl hx2 ?_
  refine ev_aload_n (pc' := 1781) dL_law_1780 rfl rfl ?_
  replace h := qbd h; obtain ⟨y3, hy3, h⟩ := h
  refine ev_callg (pc' := 1784) (st2 := [iv y3.1]) dL_law_1781 (qs_S tc_11_239 (by decide) rfl rfl) rfl rfl (eL_removeEdge (d := d + 4) hy3) rfl rfl ?_
  refine ev_istore (pc' := 1786) (L1 := [some (.ref 1001000), some (.ref 0), some (.ref 78), some (.ref 92), some (iv i), some (iv y3.1), none, none, none]) dL_law_1784 rfl rfl ?_
  refine ev_aload_n (pc' := 1787) dL_law_1786 rfl rfl ?_
  refine ev_aload_n (pc' := 1788) dL_law_1787 rfl rfl ?_
  refine ev_iload (pc' := 1790) dL_law_1788 rfl rfl ?_
  refine ev_iconst (pc' := 1791) dL_law_1790 rfl ?_
  refine ev_iadd (pc' := 1792) dL_law_1791 rfl ?_
  replace h := qbd h; obtain ⟨x4, hx4, h⟩ := h
  refine ev_sald (pc' := 1793) hLs dL_law_1792 rfl hx4 ?_
  refine ev_aload_n (pc' := 1794) dL_law_1793 rfl rfl ?_
  refine ev_iload (pc' := 1796) dL_law_1794 rfl rfl ?_
  refine ev_iconst (pc' := 1797) dL_law_1796 rfl ?_
  refine ev_iadd (pc' := 1798) dL_law_1797 rfl ?_
  replace h := qbd h; obtain ⟨x5, hx5, h⟩ := h
  refine ev_sald (pc' := 1799) hLs dL_law_1798 rfl hx5 ?_
  replace h := qbd h; obtain ⟨y6, hy6, h⟩ := h
  refine ev_callg (pc' := 1802) (st2 := [iv y6.1]) dL_law_1799 (qs_V tc_11_241 rfl rfl (cS_cls sh78) rfl) rfl rfl (eX10_removeEdge (d := d + 5) hy6) rfl rfl ?_
  refine ev_istore (pc' := 1804) (L1 := [some (.ref 1001000), some (.ref 0), some (.ref 78), some (.ref 92), some (iv i), some (iv y3.1), some (iv y6.1), none, none]) dL_law_1802 rfl rfl ?_
  refine ev_aload_n (pc' := 1805) dL_law_1804 rfl rfl ?_
  replace h := qbd h; obtain ⟨y7, hy7, h⟩ := h
  refine ev_callg (pc' := 1808) (st2 := [iv y7]) dL_law_1805 (qs_V tc_11_113 rfl rfl (cS_cls sh78) rfl) rfl rfl (eX10_thrown (d := d + 8) hy7) rfl rfl ?_
  refine ev_iload (pc' := 1810) dL_law_1808 rfl rfl ?_
  refine ev_icmpeq (pc' := 1813) (tgt := 1815) dL_law_1810 (by decide) rfl (x1 := wr y7) (y1 := wr y3.1) rfl rfl  (fun c8 => ?_) (fun c8 => ?_)
  · replace h := qit c8 h
    refine ev_iload (pc' := 1817) dL_law_1815 rfl rfl ?_
    refine ev_ifne (pc' := 1820) (tgt := 1832) dL_law_1817 (by decide) rfl (x1 := wr y3.1) rfl (fun c9 => ?_) (fun c9 => ?_)
    · replace h := qit c9 h
      refine ev_aload_n (pc' := 1821) dL_law_1820 rfl rfl ?_
      refine ev_iconst (pc' := 1822) dL_law_1821 rfl ?_
      replace h := qbd h; obtain ⟨x10, hx10, h⟩ := h
      refine ev_lald (pc' := 1823) dL_law_1822 rfl sh92 hx10 ?_
      refine ev_iload (pc' := 1825) dL_law_1823 rfl rfl ?_
      refine ev_i2l (pc' := 1826) dL_law_1825 rfl ?_
      refine ev_lcmp (pc' := 1827) dL_law_1826 rfl ?_
      refine ev_ifeq (pc' := 1830) (tgt := 1832) dL_law_1827 (by decide) rfl (x1 := wr (lcm x10 y6.1)) rfl (fun c11 => ?_) (fun c11 => ?_)
      · replace h := qit c11 h
        refine ev_goto (pc' := 2257) dL_law_1832 (by decide) ?_
        cases h
        exact ev_wk (qLe_eq (qLe_eq (qLe_eq (qLe_eq (qLe_eq (qLe_sk (qLe_sk (qLe_eq (qLe_eq qLe_nil))))))))) kE
      · replace h := qif' c11 h
        refine ev_iconst (pc' := 1831) dL_law_1830 rfl ?_
        cases h
    · replace h := qif' c9 h
      refine ev_goto (pc' := 2257) dL_law_1832 (by decide) ?_
      cases h
      exact ev_wk (qLe_eq (qLe_eq (qLe_eq (qLe_eq (qLe_eq (qLe_sk (qLe_sk (qLe_eq (qLe_eq qLe_nil))))))))) kE
  · replace h := qif' c8 h
    refine ev_iconst (pc' := 1814) dL_law_1813 rfl ?_
    cases h
set_option maxRecDepth 100000 in
theorem esL_1835 {Ls t d n : Nat} {i : Int} {μ : qMu} {z : Int × qMu} (hLs : Ls ≤ 5000) (h : sL_1835 n Ls i μ = some z) (o : qO) (s' : qSt) (kE : Ev (d + 9) mL_law 2257 [some (.ref 1001000), some (.ref 0), some (.ref 78), some (.ref 92), some (iv i), none, none, none, none] [] (cS Ls (qTw t z.1) z.2) o s') : Ev (d + 9) mL_law 1835 [some (.ref 1001000), some (.ref 0), some (.ref 78), some (.ref 92), some (iv i), none, none, none, none] [] (cS Ls t μ) o s' := by
  unfold sL_1835 at h
  refine ev_aload_n (pc' := 1836) dL_law_1835 rfl rfl ?_
  refine ev_aload_n (pc' := 1837) dL_law_1836 rfl rfl ?_
  refine ev_iload (pc' := 1839) dL_law_1837 rfl rfl ?_
  refine ev_iconst (pc' := 1840) dL_law_1839 rfl ?_
  refine ev_iadd (pc' := 1841) dL_law_1840 rfl ?_
  replace h := qbd h; obtain ⟨x1, hx1, h⟩ := h
  refine ev_sald (pc' := 1842) hLs dL_law_1841 rfl hx1 ?_
  refine ev_aload_n (pc' := 1843) dL_law_1842 rfl rfl ?_
  refine ev_iload (pc' := 1845) dL_law_1843 rfl rfl ?_
  refine ev_iconst (pc' := 1846) dL_law_1845 rfl ?_
  refine ev_iadd (pc' := 1847) dL_law_1846 rfl ?_
  replace h := qbd h; obtain ⟨x2, hx2, h⟩ := h
  refine ev_sald (pc' := 1848) hLs dL_law_1847 rfl hx2 ?_
  refine ev_aload_n (pc' := 1849) dL_law_1848 rfl rfl ?_
  refine ev_iload (pc' := 1851) dL_law_1849 rfl rfl ?_
  refine ev_iconst (pc' := 1852) dL_law_1851 rfl ?_
  refine ev_iadd (pc' := 1853) dL_law_1852 rfl ?_
  replace h := qbd h; obtain ⟨x3, hx3, h⟩ := h
  refine ev_sald (pc' := 1854) hLs dL_law_1853 rfl hx3 ?_
  refine ev_aload_n (pc' := 1855) dL_law_1854 rfl rfl ?_
  refine ev_iload (pc' := 1857) dL_law_1855 rfl rfl ?_
  refine ev_iconst (pc' := 1858) dL_law_1857 rfl ?_
  refine ev_iadd (pc' := 1859) dL_law_1858 rfl ?_
  replace h := qbd h; obtain ⟨x4, hx4, h⟩ := h
  refine ev_sald (pc' := 1860) hLs dL_law_1859 rfl hx4 ?_
  refine ev_aload_n (pc' := 1861) dL_law_1860 rfl rfl ?_
  replace h := qbd h; obtain ⟨y5, hy5, h⟩ := h
  refine ev_callg (pc' := 1864) (st2 := [iv y5.1]) dL_law_1861 (qs_S tc_11_242 (by decide) rfl rfl) rfl rfl (eL_switchEdges (d := d + 4) hy5) rfl rfl ?_
  refine ev_istore (pc' := 1866) (L1 := [some (.ref 1001000), some (.ref 0), some (.ref 78), some (.ref 92), some (iv i), some (iv y5.1), none, none, none]) dL_law_1864 rfl rfl ?_
  refine ev_aload_n (pc' := 1867) dL_law_1866 rfl rfl ?_
  refine ev_aload_n (pc' := 1868) dL_law_1867 rfl rfl ?_
  refine ev_iload (pc' := 1870) dL_law_1868 rfl rfl ?_
  refine ev_iconst (pc' := 1871) dL_law_1870 rfl ?_
  refine ev_iadd (pc' := 1872) dL_law_1871 rfl ?_
  replace h := qbd h; obtain ⟨x6, hx6, h⟩ := h
  refine ev_sald (pc' := 1873) hLs dL_law_1872 rfl hx6 ?_
  refine ev_aload_n (pc' := 1874) dL_law_1873 rfl rfl ?_
  refine ev_iload (pc' := 1876) dL_law_1874 rfl rfl ?_
  refine ev_iconst (pc' := 1877) dL_law_1876 rfl ?_
  refine ev_iadd (pc' := 1878) dL_law_1877 rfl ?_
  replace h := qbd h; obtain ⟨x7, hx7, h⟩ := h
  refine ev_sald (pc' := 1879) hLs dL_law_1878 rfl hx7 ?_
  refine ev_aload_n (pc' := 1880) dL_law_1879 rfl rfl ?_
  refine ev_iload (pc' := 1882) dL_law_1880 rfl rfl ?_
  refine ev_iconst (pc' := 1883) dL_law_1882 rfl ?_
  refine ev_iadd (pc' := 1884) dL_law_1883 rfl ?_
  replace h := qbd h; obtain ⟨x8, hx8, h⟩ := h
  refine ev_sald (pc' := 1885) hLs dL_law_1884 rfl hx8 ?_
  refine ev_aload_n (pc' := 1886) dL_law_1885 rfl rfl ?_
  refine ev_iload (pc' := 1888) dL_law_1886 rfl rfl ?_
  refine ev_iconst (pc' := 1889) dL_law_1888 rfl ?_
  refine ev_iadd (pc' := 1890) dL_law_1889 rfl ?_
  replace h := qbd h; obtain ⟨x9, hx9, h⟩ := h
  refine ev_sald (pc' := 1891) hLs dL_law_1890 rfl hx9 ?_
  replace h := qbd h; obtain ⟨y10, hy10, h⟩ := h
  refine ev_callg (pc' := 1894) (st2 := [iv y10.1]) dL_law_1891 (qs_V tc_11_244 rfl rfl (cS_cls sh78) rfl) rfl rfl (eX10_switchEdges (d := d + 3) hy10) rfl rfl ?_
  refine ev_istore (pc' := 1896) (L1 := [some (.ref 1001000), some (.ref 0), some (.ref 78), some (.ref 92), some (iv i), some (iv y5.1), some (iv y10.1), none, none]) dL_law_1894 rfl rfl ?_
  refine ev_aload_n (pc' := 1897) dL_law_1896 rfl rfl ?_
  replace h := qbd h; obtain ⟨y11, hy11, h⟩ := h
  refine ev_callg (pc' := 1900) (st2 := [iv y11]) dL_law_1897 (qs_V tc_11_113 rfl rfl (cS_cls sh78) rfl) rfl rfl (eX10_thrown (d := d + 8) hy11) rfl rfl ?_
  refine ev_iload (pc' := 1902) dL_law_1900 rfl rfl ?_
  refine ev_icmpeq (pc' := 1905) (tgt := 1907) dL_law_1902 (by decide) rfl (x1 := wr y11) (y1 := wr y5.1) rfl rfl  (fun c12 => ?_) (fun c12 => ?_)
  · replace h := qit c12 h
    refine ev_iload (pc' := 1909) dL_law_1907 rfl rfl ?_
    refine ev_ifne (pc' := 1912) (tgt := 1924) dL_law_1909 (by decide) rfl (x1 := wr y5.1) rfl (fun c13 => ?_) (fun c13 => ?_)
    · replace h := qit c13 h
      refine ev_aload_n (pc' := 1913) dL_law_1912 rfl rfl ?_
      refine ev_iconst (pc' := 1914) dL_law_1913 rfl ?_
      replace h := qbd h; obtain ⟨x14, hx14, h⟩ := h
      refine ev_lald (pc' := 1915) dL_law_1914 rfl sh92 hx14 ?_
      refine ev_iload (pc' := 1917) dL_law_1915 rfl rfl ?_
      refine ev_i2l (pc' := 1918) dL_law_1917 rfl ?_
      refine ev_lcmp (pc' := 1919) dL_law_1918 rfl ?_
      refine ev_ifeq (pc' := 1922) (tgt := 1924) dL_law_1919 (by decide) rfl (x1 := wr (lcm x14 y10.1)) rfl (fun c15 => ?_) (fun c15 => ?_)
      · replace h := qit c15 h
        refine ev_goto (pc' := 2257) dL_law_1924 (by decide) ?_
        cases h
        exact ev_wk (qLe_eq (qLe_eq (qLe_eq (qLe_eq (qLe_eq (qLe_sk (qLe_sk (qLe_eq (qLe_eq qLe_nil))))))))) kE
      · replace h := qif' c15 h
        refine ev_iconst (pc' := 1923) dL_law_1922 rfl ?_
        cases h
    · replace h := qif' c13 h
      refine ev_goto (pc' := 2257) dL_law_1924 (by decide) ?_
      cases h
      exact ev_wk (qLe_eq (qLe_eq (qLe_eq (qLe_eq (qLe_eq (qLe_sk (qLe_sk (qLe_eq (qLe_eq qLe_nil))))))))) kE
  · replace h := qif' c12 h
    refine ev_iconst (pc' := 1906) dL_law_1905 rfl ?_
    cases h
set_option maxRecDepth 100000 in
theorem esL_1927 {Ls t d n : Nat} {i : Int} {μ : qMu} {z : Int × qMu} (hLs : Ls ≤ 5000) (h : sL_1927 n Ls i μ = some z) (o : qO) (s' : qSt) (kE : Ev (d + 9) mL_law 2257 [some (.ref 1001000), some (.ref 0), some (.ref 78), some (.ref 92), some (iv i), none, none, none, none] [] (cS Ls (qTw t z.1) z.2) o s') : Ev (d + 9) mL_law 1927 [some (.ref 1001000), some (.ref 0), some (.ref 78), some (.ref 92), some (iv i), none, none, none, none] [] (cS Ls t μ) o s' := by
  unfold sL_1927 at h
  refine ev_aload_n (pc' := 1928) dL_law_1927 rfl rfl ?_
  refine ev_aload_n (pc' := 1929) dL_law_1928 rfl rfl ?_
  refine ev_iload (pc' := 1931) dL_law_1929 rfl rfl ?_
  refine ev_iconst (pc' := 1932) dL_law_1931 rfl ?_
  refine ev_iadd (pc' := 1933) dL_law_1932 rfl ?_
  replace h := qbd h; obtain ⟨x1, hx1, h⟩ := h
  refine ev_sald (pc' := 1934) hLs dL_law_1933 rfl hx1 ?_
  refine ev_aload_n (pc' := 1935) dL_law_1934 rfl rfl ?_
  replace h := qbd h; obtain ⟨y2, hy2, h⟩ := h
  refine ev_callg (pc' := 1938) (st2 := [iv y2.1]) dL_law_1935 (qs_S tc_11_245 (by decide) rfl rfl) rfl rfl (eL_realise (d := d + 3) hy2) rfl rfl ?_
  refine ev_istore (pc' := 1940) (L1 := [some (.ref 1001000), some (.ref 0), some (.ref 78), some (.ref 92), some (iv i), some (iv y2.1), none, none, none]) dL_law_1938 rfl rfl ?_
  refine ev_aload_n (pc' := 1941) dL_law_1940 rfl rfl ?_
  refine ev_aload_n (pc' := 1942) dL_law_1941 rfl rfl ?_
  refine ev_iload (pc' := 1944) dL_law_1942 rfl rfl ?_
  refine ev_iconst (pc' := 1945) dL_law_1944 rfl ?_
  refine ev_iadd (pc' := 1946) dL_law_1945 rfl ?_
  replace h := qbd h; obtain ⟨x3, hx3, h⟩ := h
  refine ev_sald (pc' := 1947) hLs dL_law_1946 rfl hx3 ?_
  replace h := qbd h; obtain ⟨y4, hy4, h⟩ := h
  refine ev_callg (pc' := 1950) (st2 := [iv y4.1]) dL_law_1947 (qs_V tc_11_247 rfl rfl (cS_cls sh78) rfl) rfl rfl (eX10_realise (d := d + 3) hy4) rfl rfl ?_
  refine ev_istore (pc' := 1952) (L1 := [some (.ref 1001000), some (.ref 0), some (.ref 78), some (.ref 92), some (iv i), some (iv y2.1), some (iv y4.1), none, none]) dL_law_1950 rfl rfl ?_
  refine ev_aload_n (pc' := 1953) dL_law_1952 rfl rfl ?_
  replace h := qbd h; obtain ⟨y5, hy5, h⟩ := h
  refine ev_callg (pc' := 1956) (st2 := [iv y5]) dL_law_1953 (qs_V tc_11_113 rfl rfl (cS_cls sh78) rfl) rfl rfl (eX10_thrown (d := d + 8) hy5) rfl rfl ?_
  refine ev_iload (pc' := 1958) dL_law_1956 rfl rfl ?_
  refine ev_icmpeq (pc' := 1961) (tgt := 1963) dL_law_1958 (by decide) rfl (x1 := wr y5) (y1 := wr y2.1) rfl rfl  (fun c6 => ?_) (fun c6 => ?_)
  · replace h := qit c6 h
    refine ev_iload (pc' := 1965) dL_law_1963 rfl rfl ?_
    refine ev_ifne (pc' := 1968) (tgt := 1980) dL_law_1965 (by decide) rfl (x1 := wr y2.1) rfl (fun c7 => ?_) (fun c7 => ?_)
    · replace h := qit c7 h
      refine ev_aload_n (pc' := 1969) dL_law_1968 rfl rfl ?_
      refine ev_iconst (pc' := 1970) dL_law_1969 rfl ?_
      replace h := qbd h; obtain ⟨x8, hx8, h⟩ := h
      refine ev_lald (pc' := 1971) dL_law_1970 rfl sh92 hx8 ?_
      refine ev_iload (pc' := 1973) dL_law_1971 rfl rfl ?_
      refine ev_i2l (pc' := 1974) dL_law_1973 rfl ?_
      refine ev_lcmp (pc' := 1975) dL_law_1974 rfl ?_
      refine ev_ifeq (pc' := 1978) (tgt := 1980) dL_law_1975 (by decide) rfl (x1 := wr (lcm x8 y4.1)) rfl (fun c9 => ?_) (fun c9 => ?_)
      · replace h := qit c9 h
        refine ev_goto (pc' := 2257) dL_law_1980 (by decide) ?_
        cases h
        exact ev_wk (qLe_eq (qLe_eq (qLe_eq (qLe_eq (qLe_eq (qLe_sk (qLe_sk (qLe_eq (qLe_eq qLe_nil))))))))) kE
      · replace h := qif' c9 h
        refine ev_iconst (pc' := 1979) dL_law_1978 rfl ?_
        cases h
    · replace h := qif' c7 h
      refine ev_goto (pc' := 2257) dL_law_1980 (by decide) ?_
      cases h
      exact ev_wk (qLe_eq (qLe_eq (qLe_eq (qLe_eq (qLe_eq (qLe_sk (qLe_sk (qLe_eq (qLe_eq qLe_nil))))))))) kE
  · replace h := qif' c6 h
    refine ev_iconst (pc' := 1962) dL_law_1961 rfl ?_
    cases h
set_option maxRecDepth 100000 in
theorem esL_1983 {Ls t d n : Nat} {i : Int} {μ : qMu} {z : Int × qMu} (hLs : Ls ≤ 5000) (h : sL_1983 n Ls i μ = some z) (o : qO) (s' : qSt) (kE : Ev (d + 9) mL_law 2257 [some (.ref 1001000), some (.ref 0), some (.ref 78), some (.ref 92), some (iv i), none, none, none, none] [] (cS Ls (qTw t z.1) z.2) o s') : Ev (d + 9) mL_law 1983 [some (.ref 1001000), some (.ref 0), some (.ref 78), some (.ref 92), some (iv i), none, none, none, none] [] (cS Ls t μ) o s' := by
  unfold sL_1983 at h
  refine ev_aload_n (pc' := 1984) dL_law_1983 rfl rfl ?_
  refine ev_aload_n (pc' := 1985) dL_law_1984 rfl rfl ?_
  refine ev_iload (pc' := 1987) dL_law_1985 rfl rfl ?_
  refine ev_iconst (pc' := 1988) dL_law_1987 rfl ?_
  refine ev_iadd (pc' := 1989) dL_law_1988 rfl ?_
  replace h := qbd h; obtain ⟨x1, hx1, h⟩ := h
  refine ev_sald (pc' := 1990) hLs dL_law_1989 rfl hx1 ?_
  refine ev_aload_n (pc' := 1991) dL_law_1990 rfl rfl ?_
  replace h := qbd h; obtain ⟨y2, hy2, h⟩ := h
  refine ev_callg (pc' := 1994) (st2 := [iv y2.1]) dL_law_1991 (qs_S tc_11_248 (by decide) rfl rfl) rfl rfl (eL_follow (d := d + 2) hy2) rfl rfl ?_
  refine ev_istore (pc' := 1996) (L1 := [some (.ref 1001000), some (.ref 0), some (.ref 78), some (.ref 92), some (iv i), some (iv y2.1), none, none, none]) dL_law_1994 rfl rfl ?_
  refine ev_aload_n (pc' := 1997) dL_law_1996 rfl rfl ?_
  refine ev_aload_n (pc' := 1998) dL_law_1997 rfl rfl ?_
  refine ev_iload (pc' := 2000) dL_law_1998 rfl rfl ?_
  refine ev_iconst (pc' := 2001) dL_law_2000 rfl ?_
  refine ev_iadd (pc' := 2002) dL_law_2001 rfl ?_
  replace h := qbd h; obtain ⟨x3, hx3, h⟩ := h
  refine ev_sald (pc' := 2003) hLs dL_law_2002 rfl hx3 ?_
  replace h := qbd h; obtain ⟨y4, hy4, h⟩ := h
  refine ev_callg (pc' := 2006) (st2 := [iv y4.1]) dL_law_2003 (qs_V tc_11_250 rfl rfl (cS_cls sh78) rfl) rfl rfl (eX10_follow (d := d + 2) hy4) rfl rfl ?_
  refine ev_istore (pc' := 2008) (L1 := [some (.ref 1001000), some (.ref 0), some (.ref 78), some (.ref 92), some (iv i), some (iv y2.1), some (iv y4.1), none, none]) dL_law_2006 rfl rfl ?_
  refine ev_aload_n (pc' := 2009) dL_law_2008 rfl rfl ?_
  replace h := qbd h; obtain ⟨y5, hy5, h⟩ := h
  refine ev_callg (pc' := 2012) (st2 := [iv y5]) dL_law_2009 (qs_V tc_11_113 rfl rfl (cS_cls sh78) rfl) rfl rfl (eX10_thrown (d := d + 8) hy5) rfl rfl ?_
  refine ev_iload (pc' := 2014) dL_law_2012 rfl rfl ?_
  refine ev_icmpeq (pc' := 2017) (tgt := 2019) dL_law_2014 (by decide) rfl (x1 := wr y5) (y1 := wr y2.1) rfl rfl  (fun c6 => ?_) (fun c6 => ?_)
  · replace h := qit c6 h
    refine ev_iload (pc' := 2021) dL_law_2019 rfl rfl ?_
    refine ev_ifne (pc' := 2024) (tgt := 2036) dL_law_2021 (by decide) rfl (x1 := wr y2.1) rfl (fun c7 => ?_) (fun c7 => ?_)
    · replace h := qit c7 h
      refine ev_aload_n (pc' := 2025) dL_law_2024 rfl rfl ?_
      refine ev_iconst (pc' := 2026) dL_law_2025 rfl ?_
      replace h := qbd h; obtain ⟨x8, hx8, h⟩ := h
      refine ev_lald (pc' := 2027) dL_law_2026 rfl sh92 hx8 ?_
      refine ev_iload (pc' := 2029) dL_law_2027 rfl rfl ?_
      refine ev_i2l (pc' := 2030) dL_law_2029 rfl ?_
      refine ev_lcmp (pc' := 2031) dL_law_2030 rfl ?_
      refine ev_ifeq (pc' := 2034) (tgt := 2036) dL_law_2031 (by decide) rfl (x1 := wr (lcm x8 y4.1)) rfl (fun c9 => ?_) (fun c9 => ?_)
      · replace h := qit c9 h
        refine ev_goto (pc' := 2257) dL_law_2036 (by decide) ?_
        cases h
        exact ev_wk (qLe_eq (qLe_eq (qLe_eq (qLe_eq (qLe_eq (qLe_sk (qLe_sk (qLe_eq (qLe_eq qLe_nil))))))))) kE
      · replace h := qif' c9 h
        refine ev_iconst (pc' := 2035) dL_law_2034 rfl ?_
        cases h
    · replace h := qif' c7 h
      refine ev_goto (pc' := 2257) dL_law_2036 (by decide) ?_
      cases h
      exact ev_wk (qLe_eq (qLe_eq (qLe_eq (qLe_eq (qLe_eq (qLe_sk (qLe_sk (qLe_eq (qLe_eq qLe_nil))))))))) kE
  · replace h := qif' c6 h
    refine ev_iconst (pc' := 2018) dL_law_2017 rfl ?_
    cases h
set_option maxRecDepth 100000 in
theorem esL_2039 {Ls t d n : Nat} {i : Int} {μ : qMu} {z : Int × qMu} (hLs : Ls ≤ 5000) (h : sL_2039 n Ls i μ = some z) (o : qO) (s' : qSt) (kE : Ev (d + 9) mL_law 2257 [some (.ref 1001000), some (.ref 0), some (.ref 78), some (.ref 92), some (iv i), none, none, none, none] [] (cS Ls (qTw t z.1) z.2) o s') : Ev (d + 9) mL_law 2039 [some (.ref 1001000), some (.ref 0), some (.ref 78), some (.ref 92), some (iv i), none, none, none, none] [] (cS Ls t μ) o s' := by
  unfold sL_2039 at h
  refine ev_aload_n (pc' := 2040) dL_law_2039 rfl rfl ?_
  replace h := qbd h; obtain ⟨y1, hy1, h⟩ := h
  refine ev_callg (pc' := 2043) (st2 := [iv y1.1]) dL_law_2040 (qs_V tc_11_251 rfl rfl (cS_cls sh0) rfl) rfl rfl (eX9_connect (d := d + 3) hy1) rfl rfl ?_
  refine ev_aload_n (pc' := 2044) dL_law_2043 rfl rfl ?_
  replace h := qbd h; obtain ⟨y2, hy2, h⟩ := h
  refine ev_callg (pc' := 2047) (st2 := [iv y2.1, iv y1.1]) dL_law_2044 (qs_V tc_11_254 rfl rfl (cS_cls sh78) rfl) rfl rfl (eX10_connect (d := d + 1) hy2) rfl rfl ?_
  refine ev_icmpeq (pc' := 2050) (tgt := 2257) dL_law_2047 (by decide) rfl (x1 := wr y1.1) (y1 := wr y2.1) rfl rfl  (fun c3 => ?_) (fun c3 => ?_)
  · replace h := qit c3 h
    cases h
    exact ev_wk (qLe_eq (qLe_eq (qLe_eq (qLe_eq (qLe_eq (qLe_eq (qLe_eq (qLe_eq (qLe_eq qLe_nil))))))))) kE
  · replace h := qif' c3 h
    refine ev_iconst (pc' := 2051) dL_law_2050 rfl ?_
    cases h
set_option maxRecDepth 100000 in
theorem esL_2052 {Ls t d n : Nat} {i : Int} {μ : qMu} {z : Int × qMu} (hLs : Ls ≤ 5000) (h : sL_2052 n Ls i μ = some z) (o : qO) (s' : qSt) (kE : Ev (d + 9) mL_law 2257 [some (.ref 1001000), some (.ref 0), some (.ref 78), some (.ref 92), some (iv i), none, none, none, none] [] (cS Ls (qTw t z.1) z.2) o s') : Ev (d + 9) mL_law 2052 [some (.ref 1001000), some (.ref 0), some (.ref 78), some (.ref 92), some (iv i), none, none, none, none] [] (cS Ls t μ) o s' := by
  unfold sL_2052 at h
  refine ev_aload_n (pc' := 2053) dL_law_2052 rfl rfl ?_
  replace h := qbd h; obtain ⟨y1, hy1, h⟩ := h
  refine ev_callg (pc' := 2056) (st2 := [iv y1.1]) dL_law_2053 (qs_V tc_11_255 rfl rfl (cS_cls sh0) rfl) rfl rfl (eX9_simplify (d := d + 3) hy1) rfl rfl ?_
  refine ev_aload_n (pc' := 2057) dL_law_2056 rfl rfl ?_
  replace h := qbd h; obtain ⟨y2, hy2, h⟩ := h
  refine ev_callg (pc' := 2060) (st2 := [iv y2.1, iv y1.1]) dL_law_2057 (qs_V tc_11_258 rfl rfl (cS_cls sh78) rfl) rfl rfl (eX10_simplify (d := d + 2) hy2) rfl rfl ?_
  refine ev_icmpeq (pc' := 2063) (tgt := 2257) dL_law_2060 (by decide) rfl (x1 := wr y1.1) (y1 := wr y2.1) rfl rfl  (fun c3 => ?_) (fun c3 => ?_)
  · replace h := qit c3 h
    cases h
    exact ev_wk (qLe_eq (qLe_eq (qLe_eq (qLe_eq (qLe_eq (qLe_eq (qLe_eq (qLe_eq (qLe_eq qLe_nil))))))))) kE
  · replace h := qif' c3 h
    refine ev_iconst (pc' := 2064) dL_law_2063 rfl ?_
    cases h
set_option maxRecDepth 100000 in
theorem esL_2065 {Ls t d n : Nat} {i : Int} {μ : qMu} {z : Int × qMu} (hLs : Ls ≤ 5000) (h : sL_2065 n Ls i μ = some z) (o : qO) (s' : qSt) (kE : Ev (d + 9) mL_law 2257 [some (.ref 1001000), some (.ref 0), some (.ref 78), some (.ref 92), some (iv i), none, none, none, none] [] (cS Ls (qTw t z.1) z.2) o s') : Ev (d + 9) mL_law 2065 [some (.ref 1001000), some (.ref 0), some (.ref 78), some (.ref 92), some (iv i), none, none, none, none] [] (cS Ls t μ) o s' := by
  unfold sL_2065 at h
  refine ev_aload_n (pc' := 2066) dL_law_2065 rfl rfl ?_
  replace h := qbd h; obtain ⟨y1, hy1, h⟩ := h
  refine ev_callg (pc' := 2069) (st2 := [iv y1.1]) dL_law_2066 (qs_V tc_11_259 rfl rfl (cS_cls sh0) rfl) rfl rfl (eX9_exchange (d := d + 5) hy1) rfl rfl ?_
  refine ev_aload_n (pc' := 2070) dL_law_2069 rfl rfl ?_
  replace h := qbd h; obtain ⟨y2, hy2, h⟩ := h
  refine ev_callg (pc' := 2073) (st2 := [iv y2.1, iv y1.1]) dL_law_2070 (qs_V tc_11_262 rfl rfl (cS_cls sh78) rfl) rfl rfl (eX10_exchange (d := d + 5) hy2) rfl rfl ?_
  refine ev_icmpeq (pc' := 2076) (tgt := 2257) dL_law_2073 (by decide) rfl (x1 := wr y1.1) (y1 := wr y2.1) rfl rfl  (fun c3 => ?_) (fun c3 => ?_)
  · replace h := qit c3 h
    cases h
    exact ev_wk (qLe_eq (qLe_eq (qLe_eq (qLe_eq (qLe_eq (qLe_eq (qLe_eq (qLe_eq (qLe_eq qLe_nil))))))))) kE
  · replace h := qif' c3 h
    refine ev_iconst (pc' := 2077) dL_law_2076 rfl ?_
    cases h
set_option maxRecDepth 100000 in
theorem esL_2078 {Ls t d n : Nat} {i : Int} {μ : qMu} {z : Int × qMu} (hLs : Ls ≤ 5000) (h : sL_2078 n Ls i μ = some z) (o : qO) (s' : qSt) (kE : Ev (d + 9) mL_law 2257 [some (.ref 1001000), some (.ref 0), some (.ref 78), some (.ref 92), some (iv i), none, none, none, none] [] (cS Ls (qTw t z.1) z.2) o s') : Ev (d + 9) mL_law 2078 [some (.ref 1001000), some (.ref 0), some (.ref 78), some (.ref 92), some (iv i), none, none, none, none] [] (cS Ls t μ) o s' := by
  unfold sL_2078 at h
  refine ev_aload_n (pc' := 2079) dL_law_2078 rfl rfl ?_
  replace h := qbd h; obtain ⟨y1, hy1, h⟩ := h
  refine ev_callg (pc' := 2082) (st2 := [iv y1.1]) dL_law_2079 (qs_V tc_11_263 rfl rfl (cS_cls sh0) rfl) rfl rfl (eX9_copyToTarget (d := d + 5) hy1) rfl rfl ?_
  refine ev_aload_n (pc' := 2083) dL_law_2082 rfl rfl ?_
  replace h := qbd h; obtain ⟨y2, hy2, h⟩ := h
  refine ev_callg (pc' := 2086) (st2 := [iv y2.1, iv y1.1]) dL_law_2083 (qs_V tc_11_266 rfl rfl (cS_cls sh78) rfl) rfl rfl (eX10_copyToTarget (d := d + 5) hy2) rfl rfl ?_
  refine ev_icmpeq (pc' := 2089) (tgt := 2257) dL_law_2086 (by decide) rfl (x1 := wr y1.1) (y1 := wr y2.1) rfl rfl  (fun c3 => ?_) (fun c3 => ?_)
  · replace h := qit c3 h
    cases h
    exact ev_wk (qLe_eq (qLe_eq (qLe_eq (qLe_eq (qLe_eq (qLe_eq (qLe_eq (qLe_eq (qLe_eq qLe_nil))))))))) kE
  · replace h := qif' c3 h
    refine ev_iconst (pc' := 2090) dL_law_2089 rfl ?_
    cases h
set_option maxRecDepth 100000 in
theorem esL_2091 {Ls t d n : Nat} {i : Int} {μ : qMu} {z : Int × qMu} (hLs : Ls ≤ 5000) (h : sL_2091 n Ls i μ = some z) (o : qO) (s' : qSt) (kE : Ev (d + 9) mL_law 2257 [some (.ref 1001000), some (.ref 0), some (.ref 78), some (.ref 92), some (iv i), none, none, none, none] [] (cS Ls (qTw t z.1) z.2) o s') : Ev (d + 9) mL_law 2091 [some (.ref 1001000), some (.ref 0), some (.ref 78), some (.ref 92), some (iv i), none, none, none, none] [] (cS Ls t μ) o s' := by
  unfold sL_2091 at h
  refine ev_aload_n (pc' := 2092) dL_law_2091 rfl rfl ?_
  refine ev_aload_n (pc' := 2093) dL_law_2092 rfl rfl ?_
  refine ev_iload (pc' := 2095) dL_law_2093 rfl rfl ?_
  refine ev_iconst (pc' := 2096) dL_law_2095 rfl ?_
  refine ev_iadd (pc' := 2097) dL_law_2096 rfl ?_
  replace h := qbd h; obtain ⟨x1, hx1, h⟩ := h
  refine ev_sald (pc' := 2098) hLs dL_law_2097 rfl hx1 ?_
  refine ev_aload_n (pc' := 2099) dL_law_2098 rfl rfl ?_
  replace h := qbd h; obtain ⟨y2, hy2, h⟩ := h
  refine ev_callg (pc' := 2102) (st2 := [iv y2.1]) dL_law_2099 (qs_S tc_11_267 (by decide) rfl rfl) rfl rfl (eL_setMode (d := d + 4) hy2) rfl rfl ?_
  refine ev_istore (pc' := 2104) (L1 := [some (.ref 1001000), some (.ref 0), some (.ref 78), some (.ref 92), some (iv i), some (iv y2.1), none, none, none]) dL_law_2102 rfl rfl ?_
  refine ev_aload_n (pc' := 2105) dL_law_2104 rfl rfl ?_
  refine ev_aload_n (pc' := 2106) dL_law_2105 rfl rfl ?_
  refine ev_iload (pc' := 2108) dL_law_2106 rfl rfl ?_
  refine ev_iconst (pc' := 2109) dL_law_2108 rfl ?_
  refine ev_iadd (pc' := 2110) dL_law_2109 rfl ?_
  replace h := qbd h; obtain ⟨x3, hx3, h⟩ := h
  refine ev_sald (pc' := 2111) hLs dL_law_2110 rfl hx3 ?_
  replace h := qbd h; obtain ⟨y4, hy4, h⟩ := h
  refine ev_callg (pc' := 2114) (st2 := [iv y4.1]) dL_law_2111 (qs_V tc_11_269 rfl rfl (cS_cls sh78) rfl) rfl rfl (eX10_setMode (d := d + 7) hy4) rfl rfl ?_
  refine ev_istore (pc' := 2116) (L1 := [some (.ref 1001000), some (.ref 0), some (.ref 78), some (.ref 92), some (iv i), some (iv y2.1), some (iv y4.1), none, none]) dL_law_2114 rfl rfl ?_
  refine ev_aload_n (pc' := 2117) dL_law_2116 rfl rfl ?_
  replace h := qbd h; obtain ⟨y5, hy5, h⟩ := h
  refine ev_callg (pc' := 2120) (st2 := [iv y5]) dL_law_2117 (qs_V tc_11_113 rfl rfl (cS_cls sh78) rfl) rfl rfl (eX10_thrown (d := d + 8) hy5) rfl rfl ?_
  refine ev_iload (pc' := 2122) dL_law_2120 rfl rfl ?_
  refine ev_icmpeq (pc' := 2125) (tgt := 2127) dL_law_2122 (by decide) rfl (x1 := wr y5) (y1 := wr y2.1) rfl rfl  (fun c6 => ?_) (fun c6 => ?_)
  · replace h := qit c6 h
    refine ev_iload (pc' := 2129) dL_law_2127 rfl rfl ?_
    refine ev_ifne (pc' := 2132) (tgt := 2144) dL_law_2129 (by decide) rfl (x1 := wr y2.1) rfl (fun c7 => ?_) (fun c7 => ?_)
    · replace h := qit c7 h
      refine ev_aload_n (pc' := 2133) dL_law_2132 rfl rfl ?_
      refine ev_iconst (pc' := 2134) dL_law_2133 rfl ?_
      replace h := qbd h; obtain ⟨x8, hx8, h⟩ := h
      refine ev_lald (pc' := 2135) dL_law_2134 rfl sh92 hx8 ?_
      refine ev_iload (pc' := 2137) dL_law_2135 rfl rfl ?_
      refine ev_i2l (pc' := 2138) dL_law_2137 rfl ?_
      refine ev_lcmp (pc' := 2139) dL_law_2138 rfl ?_
      refine ev_ifeq (pc' := 2142) (tgt := 2144) dL_law_2139 (by decide) rfl (x1 := wr (lcm x8 y4.1)) rfl (fun c9 => ?_) (fun c9 => ?_)
      · replace h := qit c9 h
        refine ev_goto (pc' := 2257) dL_law_2144 (by decide) ?_
        cases h
        exact ev_wk (qLe_eq (qLe_eq (qLe_eq (qLe_eq (qLe_eq (qLe_sk (qLe_sk (qLe_eq (qLe_eq qLe_nil))))))))) kE
      · replace h := qif' c9 h
        refine ev_iconst (pc' := 2143) dL_law_2142 rfl ?_
        cases h
    · replace h := qif' c7 h
      refine ev_goto (pc' := 2257) dL_law_2144 (by decide) ?_
      cases h
      exact ev_wk (qLe_eq (qLe_eq (qLe_eq (qLe_eq (qLe_eq (qLe_sk (qLe_sk (qLe_eq (qLe_eq qLe_nil))))))))) kE
  · replace h := qif' c6 h
    refine ev_iconst (pc' := 2126) dL_law_2125 rfl ?_
    cases h
set_option maxRecDepth 100000 in
theorem esL_2147 {Ls t d n : Nat} {i : Int} {μ : qMu} {z : Int × qMu} (hLs : Ls ≤ 5000) (h : sL_2147 n Ls i μ = some z) (o : qO) (s' : qSt) (kE : Ev (d + 9) mL_law 2257 [some (.ref 1001000), some (.ref 0), some (.ref 78), some (.ref 92), some (iv i), none, none, none, none] [] (cS Ls (qTw t z.1) z.2) o s') : Ev (d + 9) mL_law 2147 [some (.ref 1001000), some (.ref 0), some (.ref 78), some (.ref 92), some (iv i), none, none, none, none] [] (cS Ls t μ) o s' := by
  unfold sL_2147 at h
  refine ev_aload_n (pc' := 2148) dL_law_2147 rfl rfl ?_
  replace h := qbd h; obtain ⟨y1, hy1, h⟩ := h
  refine ev_callg (pc' := 2151) (st2 := [iv y1.1]) dL_law_2148 (qs_V tc_11_270 rfl rfl (cS_cls sh0) rfl) rfl rfl (eX9_undo (d := d + 7) hy1) rfl rfl ?_
  refine ev_aload_n (pc' := 2152) dL_law_2151 rfl rfl ?_
  replace h := qbd h; obtain ⟨y2, hy2, h⟩ := h
  refine ev_callg (pc' := 2155) (st2 := [iv y2.1, iv y1.1]) dL_law_2152 (qs_V tc_11_273 rfl rfl (cS_cls sh78) rfl) rfl rfl (eX10_undo (d := d + 8) hy2) rfl rfl ?_
  refine ev_icmpeq (pc' := 2158) (tgt := 2257) dL_law_2155 (by decide) rfl (x1 := wr y1.1) (y1 := wr y2.1) rfl rfl  (fun c3 => ?_) (fun c3 => ?_)
  · replace h := qit c3 h
    cases h
    exact ev_wk (qLe_eq (qLe_eq (qLe_eq (qLe_eq (qLe_eq (qLe_eq (qLe_eq (qLe_eq (qLe_eq qLe_nil))))))))) kE
  · replace h := qif' c3 h
    refine ev_iconst (pc' := 2159) dL_law_2158 rfl ?_
    cases h
set_option maxRecDepth 100000 in
theorem esL_2160 {Ls t d n : Nat} {i : Int} {μ : qMu} {z : Int × qMu} (hLs : Ls ≤ 5000) (h : sL_2160 n Ls i μ = some z) (o : qO) (s' : qSt) (kE : Ev (d + 9) mL_law 2257 [some (.ref 1001000), some (.ref 0), some (.ref 78), some (.ref 92), some (iv i), none, none, none, none] [] (cS Ls (qTw t z.1) z.2) o s') : Ev (d + 9) mL_law 2160 [some (.ref 1001000), some (.ref 0), some (.ref 78), some (.ref 92), some (iv i), none, none, none, none] [] (cS Ls t μ) o s' := by
  unfold sL_2160 at h
  refine ev_aload_n (pc' := 2161) dL_law_2160 rfl rfl ?_
  refine ev_aload_n (pc' := 2162) dL_law_2161 rfl rfl ?_
  refine ev_iload (pc' := 2164) dL_law_2162 rfl rfl ?_
  refine ev_iconst (pc' := 2165) dL_law_2164 rfl ?_
  refine ev_iadd (pc' := 2166) dL_law_2165 rfl ?_
  replace h := qbd h; obtain ⟨x1, hx1, h⟩ := h
  refine ev_sald (pc' := 2167) hLs dL_law_2166 rfl hx1 ?_
  have k3 : ∀ j4 : Int, j4 = (if wr x1 = 0 then 0 else 1) → Ev (d + 9) mL_law 2175 [some (.ref 1001000), some (.ref 0), some (.ref 78), some (.ref 92), some (iv i), none, none, none, none] [iv j4, .ref 0] (cS Ls t μ) o s' := by
    intro j4 ej4
    subst ej4
    replace h := qbd h; obtain ⟨y5, hy5, h⟩ := h
    refine ev_callg (pc' := 2178) (st2 := [iv y5.1]) dL_law_2175 (qs_V tc_11_274 rfl rfl (cS_cls sh0) rfl) rfl rfl (eX9_write (d := d + 4) hy5) rfl rfl ?_
    refine ev_aload_n (pc' := 2179) dL_law_2178 rfl rfl ?_
    refine ev_aload_n (pc' := 2180) dL_law_2179 rfl rfl ?_
    refine ev_iload (pc' := 2182) dL_law_2180 rfl rfl ?_
    refine ev_iconst (pc' := 2183) dL_law_2182 rfl ?_
    refine ev_iadd (pc' := 2184) dL_law_2183 rfl ?_
    replace h := qbd h; obtain ⟨x6, hx6, h⟩ := h
    refine ev_sald (pc' := 2185) hLs dL_law_2184 rfl hx6 ?_
    have k8 : ∀ j9 : Int, j9 = (if wr x6 = 0 then 0 else 1) → Ev (d + 9) mL_law 2193 [some (.ref 1001000), some (.ref 0), some (.ref 78), some (.ref 92), some (iv i), none, none, none, none] [iv j9, .ref 78, iv y5.1] (cS Ls t y5.2) o s' := by
      intro j9 ej9
      subst ej9
      replace h := qbd h; obtain ⟨y10, hy10, h⟩ := h
      refine ev_callg (pc' := 2196) (st2 := [iv y10.1, iv y5.1]) dL_law_2193 (qs_V tc_11_277 rfl rfl (cS_cls sh78) rfl) rfl rfl (eX10_write (d := d + 3) hy10) rfl rfl ?_
      refine ev_icmpeq (pc' := 2199) (tgt := 2257) dL_law_2196 (by decide) rfl (x1 := wr y5.1) (y1 := wr y10.1) rfl rfl  (fun c11 => ?_) (fun c11 => ?_)
      · replace h := qit c11 h
        cases h
        exact ev_wk (qLe_eq (qLe_eq (qLe_eq (qLe_eq (qLe_eq (qLe_eq (qLe_eq (qLe_eq (qLe_eq qLe_nil))))))))) kE
      · replace h := qif' c11 h
        refine ev_iconst (pc' := 2200) dL_law_2199 rfl ?_
        cases h
    refine ev_ifeq (pc' := 2188) (tgt := 2192) dL_law_2185 (by decide) rfl (x1 := wr x6) rfl (fun c7 => ?_) (fun c7 => ?_)
    · skip
      refine ev_iconst (pc' := 2193) dL_law_2192 rfl ?_
      exact ev_wk (qLe_eq (qLe_eq (qLe_eq (qLe_eq (qLe_eq (qLe_eq (qLe_eq (qLe_eq (qLe_eq qLe_nil))))))))) (k8 _ (qet c7 rfl))
    · skip
      refine ev_iconst (pc' := 2189) dL_law_2188 rfl ?_
      refine ev_goto (pc' := 2193) dL_law_2189 (by decide) ?_
      exact ev_wk (qLe_eq (qLe_eq (qLe_eq (qLe_eq (qLe_eq (qLe_eq (qLe_eq (qLe_eq (qLe_eq qLe_nil))))))))) (k8 _ (qef c7 rfl))
  refine ev_ifeq (pc' := 2170) (tgt := 2174) dL_law_2167 (by decide) rfl (x1 := wr x1) rfl (fun c2 => ?_) (fun c2 => ?_)
  · skip
    refine ev_iconst (pc' := 2175) dL_law_2174 rfl ?_
    exact ev_wk (qLe_eq (qLe_eq (qLe_eq (qLe_eq (qLe_eq (qLe_eq (qLe_eq (qLe_eq (qLe_eq qLe_nil))))))))) (k3 _ (qet c2 rfl))
  · skip
    refine ev_iconst (pc' := 2171) dL_law_2170 rfl ?_
    refine ev_goto (pc' := 2175) dL_law_2171 (by decide) ?_
    exact ev_wk (qLe_eq (qLe_eq (qLe_eq (qLe_eq (qLe_eq (qLe_eq (qLe_eq (qLe_eq (qLe_eq qLe_nil))))))))) (k3 _ (qef c2 rfl))
set_option maxRecDepth 100000 in
theorem esL_2201 {Ls t d n : Nat} {i : Int} {μ : qMu} {z : Int × qMu} (hLs : Ls ≤ 5000) (h : sL_2201 n Ls i μ = some z) (o : qO) (s' : qSt) (kE : Ev (d + 9) mL_law 2257 [some (.ref 1001000), some (.ref 0), some (.ref 78), some (.ref 92), some (iv i), none, none, none, none] [] (cS Ls (qTw t z.1) z.2) o s') : Ev (d + 9) mL_law 2201 [some (.ref 1001000), some (.ref 0), some (.ref 78), some (.ref 92), some (iv i), none, none, none, none] [] (cS Ls t μ) o s' := by
  unfold sL_2201 at h
  refine ev_aload_n (pc' := 2202) dL_law_2201 rfl rfl ?_
  refine ev_aload_n (pc' := 2203) dL_law_2202 rfl rfl ?_
  refine ev_iload (pc' := 2205) dL_law_2203 rfl rfl ?_
  refine ev_iconst (pc' := 2206) dL_law_2205 rfl ?_
  refine ev_iadd (pc' := 2207) dL_law_2206 rfl ?_
  replace h := qbd h; obtain ⟨x1, hx1, h⟩ := h
  refine ev_sald (pc' := 2208) hLs dL_law_2207 rfl hx1 ?_
  refine ev_aload_n (pc' := 2209) dL_law_2208 rfl rfl ?_
  replace h := qbd h; obtain ⟨y2, hy2, h⟩ := h
  refine ev_callg (pc' := 2212) (st2 := [iv y2.1]) dL_law_2209 (qs_S tc_11_278 (by decide) rfl rfl) rfl rfl (eL_written (d := d + 6) hy2) rfl rfl ?_
  refine ev_istore (pc' := 2214) (L1 := [some (.ref 1001000), some (.ref 0), some (.ref 78), some (.ref 92), some (iv i), some (iv y2.1), none, none, none]) dL_law_2212 rfl rfl ?_
  refine ev_aload_n (pc' := 2215) dL_law_2214 rfl rfl ?_
  refine ev_aload_n (pc' := 2216) dL_law_2215 rfl rfl ?_
  refine ev_iload (pc' := 2218) dL_law_2216 rfl rfl ?_
  refine ev_iconst (pc' := 2219) dL_law_2218 rfl ?_
  refine ev_iadd (pc' := 2220) dL_law_2219 rfl ?_
  replace h := qbd h; obtain ⟨x3, hx3, h⟩ := h
  refine ev_sald (pc' := 2221) hLs dL_law_2220 rfl hx3 ?_
  replace h := qbd h; obtain ⟨y4, hy4, h⟩ := h
  refine ev_callg (pc' := 2224) (st2 := [iv y4.1]) dL_law_2221 (qs_V tc_11_280 rfl rfl (cS_cls sh78) rfl) rfl rfl (eX10_written (d := d + 7) hy4) rfl rfl ?_
  refine ev_istore (pc' := 2226) (L1 := [some (.ref 1001000), some (.ref 0), some (.ref 78), some (.ref 92), some (iv i), some (iv y2.1), some (iv y4.1), none, none]) dL_law_2224 rfl rfl ?_
  refine ev_aload_n (pc' := 2227) dL_law_2226 rfl rfl ?_
  replace h := qbd h; obtain ⟨y5, hy5, h⟩ := h
  refine ev_callg (pc' := 2230) (st2 := [iv y5]) dL_law_2227 (qs_V tc_11_113 rfl rfl (cS_cls sh78) rfl) rfl rfl (eX10_thrown (d := d + 8) hy5) rfl rfl ?_
  refine ev_iload (pc' := 2232) dL_law_2230 rfl rfl ?_
  refine ev_icmpeq (pc' := 2235) (tgt := 2237) dL_law_2232 (by decide) rfl (x1 := wr y5) (y1 := wr y2.1) rfl rfl  (fun c6 => ?_) (fun c6 => ?_)
  · replace h := qit c6 h
    refine ev_iload (pc' := 2239) dL_law_2237 rfl rfl ?_
    refine ev_ifne (pc' := 2242) (tgt := 2254) dL_law_2239 (by decide) rfl (x1 := wr y2.1) rfl (fun c7 => ?_) (fun c7 => ?_)
    · replace h := qit c7 h
      refine ev_aload_n (pc' := 2243) dL_law_2242 rfl rfl ?_
      refine ev_iconst (pc' := 2244) dL_law_2243 rfl ?_
      replace h := qbd h; obtain ⟨x8, hx8, h⟩ := h
      refine ev_lald (pc' := 2245) dL_law_2244 rfl sh92 hx8 ?_
      refine ev_iload (pc' := 2247) dL_law_2245 rfl rfl ?_
      refine ev_i2l (pc' := 2248) dL_law_2247 rfl ?_
      refine ev_lcmp (pc' := 2249) dL_law_2248 rfl ?_
      refine ev_ifeq (pc' := 2252) (tgt := 2254) dL_law_2249 (by decide) rfl (x1 := wr (lcm x8 y4.1)) rfl (fun c9 => ?_) (fun c9 => ?_)
      · replace h := qit c9 h
        refine ev_goto (pc' := 2257) dL_law_2254 (by decide) ?_
        cases h
        exact ev_wk (qLe_eq (qLe_eq (qLe_eq (qLe_eq (qLe_eq (qLe_sk (qLe_sk (qLe_eq (qLe_eq qLe_nil))))))))) kE
      · replace h := qif' c9 h
        refine ev_iconst (pc' := 2253) dL_law_2252 rfl ?_
        cases h
    · replace h := qif' c7 h
      refine ev_goto (pc' := 2257) dL_law_2254 (by decide) ?_
      cases h
      exact ev_wk (qLe_eq (qLe_eq (qLe_eq (qLe_eq (qLe_eq (qLe_sk (qLe_sk (qLe_eq (qLe_eq qLe_nil))))))))) kE
  · replace h := qif' c6 h
    refine ev_iconst (pc' := 2236) dL_law_2235 rfl ?_
    cases h
