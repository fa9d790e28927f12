set_option maxRecDepth 100000 in
theorem eX9_remember {Ls t d n : Nat} {μ : qMu} {r : qMu} (h : fX9_remember n μ = some r) : Ev (d + 2) mX9_remember 0 [some (.ref 0)] [] (cS Ls t μ) (.inl none) (cS Ls t r) := by
  unfold fX9_remember at h
  refine ev_aload_n (pc' := 1) dX9_remember_0 rfl rfl ?_
  refine ev_getr (pc' := 4) dX9_remember_1 rfl tf_9_63 sh0 rfl ?_
  refine ev_aload_n (pc' := 5) dX9_remember_4 rfl rfl ?_
  refine ev_getr (pc' := 8) dX9_remember_5 rfl tf_9_19 sh0 rfl ?_
  refine ev_aload_n (pc' := 9) dX9_remember_8 rfl rfl ?_
  refine ev_getr (pc' := 12) dX9_remember_9 rfl tf_9_23 sh0 rfl ?_
  refine ev_aload_n (pc' := 13) dX9_remember_12 rfl rfl ?_
  refine ev_geti (pc' := 16) (ki := 11) dX9_remember_13 rfl tf_9_74 sh0 rfl rfl ?_
  replace h := qbd h; obtain ⟨y1, hy1, h⟩ := h
  refine ev_callg (pc' := 19) (st2 := []) dX9_remember_16 (qs_V tc_9_328 rfl rfl (cS_cls sh32) rfl) rfl rfl (eX2_remember (d := d + 0) gG11 gG13 hy1) rfl rfl ?_
  cases h
  exact ev_return dX9_remember_19 rfl
set_option maxRecDepth 100000 in
theorem eX9_addEdge {Ls t d n : Nat} {p0 : Int} {p1 : Int} {μ : qMu} {r : (Int ⊕ Nat) × qMu} (h : fX9_addEdge n p0 p1 μ = some r) : Ev (d + 3) mX9_addEdge 0 [some (.ref 0), some (iv p0), some (iv p1)] [] (cS Ls t μ) (qRi r.1) (cS Ls (qTt t r.1) r.2) := by
  unfold fX9_addEdge at h
  refine ev_aload_n (pc' := 1) dX9_addEdge_0 rfl rfl ?_
  refine ev_iload_n (pc' := 2) dX9_addEdge_1 rfl rfl ?_
  replace h := qbd h; obtain ⟨y1, hy1, h⟩ := h
  have hcy1 := eX9_checkVertex (d := d + 1) (Ls := Ls) (t := t) hy1
  rcases y1 with v3 | E4
  · refine ev_callg (pc' := 5) (st2 := []) (s1 := cS Ls t μ) dX9_addEdge_2 (qs_V tc_9_134 rfl rfl (cS_cls sh0) rfl) rfl rfl hcy1 rfl rfl ?_
    replace h := qel h
    refine ev_aload_n (pc' := 6) dX9_addEdge_5 rfl rfl ?_
    refine ev_iload_n (pc' := 7) dX9_addEdge_6 rfl rfl ?_
    replace h := qbd h; obtain ⟨y5, hy5, h⟩ := h
    have hcy5 := eX9_checkVertex (d := d + 1) (Ls := Ls) (t := t) hy5
    rcases y5 with v7 | E8
    · refine ev_callg (pc' := 10) (st2 := []) (s1 := cS Ls t μ) dX9_addEdge_7 (qs_V tc_9_134 rfl rfl (cS_cls sh0) rfl) rfl rfl hcy5 rfl rfl ?_
      replace h := qel h
      refine ev_aload_n (pc' := 11) dX9_addEdge_10 rfl rfl ?_
      refine ev_getr (pc' := 14) dX9_addEdge_11 rfl tf_9_19 sh0 rfl ?_
      replace h := qbd h; obtain ⟨y9, hy9, h⟩ := h
      refine ev_callg (pc' := 17) (st2 := [iv y9]) dX9_addEdge_14 (qs_V tc_9_118 rfl rfl (cS_cls sh11) rfl) rfl rfl (eX1_edgeCount (d := d + 2) gG11 hy9) rfl rfl ?_
      refine ev_bipush (pc' := 19) dX9_addEdge_17 rfl bl_16 ?_
      refine ev_icmplt (pc' := 22) (tgt := 33) dX9_addEdge_19 (by decide) rfl (x1 := wr y9) (y1 := 16) rfl wl_16  (fun c10 => ?_) (fun c10 => ?_)
      · replace h := qit c10 h
        refine ev_aload_n (pc' := 34) dX9_addEdge_33 rfl rfl ?_
        replace h := qbd h; obtain ⟨y11, hy11, h⟩ := h
        refine ev_callg (pc' := 37) (st2 := []) dX9_addEdge_34 (qs_V tc_9_273 rfl rfl (cS_cls sh0) rfl) rfl rfl (eX9_remember (d := d + 0) hy11) rfl rfl ?_
        refine ev_aload_n (pc' := 38) dX9_addEdge_37 rfl rfl ?_
        refine ev_getr (pc' := 41) dX9_addEdge_38 rfl tf_9_19 sh0 rfl ?_
        refine ev_iload_n (pc' := 42) dX9_addEdge_41 rfl rfl ?_
        refine ev_iload_n (pc' := 43) dX9_addEdge_42 rfl rfl ?_
        refine ev_iconst (pc' := 44) dX9_addEdge_43 rfl ?_
        replace h := qbd h; obtain ⟨y12, hy12, h⟩ := h
        refine ev_callg (pc' := 47) (st2 := []) dX9_addEdge_44 (qs_V tc_9_276 rfl rfl (cS_cls sh11) rfl) rfl rfl (eX1_put (d := d + 2) gG11 hy12) rfl rfl ?_
        refine ev_aload_n (pc' := 48) dX9_addEdge_47 rfl rfl ?_
        refine ev_getr (pc' := 51) dX9_addEdge_48 rfl tf_9_19 sh0 rfl ?_
        refine ev_iload_n (pc' := 52) dX9_addEdge_51 rfl rfl ?_
        refine ev_iload_n (pc' := 53) dX9_addEdge_52 rfl rfl ?_
        replace h := qbd h; obtain ⟨y13, hy13, h⟩ := h
        refine ev_callg (pc' := 56) (st2 := [iv y13]) dX9_addEdge_53 (qs_V tc_9_137 rfl rfl (cS_cls sh11) rfl) rfl rfl (eX1_between (d := d + 2) gG11 hy13) rfl rfl ?_
        cases h
        exact ev_ireturn dX9_addEdge_56 rfl rfl
      · replace h := qif' c10 h
        cases h
        exact ev_throww dX9_addEdge_22 tn_9_268 dX9_addEdge_25 dX9_addEdge_26 dX9_addEdge_29 dX9_addEdge_32 tx_9_268_270 rfl rfl
    · replace h := qer h
      cases h
      exact ev_callx dX9_addEdge_7 (qs_V tc_9_134 rfl rfl (cS_cls sh0) rfl) rfl hcy5 rfl rfl
  · replace h := qer h
    cases h
    exact ev_callx dX9_addEdge_2 (qs_V tc_9_134 rfl rfl (cS_cls sh0) rfl) rfl hcy1 rfl rfl
set_option maxRecDepth 100000 in
theorem eX9_removeEdge {Ls t d n : Nat} {p0 : Int} {p1 : Int} {μ : qMu} {r : (Int ⊕ Nat) × qMu} (h : fX9_removeEdge n p0 p1 μ = some r) : Ev (d + 3) mX9_removeEdge 0 [some (.ref 0), some (iv p0), some (iv p1)] [] (cS Ls t μ) (qRi r.1) (cS Ls (qTt t r.1) r.2) := by
  unfold fX9_removeEdge at h
  refine ev_aload_n (pc' := 1) dX9_removeEdge_0 rfl rfl ?_
  refine ev_iload_n (pc' := 2) dX9_removeEdge_1 rfl rfl ?_
  replace h := qbd h; obtain ⟨y1, hy1, h⟩ := h
  have hcy1 := eX9_checkVertex (d := d + 1) (Ls := Ls) (t := t) hy1
  rcases y1 with v3 | E4
  · refine ev_callg (pc' := 5) (st2 := []) (s1 := cS Ls t μ) dX9_removeEdge_2 (qs_V tc_9_134 rfl rfl (cS_cls sh0) rfl) rfl rfl hcy1 rfl rfl ?_
    replace h := qel h
    refine ev_aload_n (pc' := 6) dX9_removeEdge_5 rfl rfl ?_
    refine ev_iload_n (pc' := 7) dX9_removeEdge_6 rfl rfl ?_
    replace h := qbd h; obtain ⟨y5, hy5, h⟩ := h
    have hcy5 := eX9_checkVertex (d := d + 1) (Ls := Ls) (t := t) hy5
    rcases y5 with v7 | E8
    · refine ev_callg (pc' := 10) (st2 := []) (s1 := cS Ls t μ) dX9_removeEdge_7 (qs_V tc_9_134 rfl rfl (cS_cls sh0) rfl) rfl rfl hcy5 rfl rfl ?_
      replace h := qel h
      refine ev_aload_n (pc' := 11) dX9_removeEdge_10 rfl rfl ?_
      refine ev_iload_n (pc' := 12) dX9_removeEdge_11 rfl rfl ?_
      refine ev_iload_n (pc' := 13) dX9_removeEdge_12 rfl rfl ?_
      replace h := qbd h; obtain ⟨y9, hy9, h⟩ := h
      have hcy9 := eX9_checkEdge (d := d + 1) (Ls := Ls) (t := t) hy9
      rcases y9 with v11 | E12
      · refine ev_callg (pc' := 16) (st2 := []) (s1 := cS Ls t μ) dX9_removeEdge_13 (qs_V tc_9_170 rfl rfl (cS_cls sh0) rfl) rfl rfl hcy9 rfl rfl ?_
        replace h := qel h
        refine ev_aload_n (pc' := 17) dX9_removeEdge_16 rfl rfl ?_
        replace h := qbd h; obtain ⟨y13, hy13, h⟩ := h
        refine ev_callg (pc' := 20) (st2 := []) dX9_removeEdge_17 (qs_V tc_9_273 rfl rfl (cS_cls sh0) rfl) rfl rfl (eX9_remember (d := d + 0) hy13) rfl rfl ?_
        refine ev_aload_n (pc' := 21) dX9_removeEdge_20 rfl rfl ?_
        refine ev_getr (pc' := 24) dX9_removeEdge_21 rfl tf_9_19 sh0 rfl ?_
        refine ev_iload_n (pc' := 25) dX9_removeEdge_24 rfl rfl ?_
        refine ev_iload_n (pc' := 26) dX9_removeEdge_25 rfl rfl ?_
        refine ev_iconst (pc' := 27) dX9_removeEdge_26 rfl ?_
        replace h := qbd h; obtain ⟨y14, hy14, h⟩ := h
        refine ev_callg (pc' := 30) (st2 := []) dX9_removeEdge_27 (qs_V tc_9_276 rfl rfl (cS_cls sh11) rfl) rfl rfl (eX1_put (d := d + 2) gG11 hy14) rfl rfl ?_
        refine ev_aload_n (pc' := 31) dX9_removeEdge_30 rfl rfl ?_
        refine ev_getr (pc' := 34) dX9_removeEdge_31 rfl tf_9_19 sh0 rfl ?_
        refine ev_iload_n (pc' := 35) dX9_removeEdge_34 rfl rfl ?_
        refine ev_iload_n (pc' := 36) dX9_removeEdge_35 rfl rfl ?_
        replace h := qbd h; obtain ⟨y15, hy15, h⟩ := h
        refine ev_callg (pc' := 39) (st2 := [iv y15]) dX9_removeEdge_36 (qs_V tc_9_137 rfl rfl (cS_cls sh11) rfl) rfl rfl (eX1_between (d := d + 2) gG11 hy15) rfl rfl ?_
        cases h
        exact ev_ireturn dX9_removeEdge_39 rfl rfl
      · replace h := qer h
        cases h
        exact ev_callx dX9_removeEdge_13 (qs_V tc_9_170 rfl rfl (cS_cls sh0) rfl) rfl hcy9 rfl rfl
    · replace h := qer h
      cases h
      exact ev_callx dX9_removeEdge_7 (qs_V tc_9_134 rfl rfl (cS_cls sh0) rfl) rfl hcy5 rfl rfl
  · replace h := qer h
    cases h
    exact ev_callx dX9_removeEdge_2 (qs_V tc_9_134 rfl rfl (cS_cls sh0) rfl) rfl hcy1 rfl rfl
set_option maxRecDepth 100000 in
theorem eX9_switchEdges {Ls t d n : Nat} {p0 : Int} {p1 : Int} {p2 : Int} {p3 : Int} {μ : qMu} {r : (Int ⊕ Nat) × qMu} (h : fX9_switchEdges n p0 p1 p2 p3 μ = some r) : Ev (d + 3) mX9_switchEdges 0 [some (.ref 0), some (iv p0), some (iv p1), some (iv p2), some (iv p3)] [] (cS Ls t μ) (qRi r.1) (cS Ls (qTt t r.1) r.2) := by
  unfold fX9_switchEdges at h
  refine ev_aload_n (pc' := 1) dX9_switchEdges_0 rfl rfl ?_
  refine ev_iload_n (pc' := 2) dX9_switchEdges_1 rfl rfl ?_
  refine ev_iload_n (pc' := 3) dX9_switchEdges_2 rfl rfl ?_
  refine ev_iload_n (pc' := 4) dX9_switchEdges_3 rfl rfl ?_
  refine ev_iload (pc' := 6) dX9_switchEdges_4 rfl rfl ?_
  replace h := qbd h; obtain ⟨y1, hy1, h⟩ := h
  have hcy1 := eX9_checkVertices (d := d + 0) (Ls := Ls) (t := t) hy1
  rcases y1 with v3 | E4
  · refine ev_callg (pc' := 9) (st2 := []) (s1 := cS Ls t μ) dX9_switchEdges_6 (qs_V tc_9_202 rfl rfl (cS_cls sh0) rfl) rfl rfl hcy1 rfl rfl ?_
    replace h := qel h
    refine ev_aload_n (pc' := 10) dX9_switchEdges_9 rfl rfl ?_
    refine ev_iload_n (pc' := 11) dX9_switchEdges_10 rfl rfl ?_
    refine ev_iload_n (pc' := 12) dX9_switchEdges_11 rfl rfl ?_
    refine ev_iload_n (pc' := 13) dX9_switchEdges_12 rfl rfl ?_
    refine ev_iload (pc' := 15) dX9_switchEdges_13 rfl rfl ?_
    replace h := qbd h; obtain ⟨y5, hy5, h⟩ := h
    have hcy5 := eX9_checkPossible (d := d + 0) (Ls := Ls) (t := t) hy5
    rcases y5 with v7 | E8
    · refine ev_callg (pc' := 18) (st2 := []) (s1 := cS Ls t μ) dX9_switchEdges_15 (qs_V tc_9_230 rfl rfl (cS_cls sh0) rfl) rfl rfl hcy5 rfl rfl ?_
      replace h := qel h
      refine ev_aload_n (pc' := 19) dX9_switchEdges_18 rfl rfl ?_
      replace h := qbd h; obtain ⟨y9, hy9, h⟩ := h
      refine ev_callg (pc' := 22) (st2 := []) dX9_switchEdges_19 (qs_V tc_9_273 rfl rfl (cS_cls sh0) rfl) rfl rfl (eX9_remember (d := d + 0) hy9) rfl rfl ?_
      refine ev_aload_n (pc' := 23) dX9_switchEdges_22 rfl rfl ?_
      refine ev_getr (pc' := 26) dX9_switchEdges_23 rfl tf_9_19 sh0 rfl ?_
      refine ev_iload_n (pc' := 27) dX9_switchEdges_26 rfl rfl ?_
      refine ev_iload_n (pc' := 28) dX9_switchEdges_27 rfl rfl ?_
      refine ev_iload_n (pc' := 29) dX9_switchEdges_28 rfl rfl ?_
      refine ev_iload (pc' := 31) dX9_switchEdges_29 rfl rfl ?_
      replace h := qbd h; obtain ⟨y10, hy10, h⟩ := h
      refine ev_callg (pc' := 34) (st2 := [iv y10, .ref 11]) dX9_switchEdges_31 (qs_S tc_9_233 (by decide) rfl rfl) rfl rfl (eX0_of (d := d + 2) hy10) rfl rfl ?_
      replace h := qbd h; obtain ⟨y11, hy11, h⟩ := h
      refine ev_callg (pc' := 37) (st2 := []) dX9_switchEdges_34 (qs_V tc_9_237 rfl rfl (cS_cls sh11) rfl) rfl rfl (eX1_exchangeEdges (d := d + 1) gG11 hy11) rfl rfl ?_
      refine ev_aload_n (pc' := 38) dX9_switchEdges_37 rfl rfl ?_
      refine ev_getr (pc' := 41) dX9_switchEdges_38 rfl tf_9_19 sh0 rfl ?_
      replace h := qbd h; obtain ⟨y12, hy12, h⟩ := h
      refine ev_callg (pc' := 44) (st2 := [iv y12]) dX9_switchEdges_41 (qs_V tc_9_148 rfl rfl (cS_cls sh11) rfl) rfl rfl (eX1_defectCount (d := d + 0) gG11 hy12) rfl rfl ?_
      cases h
      exact ev_ireturn dX9_switchEdges_44 rfl rfl
    · replace h := qer h
      cases h
      exact ev_callx dX9_switchEdges_15 (qs_V tc_9_230 rfl rfl (cS_cls sh0) rfl) rfl hcy5 rfl rfl
  · replace h := qer h
    cases h
    exact ev_callx dX9_switchEdges_6 (qs_V tc_9_202 rfl rfl (cS_cls sh0) rfl) rfl hcy1 rfl rfl
set_option maxRecDepth 100000 in
theorem eX9_realise {Ls t d n : Nat} {p0 : Int} {μ : qMu} {r : (Int ⊕ Nat) × qMu} (h : fX9_realise n p0 μ = some r) : Ev (d + 4) mX9_realise 0 [some (.ref 0), some (iv p0)] [] (cS Ls t μ) (qRi r.1) (cS Ls (qTt t r.1) r.2) := by
  unfold fX9_realise at h
  refine ev_aload_n (pc' := 1) dX9_realise_0 rfl rfl ?_
  refine ev_iload_n (pc' := 2) dX9_realise_1 rfl rfl ?_
  replace h := qbd h; obtain ⟨y1, hy1, h⟩ := h
  have hcy1 := eX9_checkMode (d := d + 3) (Ls := Ls) (t := t) hy1
  rcases y1 with v3 | E4
  · refine ev_callg (pc' := 5) (st2 := []) (s1 := cS Ls t μ) dX9_realise_2 (qs_V tc_9_196 rfl rfl (cS_cls sh0) rfl) rfl rfl hcy1 rfl rfl ?_
    replace h := qel h
    refine ev_aload_n (pc' := 6) dX9_realise_5 rfl rfl ?_
    refine ev_getr (pc' := 9) dX9_realise_6 rfl tf_9_42 sh0 rfl ?_
    refine ev_aload_n (pc' := 10) dX9_realise_9 rfl rfl ?_
    refine ev_getr (pc' := 13) dX9_realise_10 rfl tf_9_19 sh0 rfl ?_
    replace h := qbd h; obtain ⟨y5, hy5, h⟩ := h
    refine ev_callg (pc' := 16) (st2 := []) dX9_realise_13 (qs_V tc_9_182 rfl rfl (cS_cls sh22) rfl) rfl rfl (eX6_take (d := d + 1) gS22 gG11 hy5) rfl rfl ?_
    refine ev_aload_n (pc' := 17) dX9_realise_16 rfl rfl ?_
    refine ev_getr (pc' := 20) dX9_realise_17 rfl tf_9_42 sh0 rfl ?_
    refine ev_iload_n (pc' := 21) dX9_realise_20 rfl rfl ?_
    replace h := qbd h; obtain ⟨y6, hy6, h⟩ := h
    refine ev_callg (pc' := 24) (st2 := [iv y6]) dX9_realise_21 (qs_V tc_9_199 rfl rfl (cS_cls sh22) rfl) rfl rfl (eX6_allows (d := d + 1) gS22 hy6) rfl rfl ?_
    refine ev_ifne (pc' := 27) (tgt := 38) dX9_realise_24 (by decide) rfl (x1 := wr y6) rfl (fun c7 => ?_) (fun c7 => ?_)
    · replace h := qit c7 h
      cases h
      exact ev_throww dX9_realise_27 tn_9_268 dX9_realise_30 dX9_realise_31 dX9_realise_34 dX9_realise_37 tx_9_268_280 rfl rfl
    · replace h := qif' c7 h
      refine ev_aload_n (pc' := 39) dX9_realise_38 rfl rfl ?_
      replace h := qbd h; obtain ⟨y8, hy8, h⟩ := h
      refine ev_callg (pc' := 42) (st2 := []) dX9_realise_39 (qs_V tc_9_273 rfl rfl (cS_cls sh0) rfl) rfl rfl (eX9_remember (d := d + 1) hy8) rfl rfl ?_
      refine ev_aload_n (pc' := 43) dX9_realise_42 rfl rfl ?_
      refine ev_getr (pc' := 46) dX9_realise_43 rfl tf_9_42 sh0 rfl ?_
      refine ev_aload_n (pc' := 47) dX9_realise_46 rfl rfl ?_
      refine ev_getr (pc' := 50) dX9_realise_47 rfl tf_9_19 sh0 rfl ?_
      refine ev_iload_n (pc' := 51) dX9_realise_50 rfl rfl ?_
      replace h := qbd h; obtain ⟨y9, hy9, h⟩ := h
      refine ev_callg (pc' := 54) (st2 := []) dX9_realise_51 (qs_V tc_9_282 rfl rfl (cS_cls sh22) rfl) rfl rfl (eX6_build (d := d + 0) gS22 gG11 hy9) rfl rfl ?_
      refine ev_aload_n (pc' := 55) dX9_realise_54 rfl rfl ?_
      refine ev_getr (pc' := 58) dX9_realise_55 rfl tf_9_19 sh0 rfl ?_
      replace h := qbd h; obtain ⟨y10, hy10, h⟩ := h
      refine ev_callg (pc' := 61) (st2 := [iv y10]) dX9_realise_58 (qs_V tc_9_148 rfl rfl (cS_cls sh11) rfl) rfl rfl (eX1_defectCount (d := d + 1) gG11 hy10) rfl rfl ?_
      cases h
      exact ev_ireturn dX9_realise_61 rfl rfl
  · replace h := qer h
    cases h
    exact ev_callx dX9_realise_2 (qs_V tc_9_196 rfl rfl (cS_cls sh0) rfl) rfl hcy1 rfl rfl
set_option maxRecDepth 100000 in
theorem ebX9_follow_46 {Ls t d n : Nat} {w1 : Int} : ∀ (k : Nat) (x : Int × qMu) (y : qMu), lp (fun x : Int × qMu => bX9_follow_46 n w1 x.1 x.2) k x = some y → ∀ (o : qO) (s' : qSt), Ev (d + 5) mX9_follow 83 [some (.ref 0), none, none] [] (cS Ls t y) o s' → Ev (d + 5) mX9_follow 46 [some (.ref 0), some (iv w1), some (iv x.1)] [] (cS Ls t x.2) o s' := by
  intro k
  induction k with
  | zero => intro x y h; cases h
  | succ k ih =>
    intro x y h o s' kE
    rw [lp_s] at h
    replace h := qbd h; obtain ⟨zz, h0, h1⟩ := h
    have h : bX9_follow_46 n w1 x.1 x.2 = some zz := h0
    clear h0
    unfold bX9_follow_46 at h
    refine ev_iload_n (pc' := 47) dX9_follow_46 rfl rfl ?_
    refine ev_iload_n (pc' := 48) dX9_follow_47 rfl rfl ?_
    refine ev_icmpge (pc' := 51) (tgt := 83) dX9_follow_48 (by decide) rfl (x1 := wr x.1) (y1 := wr w1) rfl rfl  (fun c9 => ?_) (fun c9 => ?_)
    · replace h := qit c9 h
      refine ev_iload_n (pc' := 52) dX9_follow_51 rfl rfl ?_
      refine ev_aload_n (pc' := 53) dX9_follow_52 rfl rfl ?_
      refine ev_getr (pc' := 56) dX9_follow_53 rfl tf_9_56 sh0 rfl ?_
      replace h := qbd h; obtain ⟨y10, hy10, h⟩ := h
      refine ev_callg (pc' := 59) (st2 := [iv y10, iv x.1]) dX9_follow_56 (qs_V tc_9_261 rfl rfl (cS_cls sh28) rfl) rfl rfl (eX8_length (d := d + 4) hy10) rfl rfl ?_
      refine ev_icmpge (pc' := 62) (tgt := 83) dX9_follow_59 (by decide) rfl (x1 := wr x.1) (y1 := wr y10) rfl rfl  (fun c11 => ?_) (fun c11 => ?_)
      · replace h := qit c11 h
        refine ev_aload_n (pc' := 63) dX9_follow_62 rfl rfl ?_
        refine ev_getr (pc' := 66) dX9_follow_63 rfl tf_9_19 sh0 rfl ?_
        refine ev_aload_n (pc' := 67) dX9_follow_66 rfl rfl ?_
        refine ev_getr (pc' := 70) dX9_follow_67 rfl tf_9_56 sh0 rfl ?_
        refine ev_iload_n (pc' := 71) dX9_follow_70 rfl rfl ?_
        replace h := qbd h; obtain ⟨y12, hy12, h⟩ := h
        refine ev_callg (pc' := 74) (st2 := [iv y12, .ref 11]) dX9_follow_71 (qs_V tc_9_264 rfl rfl (cS_cls sh28) rfl) rfl rfl (eX8_codeAt (d := d + 4) hy12) rfl rfl ?_
        replace h := qbd h; obtain ⟨y13, hy13, h⟩ := h
        refine ev_callg (pc' := 77) (st2 := []) dX9_follow_74 (qs_V tc_9_237 rfl rfl (cS_cls sh11) rfl) rfl rfl (eX1_exchangeEdges (d := d + 3) gG11 hy13) rfl rfl ?_
        refine ev_iinc (pc' := 80) (x := x.1) (L1 := [some (.ref 0), some (iv w1), some (iv (x.1 + 1))]) dX9_follow_77 rfl rfl rfl ?_
        refine ev_goto (pc' := 46) dX9_follow_80 (by decide) ?_
        cases h
        exact ev_wk (qLe_eq (qLe_eq (qLe_eq qLe_nil))) (ih _ _ h1 _ _ kE)
      · replace h := qif' c11 h
        cases h
        cases h1
        exact ev_wk (qLe_eq (qLe_sk (qLe_sk qLe_nil))) kE
    · replace h := qif' c9 h
      cases h
      cases h1
      exact ev_wk (qLe_eq (qLe_sk (qLe_sk qLe_nil))) kE
set_option maxRecDepth 100000 in
theorem eX9_follow {Ls t d n : Nat} {p0 : Int} {μ : qMu} {r : (Int ⊕ Nat) × qMu} (h : fX9_follow n p0 μ = some r) : Ev (d + 5) mX9_follow 0 [some (.ref 0), some (iv p0), none] [] (cS Ls t μ) (qRi r.1) (cS Ls (qTt t r.1) r.2) := by
  unfold fX9_follow at h
  refine ev_iload_n (pc' := 1) dX9_follow_0 rfl rfl ?_
  refine ev_iflt (pc' := 4) (tgt := 10) dX9_follow_1 (by decide) rfl (x1 := wr p0) rfl (fun c1 => ?_) (fun c1 => ?_)
  · replace h := qit c1 h
    cases h
    exact ev_throww dX9_follow_10 tn_9_90 dX9_follow_13 dX9_follow_14 dX9_follow_17 dX9_follow_20 tx_9_90_285 rfl rfl
  · replace h := qif' c1 h
    refine ev_iload_n (pc' := 5) dX9_follow_4 rfl rfl ?_
    refine ev_bipush (pc' := 7) dX9_follow_5 rfl bl_16 ?_
    refine ev_icmple (pc' := 10) (tgt := 21) dX9_follow_7 (by decide) rfl (x1 := wr p0) (y1 := 16) rfl wl_16  (fun c2 => ?_) (fun c2 => ?_)
    · replace h := qit c2 h
      cases h
      exact ev_throww dX9_follow_10 tn_9_90 dX9_follow_13 dX9_follow_14 dX9_follow_17 dX9_follow_20 tx_9_90_285 rfl rfl
    · replace h := qif' c2 h
      refine ev_aload_n (pc' := 22) dX9_follow_21 rfl rfl ?_
      replace h := qbd h; obtain ⟨y3, hy3, h⟩ := h
      have hcy3 := eX9_checkAlike (d := d + 1) (Ls := Ls) (t := t) hy3
      rcases y3 with v5 | E6
      · refine ev_callg (pc' := 25) (st2 := []) (s1 := cS Ls t μ) dX9_follow_22 (qs_V tc_9_255 rfl rfl (cS_cls sh0) rfl) rfl rfl hcy3 rfl rfl ?_
        replace h := qel h
        refine ev_aload_n (pc' := 26) dX9_follow_25 rfl rfl ?_
        replace h := qbd h; obtain ⟨y7, hy7, h⟩ := h
        refine ev_callg (pc' := 29) (st2 := []) dX9_follow_26 (qs_V tc_9_273 rfl rfl (cS_cls sh0) rfl) rfl rfl (eX9_remember (d := d + 2) hy7) rfl rfl ?_
        refine ev_aload_n (pc' := 30) dX9_follow_29 rfl rfl ?_
        refine ev_getr (pc' := 33) dX9_follow_30 rfl tf_9_56 sh0 rfl ?_
        refine ev_aload_n (pc' := 34) dX9_follow_33 rfl rfl ?_
        refine ev_getr (pc' := 37) dX9_follow_34 rfl tf_9_19 sh0 rfl ?_
        refine ev_aload_n (pc' := 38) dX9_follow_37 rfl rfl ?_
        refine ev_getr (pc' := 41) dX9_follow_38 rfl tf_9_23 sh0 rfl ?_
        replace h := qbd h; obtain ⟨y8, hy8, h⟩ := h
        refine ev_callg (pc' := 44) (st2 := []) dX9_follow_41 (qs_V tc_9_258 rfl rfl (cS_cls sh28) rfl) rfl rfl (eX8_find (d := d + 0) gG11 gG13 hy8) rfl rfl ?_
        refine ev_iconst (pc' := 45) dX9_follow_44 rfl ?_
        refine ev_istore_n (pc' := 46) (L1 := [some (.ref 0), some (iv p0), some (iv 0)]) dX9_follow_45 rfl rfl ?_
        replace h := qbd h; obtain ⟨y14, hy14, h⟩ := h
        refine ev_wk (qLe_eq (qLe_eq (qLe_eq qLe_nil))) (?_ : Ev _ _ _ [some (.ref 0), some (iv p0), some (iv 0)] _ _ _ _)
        refine ebX9_follow_46 _ _ _ hy14 _ _ ?_
        refine ev_aload_n (pc' := 84) dX9_follow_83 rfl rfl ?_
        refine ev_getr (pc' := 87) dX9_follow_84 rfl tf_9_19 sh0 rfl ?_
        refine ev_aload_n (pc' := 88) dX9_follow_87 rfl rfl ?_
        refine ev_getr (pc' := 91) dX9_follow_88 rfl tf_9_23 sh0 rfl ?_
        replace h := qbd h; obtain ⟨y15, hy15, h⟩ := h
        refine ev_callg (pc' := 94) (st2 := [iv y15]) dX9_follow_91 (qs_V tc_9_245 rfl rfl (cS_cls sh11) rfl) rfl rfl (eX1_surplusOver (d := d + 3) gG11 gG13 hy15) rfl rfl ?_
        cases h
        exact ev_ireturn dX9_follow_94 rfl rfl
      · replace h := qer h
        cases h
        exact ev_callx dX9_follow_22 (qs_V tc_9_255 rfl rfl (cS_cls sh0) rfl) rfl hcy3 rfl rfl
set_option maxRecDepth 100000 in
theorem ebX9_firstConnecting_37 {Ls t d n : Nat} {w1 : Int} : ∀ (k : Nat) (x : Int × qMu) (y : (qMu) ⊕ (Int × qMu)), lp (fun x : Int × qMu => bX9_firstConnecting_37 n w1 x.1 x.2) k x = some y → ∀ (o : qO) (s' : qSt), (∀ b : qMu, y = .inl b → Ev (d + 4) mX9_firstConnecting 110 [none, none, none, none] [] (cS Ls t b) o s') → (∀ r : Int × qMu, y = .inr r → o = (.inl (some (iv r.1))) ∧ s' = (cS Ls t r.2)) → Ev (d + 4) mX9_firstConnecting 37 [some (.ref 0), some (iv w1), some (iv x.1), none] [] (cS Ls t x.2) o s' := by
  intro k
  induction k with
  | zero => intro x y h; cases h
  | succ k ih =>
    intro x y h o s' kE kR
    rw [lp_s] at h
    replace h := qbd h; obtain ⟨zz, h0, h1⟩ := h
    have h : bX9_firstConnecting_37 n w1 x.1 x.2 = some zz := h0
    clear h0
    unfold bX9_firstConnecting_37 at h
    refine ev_iload_n (pc' := 38) dX9_firstConnecting_37 rfl rfl ?_
    refine ev_aload_n (pc' := 39) dX9_firstConnecting_38 rfl rfl ?_
    refine ev_getr (pc' := 42) dX9_firstConnecting_39 rfl tf_9_49 sh0 rfl ?_
    replace h := qbd h; obtain ⟨y4, hy4, h⟩ := h
    refine ev_callg (pc' := 45) (st2 := [iv y4, iv x.1]) dX9_firstConnecting_42 (qs_V tc_9_214 rfl rfl (cS_cls sh26) rfl) rfl rfl (eX7_length (d := d + 3) hy4) rfl rfl ?_
    refine ev_icmpge (pc' := 48) (tgt := 110) dX9_firstConnecting_45 (by decide) rfl (x1 := wr x.1) (y1 := wr y4) rfl rfl  (fun c5 => ?_) (fun c5 => ?_)
    · replace h := qit c5 h
      refine ev_aload_n (pc' := 49) dX9_firstConnecting_48 rfl rfl ?_
      refine ev_getr (pc' := 52) dX9_firstConnecting_49 rfl tf_9_26 sh0 rfl ?_
      refine ev_aload_n (pc' := 53) dX9_firstConnecting_52 rfl rfl ?_
      refine ev_getr (pc' := 56) dX9_firstConnecting_53 rfl tf_9_49 sh0 rfl ?_
      refine ev_iload_n (pc' := 57) dX9_firstConnecting_56 rfl rfl ?_
      replace h := qbd h; obtain ⟨y6, hy6, h⟩ := h
      refine ev_callg (pc' := 60) (st2 := [iv y6, .ref 15]) dX9_firstConnecting_57 (qs_V tc_9_222 rfl rfl (cS_cls sh26) rfl) rfl rfl (eX7_codeAt (d := d + 3) hy6) rfl rfl ?_
      replace h := qbd h; obtain ⟨y7, hy7, h⟩ := h
      refine ev_callg (pc' := 63) (st2 := []) dX9_firstConnecting_60 (qs_V tc_9_237 rfl rfl (cS_cls sh15) rfl) rfl rfl (eX1_exchangeEdges (d := d + 2) gG15 hy7) rfl rfl ?_
      refine ev_aload_n (pc' := 64) dX9_firstConnecting_63 rfl rfl ?_
      refine ev_aload_n (pc' := 65) dX9_firstConnecting_64 rfl rfl ?_
      refine ev_getr (pc' := 68) dX9_firstConnecting_65 rfl tf_9_26 sh0 rfl ?_
      replace h := qbd h; obtain ⟨y8, hy8, h⟩ := h
      refine ev_callg (pc' := 71) (st2 := [iv y8.1]) dX9_firstConnecting_68 (qs_V tc_9_166 rfl rfl (cS_cls sh0) rfl) rfl rfl (eX9_partsWithEdges (d := d + 0) gG15 hy8) rfl rfl ?_
      refine ev_istore_n (pc' := 72) (L1 := [some (.ref 0), some (iv w1), some (iv x.1), some (iv y8.1)]) dX9_firstConnecting_71 rfl rfl ?_
      refine ev_aload_n (pc' := 73) dX9_firstConnecting_72 rfl rfl ?_
      refine ev_getr (pc' := 76) dX9_firstConnecting_73 rfl tf_9_26 sh0 rfl ?_
      refine ev_aload_n (pc' := 77) dX9_firstConnecting_76 rfl rfl ?_
      refine ev_getr (pc' := 80) dX9_firstConnecting_77 rfl tf_9_49 sh0 rfl ?_
      refine ev_iload_n (pc' := 81) dX9_firstConnecting_80 rfl rfl ?_
      replace h := qbd h; obtain ⟨y9, hy9, h⟩ := h
      refine ev_callg (pc' := 84) (st2 := [iv y9, .ref 15]) dX9_firstConnecting_81 (qs_V tc_9_222 rfl rfl (cS_cls sh26) rfl) rfl rfl (eX7_codeAt (d := d + 3) hy9) rfl rfl ?_
      replace h := qbd h; obtain ⟨y10, hy10, h⟩ := h
      refine ev_callg (pc' := 87) (st2 := [iv y10, .ref 15]) dX9_firstConnecting_84 (qs_S tc_9_248 (by decide) rfl rfl) rfl rfl (eX0_backOf (d := d + 2) hy10) rfl rfl ?_
      replace h := qbd h; obtain ⟨y11, hy11, h⟩ := h
      refine ev_callg (pc' := 90) (st2 := []) dX9_firstConnecting_87 (qs_V tc_9_237 rfl rfl (cS_cls sh15) rfl) rfl rfl (eX1_exchangeEdges (d := d + 2) gG15 hy11) rfl rfl ?_
      refine ev_iload_n (pc' := 91) dX9_firstConnecting_90 rfl rfl ?_
      refine ev_iload_n (pc' := 92) dX9_firstConnecting_91 rfl rfl ?_
      refine ev_icmpge (pc' := 95) (tgt := 104) dX9_firstConnecting_92 (by decide) rfl (x1 := wr y8.1) (y1 := wr w1) rfl rfl  (fun c12 => ?_) (fun c12 => ?_)
      · replace h := qit c12 h
        refine ev_aload_n (pc' := 96) dX9_firstConnecting_95 rfl rfl ?_
        refine ev_getr (pc' := 99) dX9_firstConnecting_96 rfl tf_9_49 sh0 rfl ?_
        refine ev_iload_n (pc' := 100) dX9_firstConnecting_99 rfl rfl ?_
        replace h := qbd h; obtain ⟨y13, hy13, h⟩ := h
        refine ev_callg (pc' := 103) (st2 := [iv y13]) dX9_firstConnecting_100 (qs_V tc_9_222 rfl rfl (cS_cls sh26) rfl) rfl rfl (eX7_codeAt (d := d + 3) hy13) rfl rfl ?_
        cases h
        cases h1
        obtain ⟨rfl, rfl⟩ := kR _ rfl
        exact ev_ireturn dX9_firstConnecting_103 rfl rfl
      · replace h := qif' c12 h
        refine ev_iinc (pc' := 107) (x := x.1) (L1 := [some (.ref 0), some (iv w1), some (iv (x.1 + 1)), some (iv y8.1)]) dX9_firstConnecting_104 rfl rfl rfl ?_
        refine ev_goto (pc' := 37) dX9_firstConnecting_107 (by decide) ?_
        cases h
        exact ev_wk (qLe_eq (qLe_eq (qLe_eq (qLe_sk qLe_nil)))) (ih _ _ h1 _ _ kE kR)
    · replace h := qif' c5 h
      cases h
      cases h1
      exact ev_wk (qLe_sk (qLe_sk (qLe_sk (qLe_eq qLe_nil)))) (kE _ rfl)
set_option maxRecDepth 100000 in
theorem eX9_firstConnecting {Ls t d n : Nat} {μ : qMu} {r : Int × qMu} (h : fX9_firstConnecting n μ = some r) : Ev (d + 4) mX9_firstConnecting 0 [some (.ref 0), none, none, none] [] (cS Ls t μ) (.inl (some (iv r.1))) (cS Ls t r.2) := by
  unfold fX9_firstConnecting at h
  refine ev_aload_n (pc' := 1) dX9_firstConnecting_0 rfl rfl ?_
  refine ev_aload_n (pc' := 2) dX9_firstConnecting_1 rfl rfl ?_
  refine ev_getr (pc' := 5) dX9_firstConnecting_2 rfl tf_9_19 sh0 rfl ?_
  replace h := qbd h; obtain ⟨y1, hy1, h⟩ := h
  refine ev_callg (pc' := 8) (st2 := [iv y1.1]) dX9_firstConnecting_5 (qs_V tc_9_166 rfl rfl (cS_cls sh0) rfl) rfl rfl (eX9_partsWithEdges (d := d + 0) gG11 hy1) rfl rfl ?_
  refine ev_istore_n (pc' := 9) (L1 := [some (.ref 0), some (iv y1.1), none, none]) dX9_firstConnecting_8 rfl rfl ?_
  refine ev_aload_n (pc' := 10) dX9_firstConnecting_9 rfl rfl ?_
  refine ev_getr (pc' := 13) dX9_firstConnecting_10 rfl tf_9_49 sh0 rfl ?_
  refine ev_aload_n (pc' := 14) dX9_firstConnecting_13 rfl rfl ?_
  refine ev_getr (pc' := 17) dX9_firstConnecting_14 rfl tf_9_19 sh0 rfl ?_
  refine ev_aload_n (pc' := 18) dX9_firstConnecting_17 rfl rfl ?_
  refine ev_geti (pc' := 21) (ki := 11) dX9_firstConnecting_18 rfl tf_9_74 sh0 rfl rfl ?_
  replace h := qbd h; obtain ⟨y2, hy2, h⟩ := h
  refine ev_callg (pc' := 24) (st2 := []) dX9_firstConnecting_21 (qs_V tc_9_210 rfl rfl (cS_cls sh26) rfl) rfl rfl (eX7_fill (d := d + 0) gG11 hy2) rfl rfl ?_
  refine ev_aload_n (pc' := 25) dX9_firstConnecting_24 rfl rfl ?_
  refine ev_getr (pc' := 28) dX9_firstConnecting_25 rfl tf_9_26 sh0 rfl ?_
  refine ev_aload_n (pc' := 29) dX9_firstConnecting_28 rfl rfl ?_
  refine ev_getr (pc' := 32) dX9_firstConnecting_29 rfl tf_9_19 sh0 rfl ?_
  replace h := qbd h; obtain ⟨y3, hy3, h⟩ := h
  refine ev_callg (pc' := 35) (st2 := []) dX9_firstConnecting_32 (qs_V tc_9_105 rfl rfl (cS_cls sh15) rfl) rfl rfl (eX1_become (d := d + 3) gG15 gG11 hy3) rfl rfl ?_
  refine ev_iconst (pc' := 36) dX9_firstConnecting_35 rfl ?_
  refine ev_istore_n (pc' := 37) (L1 := [some (.ref 0), some (iv y1.1), some (iv 0), none]) dX9_firstConnecting_36 rfl rfl ?_
  replace h := qbd h; obtain ⟨y14, hy14, h⟩ := h
  refine ev_wk (qLe_eq (qLe_eq (qLe_eq (qLe_eq qLe_nil)))) (?_ : Ev _ _ _ [some (.ref 0), some (iv y1.1), some (iv 0), none] _ _ _ _)
  refine ebX9_firstConnecting_37 _ _ _ hy14 _ _ ?_ ?_
  · intro b15 eb15
    subst eb15
    replace h := qel h
    refine ev_iconst (pc' := 111) dX9_firstConnecting_110 rfl ?_
    cases h
    exact ev_ireturn dX9_firstConnecting_111 rfl rfl
  · intro r16 er16
    subst er16
    replace h := qer h
    cases h
    exact ⟨rfl, rfl⟩
set_option maxRecDepth 100000 in
theorem ebX9_connect_6 {Ls t d n : Nat} : ∀ (k : Nat) (x : Int × qMu) (y : qMu), lp (fun x : Int × qMu => bX9_connect_6 n x.1 x.2) k x = some y → ∀ (o : qO) (s' : qSt), Ev (d + 5) mX9_connect 39 [some (.ref 0), none, none] [] (cS Ls t y) o s' → Ev (d + 5) mX9_connect 6 [some (.ref 0), some (iv x.1), none] [] (cS Ls t x.2) o s' := by
  intro k
  induction k with
  | zero => intro x y h; cases h
  | succ k ih =>
    intro x y h o s' kE
    rw [lp_s] at h
    replace h := qbd h; obtain ⟨zz, h0, h1⟩ := h
    have h : bX9_connect_6 n x.1 x.2 = some zz := h0
    clear h0
    unfold bX9_connect_6 at h
    refine ev_iload_n (pc' := 7) dX9_connect_6 rfl rfl ?_
    refine ev_bipush (pc' := 9) dX9_connect_7 rfl bl_8 ?_
    refine ev_icmpge (pc' := 12) (tgt := 39) dX9_connect_9 (by decide) rfl (x1 := wr x.1) (y1 := 8) rfl wl_8  (fun c2 => ?_) (fun c2 => ?_)
    · replace h := qit c2 h
      refine ev_aload_n (pc' := 13) dX9_connect_12 rfl rfl ?_
      replace h := qbd h; obtain ⟨y3, hy3, h⟩ := h
      refine ev_callg (pc' := 16) (st2 := [iv y3.1]) dX9_connect_13 (qs_V tc_9_287 rfl rfl (cS_cls sh0) rfl) rfl rfl (eX9_firstConnecting (d := d + 0) hy3) rfl rfl ?_
      refine ev_istore_n (pc' := 17) (L1 := [some (.ref 0), some (iv x.1), some (iv y3.1)]) dX9_connect_16 rfl rfl ?_
      refine ev_iload_n (pc' := 18) dX9_connect_17 rfl rfl ?_
      refine ev_iconst (pc' := 19) dX9_connect_18 rfl ?_
      refine ev_icmpne (pc' := 22) (tgt := 25) dX9_connect_19 (by decide) rfl (x1 := wr y3.1) (y1 := (-1)) rfl wl_m1  (fun c4 => ?_) (fun c4 => ?_)
      · replace h := qit c4 h
        refine ev_goto (pc' := 39) dX9_connect_22 (by decide) ?_
        cases h
        cases h1
        exact ev_wk (qLe_eq (qLe_sk (qLe_sk qLe_nil))) kE
      · replace h := qif' c4 h
        refine ev_aload_n (pc' := 26) dX9_connect_25 rfl rfl ?_
        refine ev_getr (pc' := 29) dX9_connect_26 rfl tf_9_19 sh0 rfl ?_
        refine ev_iload_n (pc' := 30) dX9_connect_29 rfl rfl ?_
        replace h := qbd h; obtain ⟨y5, hy5, h⟩ := h
        refine ev_callg (pc' := 33) (st2 := []) dX9_connect_30 (qs_V tc_9_237 rfl rfl (cS_cls sh11) rfl) rfl rfl (eX1_exchangeEdges (d := d + 3) gG11 hy5) rfl rfl ?_
        refine ev_iinc (pc' := 36) (x := x.1) (L1 := [some (.ref 0), some (iv (x.1 + 1)), some (iv y3.1)]) dX9_connect_33 rfl rfl rfl ?_
        refine ev_goto (pc' := 6) dX9_connect_36 (by decide) ?_
        cases h
        exact ev_wk (qLe_eq (qLe_eq (qLe_sk qLe_nil))) (ih _ _ h1 _ _ kE)
    · replace h := qif' c2 h
      cases h
      cases h1
      exact ev_wk (qLe_eq (qLe_sk (qLe_eq qLe_nil))) kE
set_option maxRecDepth 100000 in
theorem eX9_connect {Ls t d n : Nat} {μ : qMu} {r : Int × qMu} (h : fX9_connect n μ = some r) : Ev (d + 5) mX9_connect 0 [some (.ref 0), none, none] [] (cS Ls t μ) (.inl (some (iv r.1))) (cS Ls t r.2) := by
  unfold fX9_connect at h
  refine ev_aload_n (pc' := 1) dX9_connect_0 rfl rfl ?_
  replace h := qbd h; obtain ⟨y1, hy1, h⟩ := h
  refine ev_callg (pc' := 4) (st2 := []) dX9_connect_1 (qs_V tc_9_273 rfl rfl (cS_cls sh0) rfl) rfl rfl (eX9_remember (d := d + 2) hy1) rfl rfl ?_
  refine ev_iconst (pc' := 5) dX9_connect_4 rfl ?_
  refine ev_istore_n (pc' := 6) (L1 := [some (.ref 0), some (iv 0), none]) dX9_connect_5 rfl rfl ?_
  replace h := qbd h; obtain ⟨y6, hy6, h⟩ := h
  refine ev_wk (qLe_eq (qLe_eq (qLe_eq qLe_nil))) (?_ : Ev _ _ _ [some (.ref 0), some (iv 0), none] _ _ _ _)
  refine ebX9_connect_6 _ _ _ hy6 _ _ ?_
  refine ev_aload_n (pc' := 40) dX9_connect_39 rfl rfl ?_
  refine ev_aload_n (pc' := 41) dX9_connect_40 rfl rfl ?_
  refine ev_getr (pc' := 44) dX9_connect_41 rfl tf_9_19 sh0 rfl ?_
  replace h := qbd h; obtain ⟨y7, hy7, h⟩ := h
  refine ev_callg (pc' := 47) (st2 := [iv y7.1]) dX9_connect_44 (qs_V tc_9_166 rfl rfl (cS_cls sh0) rfl) rfl rfl (eX9_partsWithEdges (d := d + 1) gG11 hy7) rfl rfl ?_
  cases h
  exact ev_ireturn dX9_connect_47 rfl rfl
set_option maxRecDepth 100000 in
theorem ebX9_mostSimplifying_35 {Ls t d n : Nat} : ∀ (k : Nat) (x : Int × Int × Int × qMu) (y : Int × qMu), lp (fun x : Int × Int × Int × qMu => bX9_mostSimplifying_35 n x.1 x.2.1 x.2.2.1 x.2.2.2) k x = some y → ∀ (o : qO) (s' : qSt), Ev (d + 4) mX9_mostSimplifying 112 [none, some (iv y.1), none, none, none] [] (cS Ls t y.2) o s' → Ev (d + 4) mX9_mostSimplifying 35 [some (.ref 0), some (iv x.1), some (iv x.2.1), some (iv x.2.2.1), none] [] (cS Ls t x.2.2.2) o s' := by
  intro k
  induction k with
  | zero => intro x y h; cases h
  | succ k ih =>
    intro x y h o s' kE
    rw [lp_s] at h
    replace h := qbd h; obtain ⟨zz, h0, h1⟩ := h
    have h : bX9_mostSimplifying_35 n x.1 x.2.1 x.2.2.1 x.2.2.2 = some zz := h0
    clear h0
    unfold bX9_mostSimplifying_35 at h
    refine ev_iload_n (pc' := 36) dX9_mostSimplifying_35 rfl rfl ?_
    refine ev_aload_n (pc' := 37) dX9_mostSimplifying_36 rfl rfl ?_
    refine ev_getr (pc' := 40) dX9_mostSimplifying_37 rfl tf_9_49 sh0 rfl ?_
    replace h := qbd h; obtain ⟨y4, hy4, h⟩ := h
    refine ev_callg (pc' := 43) (st2 := [iv y4, iv x.2.2.1]) dX9_mostSimplifying_40 (qs_V tc_9_214 rfl rfl (cS_cls sh26) rfl) rfl rfl (eX7_length (d := d + 3) hy4) rfl rfl ?_
    refine ev_icmpge (pc' := 46) (tgt := 112) dX9_mostSimplifying_43 (by decide) rfl (x1 := wr x.2.2.1) (y1 := wr y4) rfl rfl  (fun c5 => ?_) (fun c5 => ?_)
    · replace h := qit c5 h
      refine ev_aload_n (pc' := 47) dX9_mostSimplifying_46 rfl rfl ?_
      refine ev_getr (pc' := 50) dX9_mostSimplifying_47 rfl tf_9_26 sh0 rfl ?_
      refine ev_aload_n (pc' := 51) dX9_mostSimplifying_50 rfl rfl ?_
      refine ev_getr (pc' := 54) dX9_mostSimplifying_51 rfl tf_9_49 sh0 rfl ?_
      refine ev_iload_n (pc' := 55) dX9_mostSimplifying_54 rfl rfl ?_
      replace h := qbd h; obtain ⟨y6, hy6, h⟩ := h
      refine ev_callg (pc' := 58) (st2 := [iv y6, .ref 15]) dX9_mostSimplifying_55 (qs_V tc_9_222 rfl rfl (cS_cls sh26) rfl) rfl rfl (eX7_codeAt (d := d + 3) hy6) rfl rfl ?_
      replace h := qbd h; obtain ⟨y7, hy7, h⟩ := h
      refine ev_callg (pc' := 61) (st2 := []) dX9_mostSimplifying_58 (qs_V tc_9_237 rfl rfl (cS_cls sh15) rfl) rfl rfl (eX1_exchangeEdges (d := d + 2) gG15 hy7) rfl rfl ?_
      refine ev_aload_n (pc' := 62) dX9_mostSimplifying_61 rfl rfl ?_
      refine ev_getr (pc' := 65) dX9_mostSimplifying_62 rfl tf_9_26 sh0 rfl ?_
      replace h := qbd h; obtain ⟨y8, hy8, h⟩ := h
      refine ev_callg (pc' := 68) (st2 := [iv y8]) dX9_mostSimplifying_65 (qs_V tc_9_148 rfl rfl (cS_cls sh15) rfl) rfl rfl (eX1_defectCount (d := d + 1) gG15 hy8) rfl rfl ?_
      refine ev_istore (pc' := 70) (L1 := [some (.ref 0), some (iv x.1), some (iv x.2.1), some (iv x.2.2.1), some (iv y8)]) dX9_mostSimplifying_68 rfl rfl ?_
      refine ev_aload_n (pc' := 71) dX9_mostSimplifying_70 rfl rfl ?_
      refine ev_getr (pc' := 74) dX9_mostSimplifying_71 rfl tf_9_26 sh0 rfl ?_
      refine ev_aload_n (pc' := 75) dX9_mostSimplifying_74 rfl rfl ?_
      refine ev_getr (pc' := 78) dX9_mostSimplifying_75 rfl tf_9_49 sh0 rfl ?_
      refine ev_iload_n (pc' := 79) dX9_mostSimplifying_78 rfl rfl ?_
      replace h := qbd h; obtain ⟨y9, hy9, h⟩ := h
      refine ev_callg (pc' := 82) (st2 := [iv y9, .ref 15]) dX9_mostSimplifying_79 (qs_V tc_9_222 rfl rfl (cS_cls sh26) rfl) rfl rfl (eX7_codeAt (d := d + 3) hy9) rfl rfl ?_
      replace h := qbd h; obtain ⟨y10, hy10, h⟩ := h
      refine ev_callg (pc' := 85) (st2 := [iv y10, .ref 15]) dX9_mostSimplifying_82 (qs_S tc_9_248 (by decide) rfl rfl) rfl rfl (eX0_backOf (d := d + 2) hy10) rfl rfl ?_
      replace h := qbd h; obtain ⟨y11, hy11, h⟩ := h
      refine ev_callg (pc' := 88) (st2 := []) dX9_mostSimplifying_85 (qs_V tc_9_237 rfl rfl (cS_cls sh15) rfl) rfl rfl (eX1_exchangeEdges (d := d + 2) gG15 hy11) rfl rfl ?_
      refine ev_iload (pc' := 90) dX9_mostSimplifying_88 rfl rfl ?_
      refine ev_iload_n (pc' := 91) dX9_mostSimplifying_90 rfl rfl ?_
      replace h := qbd h; obtain ⟨y13, hy13, h⟩ := h
      have kJ : Ev (d + 4) mX9_mostSimplifying 106 [some (.ref 0), some (iv y13.1), some (iv y13.2), some (iv x.2.2.1), none] [] (cS Ls t y11) o s' := by
        refine ev_iinc (pc' := 109) (x := x.2.2.1) (L1 := [some (.ref 0), some (iv y13.1), some (iv y13.2), some (iv (x.2.2.1 + 1)), none]) dX9_mostSimplifying_106 rfl rfl rfl ?_
        refine ev_goto (pc' := 35) dX9_mostSimplifying_109 (by decide) ?_
        cases h
        exact ev_wk (qLe_eq (qLe_eq (qLe_eq (qLe_eq (qLe_eq qLe_nil))))) (ih _ _ h1 _ _ kE)
      replace h := hy13
      clear hy13
      refine ev_icmpge (pc' := 94) (tgt := 106) dX9_mostSimplifying_91 (by decide) rfl (x1 := wr y8) (y1 := wr x.2.1) rfl rfl  (fun c12 => ?_) (fun c12 => ?_)
      · replace h := qit c12 h
        refine ev_iload (pc' := 96) dX9_mostSimplifying_94 rfl rfl ?_
        refine ev_istore_n (pc' := 97) (L1 := [some (.ref 0), some (iv x.1), some (iv y8), some (iv x.2.2.1), some (iv y8)]) dX9_mostSimplifying_96 rfl rfl ?_
        refine ev_aload_n (pc' := 98) dX9_mostSimplifying_97 rfl rfl ?_
        refine ev_getr (pc' := 101) dX9_mostSimplifying_98 rfl tf_9_49 sh0 rfl ?_
        refine ev_iload_n (pc' := 102) dX9_mostSimplifying_101 rfl rfl ?_
        replace h := qbd h; obtain ⟨y14, hy14, h⟩ := h
        refine ev_callg (pc' := 105) (st2 := [iv y14]) dX9_mostSimplifying_102 (qs_V tc_9_222 rfl rfl (cS_cls sh26) rfl) rfl rfl (eX7_codeAt (d := d + 3) hy14) rfl rfl ?_
        refine ev_istore_n (pc' := 106) (L1 := [some (.ref 0), some (iv y14), some (iv y8), some (iv x.2.2.1), some (iv y8)]) dX9_mostSimplifying_105 rfl rfl ?_
        cases h
        exact ev_wk (qLe_eq (qLe_eq (qLe_eq (qLe_eq (qLe_sk qLe_nil))))) kJ
      · replace h := qif' c12 h
        cases h
        exact ev_wk (qLe_eq (qLe_eq (qLe_eq (qLe_eq (qLe_sk qLe_nil))))) kJ
    · replace h := qif' c5 h
      cases h
      cases h1
      exact ev_wk (qLe_sk (qLe_eq (qLe_sk (qLe_sk (qLe_eq qLe_nil))))) kE
set_option maxRecDepth 100000 in
theorem eX9_mostSimplifying {Ls t d n : Nat} {μ : qMu} {r : Int × qMu} (h : fX9_mostSimplifying n μ = some r) : Ev (d + 4) mX9_mostSimplifying 0 [some (.ref 0), none, none, none, none] [] (cS Ls t μ) (.inl (some (iv r.1))) (cS Ls t r.2) := by
  unfold fX9_mostSimplifying at h
  refine ev_iconst (pc' := 1) dX9_mostSimplifying_0 rfl ?_
  refine ev_istore_n (pc' := 2) (L1 := [some (.ref 0), some (iv (-1)), none, none, none]) dX9_mostSimplifying_1 rfl rfl ?_
  refine ev_aload_n (pc' := 3) dX9_mostSimplifying_2 rfl rfl ?_
  refine ev_getr (pc' := 6) dX9_mostSimplifying_3 rfl tf_9_19 sh0 rfl ?_
  replace h := qbd h; obtain ⟨y1, hy1, h⟩ := h
  refine ev_callg (pc' := 9) (st2 := [iv y1]) dX9_mostSimplifying_6 (qs_V tc_9_148 rfl rfl (cS_cls sh11) rfl) rfl rfl (eX1_defectCount (d := d + 1) gG11 hy1) rfl rfl ?_
  refine ev_istore_n (pc' := 10) (L1 := [some (.ref 0), some (iv (-1)), some (iv y1), none, none]) dX9_mostSimplifying_9 rfl rfl ?_
  refine ev_aload_n (pc' := 11) dX9_mostSimplifying_10 rfl rfl ?_
  refine ev_getr (pc' := 14) dX9_mostSimplifying_11 rfl tf_9_49 sh0 rfl ?_
  refine ev_aload_n (pc' := 15) dX9_mostSimplifying_14 rfl rfl ?_
  refine ev_getr (pc' := 18) dX9_mostSimplifying_15 rfl tf_9_19 sh0 rfl ?_
  refine ev_iconst (pc' := 19) dX9_mostSimplifying_18 rfl ?_
  replace h := qbd h; obtain ⟨y2, hy2, h⟩ := h
  refine ev_callg (pc' := 22) (st2 := []) dX9_mostSimplifying_19 (qs_V tc_9_210 rfl rfl (cS_cls sh26) rfl) rfl rfl (eX7_fill (d := d + 0) gG11 hy2) rfl rfl ?_
  refine ev_aload_n (pc' := 23) dX9_mostSimplifying_22 rfl rfl ?_
  refine ev_getr (pc' := 26) dX9_mostSimplifying_23 rfl tf_9_26 sh0 rfl ?_
  refine ev_aload_n (pc' := 27) dX9_mostSimplifying_26 rfl rfl ?_
  refine ev_getr (pc' := 30) dX9_mostSimplifying_27 rfl tf_9_19 sh0 rfl ?_
  replace h := qbd h; obtain ⟨y3, hy3, h⟩ := h
  refine ev_callg (pc' := 33) (st2 := []) dX9_mostSimplifying_30 (qs_V tc_9_105 rfl rfl (cS_cls sh15) rfl) rfl rfl (eX1_become (d := d + 3) gG15 gG11 hy3) rfl rfl ?_
  refine ev_iconst (pc' := 34) dX9_mostSimplifying_33 rfl ?_
  refine ev_istore_n (pc' := 35) (L1 := [some (.ref 0), some (iv (-1)), some (iv y1), some (iv 0), none]) dX9_mostSimplifying_34 rfl rfl ?_
  replace h := qbd h; obtain ⟨y15, hy15, h⟩ := h
  refine ev_wk (qLe_eq (qLe_eq (qLe_eq (qLe_eq (qLe_eq qLe_nil))))) (?_ : Ev _ _ _ [some (.ref 0), some (iv (-1)), some (iv y1), some (iv 0), none] _ _ _ _)
  refine ebX9_mostSimplifying_35 _ _ _ hy15 _ _ ?_
  refine ev_iload_n (pc' := 113) dX9_mostSimplifying_112 rfl rfl ?_
  cases h
  exact ev_ireturn dX9_mostSimplifying_113 rfl rfl
set_option maxRecDepth 100000 in
theorem ebX9_simplify_6 {Ls t d n : Nat} : ∀ (k : Nat) (x : Int × qMu) (y : qMu), lp (fun x : Int × qMu => bX9_simplify_6 n x.1 x.2) k x = some y → ∀ (o : qO) (s' : qSt), Ev (d + 5) mX9_simplify 39 [some (.ref 0), none, none] [] (cS Ls t y) o s' → Ev (d + 5) mX9_simplify 6 [some (.ref 0), some (iv x.1), none] [] (cS Ls t x.2) o s' := by
  intro k
  induction k with
  | zero => intro x y h; cases h
  | succ k ih =>
    intro x y h o s' kE
    rw [lp_s] at h
    replace h := qbd h; obtain ⟨zz, h0, h1⟩ := h
    have h : bX9_simplify_6 n x.1 x.2 = some zz := h0
    clear h0
    unfold bX9_simplify_6 at h
    refine ev_iload_n (pc' := 7) dX9_simplify_6 rfl rfl ?_
    refine ev_bipush (pc' := 9) dX9_simplify_7 rfl bl_16 ?_
    refine ev_icmpge (pc' := 12) (tgt := 39) dX9_simplify_9 (by decide) rfl (x1 := wr x.1) (y1 := 16) rfl wl_16  (fun c2 => ?_) (fun c2 => ?_)
    · replace h := qit c2 h
      refine ev_aload_n (pc' := 13) dX9_simplify_12 rfl rfl ?_
      replace h := qbd h; obtain ⟨y3, hy3, h⟩ := h
      refine ev_callg (pc' := 16) (st2 := [iv y3.1]) dX9_simplify_13 (qs_V tc_9_290 rfl rfl (cS_cls sh0) rfl) rfl rfl (eX9_mostSimplifying (d := d + 0) hy3) rfl rfl ?_
      refine ev_istore_n (pc' := 17) (L1 := [some (.ref 0), some (iv x.1), some (iv y3.1)]) dX9_simplify_16 rfl rfl ?_
      refine ev_iload_n (pc' := 18) dX9_simplify_17 rfl rfl ?_
      refine ev_iconst (pc' := 19) dX9_simplify_18 rfl ?_
      refine ev_icmpne (pc' := 22) (tgt := 25) dX9_simplify_19 (by decide) rfl (x1 := wr y3.1) (y1 := (-1)) rfl wl_m1  (fun c4 => ?_) (fun c4 => ?_)
      · replace h := qit c4 h
        refine ev_goto (pc' := 39) dX9_simplify_22 (by decide) ?_
        cases h
        cases h1
        exact ev_wk (qLe_eq (qLe_sk (qLe_sk qLe_nil))) kE
      · replace h := qif' c4 h
        refine ev_aload_n (pc' := 26) dX9_simplify_25 rfl rfl ?_
        refine ev_getr (pc' := 29) dX9_simplify_26 rfl tf_9_19 sh0 rfl ?_
        refine ev_iload_n (pc' := 30) dX9_simplify_29 rfl rfl ?_
        replace h := qbd h; obtain ⟨y5, hy5, h⟩ := h
        refine ev_callg (pc' := 33) (st2 := []) dX9_simplify_30 (qs_V tc_9_237 rfl rfl (cS_cls sh11) rfl) rfl rfl (eX1_exchangeEdges (d := d + 3) gG11 hy5) rfl rfl ?_
        refine ev_iinc (pc' := 36) (x := x.1) (L1 := [some (.ref 0), some (iv (x.1 + 1)), some (iv y3.1)]) dX9_simplify_33 rfl rfl rfl ?_
        refine ev_goto (pc' := 6) dX9_simplify_36 (by decide) ?_
        cases h
        exact ev_wk (qLe_eq (qLe_eq (qLe_sk qLe_nil))) (ih _ _ h1 _ _ kE)
    · replace h := qif' c2 h
      cases h
      cases h1
      exact ev_wk (qLe_eq (qLe_sk (qLe_eq qLe_nil))) kE
set_option maxRecDepth 100000 in
theorem eX9_simplify {Ls t d n : Nat} {μ : qMu} {r : Int × qMu} (h : fX9_simplify n μ = some r) : Ev (d + 5) mX9_simplify 0 [some (.ref 0), none, none] [] (cS Ls t μ) (.inl (some (iv r.1))) (cS Ls t r.2) := by
  unfold fX9_simplify at h
  refine ev_aload_n (pc' := 1) dX9_simplify_0 rfl rfl ?_
  replace h := qbd h; obtain ⟨y1, hy1, h⟩ := h
  refine ev_callg (pc' := 4) (st2 := []) dX9_simplify_1 (qs_V tc_9_273 rfl rfl (cS_cls sh0) rfl) rfl rfl (eX9_remember (d := d + 2) hy1) rfl rfl ?_
  refine ev_iconst (pc' := 5) dX9_simplify_4 rfl ?_
  refine ev_istore_n (pc' := 6) (L1 := [some (.ref 0), some (iv 0), none]) dX9_simplify_5 rfl rfl ?_
  replace h := qbd h; obtain ⟨y6, hy6, h⟩ := h
  refine ev_wk (qLe_eq (qLe_eq (qLe_eq qLe_nil))) (?_ : Ev _ _ _ [some (.ref 0), some (iv 0), none] _ _ _ _)
  refine ebX9_simplify_6 _ _ _ hy6 _ _ ?_
  refine ev_aload_n (pc' := 40) dX9_simplify_39 rfl rfl ?_
  refine ev_getr (pc' := 43) dX9_simplify_40 rfl tf_9_19 sh0 rfl ?_
  replace h := qbd h; obtain ⟨y7, hy7, h⟩ := h
  refine ev_callg (pc' := 46) (st2 := [iv y7]) dX9_simplify_43 (qs_V tc_9_148 rfl rfl (cS_cls sh11) rfl) rfl rfl (eX1_defectCount (d := d + 2) gG11 hy7) rfl rfl ?_
  cases h
  exact ev_ireturn dX9_simplify_46 rfl rfl
set_option maxRecDepth 100000 in
theorem eX9_exchange {Ls t d n : Nat} {μ : qMu} {r : Int × qMu} (h : fX9_exchange n μ = some r) : Ev (d + 3) mX9_exchange 0 [some (.ref 0)] [] (cS Ls t μ) (.inl (some (iv r.1))) (cS Ls t r.2) := by
  unfold fX9_exchange at h
  refine ev_aload_n (pc' := 1) dX9_exchange_0 rfl rfl ?_
  replace h := qbd h; obtain ⟨y1, hy1, h⟩ := h
  refine ev_callg (pc' := 4) (st2 := []) dX9_exchange_1 (qs_V tc_9_273 rfl rfl (cS_cls sh0) rfl) rfl rfl (eX9_remember (d := d + 0) hy1) rfl rfl ?_
  refine ev_aload_n (pc' := 5) dX9_exchange_4 rfl rfl ?_
  refine ev_getr (pc' := 8) dX9_exchange_5 rfl tf_9_29 sh0 rfl ?_
  refine ev_aload_n (pc' := 9) dX9_exchange_8 rfl rfl ?_
  refine ev_getr (pc' := 12) dX9_exchange_9 rfl tf_9_19 sh0 rfl ?_
  replace h := qbd h; obtain ⟨y2, hy2, h⟩ := h
  refine ev_callg (pc' := 15) (st2 := []) dX9_exchange_12 (qs_V tc_9_105 rfl rfl (cS_cls sh17) rfl) rfl rfl (eX1_become (d := d + 2) gG17 gG11 hy2) rfl rfl ?_
  refine ev_aload_n (pc' := 16) dX9_exchange_15 rfl rfl ?_
  refine ev_getr (pc' := 19) dX9_exchange_16 rfl tf_9_19 sh0 rfl ?_
  refine ev_aload_n (pc' := 20) dX9_exchange_19 rfl rfl ?_
  refine ev_getr (pc' := 23) dX9_exchange_20 rfl tf_9_23 sh0 rfl ?_
  replace h := qbd h; obtain ⟨y3, hy3, h⟩ := h
  refine ev_callg (pc' := 26) (st2 := []) dX9_exchange_23 (qs_V tc_9_105 rfl rfl (cS_cls sh11) rfl) rfl rfl (eX1_become (d := d + 2) gG11 gG13 hy3) rfl rfl ?_
  refine ev_aload_n (pc' := 27) dX9_exchange_26 rfl rfl ?_
  refine ev_getr (pc' := 30) dX9_exchange_27 rfl tf_9_23 sh0 rfl ?_
  refine ev_aload_n (pc' := 31) dX9_exchange_30 rfl rfl ?_
  refine ev_getr (pc' := 34) dX9_exchange_31 rfl tf_9_29 sh0 rfl ?_
  replace h := qbd h; obtain ⟨y4, hy4, h⟩ := h
  refine ev_callg (pc' := 37) (st2 := []) dX9_exchange_34 (qs_V tc_9_105 rfl rfl (cS_cls sh13) rfl) rfl rfl (eX1_become (d := d + 2) gG13 gG17 hy4) rfl rfl ?_
  refine ev_aload_n (pc' := 38) dX9_exchange_37 rfl rfl ?_
  refine ev_getr (pc' := 41) dX9_exchange_38 rfl tf_9_19 sh0 rfl ?_
  refine ev_aload_n (pc' := 42) dX9_exchange_41 rfl rfl ?_
  refine ev_getr (pc' := 45) dX9_exchange_42 rfl tf_9_23 sh0 rfl ?_
  replace h := qbd h; obtain ⟨y5, hy5, h⟩ := h
  refine ev_callg (pc' := 48) (st2 := [iv y5]) dX9_exchange_45 (qs_V tc_9_245 rfl rfl (cS_cls sh11) rfl) rfl rfl (eX1_surplusOver (d := d + 1) gG11 gG13 hy5) rfl rfl ?_
  cases h
  exact ev_ireturn dX9_exchange_48 rfl rfl
set_option maxRecDepth 100000 in
theorem eX9_copyToTarget {Ls t d n : Nat} {μ : qMu} {r : Int × qMu} (h : fX9_copyToTarget n μ = some r) : Ev (d + 3) mX9_copyToTarget 0 [some (.ref 0), none] [] (cS Ls t μ) (.inl (some (iv r.1))) (cS Ls t r.2) := by
  unfold fX9_copyToTarget at h
  refine ev_aload_n (pc' := 1) dX9_copyToTarget_0 rfl rfl ?_
  refine ev_getr (pc' := 4) dX9_copyToTarget_1 rfl tf_9_19 sh0 rfl ?_
  refine ev_aload_n (pc' := 5) dX9_copyToTarget_4 rfl rfl ?_
  refine ev_getr (pc' := 8) dX9_copyToTarget_5 rfl tf_9_23 sh0 rfl ?_
  replace h := qbd h; obtain ⟨y1, hy1, h⟩ := h
  refine ev_callg (pc' := 11) (st2 := [iv y1]) dX9_copyToTarget_8 (qs_V tc_9_245 rfl rfl (cS_cls sh11) rfl) rfl rfl (eX1_surplusOver (d := d + 1) gG11 gG13 hy1) rfl rfl ?_
  refine ev_istore_n (pc' := 12) (L1 := [some (.ref 0), some (iv y1)]) dX9_copyToTarget_11 rfl rfl ?_
  refine ev_aload_n (pc' := 13) dX9_copyToTarget_12 rfl rfl ?_
  replace h := qbd h; obtain ⟨y2, hy2, h⟩ := h
  refine ev_callg (pc' := 16) (st2 := []) dX9_copyToTarget_13 (qs_V tc_9_273 rfl rfl (cS_cls sh0) rfl) rfl rfl (eX9_remember (d := d + 0) hy2) rfl rfl ?_
  refine ev_aload_n (pc' := 17) dX9_copyToTarget_16 rfl rfl ?_
  refine ev_getr (pc' := 20) dX9_copyToTarget_17 rfl tf_9_23 sh0 rfl ?_
  refine ev_aload_n (pc' := 21) dX9_copyToTarget_20 rfl rfl ?_
  refine ev_getr (pc' := 24) dX9_copyToTarget_21 rfl tf_9_19 sh0 rfl ?_
  replace h := qbd h; obtain ⟨y3, hy3, h⟩ := h
  refine ev_callg (pc' := 27) (st2 := []) dX9_copyToTarget_24 (qs_V tc_9_105 rfl rfl (cS_cls sh13) rfl) rfl rfl (eX1_become (d := d + 2) gG13 gG11 hy3) rfl rfl ?_
  refine ev_iload_n (pc' := 28) dX9_copyToTarget_27 rfl rfl ?_
  cases h
  exact ev_ireturn dX9_copyToTarget_28 rfl rfl
set_option maxRecDepth 100000 in
theorem eX9_setMode {Ls t d n : Nat} {p0 : Int} {μ : qMu} {r : (Int ⊕ Nat) × qMu} (h : fX9_setMode n p0 μ = some r) : Ev (d + 3) mX9_setMode 0 [some (.ref 0), some (iv p0), none] [] (cS Ls t μ) (qRi r.1) (cS Ls (qTt t r.1) r.2) := by
  unfold fX9_setMode at h
  refine ev_aload_n (pc' := 1) dX9_setMode_0 rfl rfl ?_
  refine ev_iload_n (pc' := 2) dX9_setMode_1 rfl rfl ?_
  replace h := qbd h; obtain ⟨y1, hy1, h⟩ := h
  have hcy1 := eX9_checkMode (d := d + 2) (Ls := Ls) (t := t) hy1
  rcases y1 with v3 | E4
  · refine ev_callg (pc' := 5) (st2 := []) (s1 := cS Ls t μ) dX9_setMode_2 (qs_V tc_9_196 rfl rfl (cS_cls sh0) rfl) rfl rfl hcy1 rfl rfl ?_
    replace h := qel h
    refine ev_aload_n (pc' := 6) dX9_setMode_5 rfl rfl ?_
    replace h := qbd h; obtain ⟨y5, hy5, h⟩ := h
    refine ev_callg (pc' := 9) (st2 := []) dX9_setMode_6 (qs_V tc_9_273 rfl rfl (cS_cls sh0) rfl) rfl rfl (eX9_remember (d := d + 0) hy5) rfl rfl ?_
    refine ev_aload_n (pc' := 10) dX9_setMode_9 rfl rfl ?_
    refine ev_geti (pc' := 13) (ki := 11) dX9_setMode_10 rfl tf_9_74 sh0 rfl rfl ?_
    refine ev_istore_n (pc' := 14) (L1 := [some (.ref 0), some (iv p0), some (iv (rd y5 0 11))]) dX9_setMode_13 rfl rfl ?_
    refine ev_aload_n (pc' := 15) dX9_setMode_14 rfl rfl ?_
    refine ev_iload_n (pc' := 16) dX9_setMode_15 rfl rfl ?_
    replace h := qbd h; obtain ⟨μ6, hμ6, h⟩ := h
    refine ev_puti (pc' := 19) dX9_setMode_16 rfl tf_9_74 sh0 rfl rfl (qw_8_11 _) rfl hμ6 ?_
    refine ev_iload_n (pc' := 20) dX9_setMode_19 rfl rfl ?_
    cases h
    exact ev_ireturn dX9_setMode_20 rfl rfl
  · replace h := qer h
    cases h
    exact ev_callx dX9_setMode_2 (qs_V tc_9_196 rfl rfl (cS_cls sh0) rfl) rfl hcy1 rfl rfl
set_option maxRecDepth 100000 in
theorem eX2_length {Ls t d : Nat} {μ : qMu} {r : Int} (h : fX2_length μ = some r) : Ev (d + 0) mX2_length 0 [some (.ref 32)] [] (cS Ls t μ) (.inl (some (iv r))) (cS Ls t μ) := by
  unfold fX2_length at h
  refine ev_aload_n (pc' := 1) dX2_length_0 rfl rfl ?_
  refine ev_geti (pc' := 4) (ki := 3) dX2_length_1 rfl tf_2_22 sh32 rfl rfl ?_
  cases h
  exact ev_ireturn dX2_length_4 rfl rfl
set_option maxRecDepth 100000 in
theorem eX2_stepBack {Ls t d : Nat} {μ : qMu} {r : qMu} (h : fX2_stepBack μ = some r) : Ev (d + 0) mX2_stepBack 0 [some (.ref 32)] [] (cS Ls t μ) (.inl none) (cS Ls t r) := by
  unfold fX2_stepBack at h
  refine ev_aload_n (pc' := 1) dX2_stepBack_0 rfl rfl ?_
  refine ev_aload_n (pc' := 2) dX2_stepBack_1 rfl rfl ?_
  refine ev_geti (pc' := 5) (ki := 4) dX2_stepBack_2 rfl tf_2_26 sh32 rfl rfl ?_
  have k2 : ∀ j3 : Int, j3 = (if 0 < wr (rd μ 32 4) then ((rd μ 32 4) - 1) else 9) → Ev (d + 0) mX2_stepBack 19 [some (.ref 32)] [iv j3, .ref 32] (cS Ls t μ) (.inl none) (cS Ls t r) := by
    intro j3 ej3
    subst ej3
    replace h := qbd h; obtain ⟨μ4, hμ4, h⟩ := h
    refine ev_puti (pc' := 22) dX2_stepBack_19 rfl tf_2_26 sh32 rfl rfl (qw_1_4 _) rfl hμ4 ?_
    refine ev_aload_n (pc' := 23) dX2_stepBack_22 rfl rfl ?_
    refine ev_aload_n (pc' := 24) dX2_stepBack_23 rfl rfl ?_
    refine ev_geti (pc' := 27) (ki := 3) dX2_stepBack_24 rfl tf_2_22 sh32 rfl rfl ?_
    refine ev_iconst (pc' := 28) dX2_stepBack_27 rfl ?_
    refine ev_isub (pc' := 29) dX2_stepBack_28 rfl ?_
    refine ev_iconst (pc' := 30) dX2_stepBack_29 rfl ?_
    refine ev_max (pc' := 33) dX2_stepBack_30 rfl tc_2_40 rfl ?_
    replace h := qbd h; obtain ⟨μ5, hμ5, h⟩ := h
    refine ev_puti (pc' := 36) dX2_stepBack_33 rfl tf_2_22 sh32 rfl rfl (qw_1_3 _) rfl hμ5 ?_
    cases h
    exact ev_return dX2_stepBack_36 rfl
  refine ev_ifle (pc' := 8) (tgt := 17) dX2_stepBack_5 (by decide) rfl (x1 := wr (rd μ 32 4)) rfl (fun c1 => ?_) (fun c1 => ?_)
  · skip
    refine ev_aload_n (pc' := 9) dX2_stepBack_8 rfl rfl ?_
    refine ev_geti (pc' := 12) (ki := 4) dX2_stepBack_9 rfl tf_2_26 sh32 rfl rfl ?_
    refine ev_iconst (pc' := 13) dX2_stepBack_12 rfl ?_
    refine ev_isub (pc' := 14) dX2_stepBack_13 rfl ?_
    refine ev_goto (pc' := 19) dX2_stepBack_14 (by decide) ?_
    exact ev_wk (qLe_eq qLe_nil) (k2 _ (qet c1 rfl))
  · skip
    refine ev_bipush (pc' := 19) dX2_stepBack_17 rfl bl_9 ?_
    exact ev_wk (qLe_eq qLe_nil) (k2 _ (qef c1 rfl))
set_option maxRecDepth 100000 in
theorem eX2_lastGraph {Ls t d : Nat} {μ : qMu} {r : Nat} (h : fX2_lastGraph μ = some r) : Ev (d + 0) mX2_lastGraph 0 [some (.ref 32)] [] (cS Ls t μ) (.inl (some (.ref r))) (cS Ls t μ) := by
  unfold fX2_lastGraph at h
  refine ev_aload_n (pc' := 1) dX2_lastGraph_0 rfl rfl ?_
  refine ev_getr (pc' := 4) dX2_lastGraph_1 rfl tf_2_11 sh32 rfl ?_
  refine ev_aload_n (pc' := 5) dX2_lastGraph_4 rfl rfl ?_
  refine ev_geti (pc' := 8) (ki := 4) dX2_lastGraph_5 rfl tf_2_26 sh32 rfl rfl ?_
  replace h := qbd h; obtain ⟨x1, hx1, h⟩ := h
  refine ev_aald (ty := 5) (pc' := 9) dX2_lastGraph_8 rfl sh33 hx1 ?_
  cases h
  exact ev_areturn dX2_lastGraph_9 rfl
theorem gP_X2_lastGraph {μ : qMu} {y : Nat} (h : fX2_lastGraph μ = some y) : gG y := by
  unfold fX2_lastGraph at h
  obtain ⟨b, hb, h⟩ := qbd h
  cases h
  exact gP33 hb
set_option maxRecDepth 100000 in
theorem eX2_lastTarget {Ls t d : Nat} {μ : qMu} {r : Nat} (h : fX2_lastTarget μ = some r) : Ev (d + 0) mX2_lastTarget 0 [some (.ref 32)] [] (cS Ls t μ) (.inl (some (.ref r))) (cS Ls t μ) := by
  unfold fX2_lastTarget at h
  refine ev_aload_n (pc' := 1) dX2_lastTarget_0 rfl rfl ?_
  refine ev_getr (pc' := 4) dX2_lastTarget_1 rfl tf_2_15 sh32 rfl ?_
  refine ev_aload_n (pc' := 5) dX2_lastTarget_4 rfl rfl ?_
  refine ev_geti (pc' := 8) (ki := 4) dX2_lastTarget_5 rfl tf_2_26 sh32 rfl rfl ?_
  replace h := qbd h; obtain ⟨x1, hx1, h⟩ := h
  refine ev_aald (ty := 5) (pc' := 9) dX2_lastTarget_8 rfl sh34 hx1 ?_
  cases h
  exact ev_areturn dX2_lastTarget_9 rfl
theorem gP_X2_lastTarget {μ : qMu} {y : Nat} (h : fX2_lastTarget μ = some y) : gG y := by
  unfold fX2_lastTarget at h
  obtain ⟨b, hb, h⟩ := qbd h
  cases h
  exact gP34 hb
set_option maxRecDepth 100000 in
theorem eX2_lastMode {Ls t d : Nat} {μ : qMu} {r : Int} (h : fX2_lastMode μ = some r) : Ev (d + 0) mX2_lastMode 0 [some (.ref 32)] [] (cS Ls t μ) (.inl (some (iv r))) (cS Ls t μ) := by
  unfold fX2_lastMode at h
  refine ev_aload_n (pc' := 1) dX2_lastMode_0 rfl rfl ?_
  refine ev_getr (pc' := 4) dX2_lastMode_1 rfl tf_2_18 sh32 rfl ?_
  refine ev_aload_n (pc' := 5) dX2_lastMode_4 rfl rfl ?_
  refine ev_geti (pc' := 8) (ki := 4) dX2_lastMode_5 rfl tf_2_26 sh32 rfl rfl ?_
  replace h := qbd h; obtain ⟨x1, hx1, h⟩ := h
  refine ev_iald (pc' := 9) dX2_lastMode_8 rfl sh35 hx1 ?_
  cases h
  exact ev_ireturn dX2_lastMode_9 rfl rfl
set_option maxRecDepth 100000 in
theorem eX9_undo {Ls t d n : Nat} {μ : qMu} {r : Int × qMu} (h : fX9_undo n μ = some r) : Ev (d + 1) mX9_undo 0 [some (.ref 0)] [] (cS Ls t μ) (.inl (some (iv r.1))) (cS Ls t r.2) := by
  unfold fX9_undo at h
  refine ev_aload_n (pc' := 1) dX9_undo_0 rfl rfl ?_
  refine ev_getr (pc' := 4) dX9_undo_1 rfl tf_9_63 sh0 rfl ?_
  replace h := qbd h; obtain ⟨y1, hy1, h⟩ := h
  refine ev_callg (pc' := 7) (st2 := [iv y1]) dX9_undo_4 (qs_V tc_9_293 rfl rfl (cS_cls sh32) rfl) rfl rfl (eX2_length (d := d + 0) hy1) rfl rfl ?_
  refine ev_ifne (pc' := 10) (tgt := 12) dX9_undo_7 (by decide) rfl (x1 := wr y1) rfl (fun c2 => ?_) (fun c2 => ?_)
  · replace h := qit c2 h
    refine ev_iconst (pc' := 11) dX9_undo_10 rfl ?_
    cases h
    exact ev_ireturn dX9_undo_11 rfl rfl
  · replace h := qif' c2 h
    refine ev_aload_n (pc' := 13) dX9_undo_12 rfl rfl ?_
    refine ev_getr (pc' := 16) dX9_undo_13 rfl tf_9_63 sh0 rfl ?_
    replace h := qbd h; obtain ⟨y3, hy3, h⟩ := h
    refine ev_callg (pc' := 19) (st2 := []) dX9_undo_16 (qs_V tc_9_294 rfl rfl (cS_cls sh32) rfl) rfl rfl (eX2_stepBack (d := d + 0) hy3) rfl rfl ?_
    refine ev_aload_n (pc' := 20) dX9_undo_19 rfl rfl ?_
    refine ev_getr (pc' := 23) dX9_undo_20 rfl tf_9_19 sh0 rfl ?_
    refine ev_aload_n (pc' := 24) dX9_undo_23 rfl rfl ?_
    refine ev_getr (pc' := 27) dX9_undo_24 rfl tf_9_63 sh0 rfl ?_
    replace h := qbd h; obtain ⟨y4, hy4, h⟩ := h
    refine ev_callg (pc' := 30) (st2 := [.ref y4, .ref 11]) dX9_undo_27 (qs_V tc_9_297 rfl rfl (cS_cls sh32) rfl) rfl rfl (eX2_lastGraph (d := d + 0) hy4) rfl rfl ?_
    replace h := qbd h; obtain ⟨y5, hy5, h⟩ := h
    refine ev_callg (pc' := 33) (st2 := []) dX9_undo_30 (qs_V tc_9_105 rfl rfl (cS_cls sh11) rfl) rfl rfl (eX1_become (d := d + 0) gG11 (gP_X2_lastGraph hy4) hy5) rfl rfl ?_
    refine ev_aload_n (pc' := 34) dX9_undo_33 rfl rfl ?_
    refine ev_getr (pc' := 37) dX9_undo_34 rfl tf_9_23 sh0 rfl ?_
    refine ev_aload_n (pc' := 38) dX9_undo_37 rfl rfl ?_
    refine ev_getr (pc' := 41) dX9_undo_38 rfl tf_9_63 sh0 rfl ?_
    replace h := qbd h; obtain ⟨y6, hy6, h⟩ := h
    refine ev_callg (pc' := 44) (st2 := [.ref y6, .ref 13]) dX9_undo_41 (qs_V tc_9_300 rfl rfl (cS_cls sh32) rfl) rfl rfl (eX2_lastTarget (d := d + 0) hy6) rfl rfl ?_
    replace h := qbd h; obtain ⟨y7, hy7, h⟩ := h
    refine ev_callg (pc' := 47) (st2 := []) dX9_undo_44 (qs_V tc_9_105 rfl rfl (cS_cls sh13) rfl) rfl rfl (eX1_become (d := d + 0) gG13 (gP_X2_lastTarget hy6) hy7) rfl rfl ?_
    refine ev_aload_n (pc' := 48) dX9_undo_47 rfl rfl ?_
    refine ev_aload_n (pc' := 49) dX9_undo_48 rfl rfl ?_
    refine ev_getr (pc' := 52) dX9_undo_49 rfl tf_9_63 sh0 rfl ?_
    replace h := qbd h; obtain ⟨y8, hy8, h⟩ := h
    refine ev_callg (pc' := 55) (st2 := [iv y8, .ref 0]) dX9_undo_52 (qs_V tc_9_303 rfl rfl (cS_cls sh32) rfl) rfl rfl (eX2_lastMode (d := d + 0) hy8) rfl rfl ?_
    replace h := qbd h; obtain ⟨μ9, hμ9, h⟩ := h
    refine ev_puti (pc' := 58) dX9_undo_55 rfl tf_9_74 sh0 rfl rfl (qw_8_11 _) rfl hμ9 ?_
    refine ev_aload_n (pc' := 59) dX9_undo_58 rfl rfl ?_
    refine ev_getr (pc' := 62) dX9_undo_59 rfl tf_9_63 sh0 rfl ?_
    replace h := qbd h; obtain ⟨y10, hy10, h⟩ := h
    refine ev_callg (pc' := 65) (st2 := [iv y10]) dX9_undo_62 (qs_V tc_9_293 rfl rfl (cS_cls sh32) rfl) rfl rfl (eX2_length (d := d + 0) hy10) rfl rfl ?_
    cases h
    exact ev_ireturn dX9_undo_65 rfl rfl
set_option maxRecDepth 100000 in
theorem eX3_append {Ls t d : Nat} {p0 : Int} {μ : qMu} {r : qMu} (h : fX3_append p0 μ = some r) : Ev (d + 0) mX3_append 0 [some (.ref 76), some (iv p0)] [] (cS Ls t μ) (.inl none) (cS Ls t r) := by
  unfold fX3_append at h
  refine ev_aload_n (pc' := 1) dX3_append_0 rfl rfl ?_
  refine ev_geti (pc' := 4) (ki := 1) dX3_append_1 rfl tf_3_15 sh76 rfl rfl ?_
  refine ev_aload_n (pc' := 5) dX3_append_4 rfl rfl ?_
  refine ev_getr (pc' := 8) dX3_append_5 rfl tf_3_9 sh76 rfl ?_
  refine ev_alen (pc' := 9) dX3_append_8 rfl sh77 (Or.inr rfl) ?_
  refine ev_icmpge (pc' := 12) (tgt := 32) dX3_append_9 (by decide) rfl (x1 := wr (rd μ 76 1)) (y1 := 64) rfl wl_64  (fun c1 => ?_) (fun c1 => ?_)
  · replace h := qit c1 h
    refine ev_aload_n (pc' := 13) dX3_append_12 rfl rfl ?_
    refine ev_getr (pc' := 16) dX3_append_13 rfl tf_3_9 sh76 rfl ?_
    refine ev_aload_n (pc' := 17) dX3_append_16 rfl rfl ?_
    refine ev_geti (pc' := 20) (ki := 1) dX3_append_17 rfl tf_3_15 sh76 rfl rfl ?_
    refine ev_iload_n (pc' := 21) dX3_append_20 rfl rfl ?_
    replace h := qbd h; obtain ⟨μ2, hμ2, h⟩ := h
    refine ev_cast (pc' := 22) dX3_append_21 rfl sh77 hμ2 ?_
    refine ev_aload_n (pc' := 23) dX3_append_22 rfl rfl ?_
    refine ev_dup (pc' := 24) dX3_append_23 rfl rfl ?_
    refine ev_geti (pc' := 27) (ki := 1) dX3_append_24 rfl tf_3_15 sh76 rfl rfl ?_
    refine ev_iconst (pc' := 28) dX3_append_27 rfl ?_
    refine ev_iadd (pc' := 29) dX3_append_28 rfl ?_
    replace h := qbd h; obtain ⟨μ3, hμ3, h⟩ := h
    refine ev_puti (pc' := 32) dX3_append_29 rfl tf_3_15 sh76 rfl rfl (qw_2_1 _) rfl hμ3 ?_
    cases h
    exact ev_return dX3_append_32 rfl
  · replace h := qif' c1 h
    cases h
    exact ev_return dX3_append_32 rfl
set_option maxRecDepth 100000 in
theorem eX3_printDigit {Ls t d : Nat} {p0 : Int} {μ : qMu} {r : qMu} (h : fX3_printDigit p0 μ = some r) : Ev (d + 1) mX3_printDigit 0 [some (.ref 76), some (iv p0)] [] (cS Ls t μ) (.inl none) (cS Ls t r) := by
  unfold fX3_printDigit at h
  refine ev_aload_n (pc' := 1) dX3_printDigit_0 rfl rfl ?_
  refine ev_bipush (pc' := 3) dX3_printDigit_1 rfl bl_48 ?_
  refine ev_iload_n (pc' := 4) dX3_printDigit_3 rfl rfl ?_
  refine ev_iadd (pc' := 5) dX3_printDigit_4 rfl ?_
  refine ev_i2c (pc' := 6) dX3_printDigit_5 rfl ?_
  replace h := qbd h; obtain ⟨y1, hy1, h⟩ := h
  refine ev_callg (pc' := 9) (st2 := []) dX3_printDigit_6 (qs_V tc_3_33 rfl rfl (cS_cls sh76) rfl) rfl rfl (eX3_append (d := d + 0) hy1) rfl rfl ?_
  cases h
  exact ev_return dX3_printDigit_9 rfl
set_option maxRecDepth 100000 in
theorem eX3_printEdges {Ls t d : Nat} {p0 : Int} {p1 : Int} {p2 : Int} {μ : qMu} {r : qMu} (h : fX3_printEdges p0 p1 p2 μ = some r) : Ev (d + 2) mX3_printEdges 0 [some (.ref 76), some (iv p0), some (iv p1), some (iv p2)] [] (cS Ls t μ) (.inl none) (cS Ls t r) := by
  unfold fX3_printEdges at h
  refine ev_aload_n (pc' := 1) dX3_printEdges_0 rfl rfl ?_
  refine ev_geti (pc' := 4) (ki := 1) dX3_printEdges_1 rfl tf_3_15 sh76 rfl rfl ?_
  replace h := qbd h; obtain ⟨y2, hy2, h⟩ := h
  have kJ : Ev (d + 2) mX3_printEdges 13 [some (.ref 76), some (iv p0), some (iv p1), some (iv p2)] [] (cS Ls t y2) (.inl none) (cS Ls t r) := by
    refine ev_aload_n (pc' := 14) dX3_printEdges_13 rfl rfl ?_
    refine ev_iload_n (pc' := 15) dX3_printEdges_14 rfl rfl ?_
    replace h := qbd h; obtain ⟨y4, hy4, h⟩ := h
    refine ev_callg (pc' := 18) (st2 := []) dX3_printEdges_15 (qs_V tc_3_37 rfl rfl (cS_cls sh76) rfl) rfl rfl (eX3_printDigit (d := d + 0) hy4) rfl rfl ?_
    refine ev_aload_n (pc' := 19) dX3_printEdges_18 rfl rfl ?_
    refine ev_bipush (pc' := 21) dX3_printEdges_19 rfl bl_45 ?_
    replace h := qbd h; obtain ⟨y5, hy5, h⟩ := h
    refine ev_callg (pc' := 24) (st2 := []) dX3_printEdges_21 (qs_V tc_3_33 rfl rfl (cS_cls sh76) rfl) rfl rfl (eX3_append (d := d + 1) hy5) rfl rfl ?_
    refine ev_aload_n (pc' := 25) dX3_printEdges_24 rfl rfl ?_
    refine ev_iload_n (pc' := 26) dX3_printEdges_25 rfl rfl ?_
    replace h := qbd h; obtain ⟨y6, hy6, h⟩ := h
    refine ev_callg (pc' := 29) (st2 := []) dX3_printEdges_26 (qs_V tc_3_37 rfl rfl (cS_cls sh76) rfl) rfl rfl (eX3_printDigit (d := d + 0) hy6) rfl rfl ?_
    refine ev_iload_n (pc' := 30) dX3_printEdges_29 rfl rfl ?_
    refine ev_iconst (pc' := 31) dX3_printEdges_30 rfl ?_
    refine ev_icmple (pc' := 34) (tgt := 62) dX3_printEdges_31 (by decide) rfl (x1 := wr p2) (y1 := 1) rfl wl_1  (fun c7 => ?_) (fun c7 => ?_)
    · replace h := qit c7 h
      refine ev_aload_n (pc' := 35) dX3_printEdges_34 rfl rfl ?_
      refine ev_bipush (pc' := 37) dX3_printEdges_35 rfl bl_120 ?_
      replace h := qbd h; obtain ⟨y8, hy8, h⟩ := h
      refine ev_callg (pc' := 40) (st2 := []) dX3_printEdges_37 (qs_V tc_3_33 rfl rfl (cS_cls sh76) rfl) rfl rfl (eX3_append (d := d + 1) hy8) rfl rfl ?_
      refine ev_iload_n (pc' := 41) dX3_printEdges_40 rfl rfl ?_
      refine ev_bipush (pc' := 43) dX3_printEdges_41 rfl bl_9 ?_
      replace h := qbd h; obtain ⟨y10, hy10, h⟩ := h
      have kJ : Ev (d + 2) mX3_printEdges 54 [some (.ref 76), none, none, some (iv p2)] [] (cS Ls t y10) (.inl none) (cS Ls t r) := by
        refine ev_aload_n (pc' := 55) dX3_printEdges_54 rfl rfl ?_
        refine ev_iload_n (pc' := 56) dX3_printEdges_55 rfl rfl ?_
        refine ev_bipush (pc' := 58) dX3_printEdges_56 rfl bl_10 ?_
        refine ev_irem (pc' := 59) dX3_printEdges_58 rfl zl_10 ?_
        replace h := qbd h; obtain ⟨y12, hy12, h⟩ := h
        refine ev_callg (pc' := 62) (st2 := []) dX3_printEdges_59 (qs_V tc_3_37 rfl rfl (cS_cls sh76) rfl) rfl rfl (eX3_printDigit (d := d + 0) hy12) rfl rfl ?_
        cases h
        exact ev_return dX3_printEdges_62 rfl
      replace h := hy10
      clear hy10
      refine ev_icmple (pc' := 46) (tgt := 54) dX3_printEdges_43 (by decide) rfl (x1 := wr p2) (y1 := 9) rfl wl_9  (fun c9 => ?_) (fun c9 => ?_)
      · replace h := qit c9 h
        refine ev_aload_n (pc' := 47) dX3_printEdges_46 rfl rfl ?_
        refine ev_iload_n (pc' := 48) dX3_printEdges_47 rfl rfl ?_
        refine ev_bipush (pc' := 50) dX3_printEdges_48 rfl bl_10 ?_
        refine ev_idiv (pc' := 51) dX3_printEdges_50 rfl zl_10 ?_
        replace h := qbd h; obtain ⟨y11, hy11, h⟩ := h
        refine ev_callg (pc' := 54) (st2 := []) dX3_printEdges_51 (qs_V tc_3_37 rfl rfl (cS_cls sh76) rfl) rfl rfl (eX3_printDigit (d := d + 0) hy11) rfl rfl ?_
        cases h
        exact ev_wk (qLe_eq (qLe_sk (qLe_sk (qLe_eq qLe_nil)))) kJ
      · replace h := qif' c9 h
        cases h
        exact ev_wk (qLe_eq (qLe_sk (qLe_sk (qLe_eq qLe_nil)))) kJ
    · replace h := qif' c7 h
      cases h
      exact ev_return dX3_printEdges_62 rfl
  replace h := hy2
  clear hy2
  refine ev_ifle (pc' := 7) (tgt := 13) dX3_printEdges_4 (by decide) rfl (x1 := wr (rd μ 76 1)) rfl (fun c1 => ?_) (fun c1 => ?_)
  · replace h := qit c1 h
    refine ev_aload_n (pc' := 8) dX3_printEdges_7 rfl rfl ?_
    refine ev_bipush (pc' := 10) dX3_printEdges_8 rfl bl_32 ?_
    replace h := qbd h; obtain ⟨y3, hy3, h⟩ := h
    refine ev_callg (pc' := 13) (st2 := []) dX3_printEdges_10 (qs_V tc_3_33 rfl rfl (cS_cls sh76) rfl) rfl rfl (eX3_append (d := d + 1) hy3) rfl rfl ?_
    cases h
    exact ev_wk (qLe_eq (qLe_eq (qLe_eq (qLe_eq qLe_nil)))) kJ
  · replace h := qif' c1 h
    cases h
    exact ev_wk (qLe_eq (qLe_eq (qLe_eq (qLe_eq qLe_nil)))) kJ
set_option maxRecDepth 100000 in
theorem ebX3_print_17 {Ls t d n : Nat} {w1 : Nat} {w2 : Int} (hw1 : gG w1) : ∀ (k : Nat) (x : Int × qMu) (y : qMu), lp (fun x : Int × qMu => bX3_print_17 n w1 w2 x.1 x.2) k x = some y → ∀ (o : qO) (s' : qSt), Ev (d + 3) mX3_print 52 [some (.ref 76), some (.ref w1), some (iv w2), none] [] (cS Ls t y) o s' → Ev (d + 3) mX3_print 17 [some (.ref 76), some (.ref w1), some (iv w2), some (iv x.1)] [] (cS Ls t x.2) o s' := by
  intro k
  induction k with
  | zero => intro x y h; cases h
  | succ k ih =>
    intro x y h o s' kE
    rw [lp_s] at h
    replace h := qbd h; obtain ⟨zz, h0, h1⟩ := h
    have h : bX3_print_17 n w1 w2 x.1 x.2 = some zz := h0
    clear h0
    unfold bX3_print_17 at h
    refine ev_iload_n (pc' := 18) dX3_print_17 rfl rfl ?_
    refine ev_aload_n (pc' := 19) dX3_print_18 rfl rfl ?_
    replace h := qbd h; obtain ⟨y4, hy4, h⟩ := h
    refine ev_callg (pc' := 22) (st2 := [iv y4, iv x.1]) dX3_print_19 (qs_V tc_3_19 rfl rfl (cS_cls hw1.1) rfl) rfl rfl (eX1_vertexCount (d := d + 2) hw1 hy4) rfl rfl ?_
    refine ev_icmpge (pc' := 25) (tgt := 52) dX3_print_22 (by decide) rfl (x1 := wr x.1) (y1 := wr y4) rfl rfl  (fun c5 => ?_) (fun c5 => ?_)
    · replace h := qit c5 h
      refine ev_aload_n (pc' := 26) dX3_print_25 rfl rfl ?_
      refine ev_iload_n (pc' := 27) dX3_print_26 rfl rfl ?_
      refine ev_iload_n (pc' := 28) dX3_print_27 rfl rfl ?_
      replace h := qbd h; obtain ⟨y6, hy6, h⟩ := h
      refine ev_callg (pc' := 31) (st2 := [iv y6]) dX3_print_28 (qs_V tc_3_25 rfl rfl (cS_cls hw1.1) rfl) rfl rfl (eX1_between (d := d + 2) hw1 hy6) rfl rfl ?_
      replace h := qbd h; obtain ⟨y8, hy8, h⟩ := h
      have kJ : Ev (d + 3) mX3_print 46 [some (.ref 76), some (.ref w1), some (iv w2), some (iv x.1)] [] (cS Ls t y8) o s' := by
        refine ev_iinc (pc' := 49) (x := x.1) (L1 := [some (.ref 76), some (.ref w1), some (iv w2), some (iv (x.1 + 1))]) dX3_print_46 rfl rfl rfl ?_
        refine ev_goto (pc' := 17) dX3_print_49 (by decide) ?_
        cases h
        exact ev_wk (qLe_eq (qLe_eq (qLe_eq (qLe_eq qLe_nil)))) (ih _ _ h1 _ _ kE)
      replace h := hy8
      clear hy8
      refine ev_ifle (pc' := 34) (tgt := 46) dX3_print_31 (by decide) rfl (x1 := wr y6) rfl (fun c7 => ?_) (fun c7 => ?_)
      · replace h := qit c7 h
        refine ev_aload_n (pc' := 35) dX3_print_34 rfl rfl ?_
        refine ev_iload_n (pc' := 36) dX3_print_35 rfl rfl ?_
        refine ev_iload_n (pc' := 37) dX3_print_36 rfl rfl ?_
        refine ev_aload_n (pc' := 38) dX3_print_37 rfl rfl ?_
        refine ev_iload_n (pc' := 39) dX3_print_38 rfl rfl ?_
        refine ev_iload_n (pc' := 40) dX3_print_39 rfl rfl ?_
        replace h := qbd h; obtain ⟨y9, hy9, h⟩ := h
        refine ev_callg (pc' := 43) (st2 := [iv y9, iv x.1, iv w2, .ref 76]) dX3_print_40 (qs_V tc_3_25 rfl rfl (cS_cls hw1.1) rfl) rfl rfl (eX1_between (d := d + 2) hw1 hy9) rfl rfl ?_
        replace h := qbd h; obtain ⟨y10, hy10, h⟩ := h
        refine ev_callg (pc' := 46) (st2 := []) dX3_print_43 (qs_V tc_3_29 rfl rfl (cS_cls sh76) rfl) rfl rfl (eX3_printEdges (d := d + 0) hy10) rfl rfl ?_
        cases h
        exact ev_wk (qLe_eq (qLe_eq (qLe_eq (qLe_eq qLe_nil)))) kJ
      · replace h := qif' c7 h
        cases h
        exact ev_wk (qLe_eq (qLe_eq (qLe_eq (qLe_eq qLe_nil)))) kJ
    · replace h := qif' c5 h
      cases h
      cases h1
      exact ev_wk (qLe_eq (qLe_eq (qLe_eq (qLe_sk qLe_nil)))) kE
set_option maxRecDepth 100000 in
theorem ebX3_print_7 {Ls t d n : Nat} {w1 : Nat} (hw1 : gG w1) : ∀ (k : Nat) (x : Int × qMu) (y : qMu), lp (fun x : Int × qMu => bX3_print_7 n w1 x.1 x.2) k x = some y → ∀ (o : qO) (s' : qSt), Ev (d + 3) mX3_print 58 [none, none, none, none] [] (cS Ls t y) o s' → Ev (d + 3) mX3_print 7 [some (.ref 76), some (.ref w1), some (iv x.1), none] [] (cS Ls t x.2) o s' := by
  intro k
  induction k with
  | zero => intro x y h; cases h
  | succ k ih =>
    intro x y h o s' kE
    rw [lp_s] at h
    replace h := qbd h; obtain ⟨zz, h0, h1⟩ := h
    have h : bX3_print_7 n w1 x.1 x.2 = some zz := h0
    clear h0
    unfold bX3_print_7 at h
    refine ev_iload_n (pc' := 8) dX3_print_7 rfl rfl ?_
    refine ev_aload_n (pc' := 9) dX3_print_8 rfl rfl ?_
    replace h := qbd h; obtain ⟨y2, hy2, h⟩ := h
    refine ev_callg (pc' := 12) (st2 := [iv y2, iv x.1]) dX3_print_9 (qs_V tc_3_19 rfl rfl (cS_cls hw1.1) rfl) rfl rfl (eX1_vertexCount (d := d + 2) hw1 hy2) rfl rfl ?_
    refine ev_icmpge (pc' := 15) (tgt := 58) dX3_print_12 (by decide) rfl (x1 := wr x.1) (y1 := wr y2) rfl rfl  (fun c3 => ?_) (fun c3 => ?_)
    · replace h := qit c3 h
      refine ev_iload_n (pc' := 16) dX3_print_15 rfl rfl ?_
      refine ev_istore_n (pc' := 17) (L1 := [some (.ref 76), some (.ref w1), some (iv x.1), some (iv x.1)]) dX3_print_16 rfl rfl ?_
      replace h := qbd h; obtain ⟨y11, hy11, h⟩ := h
      refine ev_wk (qLe_eq (qLe_eq (qLe_eq (qLe_eq qLe_nil)))) (?_ : Ev _ _ _ [some (.ref 76), some (.ref w1), some (iv x.1), some (iv x.1)] _ _ _ _)
      refine ebX3_print_17 hw1 _ _ _ hy11 _ _ ?_
      refine ev_iinc (pc' := 55) (x := x.1) (L1 := [some (.ref 76), some (.ref w1), some (iv (x.1 + 1)), none]) dX3_print_52 rfl rfl rfl ?_
      refine ev_goto (pc' := 7) dX3_print_55 (by decide) ?_
      cases h
      exact ev_wk (qLe_eq (qLe_eq (qLe_eq (qLe_eq qLe_nil)))) (ih _ _ h1 _ _ kE)
    · replace h := qif' c3 h
      cases h
      cases h1
      exact ev_wk (qLe_sk (qLe_sk (qLe_sk (qLe_eq qLe_nil)))) kE
set_option maxRecDepth 100000 in
theorem eX3_print {Ls t d n : Nat} {p0 : Nat} {μ : qMu} {r : qMu} (hp0 : gG p0) (h : fX3_print n p0 μ = some r) : Ev (d + 3) mX3_print 0 [some (.ref 76), some (.ref p0), none, none] [] (cS Ls t μ) (.inl none) (cS Ls t r) := by
  unfold fX3_print at h
  refine ev_aload_n (pc' := 1) dX3_print_0 rfl rfl ?_
  refine ev_iconst (pc' := 2) dX3_print_1 rfl ?_
  replace h := qbd h; obtain ⟨μ1, hμ1, h⟩ := h
  refine ev_puti (pc' := 5) dX3_print_2 rfl tf_3_15 sh76 rfl rfl (qw_2_1 _) rfl hμ1 ?_
  refine ev_iconst (pc' := 6) dX3_print_5 rfl ?_
  refine ev_istore_n (pc' := 7) (L1 := [some (.ref 76), some (.ref p0), some (iv 0), none]) dX3_print_6 rfl rfl ?_
  replace h := qbd h; obtain ⟨y12, hy12, h⟩ := h
  refine ev_wk (qLe_eq (qLe_eq (qLe_eq (qLe_eq qLe_nil)))) (?_ : Ev _ _ _ [some (.ref 76), some (.ref p0), some (iv 0), none] _ _ _ _)
  refine ebX3_print_7 hp0 _ _ _ hy12 _ _ ?_
  cases h
  exact ev_return dX3_print_58 rfl
set_option maxRecDepth 100000 in
theorem eX3_length {Ls t d : Nat} {μ : qMu} {r : Int} (h : fX3_length μ = some r) : Ev (d + 0) mX3_length 0 [some (.ref 76)] [] (cS Ls t μ) (.inl (some (iv r))) (cS Ls t μ) := by
  unfold fX3_length at h
  refine ev_aload_n (pc' := 1) dX3_length_0 rfl rfl ?_
  refine ev_geti (pc' := 4) (ki := 1) dX3_length_1 rfl tf_3_15 sh76 rfl rfl ?_
  cases h
  exact ev_ireturn dX3_length_4 rfl rfl
set_option maxRecDepth 100000 in
theorem eX9_write {Ls t d n : Nat} {p0 : Int} {μ : qMu} {r : Int × qMu} (h : fX9_write n p0 μ = some r) : Ev (d + 4) mX9_write 0 [some (.ref 0), some (iv p0)] [] (cS Ls t μ) (.inl (some (iv r.1))) (cS Ls t r.2) := by
  unfold fX9_write at h
  refine ev_aload_n (pc' := 1) dX9_write_0 rfl rfl ?_
  refine ev_getr (pc' := 4) dX9_write_1 rfl tf_9_70 sh0 rfl ?_
  refine ev_aload_n (pc' := 5) dX9_write_4 rfl rfl ?_
  refine ev_iload_n (pc' := 6) dX9_write_5 rfl rfl ?_
  replace h := qbd h; obtain ⟨y1, hy1, h⟩ := h
  refine ev_callg (pc' := 9) (st2 := [.ref y1, .ref 76]) dX9_write_6 (qs_V tc_9_130 rfl rfl (cS_cls sh0) rfl) rfl rfl (eX9_choose (d := d + 3) hy1) rfl rfl ?_
  replace h := qbd h; obtain ⟨y2, hy2, h⟩ := h
  refine ev_callg (pc' := 12) (st2 := []) dX9_write_9 (qs_V tc_9_306 rfl rfl (cS_cls sh76) rfl) rfl rfl (eX3_print (d := d + 0) (gP_X9_choose hy1) hy2) rfl rfl ?_
  refine ev_aload_n (pc' := 13) dX9_write_12 rfl rfl ?_
  refine ev_getr (pc' := 16) dX9_write_13 rfl tf_9_70 sh0 rfl ?_
  replace h := qbd h; obtain ⟨y3, hy3, h⟩ := h
  refine ev_callg (pc' := 19) (st2 := [iv y3]) dX9_write_16 (qs_V tc_9_309 rfl rfl (cS_cls sh76) rfl) rfl rfl (eX3_length (d := d + 3) hy3) rfl rfl ?_
  cases h
  exact ev_ireturn dX9_write_19 rfl rfl
set_option maxRecDepth 100000 in
theorem eX3_signAt {Ls t d : Nat} {p0 : Int} {μ : qMu} {r : Int} (h : fX3_signAt p0 μ = some r) : Ev (d + 0) mX3_signAt 0 [some (.ref 76), some (iv p0)] [] (cS Ls t μ) (.inl (some (iv r))) (cS Ls t μ) := by
  unfold fX3_signAt at h
  refine ev_aload_n (pc' := 1) dX3_signAt_0 rfl rfl ?_
  refine ev_getr (pc' := 4) dX3_signAt_1 rfl tf_3_9 sh76 rfl ?_
  refine ev_iload_n (pc' := 5) dX3_signAt_4 rfl rfl ?_
  replace h := qbd h; obtain ⟨x1, hx1, h⟩ := h
  refine ev_cald (pc' := 6) dX3_signAt_5 rfl sh77 hx1 ?_
  replace h := qbd h; obtain ⟨x2, hx2, h⟩ := h
  obtain ⟨ex2, nx2⟩ := qch_n hx2
  subst ex2
  cases h
  exact ev_ireturn dX3_signAt_6 rfl nx2
set_option maxRecDepth 100000 in
theorem eX9_written {Ls t d : Nat} {p0 : Int} {μ : qMu} {r : (Int ⊕ Nat)} (h : fX9_written p0 μ = some r) : Ev (d + 1) mX9_written 0 [some (.ref 0), some (iv p0)] [] (cS Ls t μ) (qRi r) (cS Ls (qTt t r) μ) := by
  unfold fX9_written at h
  refine ev_iload_n (pc' := 1) dX9_written_0 rfl rfl ?_
  refine ev_iflt (pc' := 4) (tgt := 15) dX9_written_1 (by decide) rfl (x1 := wr p0) rfl (fun c1 => ?_) (fun c1 => ?_)
  · replace h := qit c1 h
    cases h
    exact ev_throww dX9_written_15 tn_9_188 dX9_written_18 dX9_written_19 dX9_written_22 dX9_written_25 tx_9_188_310 rfl rfl
  · replace h := qif' c1 h
    refine ev_iload_n (pc' := 5) dX9_written_4 rfl rfl ?_
    refine ev_aload_n (pc' := 6) dX9_written_5 rfl rfl ?_
    refine ev_getr (pc' := 9) dX9_written_6 rfl tf_9_70 sh0 rfl ?_
    replace h := qbd h; obtain ⟨y2, hy2, h⟩ := h
    refine ev_callg (pc' := 12) (st2 := [iv y2, iv p0]) dX9_written_9 (qs_V tc_9_309 rfl rfl (cS_cls sh76) rfl) rfl rfl (eX3_length (d := d + 0) hy2) rfl rfl ?_
    refine ev_icmplt (pc' := 15) (tgt := 26) dX9_written_12 (by decide) rfl (x1 := wr p0) (y1 := wr y2) rfl rfl  (fun c3 => ?_) (fun c3 => ?_)
    · replace h := qit c3 h
      refine ev_aload_n (pc' := 27) dX9_written_26 rfl rfl ?_
      refine ev_getr (pc' := 30) dX9_written_27 rfl tf_9_70 sh0 rfl ?_
      refine ev_iload_n (pc' := 31) dX9_written_30 rfl rfl ?_
      replace h := qbd h; obtain ⟨y4, hy4, h⟩ := h
      refine ev_callg (pc' := 34) (st2 := [iv y4]) dX9_written_31 (qs_V tc_9_312 rfl rfl (cS_cls sh76) rfl) rfl rfl (eX3_signAt (d := d + 0) hy4) rfl rfl ?_
      replace h := qbd h; obtain ⟨x5, hx5, h⟩ := h
      obtain ⟨ex5, nx5⟩ := qch_n hx5
      subst ex5
      cases h
      exact ev_ireturn dX9_written_34 rfl nx5
    · replace h := qif' c3 h
      cases h
      exact ev_throww dX9_written_15 tn_9_188 dX9_written_18 dX9_written_19 dX9_written_22 dX9_written_25 tx_9_188_310 rfl rfl
set_option maxRecDepth 100000 in
theorem eX10_thrown {Ls t d : Nat} {μ : qMu} {r : Int} (h : fX10_thrown μ = some r) : Ev (d + 0) mX10_thrown 0 [some (.ref 78)] [] (cS Ls t μ) (.inl (some (iv r))) (cS Ls t μ) := by
  unfold fX10_thrown at h
  refine ev_aload_n (pc' := 1) dX10_thrown_0 rfl rfl ?_
  refine ev_geti (pc' := 4) (ki := 4) dX10_thrown_1 rfl tf_10_54 sh78 rfl rfl ?_
  cases h
  exact ev_ireturn dX10_thrown_4 rfl rfl
set_option maxRecDepth 100000 in
theorem eX10_isIn {Ls t d : Nat} {p0 : Int} {p1 : Int} {p2 : Int} {μ : qMu} {r : Int} (h : fX10_isIn p0 p1 p2 μ = some r) : Ev (d + 0) mX10_isIn 0 [some (iv p0), some (iv p1), some (iv p2)] [] (cS Ls t μ) (.inl (some (iv r))) (cS Ls t μ) := by
  unfold fX10_isIn at h
  refine ev_iload_n (pc' := 1) dX10_isIn_0 rfl rfl ?_
  refine ev_iload_n (pc' := 2) dX10_isIn_1 rfl rfl ?_
  refine ev_icmplt (pc' := 5) (tgt := 14) dX10_isIn_2 (by decide) rfl (x1 := wr p0) (y1 := wr p1) rfl rfl  (fun c1 => ?_) (fun c1 => ?_)
  · replace h := qit c1 h
    refine ev_iconst (pc' := 15) dX10_isIn_14 rfl ?_
    cases h
    exact ev_ireturn dX10_isIn_15 rfl rfl
  · replace h := qif' c1 h
    refine ev_iload_n (pc' := 6) dX10_isIn_5 rfl rfl ?_
    refine ev_iload_n (pc' := 7) dX10_isIn_6 rfl rfl ?_
    refine ev_icmpgt (pc' := 10) (tgt := 14) dX10_isIn_7 (by decide) rfl (x1 := wr p0) (y1 := wr p2) rfl rfl  (fun c2 => ?_) (fun c2 => ?_)
    · replace h := qit c2 h
      refine ev_iconst (pc' := 15) dX10_isIn_14 rfl ?_
      cases h
      exact ev_ireturn dX10_isIn_15 rfl rfl
    · replace h := qif' c2 h
      refine ev_iconst (pc' := 11) dX10_isIn_10 rfl ?_
      refine ev_goto (pc' := 15) dX10_isIn_11 (by decide) ?_
      cases h
      exact ev_ireturn dX10_isIn_15 rfl rfl
set_option maxRecDepth 100000 in
theorem eX10_good {Ls t d : Nat} {p0 : Int} {μ : qMu} {r : Int × qMu} (h : fX10_good p0 μ = some r) : Ev (d + 0) mX10_good 0 [some (.ref 78), some (iv p0)] [] (cS Ls t μ) (.inl (some (iv r.1))) (cS Ls t r.2) := by
  unfold fX10_good at h
  refine ev_aload_n (pc' := 1) dX10_good_0 rfl rfl ?_
  refine ev_iload_n (pc' := 2) dX10_good_1 rfl rfl ?_
  have k2 : ∀ j3 : Int, j3 = (if wr p0 = 0 then 1 else 0) → Ev (d + 0) mX10_good 10 [none, some (iv p0)] [iv j3, .ref 78] (cS Ls t μ) (.inl (some (iv r.1))) (cS Ls t r.2) := by
    intro j3 ej3
    subst ej3
    replace h := qbd h; obtain ⟨μ4, hμ4, h⟩ := h
    refine ev_puti (pc' := 13) dX10_good_10 rfl tf_10_54 sh78 rfl rfl (qw_9_4 _) rfl hμ4 ?_
    refine ev_iload_n (pc' := 14) dX10_good_13 rfl rfl ?_
    replace h := qbd h; obtain ⟨x5, hx5, h⟩ := h
    obtain ⟨ex5, nx5⟩ := qbl_n hx5
    subst ex5
    cases h
    exact ev_ireturn dX10_good_14 rfl nx5
  refine ev_ifeq (pc' := 5) (tgt := 9) dX10_good_2 (by decide) rfl (x1 := wr p0) rfl (fun c1 => ?_) (fun c1 => ?_)
  · skip
    refine ev_iconst (pc' := 10) dX10_good_9 rfl ?_
    exact ev_wk (qLe_sk (qLe_eq qLe_nil)) (k2 _ (qet c1 rfl))
  · skip
    refine ev_iconst (pc' := 6) dX10_good_5 rfl ?_
    refine ev_goto (pc' := 10) dX10_good_6 (by decide) ?_
    exact ev_wk (qLe_sk (qLe_eq qLe_nil)) (k2 _ (qef c1 rfl))
set_option maxRecDepth 100000 in
theorem eX10_good__ {Ls t d : Nat} {p0 : Int} {p1 : Int} {p2 : Int} {μ : qMu} {r : Int × qMu} (h : fX10_good__ p0 p1 p2 μ = some r) : Ev (d + 0) mX10_good__ 0 [some (.ref 78), some (iv p0), some (iv p1), some (iv p2)] [] (cS Ls t μ) (.inl (some (iv r.1))) (cS Ls t r.2) := by
  unfold fX10_good__ at h
  refine ev_aload_n (pc' := 1) dX10_good___0 rfl rfl ?_
  refine ev_iconst (pc' := 2) dX10_good___1 rfl ?_
  replace h := qbd h; obtain ⟨μ1, hμ1, h⟩ := h
  refine ev_puti (pc' := 5) dX10_good___2 rfl tf_10_54 sh78 rfl rfl (qw_9_4 _) rfl hμ1 ?_
  refine ev_iload_n (pc' := 6) dX10_good___5 rfl rfl ?_
  replace h := qbd h; obtain ⟨y3, hy3, h⟩ := h
  have kJ : Ev (d + 0) mX10_good__ 38 [some (.ref 78), none, none, none] [] (cS Ls t y3) (.inl (some (iv r.1))) (cS Ls t r.2) := by
    refine ev_aload_n (pc' := 39) dX10_good___38 rfl rfl ?_
    refine ev_geti (pc' := 42) (ki := 4) dX10_good___39 rfl tf_10_54 sh78 rfl rfl ?_
    refine ev_ifne (pc' := 45) (tgt := 49) dX10_good___42 (by decide) rfl (x1 := wr (rd y3 78 4)) rfl (fun c9 => ?_) (fun c9 => ?_)
    · replace h := qit c9 h
      refine ev_iconst (pc' := 46) dX10_good___45 rfl ?_
      refine ev_goto (pc' := 50) dX10_good___46 (by decide) ?_
      cases h
      exact ev_ireturn dX10_good___50 rfl rfl
    · replace h := qif' c9 h
      refine ev_iconst (pc' := 50) dX10_good___49 rfl ?_
      cases h
      exact ev_ireturn dX10_good___50 rfl rfl
  replace h := hy3
  clear hy3
  refine ev_ifne (pc' := 9) (tgt := 17) dX10_good___6 (by decide) rfl (x1 := wr p0) rfl (fun c2 => ?_) (fun c2 => ?_)
  · replace h := qit c2 h
    refine ev_aload_n (pc' := 10) dX10_good___9 rfl rfl ?_
    refine ev_iconst (pc' := 11) dX10_good___10 rfl ?_
    replace h := qbd h; obtain ⟨μ4, hμ4, h⟩ := h
    refine ev_puti (pc' := 14) dX10_good___11 rfl tf_10_54 sh78 rfl rfl (qw_9_4 _) rfl hμ4 ?_
    refine ev_goto (pc' := 38) dX10_good___14 (by decide) ?_
    cases h
    exact ev_wk (qLe_eq (qLe_sk (qLe_sk (qLe_sk qLe_nil)))) kJ
  · replace h := qif' c2 h
    refine ev_iload_n (pc' := 18) dX10_good___17 rfl rfl ?_
    refine ev_ifne (pc' := 21) (tgt := 29) dX10_good___18 (by decide) rfl (x1 := wr p1) rfl (fun c5 => ?_) (fun c5 => ?_)
    · replace h := qit c5 h
      refine ev_aload_n (pc' := 22) dX10_good___21 rfl rfl ?_
      refine ev_iconst (pc' := 23) dX10_good___22 rfl ?_
      replace h := qbd h; obtain ⟨μ6, hμ6, h⟩ := h
      refine ev_puti (pc' := 26) dX10_good___23 rfl tf_10_54 sh78 rfl rfl (qw_9_4 _) rfl hμ6 ?_
      refine ev_goto (pc' := 38) dX10_good___26 (by decide) ?_
      cases h
      exact ev_wk (qLe_eq (qLe_sk (qLe_sk (qLe_sk qLe_nil)))) kJ
    · replace h := qif' c5 h
      refine ev_iload_n (pc' := 30) dX10_good___29 rfl rfl ?_
      refine ev_ifne (pc' := 33) (tgt := 38) dX10_good___30 (by decide) rfl (x1 := wr p2) rfl (fun c7 => ?_) (fun c7 => ?_)
      · replace h := qit c7 h
        refine ev_aload_n (pc' := 34) dX10_good___33 rfl rfl ?_
        refine ev_iconst (pc' := 35) dX10_good___34 rfl ?_
        replace h := qbd h; obtain ⟨μ8, hμ8, h⟩ := h
        refine ev_puti (pc' := 38) dX10_good___35 rfl tf_10_54 sh78 rfl rfl (qw_9_4 _) rfl hμ8 ?_
        cases h
        exact ev_wk (qLe_eq (qLe_sk (qLe_sk (qLe_sk qLe_nil)))) kJ
      · replace h := qif' c7 h
        cases h
        exact ev_wk (qLe_eq (qLe_sk (qLe_sk (qLe_sk qLe_nil)))) kJ
set_option maxRecDepth 100000 in
theorem eX10_good_ {Ls t d : Nat} {p0 : Int} {p1 : Int} {μ : qMu} {r : Int × qMu} (h : fX10_good_ p0 p1 μ = some r) : Ev (d + 1) mX10_good_ 0 [some (.ref 78), some (iv p0), some (iv p1)] [] (cS Ls t μ) (.inl (some (iv r.1))) (cS Ls t r.2) := by
  unfold fX10_good_ at h
  refine ev_aload_n (pc' := 1) dX10_good__0 rfl rfl ?_
  refine ev_iload_n (pc' := 2) dX10_good__1 rfl rfl ?_
  refine ev_iload_n (pc' := 3) dX10_good__2 rfl rfl ?_
  refine ev_iconst (pc' := 4) dX10_good__3 rfl ?_
  replace h := qbd h; obtain ⟨y1, hy1, h⟩ := h
  refine ev_callg (pc' := 7) (st2 := [iv y1.1]) dX10_good__4 (qs_V tc_10_57 rfl rfl (cS_cls sh78) rfl) rfl rfl (eX10_good__ (d := d + 0) hy1) rfl rfl ?_
  replace h := qbd h; obtain ⟨x2, hx2, h⟩ := h
  obtain ⟨ex2, nx2⟩ := qbl_n hx2
  subst ex2
  cases h
  exact ev_ireturn dX10_good__7 rfl nx2
set_option maxRecDepth 100000 in
theorem ebX10_remember_13 {Ls t d n : Nat} : ∀ (k : Nat) (x : Int × qMu) (y : qMu), lp (fun x : Int × qMu => bX10_remember_13 n x.1 x.2) k x = some y → ∀ (o : qO) (s' : qSt), Ev (d + 0) mX10_remember 42 [some (.ref 78), none] [] (cS Ls t y) o s' → Ev (d + 0) mX10_remember 13 [some (.ref 78), some (iv x.1)] [] (cS Ls t x.2) o s' := by
  intro k
  induction k with
  | zero => intro x y h; cases h
  | succ k ih =>
    intro x y h o s' kE
    rw [lp_s] at h
    replace h := qbd h; obtain ⟨zz, h0, h1⟩ := h
    have h : bX10_remember_13 n x.1 x.2 = some zz := h0
    clear h0
    unfold bX10_remember_13 at h
    refine ev_iload_n (pc' := 14) dX10_remember_13 rfl rfl ?_
    refine ev_sipush (pc' := 17) dX10_remember_14 rfl sl_1300 ?_
    refine ev_icmpge (pc' := 20) (tgt := 42) dX10_remember_17 (by decide) rfl (x1 := wr x.1) (y1 := 1300) rfl wl_1300  (fun c3 => ?_) (fun c3 => ?_)
    · replace h := qit c3 h
      refine ev_aload_n (pc' := 21) dX10_remember_20 rfl rfl ?_
      refine ev_getr (pc' := 24) dX10_remember_21 rfl tf_10_16 sh78 rfl ?_
      refine ev_iload_n (pc' := 25) dX10_remember_24 rfl rfl ?_
      refine ev_sipush (pc' := 28) dX10_remember_25 rfl sl_130 ?_
      refine ev_isub (pc' := 29) dX10_remember_28 rfl ?_
      refine ev_aload_n (pc' := 30) dX10_remember_29 rfl rfl ?_
      refine ev_getr (pc' := 33) dX10_remember_30 rfl tf_10_16 sh78 rfl ?_
      refine ev_iload_n (pc' := 34) dX10_remember_33 rfl rfl ?_
      replace h := qbd h; obtain ⟨x4, hx4, h⟩ := h
      refine ev_iald (pc' := 35) dX10_remember_34 rfl sh81 hx4 ?_
      replace h := qbd h; obtain ⟨μ5, hμ5, h⟩ := h
      refine ev_iast (pc' := 36) dX10_remember_35 rfl sh81 hμ5 ?_
      refine ev_iinc (pc' := 39) (x := x.1) (L1 := [some (.ref 78), some (iv (x.1 + 1))]) dX10_remember_36 rfl rfl rfl ?_
      refine ev_goto (pc' := 13) dX10_remember_39 (by decide) ?_
      cases h
      exact ev_wk (qLe_eq (qLe_eq qLe_nil)) (ih _ _ h1 _ _ kE)
    · replace h := qif' c3 h
      cases h
      cases h1
      exact ev_wk (qLe_eq (qLe_sk qLe_nil)) kE
set_option maxRecDepth 100000 in
theorem ebX10_remember_54 {Ls t d n : Nat} : ∀ (k : Nat) (x : Int × qMu) (y : qMu), lp (fun x : Int × qMu => bX10_remember_54 n x.1 x.2) k x = some y → ∀ (o : qO) (s' : qSt), Ev (d + 0) mX10_remember 88 [some (.ref 78), none] [] (cS Ls t y) o s' → Ev (d + 0) mX10_remember 54 [some (.ref 78), some (iv x.1)] [] (cS Ls t x.2) o s' := by
  intro k
  induction k with
  | zero => intro x y h; cases h
  | succ k ih =>
    intro x y h o s' kE
    rw [lp_s] at h
    replace h := qbd h; obtain ⟨zz, h0, h1⟩ := h
    have h : bX10_remember_54 n x.1 x.2 = some zz := h0
    clear h0
    unfold bX10_remember_54 at h
    refine ev_iload_n (pc' := 55) dX10_remember_54 rfl rfl ?_
    refine ev_sipush (pc' := 58) dX10_remember_55 rfl sl_130 ?_
    refine ev_icmpge (pc' := 61) (tgt := 88) dX10_remember_58 (by decide) rfl (x1 := wr x.1) (y1 := 130) rfl wl_130  (fun c8 => ?_) (fun c8 => ?_)
    · replace h := qit c8 h
      refine ev_aload_n (pc' := 62) dX10_remember_61 rfl rfl ?_
      refine ev_getr (pc' := 65) dX10_remember_62 rfl tf_10_16 sh78 rfl ?_
      refine ev_sipush (pc' := 68) dX10_remember_65 rfl sl_130 ?_
      refine ev_aload_n (pc' := 69) dX10_remember_68 rfl rfl ?_
      refine ev_geti (pc' := 72) (ki := 3) dX10_remember_69 rfl tf_10_61 sh78 rfl rfl ?_
      refine ev_imul (pc' := 73) dX10_remember_72 rfl ?_
      refine ev_iload_n (pc' := 74) dX10_remember_73 rfl rfl ?_
      refine ev_iadd (pc' := 75) dX10_remember_74 rfl ?_
      refine ev_aload_n (pc' := 76) dX10_remember_75 rfl rfl ?_
      refine ev_getr (pc' := 79) dX10_remember_76 rfl tf_10_7 sh78 rfl ?_
      refine ev_iload_n (pc' := 80) dX10_remember_79 rfl rfl ?_
      replace h := qbd h; obtain ⟨x9, hx9, h⟩ := h
      refine ev_iald (pc' := 81) dX10_remember_80 rfl sh79 hx9 ?_
      replace h := qbd h; obtain ⟨μ10, hμ10, h⟩ := h
      refine ev_iast (pc' := 82) dX10_remember_81 rfl sh81 hμ10 ?_
      refine ev_iinc (pc' := 85) (x := x.1) (L1 := [some (.ref 78), some (iv (x.1 + 1))]) dX10_remember_82 rfl rfl rfl ?_
      refine ev_goto (pc' := 54) dX10_remember_85 (by decide) ?_
      cases h
      exact ev_wk (qLe_eq (qLe_eq qLe_nil)) (ih _ _ h1 _ _ kE)
    · replace h := qif' c8 h
      cases h
      cases h1
      exact ev_wk (qLe_eq (qLe_sk qLe_nil)) kE
set_option maxRecDepth 100000 in
theorem eX10_remember {Ls t d n : Nat} {μ : qMu} {r : qMu} (h : fX10_remember n μ = some r) : Ev (d + 0) mX10_remember 0 [some (.ref 78), none] [] (cS Ls t μ) (.inl none) (cS Ls t r) := by
  unfold fX10_remember at h
  refine ev_aload_n (pc' := 1) dX10_remember_0 rfl rfl ?_
  refine ev_geti (pc' := 4) (ki := 3) dX10_remember_1 rfl tf_10_61 sh78 rfl rfl ?_
  refine ev_bipush (pc' := 6) dX10_remember_4 rfl bl_10 ?_
  replace h := qbd h; obtain ⟨y2, hy2, h⟩ := h
  have kJ : Ev (d + 0) mX10_remember 52 [some (.ref 78), none] [] (cS Ls t y2) (.inl none) (cS Ls t r) := by
    refine ev_iconst (pc' := 53) dX10_remember_52 rfl ?_
    refine ev_istore_n (pc' := 54) (L1 := [some (.ref 78), some (iv 0)]) dX10_remember_53 rfl rfl ?_
    replace h := qbd h; obtain ⟨y11, hy11, h⟩ := h
    refine ev_wk (qLe_eq (qLe_eq qLe_nil)) (?_ : Ev _ _ _ [some (.ref 78), some (iv 0)] _ _ _ _)
    refine ebX10_remember_54 _ _ _ hy11 _ _ ?_
    refine ev_aload_n (pc' := 89) dX10_remember_88 rfl rfl ?_
    refine ev_dup (pc' := 90) dX10_remember_89 rfl rfl ?_
    refine ev_geti (pc' := 93) (ki := 3) dX10_remember_90 rfl tf_10_61 sh78 rfl rfl ?_
    refine ev_iconst (pc' := 94) dX10_remember_93 rfl ?_
    refine ev_iadd (pc' := 95) dX10_remember_94 rfl ?_
    replace h := qbd h; obtain ⟨μ12, hμ12, h⟩ := h
    refine ev_puti (pc' := 98) dX10_remember_95 rfl tf_10_61 sh78 rfl rfl (qw_9_3 _) rfl hμ12 ?_
    cases h
    exact ev_return dX10_remember_98 rfl
  replace h := hy2
  clear hy2
  refine ev_icmpne (pc' := 9) (tgt := 52) dX10_remember_6 (by decide) rfl (x1 := wr (rd μ 78 3)) (y1 := 10) rfl wl_10  (fun c1 => ?_) (fun c1 => ?_)
  · replace h := qit c1 h
    refine ev_sipush (pc' := 12) dX10_remember_9 rfl sl_130 ?_
    refine ev_istore_n (pc' := 13) (L1 := [some (.ref 78), some (iv 130)]) dX10_remember_12 rfl rfl ?_
    replace h := qbd h; obtain ⟨y6, hy6, h⟩ := h
    refine ev_wk (qLe_eq (qLe_eq qLe_nil)) (?_ : Ev _ _ _ [some (.ref 78), some (iv 130)] _ _ _ _)
    refine ebX10_remember_13 _ _ _ hy6 _ _ ?_
    refine ev_aload_n (pc' := 43) dX10_remember_42 rfl rfl ?_
    refine ev_dup (pc' := 44) dX10_remember_43 rfl rfl ?_
    refine ev_geti (pc' := 47) (ki := 3) dX10_remember_44 rfl tf_10_61 sh78 rfl rfl ?_
    refine ev_iconst (pc' := 48) dX10_remember_47 rfl ?_
    refine ev_isub (pc' := 49) dX10_remember_48 rfl ?_
    replace h := qbd h; obtain ⟨μ7, hμ7, h⟩ := h
    refine ev_puti (pc' := 52) dX10_remember_49 rfl tf_10_61 sh78 rfl rfl (qw_9_3 _) rfl hμ7 ?_
    cases h
    exact ev_wk (qLe_eq (qLe_eq qLe_nil)) kJ
  · replace h := qif' c1 h
    cases h
    exact ev_wk (qLe_eq (qLe_eq qLe_nil)) kJ
set_option maxRecDepth 100000 in
theorem ebX10_undo_26 {Ls t d n : Nat} : ∀ (k : Nat) (x : Int × qMu) (y : qMu), lp (fun x : Int × qMu => bX10_undo_26 n x.1 x.2) k x = some y → ∀ (o : qO) (s' : qSt), Ev (d + 0) mX10_undo 60 [some (.ref 78), none] [] (cS Ls t y) o s' → Ev (d + 0) mX10_undo 26 [some (.ref 78), some (iv x.1)] [] (cS Ls t x.2) o s' := by
  intro k
  induction k with
  | zero => intro x y h; cases h
  | succ k ih =>
    intro x y h o s' kE
    rw [lp_s] at h
    replace h := qbd h; obtain ⟨zz, h0, h1⟩ := h
    have h : bX10_undo_26 n x.1 x.2 = some zz := h0
    clear h0
    unfold bX10_undo_26 at h
    refine ev_iload_n (pc' := 27) dX10_undo_26 rfl rfl ?_
    refine ev_sipush (pc' := 30) dX10_undo_27 rfl sl_130 ?_
    refine ev_icmpge (pc' := 33) (tgt := 60) dX10_undo_30 (by decide) rfl (x1 := wr x.1) (y1 := 130) rfl wl_130  (fun c4 => ?_) (fun c4 => ?_)
    · replace h := qit c4 h
      refine ev_aload_n (pc' := 34) dX10_undo_33 rfl rfl ?_
      refine ev_getr (pc' := 37) dX10_undo_34 rfl tf_10_7 sh78 rfl ?_
      refine ev_iload_n (pc' := 38) dX10_undo_37 rfl rfl ?_
      refine ev_aload_n (pc' := 39) dX10_undo_38 rfl rfl ?_
      refine ev_getr (pc' := 42) dX10_undo_39 rfl tf_10_16 sh78 rfl ?_
      refine ev_sipush (pc' := 45) dX10_undo_42 rfl sl_130 ?_
      refine ev_aload_n (pc' := 46) dX10_undo_45 rfl rfl ?_
      refine ev_geti (pc' := 49) (ki := 3) dX10_undo_46 rfl tf_10_61 sh78 rfl rfl ?_
      refine ev_imul (pc' := 50) dX10_undo_49 rfl ?_
      refine ev_iload_n (pc' := 51) dX10_undo_50 rfl rfl ?_
      refine ev_iadd (pc' := 52) dX10_undo_51 rfl ?_
      replace h := qbd h; obtain ⟨x5, hx5, h⟩ := h
      refine ev_iald (pc' := 53) dX10_undo_52 rfl sh81 hx5 ?_
      replace h := qbd h; obtain ⟨μ6, hμ6, h⟩ := h
      refine ev_iast (pc' := 54) dX10_undo_53 rfl sh79 hμ6 ?_
      refine ev_iinc (pc' := 57) (x := x.1) (L1 := [some (.ref 78), some (iv (x.1 + 1))]) dX10_undo_54 rfl rfl rfl ?_
      refine ev_goto (pc' := 26) dX10_undo_57 (by decide) ?_
      cases h
      exact ev_wk (qLe_eq (qLe_eq qLe_nil)) (ih _ _ h1 _ _ kE)
    · replace h := qif' c4 h
      cases h
      cases h1
      exact ev_wk (qLe_eq (qLe_sk qLe_nil)) kE
set_option maxRecDepth 100000 in
theorem eX10_undo {Ls t d n : Nat} {μ : qMu} {r : Int × qMu} (h : fX10_undo n μ = some r) : Ev (d + 0) mX10_undo 0 [some (.ref 78), none] [] (cS Ls t μ) (.inl (some (iv r.1))) (cS Ls t r.2) := by
  unfold fX10_undo at h
  refine ev_aload_n (pc' := 1) dX10_undo_0 rfl rfl ?_
  refine ev_iconst (pc' := 2) dX10_undo_1 rfl ?_
  replace h := qbd h; obtain ⟨μ1, hμ1, h⟩ := h
  refine ev_puti (pc' := 5) dX10_undo_2 rfl tf_10_54 sh78 rfl rfl (qw_9_4 _) rfl hμ1 ?_
  refine ev_aload_n (pc' := 6) dX10_undo_5 rfl rfl ?_
  refine ev_geti (pc' := 9) (ki := 3) dX10_undo_6 rfl tf_10_61 sh78 rfl rfl ?_
  refine ev_ifne (pc' := 12) (tgt := 14) dX10_undo_9 (by decide) rfl (x1 := wr (rd μ1 78 3)) rfl (fun c2 => ?_) (fun c2 => ?_)
  · replace h := qit c2 h
    refine ev_iconst (pc' := 13) dX10_undo_12 rfl ?_
    cases h
    exact ev_ireturn dX10_undo_13 rfl rfl
  · replace h := qif' c2 h
    refine ev_aload_n (pc' := 15) dX10_undo_14 rfl rfl ?_
    refine ev_dup (pc' := 16) dX10_undo_15 rfl rfl ?_
    refine ev_geti (pc' := 19) (ki := 3) dX10_undo_16 rfl tf_10_61 sh78 rfl rfl ?_
    refine ev_iconst (pc' := 20) dX10_undo_19 rfl ?_
    refine ev_isub (pc' := 21) dX10_undo_20 rfl ?_
    replace h := qbd h; obtain ⟨μ3, hμ3, h⟩ := h
    refine ev_puti (pc' := 24) dX10_undo_21 rfl tf_10_61 sh78 rfl rfl (qw_9_3 _) rfl hμ3 ?_
    refine ev_iconst (pc' := 25) dX10_undo_24 rfl ?_
    refine ev_istore_n (pc' := 26) (L1 := [some (.ref 78), some (iv 0)]) dX10_undo_25 rfl rfl ?_
    replace h := qbd h; obtain ⟨y7, hy7, h⟩ := h
    refine ev_wk (qLe_eq (qLe_eq qLe_nil)) (?_ : Ev _ _ _ [some (.ref 78), some (iv 0)] _ _ _ _)
    refine ebX10_undo_26 _ _ _ hy7 _ _ ?_
    refine ev_aload_n (pc' := 61) dX10_undo_60 rfl rfl ?_
    refine ev_geti (pc' := 64) (ki := 3) dX10_undo_61 rfl tf_10_61 sh78 rfl rfl ?_
    cases h
    exact ev_ireturn dX10_undo_64 rfl rfl
set_option maxRecDepth 100000 in
theorem ebX10_putAside_2 {Ls t d n : Nat} : ∀ (k : Nat) (x : Int × qMu) (y : qMu), lp (fun x : Int × qMu => bX10_putAside_2 n x.1 x.2) k x = some y → ∀ (o : qO) (s' : qSt), Ev (d + 0) mX10_putAside 27 [none, none] [] (cS Ls t y) o s' → Ev (d + 0) mX10_putAside 2 [some (.ref 78), some (iv x.1)] [] (cS Ls t x.2) o s' := by
  intro k
  induction k with
  | zero => intro x y h; cases h
  | succ k ih =>
    intro x y h o s' kE
    rw [lp_s] at h
    replace h := qbd h; obtain ⟨zz, h0, h1⟩ := h
    have h : bX10_putAside_2 n x.1 x.2 = some zz := h0
    clear h0
    unfold bX10_putAside_2 at h
    refine ev_iload_n (pc' := 3) dX10_putAside_2 rfl rfl ?_
    refine ev_sipush (pc' := 6) dX10_putAside_3 rfl sl_130 ?_
    refine ev_icmpge (pc' := 9) (tgt := 27) dX10_putAside_6 (by decide) rfl (x1 := wr x.1) (y1 := 130) rfl wl_130  (fun c1 => ?_) (fun c1 => ?_)
    · replace h := qit c1 h
      refine ev_aload_n (pc' := 10) dX10_putAside_9 rfl rfl ?_
      refine ev_getr (pc' := 13) dX10_putAside_10 rfl tf_10_13 sh78 rfl ?_
      refine ev_iload_n (pc' := 14) dX10_putAside_13 rfl rfl ?_
      refine ev_aload_n (pc' := 15) dX10_putAside_14 rfl rfl ?_
      refine ev_getr (pc' := 18) dX10_putAside_15 rfl tf_10_7 sh78 rfl ?_
      refine ev_iload_n (pc' := 19) dX10_putAside_18 rfl rfl ?_
      replace h := qbd h; obtain ⟨x2, hx2, h⟩ := h
      refine ev_iald (pc' := 20) dX10_putAside_19 rfl sh79 hx2 ?_
      replace h := qbd h; obtain ⟨μ3, hμ3, h⟩ := h
      refine ev_iast (pc' := 21) dX10_putAside_20 rfl sh80 hμ3 ?_
      refine ev_iinc (pc' := 24) (x := x.1) (L1 := [some (.ref 78), some (iv (x.1 + 1))]) dX10_putAside_21 rfl rfl rfl ?_
      refine ev_goto (pc' := 2) dX10_putAside_24 (by decide) ?_
      cases h
      exact ev_wk (qLe_eq (qLe_eq qLe_nil)) (ih _ _ h1 _ _ kE)
    · replace h := qif' c1 h
      cases h
      cases h1
      exact ev_wk (qLe_sk (qLe_sk qLe_nil)) kE
set_option maxRecDepth 100000 in
theorem eX10_putAside {Ls t d n : Nat} {μ : qMu} {r : qMu} (h : fX10_putAside n μ = some r) : Ev (d + 0) mX10_putAside 0 [some (.ref 78), none] [] (cS Ls t μ) (.inl none) (cS Ls t r) := by
  unfold fX10_putAside at h
  refine ev_iconst (pc' := 1) dX10_putAside_0 rfl ?_
  refine ev_istore_n (pc' := 2) (L1 := [some (.ref 78), some (iv 0)]) dX10_putAside_1 rfl rfl ?_
  replace h := qbd h; obtain ⟨y4, hy4, h⟩ := h
  refine ev_wk (qLe_eq (qLe_eq qLe_nil)) (?_ : Ev _ _ _ [some (.ref 78), some (iv 0)] _ _ _ _)
  refine ebX10_putAside_2 _ _ _ hy4 _ _ ?_
  cases h
  exact ev_return dX10_putAside_27 rfl
set_option maxRecDepth 100000 in
theorem ebX10_layBack_2 {Ls t d n : Nat} : ∀ (k : Nat) (x : Int × qMu) (y : qMu), lp (fun x : Int × qMu => bX10_layBack_2 n x.1 x.2) k x = some y → ∀ (o : qO) (s' : qSt), Ev (d + 0) mX10_layBack 27 [none, none] [] (cS Ls t y) o s' → Ev (d + 0) mX10_layBack 2 [some (.ref 78), some (iv x.1)] [] (cS Ls t x.2) o s' := by
  intro k
  induction k with
  | zero => intro x y h; cases h
  | succ k ih =>
    intro x y h o s' kE
    rw [lp_s] at h
    replace h := qbd h; obtain ⟨zz, h0, h1⟩ := h
    have h : bX10_layBack_2 n x.1 x.2 = some zz := h0
    clear h0
    unfold bX10_layBack_2 at h
    refine ev_iload_n (pc' := 3) dX10_layBack_2 rfl rfl ?_
    refine ev_sipush (pc' := 6) dX10_layBack_3 rfl sl_130 ?_
    refine ev_icmpge (pc' := 9) (tgt := 27) dX10_layBack_6 (by decide) rfl (x1 := wr x.1) (y1 := 130) rfl wl_130  (fun c1 => ?_) (fun c1 => ?_)
    · replace h := qit c1 h
      refine ev_aload_n (pc' := 10) dX10_layBack_9 rfl rfl ?_
      refine ev_getr (pc' := 13) dX10_layBack_10 rfl tf_10_7 sh78 rfl ?_
      refine ev_iload_n (pc' := 14) dX10_layBack_13 rfl rfl ?_
      refine ev_aload_n (pc' := 15) dX10_layBack_14 rfl rfl ?_
      refine ev_getr (pc' := 18) dX10_layBack_15 rfl tf_10_13 sh78 rfl ?_
      refine ev_iload_n (pc' := 19) dX10_layBack_18 rfl rfl ?_
      replace h := qbd h; obtain ⟨x2, hx2, h⟩ := h
      refine ev_iald (pc' := 20) dX10_layBack_19 rfl sh80 hx2 ?_
      replace h := qbd h; obtain ⟨μ3, hμ3, h⟩ := h
      refine ev_iast (pc' := 21) dX10_layBack_20 rfl sh79 hμ3 ?_
      refine ev_iinc (pc' := 24) (x := x.1) (L1 := [some (.ref 78), some (iv (x.1 + 1))]) dX10_layBack_21 rfl rfl rfl ?_
      refine ev_goto (pc' := 2) dX10_layBack_24 (by decide) ?_
      cases h
      exact ev_wk (qLe_eq (qLe_eq qLe_nil)) (ih _ _ h1 _ _ kE)
    · replace h := qif' c1 h
      cases h
      cases h1
      exact ev_wk (qLe_sk (qLe_sk qLe_nil)) kE
set_option maxRecDepth 100000 in
theorem eX10_layBack {Ls t d n : Nat} {μ : qMu} {r : qMu} (h : fX10_layBack n μ = some r) : Ev (d + 0) mX10_layBack 0 [some (.ref 78), none] [] (cS Ls t μ) (.inl none) (cS Ls t r) := by
  unfold fX10_layBack at h
  refine ev_iconst (pc' := 1) dX10_layBack_0 rfl ?_
  refine ev_istore_n (pc' := 2) (L1 := [some (.ref 78), some (iv 0)]) dX10_layBack_1 rfl rfl ?_
  replace h := qbd h; obtain ⟨y4, hy4, h⟩ := h
  refine ev_wk (qLe_eq (qLe_eq qLe_nil)) (?_ : Ev _ _ _ [some (.ref 78), some (iv 0)] _ _ _ _)
  refine ebX10_layBack_2 _ _ _ hy4 _ _ ?_
  cases h
  exact ev_return dX10_layBack_27 rfl
set_option maxRecDepth 100000 in
theorem eX10_at {Ls t d : Nat} {p0 : Int} {p1 : Int} {p2 : Int} {μ : qMu} {r : Int} (h : fX10_at p0 p1 p2 μ = some r) : Ev (d + 0) mX10_at 0 [some (iv p0), some (iv p1), some (iv p2)] [] (cS Ls t μ) (.inl (some (iv r))) (cS Ls t μ) := by
  unfold fX10_at at h
  refine ev_iload_n (pc' := 1) dX10_at_0 rfl rfl ?_
  refine ev_bipush (pc' := 3) dX10_at_1 rfl bl_8 ?_
  refine ev_iload_n (pc' := 4) dX10_at_3 rfl rfl ?_
  refine ev_imul (pc' := 5) dX10_at_4 rfl ?_
  refine ev_iadd (pc' := 6) dX10_at_5 rfl ?_
  refine ev_iload_n (pc' := 7) dX10_at_6 rfl rfl ?_
  refine ev_iadd (pc' := 8) dX10_at_7 rfl ?_
  cases h
  exact ev_ireturn dX10_at_8 rfl rfl
set_option maxRecDepth 100000 in
theorem eX10_many {Ls t d : Nat} {p0 : Int} {p1 : Int} {p2 : Int} {μ : qMu} {r : Int} (h : fX10_many p0 p1 p2 μ = some r) : Ev (d + 1) mX10_many 0 [some (.ref 78), some (iv p0), some (iv p1), some (iv p2)] [] (cS Ls t μ) (.inl (some (iv r))) (cS Ls t μ) := by
  unfold fX10_many at h
  refine ev_aload_n (pc' := 1) dX10_many_0 rfl rfl ?_
  refine ev_getr (pc' := 4) dX10_many_1 rfl tf_10_7 sh78 rfl ?_
  refine ev_iload_n (pc' := 5) dX10_many_4 rfl rfl ?_
  refine ev_iload_n (pc' := 6) dX10_many_5 rfl rfl ?_
  refine ev_iload_n (pc' := 7) dX10_many_6 rfl rfl ?_
  replace h := qbd h; obtain ⟨y1, hy1, h⟩ := h
  refine ev_callg (pc' := 10) (st2 := [iv y1, .ref 79]) dX10_many_7 (qs_S tc_10_64 (by decide) rfl rfl) rfl rfl (eX10_at (d := d + 0) hy1) rfl rfl ?_
  replace h := qbd h; obtain ⟨x2, hx2, h⟩ := h
  refine ev_iald (pc' := 11) dX10_many_10 rfl sh79 hx2 ?_
  cases h
  exact ev_ireturn dX10_many_11 rfl rfl
set_option maxRecDepth 100000 in
theorem eX10_adds {Ls t d : Nat} {p0 : Int} {p1 : Int} {p2 : Int} {p3 : Int} {μ : qMu} {r : qMu} (h : fX10_adds p0 p1 p2 p3 μ = some r) : Ev (d + 1) mX10_adds 0 [some (.ref 78), some (iv p0), some (iv p1), some (iv p2), some (iv p3)] [] (cS Ls t μ) (.inl none) (cS Ls t r) := by
  unfold fX10_adds at h
  refine ev_aload_n (pc' := 1) dX10_adds_0 rfl rfl ?_
  refine ev_getr (pc' := 4) dX10_adds_1 rfl tf_10_7 sh78 rfl ?_
  refine ev_iload_n (pc' := 5) dX10_adds_4 rfl rfl ?_
  refine ev_iload_n (pc' := 6) dX10_adds_5 rfl rfl ?_
  refine ev_iload_n (pc' := 7) dX10_adds_6 rfl rfl ?_
  replace h := qbd h; obtain ⟨y1, hy1, h⟩ := h
  refine ev_callg (pc' := 10) (st2 := [iv y1, .ref 79]) dX10_adds_7 (qs_S tc_10_64 (by decide) rfl rfl) rfl rfl (eX10_at (d := d + 0) hy1) rfl rfl ?_
  refine ev_dup2 (pc' := 11) dX10_adds_10 rfl ⟨rfl, rfl⟩ ?_
  replace h := qbd h; obtain ⟨x2, hx2, h⟩ := h
  refine ev_iald (pc' := 12) dX10_adds_11 rfl sh79 hx2 ?_
  refine ev_iload (pc' := 14) dX10_adds_12 rfl rfl ?_
  refine ev_iadd (pc' := 15) dX10_adds_14 rfl ?_
  replace h := qbd h; obtain ⟨μ3, hμ3, h⟩ := h
  refine ev_iast (pc' := 16) dX10_adds_15 rfl sh79 hμ3 ?_
  refine ev_iload_n (pc' := 17) dX10_adds_16 rfl rfl ?_
  refine ev_iload_n (pc' := 18) dX10_adds_17 rfl rfl ?_
  refine ev_icmpeq (pc' := 21) (tgt := 37) dX10_adds_18 (by decide) rfl (x1 := wr p1) (y1 := wr p2) rfl rfl  (fun c4 => ?_) (fun c4 => ?_)
  · replace h := qit c4 h
    cases h
    exact ev_return dX10_adds_37 rfl
  · replace h := qif' c4 h
    refine ev_aload_n (pc' := 22) dX10_adds_21 rfl rfl ?_
    refine ev_getr (pc' := 25) dX10_adds_22 rfl tf_10_7 sh78 rfl ?_
    refine ev_iload_n (pc' := 26) dX10_adds_25 rfl rfl ?_
    refine ev_iload_n (pc' := 27) dX10_adds_26 rfl rfl ?_
    refine ev_iload_n (pc' := 28) dX10_adds_27 rfl rfl ?_
    replace h := qbd h; obtain ⟨y5, hy5, h⟩ := h
    refine ev_callg (pc' := 31) (st2 := [iv y5, .ref 79]) dX10_adds_28 (qs_S tc_10_64 (by decide) rfl rfl) rfl rfl (eX10_at (d := d + 0) hy5) rfl rfl ?_
    refine ev_dup2 (pc' := 32) dX10_adds_31 rfl ⟨rfl, rfl⟩ ?_
    replace h := qbd h; obtain ⟨x6, hx6, h⟩ := h
    refine ev_iald (pc' := 33) dX10_adds_32 rfl sh79 hx6 ?_
    refine ev_iload (pc' := 35) dX10_adds_33 rfl rfl ?_
    refine ev_iadd (pc' := 36) dX10_adds_35 rfl ?_
    replace h := qbd h; obtain ⟨μ7, hμ7, h⟩ := h
    refine ev_iast (pc' := 37) dX10_adds_36 rfl sh79 hμ7 ?_
    cases h
    exact ev_return dX10_adds_37 rfl
set_option maxRecDepth 100000 in
theorem ebX10_empties_2 {Ls t d n : Nat} {w1 : Int} : ∀ (k : Nat) (x : Int × qMu) (y : qMu), lp (fun x : Int × qMu => bX10_empties_2 n w1 x.1 x.2) k x = some y → ∀ (o : qO) (s' : qSt), Ev (d + 0) mX10_empties 23 [none, none, none] [] (cS Ls t y) o s' → Ev (d + 0) mX10_empties 2 [some (.ref 78), some (iv w1), some (iv x.1)] [] (cS Ls t x.2) o s' := by
  intro k
  induction k with
  | zero => intro x y h; cases h
  | succ k ih =>
    intro x y h o s' kE
    rw [lp_s] at h
    replace h := qbd h; obtain ⟨zz, h0, h1⟩ := h
    have h : bX10_empties_2 n w1 x.1 x.2 = some zz := h0
    clear h0
    unfold bX10_empties_2 at h
    refine ev_iload_n (pc' := 3) dX10_empties_2 rfl rfl ?_
    refine ev_bipush (pc' := 5) dX10_empties_3 rfl bl_64 ?_
    refine ev_icmpge (pc' := 8) (tgt := 23) dX10_empties_5 (by decide) rfl (x1 := wr x.1) (y1 := 64) rfl wl_64  (fun c1 => ?_) (fun c1 => ?_)
    · replace h := qit c1 h
      refine ev_aload_n (pc' := 9) dX10_empties_8 rfl rfl ?_
      refine ev_getr (pc' := 12) dX10_empties_9 rfl tf_10_7 sh78 rfl ?_
      refine ev_iload_n (pc' := 13) dX10_empties_12 rfl rfl ?_
      refine ev_iload_n (pc' := 14) dX10_empties_13 rfl rfl ?_
      refine ev_iadd (pc' := 15) dX10_empties_14 rfl ?_
      refine ev_iconst (pc' := 16) dX10_empties_15 rfl ?_
      replace h := qbd h; obtain ⟨μ2, hμ2, h⟩ := h
      refine ev_iast (pc' := 17) dX10_empties_16 rfl sh79 hμ2 ?_
      refine ev_iinc (pc' := 20) (x := x.1) (L1 := [some (.ref 78), some (iv w1), some (iv (x.1 + 1))]) dX10_empties_17 rfl rfl rfl ?_
      refine ev_goto (pc' := 2) dX10_empties_20 (by decide) ?_
      cases h
      exact ev_wk (qLe_eq (qLe_eq (qLe_eq qLe_nil))) (ih _ _ h1 _ _ kE)
    · replace h := qif' c1 h
      cases h
      cases h1
      exact ev_wk (qLe_sk (qLe_sk (qLe_sk qLe_nil))) kE
set_option maxRecDepth 100000 in
theorem eX10_empties {Ls t d n : Nat} {p0 : Int} {μ : qMu} {r : qMu} (h : fX10_empties n p0 μ = some r) : Ev (d + 0) mX10_empties 0 [some (.ref 78), some (iv p0), none] [] (cS Ls t μ) (.inl none) (cS Ls t r) := by
  unfold fX10_empties at h
  refine ev_iconst (pc' := 1) dX10_empties_0 rfl ?_
  refine ev_istore_n (pc' := 2) (L1 := [some (.ref 78), some (iv p0), some (iv 0)]) dX10_empties_1 rfl rfl ?_
  replace h := qbd h; obtain ⟨y3, hy3, h⟩ := h
  refine ev_wk (qLe_eq (qLe_eq (qLe_eq qLe_nil))) (?_ : Ev _ _ _ [some (.ref 78), some (iv p0), some (iv 0)] _ _ _ _)
  refine ebX10_empties_2 _ _ _ hy3 _ _ ?_
  cases h
  exact ev_return dX10_empties_23 rfl
set_option maxRecDepth 100000 in
theorem ebX10_edgesOf_13 {Ls t d n : Nat} {w1 : Int} {w3 : Int} {μ : qMu} : ∀ (k : Nat) (x : Int × Int) (y : Int), lp (fun x : Int × Int => bX10_edgesOf_13 n w1 w3 x.1 x.2 μ) k x = some y → ∀ (o : qO) (s' : qSt), Ev (d + 2) mX10_edgesOf 37 [some (.ref 78), some (iv w1), some (iv y), some (iv w3), none] [] (cS Ls t μ) o s' → Ev (d + 2) mX10_edgesOf 13 [some (.ref 78), some (iv w1), some (iv x.1), some (iv w3), some (iv x.2)] [] (cS Ls t μ) o s' := by
  intro k
  induction k with
  | zero => intro x y h; cases h
  | succ k ih =>
    intro x y h o s' kE
    rw [lp_s] at h
    replace h := qbd h; obtain ⟨zz, h0, h1⟩ := h
    have h : bX10_edgesOf_13 n w1 w3 x.1 x.2 μ = some zz := h0
    clear h0
    unfold bX10_edgesOf_13 at h
    refine ev_iload (pc' := 15) dX10_edgesOf_13 rfl rfl ?_
    refine ev_bipush (pc' := 17) dX10_edgesOf_15 rfl bl_8 ?_
    refine ev_icmpge (pc' := 20) (tgt := 37) dX10_edgesOf_17 (by decide) rfl (x1 := wr x.2) (y1 := 8) rfl wl_8  (fun c2 => ?_) (fun c2 => ?_)
    · replace h := qit c2 h
      refine ev_iload_n (pc' := 21) dX10_edgesOf_20 rfl rfl ?_
      refine ev_aload_n (pc' := 22) dX10_edgesOf_21 rfl rfl ?_
      refine ev_iload_n (pc' := 23) dX10_edgesOf_22 rfl rfl ?_
      refine ev_iload_n (pc' := 24) dX10_edgesOf_23 rfl rfl ?_
      refine ev_iload (pc' := 26) dX10_edgesOf_24 rfl rfl ?_
      replace h := qbd h; obtain ⟨y3, hy3, h⟩ := h
      refine ev_callg (pc' := 29) (st2 := [iv y3, iv x.1]) dX10_edgesOf_26 (qs_V tc_10_68 rfl rfl (cS_cls sh78) rfl) rfl rfl (eX10_many (d := d + 0) hy3) rfl rfl ?_
      refine ev_iadd (pc' := 30) dX10_edgesOf_29 rfl ?_
      refine ev_istore_n (pc' := 31) (L1 := [some (.ref 78), some (iv w1), some (iv (x.1 + y3)), some (iv w3), some (iv x.2)]) dX10_edgesOf_30 rfl rfl ?_
      refine ev_iinc (pc' := 34) (x := x.2) (L1 := [some (.ref 78), some (iv w1), some (iv (x.1 + y3)), some (iv w3), some (iv (x.2 + 1))]) dX10_edgesOf_31 rfl rfl rfl ?_
      refine ev_goto (pc' := 13) dX10_edgesOf_34 (by decide) ?_
      cases h
      exact ev_wk (qLe_eq (qLe_eq (qLe_eq (qLe_eq (qLe_eq qLe_nil))))) (ih _ _ h1 _ _ kE)
    · replace h := qif' c2 h
      cases h
      cases h1
      exact ev_wk (qLe_eq (qLe_eq (qLe_eq (qLe_eq (qLe_sk qLe_nil))))) kE
set_option maxRecDepth 100000 in
theorem ebX10_edgesOf_4 {Ls t d n : Nat} {w1 : Int} {μ : qMu} : ∀ (k : Nat) (x : Int × Int) (y : Int), lp (fun x : Int × Int => bX10_edgesOf_4 n w1 x.1 x.2 μ) k x = some y → ∀ (o : qO) (s' : qSt), Ev (d + 2) mX10_edgesOf 43 [none, none, some (iv y), none, none] [] (cS Ls t μ) o s' → Ev (d + 2) mX10_edgesOf 4 [some (.ref 78), some (iv w1), some (iv x.1), some (iv x.2), none] [] (cS Ls t μ) o s' := by
  intro k
  induction k with
  | zero => intro x y h; cases h
  | succ k ih =>
    intro x y h o s' kE
    rw [lp_s] at h
    replace h := qbd h; obtain ⟨zz, h0, h1⟩ := h
    have h : bX10_edgesOf_4 n w1 x.1 x.2 μ = some zz := h0
    clear h0
    unfold bX10_edgesOf_4 at h
    refine ev_iload_n (pc' := 5) dX10_edgesOf_4 rfl rfl ?_
    refine ev_bipush (pc' := 7) dX10_edgesOf_5 rfl bl_8 ?_
    refine ev_icmpge (pc' := 10) (tgt := 43) dX10_edgesOf_7 (by decide) rfl (x1 := wr x.2) (y1 := 8) rfl wl_8  (fun c1 => ?_) (fun c1 => ?_)
    · replace h := qit c1 h
      refine ev_iload_n (pc' := 11) dX10_edgesOf_10 rfl rfl ?_
      refine ev_istore (pc' := 13) (L1 := [some (.ref 78), some (iv w1), some (iv x.1), some (iv x.2), some (iv x.2)]) dX10_edgesOf_11 rfl rfl ?_
      replace h := qbd h; obtain ⟨y4, hy4, h⟩ := h
      refine ev_wk (qLe_eq (qLe_eq (qLe_eq (qLe_eq (qLe_eq qLe_nil))))) (?_ : Ev _ _ _ [some (.ref 78), some (iv w1), some (iv x.1), some (iv x.2), some (iv x.2)] _ _ _ _)
      refine ebX10_edgesOf_13 _ _ _ hy4 _ _ ?_
      refine ev_iinc (pc' := 40) (x := x.2) (L1 := [some (.ref 78), some (iv w1), some (iv y4), some (iv (x.2 + 1)), none]) dX10_edgesOf_37 rfl rfl rfl ?_
      refine ev_goto (pc' := 4) dX10_edgesOf_40 (by decide) ?_
      cases h
      exact ev_wk (qLe_eq (qLe_eq (qLe_eq (qLe_eq (qLe_eq qLe_nil))))) (ih _ _ h1 _ _ kE)
    · replace h := qif' c1 h
      cases h
      cases h1
      exact ev_wk (qLe_sk (qLe_sk (qLe_eq (qLe_sk (qLe_eq qLe_nil))))) kE
set_option maxRecDepth 100000 in
theorem eX10_edgesOf {Ls t d n : Nat} {p0 : Int} {μ : qMu} {r : Int} (h : fX10_edgesOf n p0 μ = some r) : Ev (d + 2) mX10_edgesOf 0 [some (.ref 78), some (iv p0), none, none, none] [] (cS Ls t μ) (.inl (some (iv r))) (cS Ls t μ) := by
  unfold fX10_edgesOf at h
  refine ev_iconst (pc' := 1) dX10_edgesOf_0 rfl ?_
  refine ev_istore_n (pc' := 2) (L1 := [some (.ref 78), some (iv p0), some (iv 0), none, none]) dX10_edgesOf_1 rfl rfl ?_
  refine ev_iconst (pc' := 3) dX10_edgesOf_2 rfl ?_
  refine ev_istore_n (pc' := 4) (L1 := [some (.ref 78), some (iv p0), some (iv 0), some (iv 0), none]) dX10_edgesOf_3 rfl rfl ?_
  replace h := qbd h; obtain ⟨y5, hy5, h⟩ := h
  refine ev_wk (qLe_eq (qLe_eq (qLe_eq (qLe_eq (qLe_eq qLe_nil))))) (?_ : Ev _ _ _ [some (.ref 78), some (iv p0), some (iv 0), some (iv 0), none] _ _ _ _)
  refine ebX10_edgesOf_4 _ _ _ hy5 _ _ ?_
  refine ev_iload_n (pc' := 44) dX10_edgesOf_43 rfl rfl ?_
  cases h
  exact ev_ireturn dX10_edgesOf_44 rfl rfl
set_option maxRecDepth 100000 in
theorem ebX10_degreeOf_11 {Ls t d n : Nat} {w1 : Int} {w2 : Int} {μ : qMu} : ∀ (k : Nat) (x : Int × Int) (y : Int), lp (fun x : Int × Int => bX10_degreeOf_11 n w1 w2 x.1 x.2 μ) k x = some y → ∀ (o : qO) (s' : qSt), Ev (d + 2) mX10_degreeOf 35 [none, none, none, some (iv y), none] [] (cS Ls t μ) o s' → Ev (d + 2) mX10_degreeOf 11 [some (.ref 78), some (iv w1), some (iv w2), some (iv x.1), some (iv x.2)] [] (cS Ls t μ) o s' := by
  intro k
  induction k with
  | zero => intro x y h; cases h
  | succ k ih =>
    intro x y h o s' kE
    rw [lp_s] at h
    replace h := qbd h; obtain ⟨zz, h0, h1⟩ := h
    have h : bX10_degreeOf_11 n w1 w2 x.1 x.2 μ = some zz := h0
    clear h0
    unfold bX10_degreeOf_11 at h
    refine ev_iload (pc' := 13) dX10_degreeOf_11 rfl rfl ?_
    refine ev_bipush (pc' := 15) dX10_degreeOf_13 rfl bl_8 ?_
    refine ev_icmpge (pc' := 18) (tgt := 35) dX10_degreeOf_15 (by decide) rfl (x1 := wr x.2) (y1 := 8) rfl wl_8  (fun c2 => ?_) (fun c2 => ?_)
    · replace h := qit c2 h
      refine ev_iload_n (pc' := 19) dX10_degreeOf_18 rfl rfl ?_
      refine ev_aload_n (pc' := 20) dX10_degreeOf_19 rfl rfl ?_
      refine ev_iload_n (pc' := 21) dX10_degreeOf_20 rfl rfl ?_
      refine ev_iload_n (pc' := 22) dX10_degreeOf_21 rfl rfl ?_
      refine ev_iload (pc' := 24) dX10_degreeOf_22 rfl rfl ?_
      replace h := qbd h; obtain ⟨y3, hy3, h⟩ := h
      refine ev_callg (pc' := 27) (st2 := [iv y3, iv x.1]) dX10_degreeOf_24 (qs_V tc_10_68 rfl rfl (cS_cls sh78) rfl) rfl rfl (eX10_many (d := d + 0) hy3) rfl rfl ?_
      refine ev_iadd (pc' := 28) dX10_degreeOf_27 rfl ?_
      refine ev_istore_n (pc' := 29) (L1 := [some (.ref 78), some (iv w1), some (iv w2), some (iv (x.1 + y3)), some (iv x.2)]) dX10_degreeOf_28 rfl rfl ?_
      refine ev_iinc (pc' := 32) (x := x.2) (L1 := [some (.ref 78), some (iv w1), some (iv w2), some (iv (x.1 + y3)), some (iv (x.2 + 1))]) dX10_degreeOf_29 rfl rfl rfl ?_
      refine ev_goto (pc' := 11) dX10_degreeOf_32 (by decide) ?_
      cases h
      exact ev_wk (qLe_eq (qLe_eq (qLe_eq (qLe_eq (qLe_eq qLe_nil))))) (ih _ _ h1 _ _ kE)
    · replace h := qif' c2 h
      cases h
      cases h1
      exact ev_wk (qLe_sk (qLe_sk (qLe_sk (qLe_eq (qLe_sk qLe_nil))))) kE
set_option maxRecDepth 100000 in
theorem eX10_degreeOf {Ls t d n : Nat} {p0 : Int} {p1 : Int} {μ : qMu} {r : Int} (h : fX10_degreeOf n p0 p1 μ = some r) : Ev (d + 2) mX10_degreeOf 0 [some (.ref 78), some (iv p0), some (iv p1), none, none] [] (cS Ls t μ) (.inl (some (iv r))) (cS Ls t μ) := by
  unfold fX10_degreeOf at h
  refine ev_aload_n (pc' := 1) dX10_degreeOf_0 rfl rfl ?_
  refine ev_iload_n (pc' := 2) dX10_degreeOf_1 rfl rfl ?_
  refine ev_iload_n (pc' := 3) dX10_degreeOf_2 rfl rfl ?_
  refine ev_iload_n (pc' := 4) dX10_degreeOf_3 rfl rfl ?_
  replace h := qbd h; obtain ⟨y1, hy1, h⟩ := h
  refine ev_callg (pc' := 7) (st2 := [iv y1]) dX10_degreeOf_4 (qs_V tc_10_68 rfl rfl (cS_cls sh78) rfl) rfl rfl (eX10_many (d := d + 0) hy1) rfl rfl ?_
  refine ev_istore_n (pc' := 8) (L1 := [some (.ref 78), some (iv p0), some (iv p1), some (iv y1), none]) dX10_degreeOf_7 rfl rfl ?_
  refine ev_iconst (pc' := 9) dX10_degreeOf_8 rfl ?_
  refine ev_istore (pc' := 11) (L1 := [some (.ref 78), some (iv p0), some (iv p1), some (iv y1), some (iv 0)]) dX10_degreeOf_9 rfl rfl ?_
  replace h := qbd h; obtain ⟨y4, hy4, h⟩ := h
  refine ev_wk (qLe_eq (qLe_eq (qLe_eq (qLe_eq (qLe_eq qLe_nil))))) (?_ : Ev _ _ _ [some (.ref 78), some (iv p0), some (iv p1), some (iv y1), some (iv 0)] _ _ _ _)
  refine ebX10_degreeOf_11 _ _ _ hy4 _ _ ?_
  refine ev_iload_n (pc' := 36) dX10_degreeOf_35 rfl rfl ?_
  cases h
  exact ev_ireturn dX10_degreeOf_36 rfl rfl
set_option maxRecDepth 100000 in
theorem ebX10_append_3 {Ls t d n : Nat} {w1 : Int} : ∀ (k : Nat) (x : Int × qMu) (y : qMu), lp (fun x : Int × qMu => bX10_append_3 n w1 x.1 x.2) k x = some y → ∀ (o : qO) (s' : qSt), Ev (d + 0) mX10_append 39 [none, none, none] [] (cS Ls t y) o s' → Ev (d + 0) mX10_append 3 [some (.ref 78), some (iv w1), some (iv x.1)] [] (cS Ls t x.2) o s' := by
  intro k
  induction k with
  | zero => intro x y h; cases h
  | succ k ih =>
    intro x y h o s' kE
    rw [lp_s] at h
    replace h := qbd h; obtain ⟨zz, h0, h1⟩ := h
    have h : bX10_append_3 n w1 x.1 x.2 = some zz := h0
    clear h0
    unfold bX10_append_3 at h
    refine ev_iload_n (pc' := 4) dX10_append_3 rfl rfl ?_
    refine ev_iflt (pc' := 7) (tgt := 39) dX10_append_4 (by decide) rfl (x1 := wr x.1) rfl (fun c1 => ?_) (fun c1 => ?_)
    · replace h := qit c1 h
      cases h
      cases h1
      exact ev_wk (qLe_sk (qLe_sk (qLe_sk qLe_nil))) kE
    · replace h := qif' c1 h
      refine ev_aload_n (pc' := 8) dX10_append_7 rfl rfl ?_
      refine ev_getr (pc' := 11) dX10_append_8 rfl tf_10_19 sh78 rfl ?_
      refine ev_aload_n (pc' := 12) dX10_append_11 rfl rfl ?_
      refine ev_geti (pc' := 15) (ki := 6) dX10_append_12 rfl tf_10_71 sh78 rfl rfl ?_
      refine ev_iload_n (pc' := 16) dX10_append_15 rfl rfl ?_
      refine ev_iload_n (pc' := 17) dX10_append_16 rfl rfl ?_
      refine ev_iushr (pc' := 18) dX10_append_17 rfl ?_
      refine ev_sipush (pc' := 21) dX10_append_18 rfl sl_255 ?_
      refine ev_iand (pc' := 22) dX10_append_21 rfl ?_
      replace h := qbd h; obtain ⟨μ2, hμ2, h⟩ := h
      refine ev_iast (pc' := 23) dX10_append_22 rfl sh82 hμ2 ?_
      refine ev_aload_n (pc' := 24) dX10_append_23 rfl rfl ?_
      refine ev_dup (pc' := 25) dX10_append_24 rfl rfl ?_
      refine ev_geti (pc' := 28) (ki := 6) dX10_append_25 rfl tf_10_71 sh78 rfl rfl ?_
      refine ev_iconst (pc' := 29) dX10_append_28 rfl ?_
      refine ev_iadd (pc' := 30) dX10_append_29 rfl ?_
      replace h := qbd h; obtain ⟨μ3, hμ3, h⟩ := h
      refine ev_puti (pc' := 33) dX10_append_30 rfl tf_10_71 sh78 rfl rfl (qw_9_6 _) rfl hμ3 ?_
      refine ev_iinc (pc' := 36) (x := x.1) (L1 := [some (.ref 78), some (iv w1), some (iv (x.1 + (-8)))]) dX10_append_33 rfl rfl rfl ?_
      refine ev_goto (pc' := 3) dX10_append_36 (by decide) ?_
      cases h
      exact ev_wk (qLe_eq (qLe_eq (qLe_eq qLe_nil))) (ih _ _ h1 _ _ kE)
set_option maxRecDepth 100000 in
theorem eX10_append {Ls t d n : Nat} {p0 : Int} {μ : qMu} {r : qMu} (h : fX10_append n p0 μ = some r) : Ev (d + 0) mX10_append 0 [some (.ref 78), some (iv p0), none] [] (cS Ls t μ) (.inl none) (cS Ls t r) := by
  unfold fX10_append at h
  refine ev_bipush (pc' := 2) dX10_append_0 rfl bl_24 ?_
  refine ev_istore_n (pc' := 3) (L1 := [some (.ref 78), some (iv p0), some (iv 24)]) dX10_append_2 rfl rfl ?_
  replace h := qbd h; obtain ⟨y4, hy4, h⟩ := h
  refine ev_wk (qLe_eq (qLe_eq (qLe_eq qLe_nil))) (?_ : Ev _ _ _ [some (.ref 78), some (iv p0), some (iv 24)] _ _ _ _)
  refine ebX10_append_3 _ _ _ hy4 _ _ ?_
  cases h
  exact ev_return dX10_append_39 rfl
set_option maxRecDepth 100000 in
theorem eX10_feed {Ls t d n : Nat} {p0 : Int} {p1 : Int} {p2 : Int} {p3 : Int} {p4 : Int} {μ : qMu} {r : Int × qMu} (h : fX10_feed n p0 p1 p2 p3 p4 μ = some r) : Ev (d + 1) mX10_feed 0 [some (.ref 78), some (iv p0), some (iv p1), some (iv p2), some (iv p3), some (iv p4)] [] (cS Ls t μ) (.inl (some (iv r.1))) (cS Ls t r.2) := by
  unfold fX10_feed at h
  refine ev_aload_n (pc' := 1) dX10_feed_0 rfl rfl ?_
  refine ev_iconst (pc' := 2) dX10_feed_1 rfl ?_
  replace h := qbd h; obtain ⟨μ1, hμ1, h⟩ := h
  refine ev_puti (pc' := 5) dX10_feed_2 rfl tf_10_54 sh78 rfl rfl (qw_9_4 _) rfl hμ1 ?_
  refine ev_aload_n (pc' := 6) dX10_feed_5 rfl rfl ?_
  refine ev_geti (pc' := 9) (ki := 6) dX10_feed_6 rfl tf_10_71 sh78 rfl rfl ?_
  refine ev_bipush (pc' := 11) dX10_feed_9 rfl bl_20 ?_
  refine ev_iadd (pc' := 12) dX10_feed_11 rfl ?_
  refine ev_sipush (pc' := 15) dX10_feed_12 rfl sl_400 ?_
  refine ev_icmple (pc' := 18) (tgt := 21) dX10_feed_15 (by decide) rfl (x1 := wr ((rd μ1 78 6) + 20)) (y1 := 400) rfl wl_400  (fun c2 => ?_) (fun c2 => ?_)
  · replace h := qit c2 h
    refine ev_bipush (pc' := 20) dX10_feed_18 rfl bl_m2 ?_
    cases h
    exact ev_ireturn dX10_feed_20 rfl rfl
  · replace h := qif' c2 h
    refine ev_aload_n (pc' := 22) dX10_feed_21 rfl rfl ?_
    refine ev_iload_n (pc' := 23) dX10_feed_22 rfl rfl ?_
    replace h := qbd h; obtain ⟨y3, hy3, h⟩ := h
    refine ev_callg (pc' := 26) (st2 := []) dX10_feed_23 (qs_V tc_10_74 rfl rfl (cS_cls sh78) rfl) rfl rfl (eX10_append (d := d + 0) hy3) rfl rfl ?_
    refine ev_aload_n (pc' := 27) dX10_feed_26 rfl rfl ?_
    refine ev_iload_n (pc' := 28) dX10_feed_27 rfl rfl ?_
    replace h := qbd h; obtain ⟨y4, hy4, h⟩ := h
    refine ev_callg (pc' := 31) (st2 := []) dX10_feed_28 (qs_V tc_10_74 rfl rfl (cS_cls sh78) rfl) rfl rfl (eX10_append (d := d + 0) hy4) rfl rfl ?_
    refine ev_aload_n (pc' := 32) dX10_feed_31 rfl rfl ?_
    refine ev_iload_n (pc' := 33) dX10_feed_32 rfl rfl ?_
    replace h := qbd h; obtain ⟨y5, hy5, h⟩ := h
    refine ev_callg (pc' := 36) (st2 := []) dX10_feed_33 (qs_V tc_10_74 rfl rfl (cS_cls sh78) rfl) rfl rfl (eX10_append (d := d + 0) hy5) rfl rfl ?_
    refine ev_aload_n (pc' := 37) dX10_feed_36 rfl rfl ?_
    refine ev_iload (pc' := 39) dX10_feed_37 rfl rfl ?_
    replace h := qbd h; obtain ⟨y6, hy6, h⟩ := h
    refine ev_callg (pc' := 42) (st2 := []) dX10_feed_39 (qs_V tc_10_74 rfl rfl (cS_cls sh78) rfl) rfl rfl (eX10_append (d := d + 0) hy6) rfl rfl ?_
    refine ev_aload_n (pc' := 43) dX10_feed_42 rfl rfl ?_
    refine ev_iload (pc' := 45) dX10_feed_43 rfl rfl ?_
    replace h := qbd h; obtain ⟨y7, hy7, h⟩ := h
    refine ev_callg (pc' := 48) (st2 := []) dX10_feed_45 (qs_V tc_10_74 rfl rfl (cS_cls sh78) rfl) rfl rfl (eX10_append (d := d + 0) hy7) rfl rfl ?_
    refine ev_aload_n (pc' := 49) dX10_feed_48 rfl rfl ?_
    refine ev_geti (pc' := 52) (ki := 6) dX10_feed_49 rfl tf_10_71 sh78 rfl rfl ?_
    cases h
    exact ev_ireturn dX10_feed_52 rfl rfl
set_option maxRecDepth 100000 in
theorem eX10_byteAt {Ls t d : Nat} {p0 : Int} {μ : qMu} {r : Int} (h : fX10_byteAt p0 μ = some r) : Ev (d + 0) mX10_byteAt 0 [some (.ref 78), some (iv p0)] [] (cS Ls t μ) (.inl (some (iv r))) (cS Ls t μ) := by
  unfold fX10_byteAt at h
  refine ev_iload_n (pc' := 1) dX10_byteAt_0 rfl rfl ?_
  refine ev_aload_n (pc' := 2) dX10_byteAt_1 rfl rfl ?_
  refine ev_geti (pc' := 5) (ki := 9) dX10_byteAt_2 rfl tf_10_78 sh78 rfl rfl ?_
  refine ev_icmpge (pc' := 8) (tgt := 17) dX10_byteAt_5 (by decide) rfl (x1 := wr p0) (y1 := wr (rd μ 78 9)) rfl rfl  (fun c1 => ?_) (fun c1 => ?_)
  · replace h := qit c1 h
    refine ev_aload_n (pc' := 9) dX10_byteAt_8 rfl rfl ?_
    refine ev_getr (pc' := 12) dX10_byteAt_9 rfl tf_10_19 sh78 rfl ?_
    refine ev_iload_n (pc' := 13) dX10_byteAt_12 rfl rfl ?_
    replace h := qbd h; obtain ⟨x2, hx2, h⟩ := h
    refine ev_iald (pc' := 14) dX10_byteAt_13 rfl sh82 hx2 ?_
    refine ev_goto (pc' := 18) dX10_byteAt_14 (by decide) ?_
    cases h
    exact ev_ireturn dX10_byteAt_18 rfl rfl
  · replace h := qif' c1 h
    refine ev_iconst (pc' := 18) dX10_byteAt_17 rfl ?_
    cases h
    exact ev_ireturn dX10_byteAt_18 rfl rfl
set_option maxRecDepth 100000 in
theorem eX10_isLetter {Ls t d : Nat} {p0 : Int} {μ : qMu} {r : Int} (h : fX10_isLetter p0 μ = some r) : Ev (d + 0) mX10_isLetter 0 [some (iv p0)] [] (cS Ls t μ) (.inl (some (iv r))) (cS Ls t μ) := by
  unfold fX10_isLetter at h
  refine ev_iload_n (pc' := 1) dX10_isLetter_0 rfl rfl ?_
  refine ev_bipush (pc' := 3) dX10_isLetter_1 rfl bl_97 ?_
  refine ev_icmplt (pc' := 6) (tgt := 16) dX10_isLetter_3 (by decide) rfl (x1 := wr p0) (y1 := 97) rfl wl_97  (fun c1 => ?_) (fun c1 => ?_)
  · replace h := qit c1 h
    refine ev_iconst (pc' := 17) dX10_isLetter_16 rfl ?_
    cases h
    exact ev_ireturn dX10_isLetter_17 rfl rfl
  · replace h := qif' c1 h
    refine ev_iload_n (pc' := 7) dX10_isLetter_6 rfl rfl ?_
    refine ev_bipush (pc' := 9) dX10_isLetter_7 rfl bl_122 ?_
    refine ev_icmpgt (pc' := 12) (tgt := 16) dX10_isLetter_9 (by decide) rfl (x1 := wr p0) (y1 := 122) rfl wl_122  (fun c2 => ?_) (fun c2 => ?_)
    · replace h := qit c2 h
      refine ev_iconst (pc' := 17) dX10_isLetter_16 rfl ?_
      cases h
      exact ev_ireturn dX10_isLetter_17 rfl rfl
    · replace h := qif' c2 h
      refine ev_iconst (pc' := 13) dX10_isLetter_12 rfl ?_
      refine ev_goto (pc' := 17) dX10_isLetter_13 (by decide) ?_
      cases h
      exact ev_ireturn dX10_isLetter_17 rfl rfl
set_option maxRecDepth 100000 in
theorem eX10_isDigit {Ls t d : Nat} {p0 : Int} {μ : qMu} {r : Int} (h : fX10_isDigit p0 μ = some r) : Ev (d + 0) mX10_isDigit 0 [some (iv p0)] [] (cS Ls t μ) (.inl (some (iv r))) (cS Ls t μ) := by
  unfold fX10_isDigit at h
  refine ev_iload_n (pc' := 1) dX10_isDigit_0 rfl rfl ?_
  refine ev_bipush (pc' := 3) dX10_isDigit_1 rfl bl_48 ?_
  refine ev_icmplt (pc' := 6) (tgt := 16) dX10_isDigit_3 (by decide) rfl (x1 := wr p0) (y1 := 48) rfl wl_48  (fun c1 => ?_) (fun c1 => ?_)
  · replace h := qit c1 h
    refine ev_iconst (pc' := 17) dX10_isDigit_16 rfl ?_
    cases h
    exact ev_ireturn dX10_isDigit_17 rfl rfl
  · replace h := qif' c1 h
    refine ev_iload_n (pc' := 7) dX10_isDigit_6 rfl rfl ?_
    refine ev_bipush (pc' := 9) dX10_isDigit_7 rfl bl_57 ?_
    refine ev_icmpgt (pc' := 12) (tgt := 16) dX10_isDigit_9 (by decide) rfl (x1 := wr p0) (y1 := 57) rfl wl_57  (fun c2 => ?_) (fun c2 => ?_)
    · replace h := qit c2 h
      refine ev_iconst (pc' := 17) dX10_isDigit_16 rfl ?_
      cases h
      exact ev_ireturn dX10_isDigit_17 rfl rfl
    · replace h := qif' c2 h
      refine ev_iconst (pc' := 13) dX10_isDigit_12 rfl ?_
      refine ev_goto (pc' := 17) dX10_isDigit_13 (by decide) ?_
      cases h
      exact ev_ireturn dX10_isDigit_17 rfl rfl
set_option maxRecDepth 100000 in
theorem ebX10_readWord_0 {Ls t d n : Nat} : ∀ (k : Nat) (x : qMu) (y : qMu), lp (fun x : qMu => bX10_readWord_0 n x) k x = some y → ∀ (o : qO) (s' : qSt), Ev (d + 1) mX10_readWord 27 [some (.ref 78)] [] (cS Ls t y) o s' → Ev (d + 1) mX10_readWord 0 [some (.ref 78)] [] (cS Ls t x) o s' := by
  intro k
  induction k with
  | zero => intro x y h; cases h
  | succ k ih =>
    intro x y h o s' kE
    rw [lp_s] at h
    replace h := qbd h; obtain ⟨zz, h0, h1⟩ := h
    have h : bX10_readWord_0 n x = some zz := h0
    clear h0
    unfold bX10_readWord_0 at h
    refine ev_aload_n (pc' := 1) dX10_readWord_0 rfl rfl ?_
    refine ev_aload_n (pc' := 2) dX10_readWord_1 rfl rfl ?_
    refine ev_geti (pc' := 5) (ki := 11) dX10_readWord_2 rfl tf_10_81 sh78 rfl rfl ?_
    replace h := qbd h; obtain ⟨y1, hy1, h⟩ := h
    refine ev_callg (pc' := 8) (st2 := [iv y1]) dX10_readWord_5 (qs_V tc_10_84 rfl rfl (cS_cls sh78) rfl) rfl rfl (eX10_byteAt (d := d + 0) hy1) rfl rfl ?_
    replace h := qbd h; obtain ⟨y2, hy2, h⟩ := h
    refine ev_callg (pc' := 11) (st2 := [iv y2]) dX10_readWord_8 (qs_S tc_10_88 (by decide) rfl rfl) rfl rfl (eX10_isLetter (d := d + 0) hy2) rfl rfl ?_
    refine ev_ifeq (pc' := 14) (tgt := 27) dX10_readWord_11 (by decide) rfl (x1 := wr y2) rfl (fun c3 => ?_) (fun c3 => ?_)
    · replace h := qit c3 h
      cases h
      cases h1
      exact ev_wk (qLe_eq qLe_nil) kE
    · replace h := qif' c3 h
      refine ev_aload_n (pc' := 15) dX10_readWord_14 rfl rfl ?_
      refine ev_dup (pc' := 16) dX10_readWord_15 rfl rfl ?_
      refine ev_geti (pc' := 19) (ki := 11) dX10_readWord_16 rfl tf_10_81 sh78 rfl rfl ?_
      refine ev_iconst (pc' := 20) dX10_readWord_19 rfl ?_
      refine ev_iadd (pc' := 21) dX10_readWord_20 rfl ?_
      replace h := qbd h; obtain ⟨μ4, hμ4, h⟩ := h
      refine ev_puti (pc' := 24) dX10_readWord_21 rfl tf_10_81 sh78 rfl rfl (qw_9_11 _) rfl hμ4 ?_
      refine ev_goto (pc' := 0) dX10_readWord_24 (by decide) ?_
      cases h
      exact ev_wk (qLe_eq qLe_nil) (ih _ _ h1 _ _ kE)
set_option maxRecDepth 100000 in
theorem eX10_readWord {Ls t d n : Nat} {μ : qMu} {r : qMu} (h : fX10_readWord n μ = some r) : Ev (d + 1) mX10_readWord 0 [some (.ref 78)] [] (cS Ls t μ) (.inl none) (cS Ls t r) := by
  unfold fX10_readWord at h
  replace h := qbd h; obtain ⟨y5, hy5, h⟩ := h
  refine ev_wk (qLe_eq qLe_nil) (?_ : Ev _ _ _ [some (.ref 78)] _ _ _ _)
  refine ebX10_readWord_0 _ _ _ hy5 _ _ ?_
  refine ev_aload_n (pc' := 28) dX10_readWord_27 rfl rfl ?_
  refine ev_aload_n (pc' := 29) dX10_readWord_28 rfl rfl ?_
  refine ev_geti (pc' := 32) (ki := 11) dX10_readWord_29 rfl tf_10_81 sh78 rfl rfl ?_
  refine ev_aload_n (pc' := 33) dX10_readWord_32 rfl rfl ?_
  refine ev_geti (pc' := 36) (ki := 10) dX10_readWord_33 rfl tf_10_92 sh78 rfl rfl ?_
  refine ev_isub (pc' := 37) dX10_readWord_36 rfl ?_
  refine ev_bipush (pc' := 39) dX10_readWord_37 rfl bl_8 ?_
  have k7 : ∀ j8 : Int, j8 = (if 8 < wr ((rd y5 78 11) - (rd y5 78 10)) then 1 else 2) → Ev (d + 1) mX10_readWord 47 [none] [iv j8, .ref 78] (cS Ls t y5) (.inl none) (cS Ls t r) := by
    intro j8 ej8
    subst ej8
    replace h := qbd h; obtain ⟨μ9, hμ9, h⟩ := h
    refine ev_puti (pc' := 50) dX10_readWord_47 rfl tf_10_95 sh78 rfl rfl (qw_9_12 _) rfl hμ9 ?_
    cases h
    exact ev_return dX10_readWord_50 rfl
  refine ev_icmple (pc' := 42) (tgt := 46) dX10_readWord_39 (by decide) rfl (x1 := wr ((rd y5 78 11) - (rd y5 78 10))) (y1 := 8) rfl wl_8  (fun c6 => ?_) (fun c6 => ?_)
  · skip
    refine ev_iconst (pc' := 43) dX10_readWord_42 rfl ?_
    refine ev_goto (pc' := 47) dX10_readWord_43 (by decide) ?_
    exact ev_wk (qLe_sk qLe_nil) (k7 _ (qet c6 rfl))
  · skip
    refine ev_iconst (pc' := 47) dX10_readWord_46 rfl ?_
    exact ev_wk (qLe_sk qLe_nil) (k7 _ (qef c6 rfl))
set_option maxRecDepth 100000 in
theorem ebX10_readNumber_5 {Ls t d n : Nat} : ∀ (k : Nat) (x : qMu) (y : qMu), lp (fun x : qMu => bX10_readNumber_5 n x) k x = some y → ∀ (o : qO) (s' : qSt), Ev (d + 1) mX10_readNumber 75 [some (.ref 78)] [] (cS Ls t y) o s' → Ev (d + 1) mX10_readNumber 5 [some (.ref 78)] [] (cS Ls t x) o s' := by
  intro k
  induction k with
  | zero => intro x y h; cases h
  | succ k ih =>
    intro x y h o s' kE
    rw [lp_s] at h
    replace h := qbd h; obtain ⟨zz, h0, h1⟩ := h
    have h : bX10_readNumber_5 n x = some zz := h0
    clear h0
    unfold bX10_readNumber_5 at h
    refine ev_aload_n (pc' := 6) dX10_readNumber_5 rfl rfl ?_
    refine ev_aload_n (pc' := 7) dX10_readNumber_6 rfl rfl ?_
    refine ev_geti (pc' := 10) (ki := 11) dX10_readNumber_7 rfl tf_10_81 sh78 rfl rfl ?_
    replace h := qbd h; obtain ⟨y2, hy2, h⟩ := h
    refine ev_callg (pc' := 13) (st2 := [iv y2]) dX10_readNumber_10 (qs_V tc_10_84 rfl rfl (cS_cls sh78) rfl) rfl rfl (eX10_byteAt (d := d + 0) hy2) rfl rfl ?_
    replace h := qbd h; obtain ⟨y3, hy3, h⟩ := h
    refine ev_callg (pc' := 16) (st2 := [iv y3]) dX10_readNumber_13 (qs_S tc_10_101 (by decide) rfl rfl) rfl rfl (eX10_isDigit (d := d + 0) hy3) rfl rfl ?_
    refine ev_ifeq (pc' := 19) (tgt := 75) dX10_readNumber_16 (by decide) rfl (x1 := wr y3) rfl (fun c4 => ?_) (fun c4 => ?_)
    · replace h := qit c4 h
      cases h
      cases h1
      exact ev_wk (qLe_eq qLe_nil) kE
    · replace h := qif' c4 h
      refine ev_aload_n (pc' := 20) dX10_readNumber_19 rfl rfl ?_
      refine ev_aload_n (pc' := 21) dX10_readNumber_20 rfl rfl ?_
      refine ev_geti (pc' := 24) (ki := 11) dX10_readNumber_21 rfl tf_10_81 sh78 rfl rfl ?_
      refine ev_aload_n (pc' := 25) dX10_readNumber_24 rfl rfl ?_
      refine ev_geti (pc' := 28) (ki := 10) dX10_readNumber_25 rfl tf_10_92 sh78 rfl rfl ?_
      refine ev_isub (pc' := 29) dX10_readNumber_28 rfl ?_
      refine ev_iconst (pc' := 30) dX10_readNumber_29 rfl ?_
      replace h := qbd h; obtain ⟨y6, hy6, h⟩ := h
      have kJ : Ev (d + 1) mX10_readNumber 59 [some (.ref 78)] [iv y6, .ref 78] (cS Ls t x) o s' := by
        replace h := qbd h; obtain ⟨μ8, hμ8, h⟩ := h
        refine ev_puti (pc' := 62) dX10_readNumber_59 rfl tf_10_98 sh78 rfl rfl (qw_9_13 _) rfl hμ8 ?_
        refine ev_aload_n (pc' := 63) dX10_readNumber_62 rfl rfl ?_
        refine ev_dup (pc' := 64) dX10_readNumber_63 rfl rfl ?_
        refine ev_geti (pc' := 67) (ki := 11) dX10_readNumber_64 rfl tf_10_81 sh78 rfl rfl ?_
        refine ev_iconst (pc' := 68) dX10_readNumber_67 rfl ?_
        refine ev_iadd (pc' := 69) dX10_readNumber_68 rfl ?_
        replace h := qbd h; obtain ⟨μ9, hμ9, h⟩ := h
        refine ev_puti (pc' := 72) dX10_readNumber_69 rfl tf_10_81 sh78 rfl rfl (qw_9_11 _) rfl hμ9 ?_
        refine ev_goto (pc' := 5) dX10_readNumber_72 (by decide) ?_
        cases h
        exact ev_wk (qLe_eq qLe_nil) (ih _ _ h1 _ _ kE)
      replace h := hy6
      clear hy6
      refine ev_icmpge (pc' := 33) (tgt := 55) dX10_readNumber_30 (by decide) rfl (x1 := wr ((rd x 78 11) - (rd x 78 10))) (y1 := 2) rfl wl_2  (fun c5 => ?_) (fun c5 => ?_)
      · replace h := qit c5 h
        refine ev_bipush (pc' := 35) dX10_readNumber_33 rfl bl_10 ?_
        refine ev_aload_n (pc' := 36) dX10_readNumber_35 rfl rfl ?_
        refine ev_geti (pc' := 39) (ki := 13) dX10_readNumber_36 rfl tf_10_98 sh78 rfl rfl ?_
        refine ev_imul (pc' := 40) dX10_readNumber_39 rfl ?_
        refine ev_aload_n (pc' := 41) dX10_readNumber_40 rfl rfl ?_
        refine ev_aload_n (pc' := 42) dX10_readNumber_41 rfl rfl ?_
        refine ev_geti (pc' := 45) (ki := 11) dX10_readNumber_42 rfl tf_10_81 sh78 rfl rfl ?_
        replace h := qbd h; obtain ⟨y7, hy7, h⟩ := h
        refine ev_callg (pc' := 48) (st2 := [iv y7, iv (10 * (rd x 78 13)), .ref 78]) dX10_readNumber_45 (qs_V tc_10_84 rfl rfl (cS_cls sh78) rfl) rfl rfl (eX10_byteAt (d := d + 0) hy7) rfl rfl ?_
        refine ev_iadd (pc' := 49) dX10_readNumber_48 rfl ?_
        refine ev_bipush (pc' := 51) dX10_readNumber_49 rfl bl_48 ?_
        refine ev_isub (pc' := 52) dX10_readNumber_51 rfl ?_
        refine ev_goto (pc' := 59) dX10_readNumber_52 (by decide) ?_
        cases h
        exact ev_wk (qLe_eq qLe_nil) kJ
      · replace h := qif' c5 h
        refine ev_aload_n (pc' := 56) dX10_readNumber_55 rfl rfl ?_
        refine ev_geti (pc' := 59) (ki := 13) dX10_readNumber_56 rfl tf_10_98 sh78 rfl rfl ?_
        cases h
        exact ev_wk (qLe_eq qLe_nil) kJ
set_option maxRecDepth 100000 in
theorem eX10_readNumber {Ls t d n : Nat} {μ : qMu} {r : qMu} (h : fX10_readNumber n μ = some r) : Ev (d + 1) mX10_readNumber 0 [some (.ref 78)] [] (cS Ls t μ) (.inl none) (cS Ls t r) := by
  unfold fX10_readNumber at h
  refine ev_aload_n (pc' := 1) dX10_readNumber_0 rfl rfl ?_
  refine ev_iconst (pc' := 2) dX10_readNumber_1 rfl ?_
  replace h := qbd h; obtain ⟨μ1, hμ1, h⟩ := h
  refine ev_puti (pc' := 5) dX10_readNumber_2 rfl tf_10_98 sh78 rfl rfl (qw_9_13 _) rfl hμ1 ?_
  replace h := qbd h; obtain ⟨y10, hy10, h⟩ := h
  refine ev_wk (qLe_eq qLe_nil) (?_ : Ev _ _ _ [some (.ref 78)] _ _ _ _)
  refine ebX10_readNumber_5 _ _ _ hy10 _ _ ?_
  refine ev_aload_n (pc' := 76) dX10_readNumber_75 rfl rfl ?_
  refine ev_aload_n (pc' := 77) dX10_readNumber_76 rfl rfl ?_
  refine ev_geti (pc' := 80) (ki := 11) dX10_readNumber_77 rfl tf_10_81 sh78 rfl rfl ?_
  refine ev_aload_n (pc' := 81) dX10_readNumber_80 rfl rfl ?_
  refine ev_geti (pc' := 84) (ki := 10) dX10_readNumber_81 rfl tf_10_92 sh78 rfl rfl ?_
  refine ev_isub (pc' := 85) dX10_readNumber_84 rfl ?_
  refine ev_iconst (pc' := 86) dX10_readNumber_85 rfl ?_
  have k12 : ∀ j13 : Int, j13 = (if 2 < wr ((rd y10 78 11) - (rd y10 78 10)) then 1 else 3) → Ev (d + 1) mX10_readNumber 94 [none] [iv j13, .ref 78] (cS Ls t y10) (.inl none) (cS Ls t r) := by
    intro j13 ej13
    subst ej13
    replace h := qbd h; obtain ⟨μ14, hμ14, h⟩ := h
    refine ev_puti (pc' := 97) dX10_readNumber_94 rfl tf_10_95 sh78 rfl rfl (qw_9_12 _) rfl hμ14 ?_
    cases h
    exact ev_return dX10_readNumber_97 rfl
  refine ev_icmple (pc' := 89) (tgt := 93) dX10_readNumber_86 (by decide) rfl (x1 := wr ((rd y10 78 11) - (rd y10 78 10))) (y1 := 2) rfl wl_2  (fun c11 => ?_) (fun c11 => ?_)
  · skip
    refine ev_iconst (pc' := 90) dX10_readNumber_89 rfl ?_
    refine ev_goto (pc' := 94) dX10_readNumber_90 (by decide) ?_
    exact ev_wk (qLe_sk qLe_nil) (k12 _ (qet c11 rfl))
  · skip
    refine ev_iconst (pc' := 94) dX10_readNumber_93 rfl ?_
    exact ev_wk (qLe_sk qLe_nil) (k12 _ (qef c11 rfl))
set_option maxRecDepth 100000 in
theorem ebX10_advance_0 {Ls t d n : Nat} : ∀ (k : Nat) (x : qMu) (y : qMu), lp (fun x : qMu => bX10_advance_0 n x) k x = some y → ∀ (o : qO) (s' : qSt), Ev (d + 2) mX10_advance 39 [some (.ref 78), none] [] (cS Ls t y) o s' → Ev (d + 2) mX10_advance 0 [some (.ref 78), none] [] (cS Ls t x) o s' := by
  intro k
  induction k with
  | zero => intro x y h; cases h
  | succ k ih =>
    intro x y h o s' kE
    rw [lp_s] at h
    replace h := qbd h; obtain ⟨zz, h0, h1⟩ := h
    have h : bX10_advance_0 n x = some zz := h0
    clear h0
    unfold bX10_advance_0 at h
    refine ev_aload_n (pc' := 1) dX10_advance_0 rfl rfl ?_
    refine ev_aload_n (pc' := 2) dX10_advance_1 rfl rfl ?_
    refine ev_geti (pc' := 5) (ki := 11) dX10_advance_2 rfl tf_10_81 sh78 rfl rfl ?_
    replace h := qbd h; obtain ⟨y1, hy1, h⟩ := h
    refine ev_callg (pc' := 8) (st2 := [iv y1]) dX10_advance_5 (qs_V tc_10_84 rfl rfl (cS_cls sh78) rfl) rfl rfl (eX10_byteAt (d := d + 1) hy1) rfl rfl ?_
    refine ev_bipush (pc' := 10) dX10_advance_8 rfl bl_32 ?_
    refine ev_icmpeq (pc' := 13) (tgt := 26) dX10_advance_10 (by decide) rfl (x1 := wr y1) (y1 := 32) rfl wl_32  (fun c2 => ?_) (fun c2 => ?_)
    · replace h := qit c2 h
      refine ev_aload_n (pc' := 27) dX10_advance_26 rfl rfl ?_
      refine ev_dup (pc' := 28) dX10_advance_27 rfl rfl ?_
      refine ev_geti (pc' := 31) (ki := 11) dX10_advance_28 rfl tf_10_81 sh78 rfl rfl ?_
      refine ev_iconst (pc' := 32) dX10_advance_31 rfl ?_
      refine ev_iadd (pc' := 33) dX10_advance_32 rfl ?_
      replace h := qbd h; obtain ⟨μ3, hμ3, h⟩ := h
      refine ev_puti (pc' := 36) dX10_advance_33 rfl tf_10_81 sh78 rfl rfl (qw_9_11 _) rfl hμ3 ?_
      refine ev_goto (pc' := 0) dX10_advance_36 (by decide) ?_
      cases h
      exact ev_wk (qLe_eq (qLe_eq qLe_nil)) (ih _ _ h1 _ _ kE)
    · replace h := qif' c2 h
      refine ev_aload_n (pc' := 14) dX10_advance_13 rfl rfl ?_
      refine ev_aload_n (pc' := 15) dX10_advance_14 rfl rfl ?_
      refine ev_geti (pc' := 18) (ki := 11) dX10_advance_15 rfl tf_10_81 sh78 rfl rfl ?_
      replace h := qbd h; obtain ⟨y4, hy4, h⟩ := h
      refine ev_callg (pc' := 21) (st2 := [iv y4]) dX10_advance_18 (qs_V tc_10_84 rfl rfl (cS_cls sh78) rfl) rfl rfl (eX10_byteAt (d := d + 1) hy4) rfl rfl ?_
      refine ev_bipush (pc' := 23) dX10_advance_21 rfl bl_10 ?_
      refine ev_icmpne (pc' := 26) (tgt := 39) dX10_advance_23 (by decide) rfl (x1 := wr y4) (y1 := 10) rfl wl_10  (fun c5 => ?_) (fun c5 => ?_)
      · replace h := qit c5 h
        refine ev_aload_n (pc' := 27) dX10_advance_26 rfl rfl ?_
        refine ev_dup (pc' := 28) dX10_advance_27 rfl rfl ?_
        refine ev_geti (pc' := 31) (ki := 11) dX10_advance_28 rfl tf_10_81 sh78 rfl rfl ?_
        refine ev_iconst (pc' := 32) dX10_advance_31 rfl ?_
        refine ev_iadd (pc' := 33) dX10_advance_32 rfl ?_
        replace h := qbd h; obtain ⟨μ6, hμ6, h⟩ := h
        refine ev_puti (pc' := 36) dX10_advance_33 rfl tf_10_81 sh78 rfl rfl (qw_9_11 _) rfl hμ6 ?_
        refine ev_goto (pc' := 0) dX10_advance_36 (by decide) ?_
        cases h
        exact ev_wk (qLe_eq (qLe_eq qLe_nil)) (ih _ _ h1 _ _ kE)
      · replace h := qif' c5 h
        cases h
        cases h1
        exact ev_wk (qLe_eq (qLe_eq qLe_nil)) kE
set_option maxRecDepth 100000 in
theorem eX10_advance {Ls t d n : Nat} {μ : qMu} {r : Int × qMu} (h : fX10_advance n μ = some r) : Ev (d + 2) mX10_advance 0 [some (.ref 78), none] [] (cS Ls t μ) (.inl (some (iv r.1))) (cS Ls t r.2) := by
  unfold fX10_advance at h
  replace h := qbd h; obtain ⟨y7, hy7, h⟩ := h
  refine ev_wk (qLe_eq (qLe_eq qLe_nil)) (?_ : Ev _ _ _ [some (.ref 78), none] _ _ _ _)
  refine ebX10_advance_0 _ _ _ hy7 _ _ ?_
  refine ev_aload_n (pc' := 40) dX10_advance_39 rfl rfl ?_
  refine ev_aload_n (pc' := 41) dX10_advance_40 rfl rfl ?_
  refine ev_geti (pc' := 44) (ki := 11) dX10_advance_41 rfl tf_10_81 sh78 rfl rfl ?_
  replace h := qbd h; obtain ⟨μ8, hμ8, h⟩ := h
  refine ev_puti (pc' := 47) dX10_advance_44 rfl tf_10_92 sh78 rfl rfl (qw_9_10 _) rfl hμ8 ?_
  refine ev_aload_n (pc' := 48) dX10_advance_47 rfl rfl ?_
  refine ev_aload_n (pc' := 49) dX10_advance_48 rfl rfl ?_
  refine ev_geti (pc' := 52) (ki := 11) dX10_advance_49 rfl tf_10_81 sh78 rfl rfl ?_
  replace h := qbd h; obtain ⟨y9, hy9, h⟩ := h
  refine ev_callg (pc' := 55) (st2 := [iv y9]) dX10_advance_52 (qs_V tc_10_84 rfl rfl (cS_cls sh78) rfl) rfl rfl (eX10_byteAt (d := d + 1) hy9) rfl rfl ?_
  refine ev_istore_n (pc' := 56) (L1 := [some (.ref 78), some (iv y9)]) dX10_advance_55 rfl rfl ?_
  refine ev_iload_n (pc' := 57) dX10_advance_56 rfl rfl ?_
  refine ev_iconst (pc' := 58) dX10_advance_57 rfl ?_
  replace h := qbd h; obtain ⟨y11, hy11, h⟩ := h
  have kJ : Ev (d + 2) mX10_advance 122 [none, none] [] (cS Ls t y11) (.inl (some (iv r.1))) (cS Ls t r.2) := by
    refine ev_iconst (pc' := 123) dX10_advance_122 rfl ?_
    cases h
    exact ev_ireturn dX10_advance_123 rfl rfl
  replace h := hy11
  clear hy11
  refine ev_icmpne (pc' := 61) (tgt := 69) dX10_advance_58 (by decide) rfl (x1 := wr y9) (y1 := (-1)) rfl wl_m1  (fun c10 => ?_) (fun c10 => ?_)
  · replace h := qit c10 h
    refine ev_aload_n (pc' := 62) dX10_advance_61 rfl rfl ?_
    refine ev_iconst (pc' := 63) dX10_advance_62 rfl ?_
    replace h := qbd h; obtain ⟨μ12, hμ12, h⟩ := h
    refine ev_puti (pc' := 66) dX10_advance_63 rfl tf_10_95 sh78 rfl rfl (qw_9_12 _) rfl hμ12 ?_
    refine ev_goto (pc' := 122) dX10_advance_66 (by decide) ?_
    cases h
    exact ev_wk (qLe_sk (qLe_sk qLe_nil)) kJ
  · replace h := qif' c10 h
    refine ev_iload_n (pc' := 70) dX10_advance_69 rfl rfl ?_
    replace h := qbd h; obtain ⟨y13, hy13, h⟩ := h
    refine ev_callg (pc' := 73) (st2 := [iv y13]) dX10_advance_70 (qs_S tc_10_88 (by decide) rfl rfl) rfl rfl (eX10_isLetter (d := d + 1) hy13) rfl rfl ?_
    refine ev_ifeq (pc' := 76) (tgt := 83) dX10_advance_73 (by decide) rfl (x1 := wr y13) rfl (fun c14 => ?_) (fun c14 => ?_)
    · replace h := qit c14 h
      refine ev_iload_n (pc' := 84) dX10_advance_83 rfl rfl ?_
      replace h := qbd h; obtain ⟨y15, hy15, h⟩ := h
      refine ev_callg (pc' := 87) (st2 := [iv y15]) dX10_advance_84 (qs_S tc_10_101 (by decide) rfl rfl) rfl rfl (eX10_isDigit (d := d + 1) hy15) rfl rfl ?_
      refine ev_ifeq (pc' := 90) (tgt := 97) dX10_advance_87 (by decide) rfl (x1 := wr y15) rfl (fun c16 => ?_) (fun c16 => ?_)
      · replace h := qit c16 h
        refine ev_aload_n (pc' := 98) dX10_advance_97 rfl rfl ?_
        refine ev_dup (pc' := 99) dX10_advance_98 rfl rfl ?_
        refine ev_geti (pc' := 102) (ki := 11) dX10_advance_99 rfl tf_10_81 sh78 rfl rfl ?_
        refine ev_iconst (pc' := 103) dX10_advance_102 rfl ?_
        refine ev_iadd (pc' := 104) dX10_advance_103 rfl ?_
        replace h := qbd h; obtain ⟨μ17, hμ17, h⟩ := h
        refine ev_puti (pc' := 107) dX10_advance_104 rfl tf_10_81 sh78 rfl rfl (qw_9_11 _) rfl hμ17 ?_
        refine ev_aload_n (pc' := 108) dX10_advance_107 rfl rfl ?_
        refine ev_iload_n (pc' := 109) dX10_advance_108 rfl rfl ?_
        refine ev_bipush (pc' := 111) dX10_advance_109 rfl bl_59 ?_
        have k19 : ∀ j20 : Int, j20 = (if wr y9 = 59 then 4 else 1) → Ev (d + 2) mX10_advance 119 [none, none] [iv j20, .ref 78] (cS Ls t μ17) (.inl (some (iv r.1))) (cS Ls t r.2) := by
          intro j20 ej20
          subst ej20
          replace h := qbd h; obtain ⟨μ21, hμ21, h⟩ := h
          refine ev_puti (pc' := 122) dX10_advance_119 rfl tf_10_95 sh78 rfl rfl (qw_9_12 _) rfl hμ21 ?_
          cases h
          exact ev_wk (qLe_eq (qLe_eq qLe_nil)) kJ
        refine ev_icmpne (pc' := 114) (tgt := 118) dX10_advance_111 (by decide) rfl (x1 := wr y9) (y1 := 59) rfl wl_59  (fun c18 => ?_) (fun c18 => ?_)
        · skip
          refine ev_iconst (pc' := 115) dX10_advance_114 rfl ?_
          refine ev_goto (pc' := 119) dX10_advance_115 (by decide) ?_
          exact ev_wk (qLe_sk (qLe_sk qLe_nil)) (k19 _ (qet c18 rfl))
        · skip
          refine ev_iconst (pc' := 119) dX10_advance_118 rfl ?_
          exact ev_wk (qLe_sk (qLe_sk qLe_nil)) (k19 _ (qef c18 rfl))
      · replace h := qif' c16 h
        refine ev_aload_n (pc' := 91) dX10_advance_90 rfl rfl ?_
        replace h := qbd h; obtain ⟨y22, hy22, h⟩ := h
        refine ev_callg (pc' := 94) (st2 := []) dX10_advance_91 (qs_V tc_10_107 rfl rfl (cS_cls sh78) rfl) rfl rfl (eX10_readNumber (d := d + 0) hy22) rfl rfl ?_
        refine ev_goto (pc' := 122) dX10_advance_94 (by decide) ?_
        cases h
        exact ev_wk (qLe_sk (qLe_sk qLe_nil)) kJ
    · replace h := qif' c14 h
      refine ev_aload_n (pc' := 77) dX10_advance_76 rfl rfl ?_
      replace h := qbd h; obtain ⟨y23, hy23, h⟩ := h
      refine ev_callg (pc' := 80) (st2 := []) dX10_advance_77 (qs_V tc_10_104 rfl rfl (cS_cls sh78) rfl) rfl rfl (eX10_readWord (d := d + 0) hy23) rfl rfl ?_
      refine ev_goto (pc' := 122) dX10_advance_80 (by decide) ?_
      cases h
      exact ev_wk (qLe_sk (qLe_sk qLe_nil)) kJ
set_option maxRecDepth 100000 in
theorem ebX10_isWord_28 {Ls t d n : Nat} {w1 : Nat} (hw1 : 1000000 ≤ w1 ∧ w1 < 1000010) {μ : qMu} : ∀ (k : Nat) (x : Int) (y : (Unit) ⊕ (Int)), lp (fun x : Int => bX10_isWord_28 n w1 x μ) k x = some y → ∀ (o : qO) (s' : qSt), (∀ b : Unit, y = .inl b → Ev (d + 0) mX10_isWord 63 [none, none, none] [] (cS Ls t μ) o s') → (∀ r : Int, y = .inr r → o = (.inl (some (iv r))) ∧ s' = (cS Ls t μ)) → Ev (d + 0) mX10_isWord 28 [some (.ref 78), some (.ref w1), some (iv x)] [] (cS Ls t μ) o s' := by
  intro k
  induction k with
  | zero => intro x y h; cases h
  | succ k ih =>
    intro x y h o s' kE kR
    rw [lp_s] at h
    replace h := qbd h; obtain ⟨zz, h0, h1⟩ := h
    have h : bX10_isWord_28 n w1 x μ = some zz := h0
    clear h0
    unfold bX10_isWord_28 at h
    refine ev_iload_n (pc' := 29) dX10_isWord_28 rfl rfl ?_
    refine ev_aload_n (pc' := 30) dX10_isWord_29 rfl rfl ?_
    refine ev_slen (pc' := 33) dX10_isWord_30 rfl tc_10_110 rfl hw1 ?_
    refine ev_icmpge (pc' := 36) (tgt := 63) dX10_isWord_33 (by decide) rfl (x1 := wr x) (y1 := wr (qsl w1)) rfl rfl  (fun c3 => ?_) (fun c3 => ?_)
    · replace h := qit c3 h
      refine ev_aload_n (pc' := 37) dX10_isWord_36 rfl rfl ?_
      refine ev_getr (pc' := 40) dX10_isWord_37 rfl tf_10_19 sh78 rfl ?_
      refine ev_aload_n (pc' := 41) dX10_isWord_40 rfl rfl ?_
      refine ev_geti (pc' := 44) (ki := 10) dX10_isWord_41 rfl tf_10_92 sh78 rfl rfl ?_
      refine ev_iload_n (pc' := 45) dX10_isWord_44 rfl rfl ?_
      refine ev_iadd (pc' := 46) dX10_isWord_45 rfl ?_
      replace h := qbd h; obtain ⟨x4, hx4, h⟩ := h
      refine ev_iald (pc' := 47) dX10_isWord_46 rfl sh82 hx4 ?_
      refine ev_aload_n (pc' := 48) dX10_isWord_47 rfl rfl ?_
      refine ev_iload_n (pc' := 49) dX10_isWord_48 rfl rfl ?_
      replace h := qbd h; obtain ⟨x5, hx5, h⟩ := h
      refine ev_charAt (pc' := 52) dX10_isWord_49 rfl tc_10_115 rfl hw1 hx5 ?_
      refine ev_icmpeq (pc' := 55) (tgt := 57) dX10_isWord_52 (by decide) rfl (x1 := wr x4) (y1 := wr x5) rfl rfl  (fun c6 => ?_) (fun c6 => ?_)
      · replace h := qit c6 h
        refine ev_iinc (pc' := 60) (x := x) (L1 := [some (.ref 78), some (.ref w1), some (iv (x + 1))]) dX10_isWord_57 rfl rfl rfl ?_
        refine ev_goto (pc' := 28) dX10_isWord_60 (by decide) ?_
        cases h
        exact ev_wk (qLe_eq (qLe_eq (qLe_eq qLe_nil))) (ih _ _ h1 _ _ kE kR)
      · replace h := qif' c6 h
        refine ev_iconst (pc' := 56) dX10_isWord_55 rfl ?_
        cases h
        cases h1
        obtain ⟨rfl, rfl⟩ := kR _ rfl
        exact ev_ireturn dX10_isWord_56 rfl rfl
    · replace h := qif' c3 h
      cases h
      cases h1
      exact ev_wk (qLe_sk (qLe_sk (qLe_sk qLe_nil))) (kE _ rfl)
set_option maxRecDepth 100000 in
theorem eX10_isWord {Ls t d n : Nat} {p0 : Nat} {μ : qMu} {r : Int} (hp0 : 1000000 ≤ p0 ∧ p0 < 1000010) (h : fX10_isWord n p0 μ = some r) : Ev (d + 0) mX10_isWord 0 [some (.ref 78), some (.ref p0), none] [] (cS Ls t μ) (.inl (some (iv r))) (cS Ls t μ) := by
  unfold fX10_isWord at h
  refine ev_aload_n (pc' := 1) dX10_isWord_0 rfl rfl ?_
  refine ev_geti (pc' := 4) (ki := 12) dX10_isWord_1 rfl tf_10_95 sh78 rfl rfl ?_
  refine ev_iconst (pc' := 5) dX10_isWord_4 rfl ?_
  refine ev_icmpne (pc' := 8) (tgt := 24) dX10_isWord_5 (by decide) rfl (x1 := wr (rd μ 78 12)) (y1 := 2) rfl wl_2  (fun c1 => ?_) (fun c1 => ?_)
  · replace h := qit c1 h
    refine ev_aload_n (pc' := 9) dX10_isWord_8 rfl rfl ?_
    refine ev_geti (pc' := 12) (ki := 11) dX10_isWord_9 rfl tf_10_81 sh78 rfl rfl ?_
    refine ev_aload_n (pc' := 13) dX10_isWord_12 rfl rfl ?_
    refine ev_geti (pc' := 16) (ki := 10) dX10_isWord_13 rfl tf_10_92 sh78 rfl rfl ?_
    refine ev_isub (pc' := 17) dX10_isWord_16 rfl ?_
    refine ev_aload_n (pc' := 18) dX10_isWord_17 rfl rfl ?_
    refine ev_slen (pc' := 21) dX10_isWord_18 rfl tc_10_110 rfl hp0 ?_
    refine ev_icmpeq (pc' := 24) (tgt := 26) dX10_isWord_21 (by decide) rfl (x1 := wr ((rd μ 78 11) - (rd μ 78 10))) (y1 := wr (qsl p0)) rfl rfl  (fun c2 => ?_) (fun c2 => ?_)
    · replace h := qit c2 h
      refine ev_iconst (pc' := 27) dX10_isWord_26 rfl ?_
      refine ev_istore_n (pc' := 28) (L1 := [some (.ref 78), some (.ref p0), some (iv 0)]) dX10_isWord_27 rfl rfl ?_
      replace h := qbd h; obtain ⟨y7, hy7, h⟩ := h
      refine ev_wk (qLe_eq (qLe_eq (qLe_eq qLe_nil))) (?_ : Ev _ _ _ [some (.ref 78), some (.ref p0), some (iv 0)] _ _ _ _)
      refine ebX10_isWord_28 hp0 _ _ _ hy7 _ _ ?_ ?_
      · intro b8 eb8
        subst eb8
        replace h := qel h
        refine ev_iconst (pc' := 64) dX10_isWord_63 rfl ?_
        cases h
        exact ev_ireturn dX10_isWord_64 rfl rfl
      · intro r9 er9
        subst er9
        replace h := qer h
        cases h
        exact ⟨rfl, rfl⟩
    · replace h := qif' c2 h
      refine ev_iconst (pc' := 25) dX10_isWord_24 rfl ?_
      cases h
      exact ev_ireturn dX10_isWord_25 rfl rfl
  · replace h := qif' c1 h
    refine ev_iconst (pc' := 25) dX10_isWord_24 rfl ?_
    cases h
    exact ev_ireturn dX10_isWord_25 rfl rfl
set_option maxRecDepth 100000 in
theorem eX10_fail {Ls t d : Nat} {p0 : Int} {μ : qMu} {r : Int × qMu} (h : fX10_fail p0 μ = some r) : Ev (d + 0) mX10_fail 0 [some (.ref 78), some (iv p0)] [] (cS Ls t μ) (.inl (some (iv r.1))) (cS Ls t r.2) := by
  unfold fX10_fail at h
  refine ev_aload_n (pc' := 1) dX10_fail_0 rfl rfl ?_
  refine ev_aload_n (pc' := 2) dX10_fail_1 rfl rfl ?_
  refine ev_geti (pc' := 5) (ki := 12) dX10_fail_2 rfl tf_10_95 sh78 rfl rfl ?_
  refine ev_iconst (pc' := 6) dX10_fail_5 rfl ?_
  have k2 : ∀ j3 : Int, j3 = (if wr (rd μ 78 12) = 1 then 1 else p0) → Ev (d + 0) mX10_fail 14 [some (.ref 78), none] [iv j3, .ref 78] (cS Ls t μ) (.inl (some (iv r.1))) (cS Ls t r.2) := by
    intro j3 ej3
    subst ej3
    replace h := qbd h; obtain ⟨μ4, hμ4, h⟩ := h
    refine ev_puti (pc' := 17) dX10_fail_14 rfl tf_10_119 sh78 rfl rfl (qw_9_14 _) rfl hμ4 ?_
    refine ev_aload_n (pc' := 18) dX10_fail_17 rfl rfl ?_
    refine ev_aload_n (pc' := 19) dX10_fail_18 rfl rfl ?_
    refine ev_geti (pc' := 22) (ki := 10) dX10_fail_19 rfl tf_10_92 sh78 rfl rfl ?_
    replace h := qbd h; obtain ⟨μ5, hμ5, h⟩ := h
    refine ev_puti (pc' := 25) dX10_fail_22 rfl tf_10_122 sh78 rfl rfl (qw_9_15 _) rfl hμ5 ?_
    refine ev_iconst (pc' := 26) dX10_fail_25 rfl ?_
    cases h
    exact ev_ireturn dX10_fail_26 rfl rfl
  refine ev_icmpne (pc' := 9) (tgt := 13) dX10_fail_6 (by decide) rfl (x1 := wr (rd μ 78 12)) (y1 := 1) rfl wl_1  (fun c1 => ?_) (fun c1 => ?_)
  · skip
    refine ev_iconst (pc' := 10) dX10_fail_9 rfl ?_
    refine ev_goto (pc' := 14) dX10_fail_10 (by decide) ?_
    exact ev_wk (qLe_eq (qLe_sk qLe_nil)) (k2 _ (qet c1 rfl))
  · skip
    refine ev_iload_n (pc' := 14) dX10_fail_13 rfl rfl ?_
    exact ev_wk (qLe_eq (qLe_sk qLe_nil)) (k2 _ (qef c1 rfl))
set_option maxRecDepth 100000 in
theorem eX10_number {Ls t d n : Nat} {p0 : Int} {p1 : Int} {μ : qMu} {r : Int × qMu} (h : fX10_number n p0 p1 μ = some r) : Ev (d + 3) mX10_number 0 [some (.ref 78), some (iv p0), some (iv p1)] [] (cS Ls t μ) (.inl (some (iv r.1))) (cS Ls t r.2) := by
  unfold fX10_number at h
  refine ev_aload_n (pc' := 1) dX10_number_0 rfl rfl ?_
  refine ev_geti (pc' := 4) (ki := 12) dX10_number_1 rfl tf_10_95 sh78 rfl rfl ?_
  refine ev_iconst (pc' := 5) dX10_number_4 rfl ?_
  refine ev_icmpeq (pc' := 8) (tgt := 14) dX10_number_5 (by decide) rfl (x1 := wr (rd μ 78 12)) (y1 := 3) rfl wl_3  (fun c1 => ?_) (fun c1 => ?_)
  · replace h := qit c1 h
    refine ev_aload_n (pc' := 15) dX10_number_14 rfl rfl ?_
    refine ev_geti (pc' := 18) (ki := 13) dX10_number_15 rfl tf_10_98 sh78 rfl rfl ?_
    refine ev_iload_n (pc' := 19) dX10_number_18 rfl rfl ?_
    refine ev_iload_n (pc' := 20) dX10_number_19 rfl rfl ?_
    replace h := qbd h; obtain ⟨y2, hy2, h⟩ := h
    refine ev_callg (pc' := 23) (st2 := [iv y2]) dX10_number_20 (qs_S tc_10_128 (by decide) rfl rfl) rfl rfl (eX10_isIn (d := d + 2) hy2) rfl rfl ?_
    refine ev_ifne (pc' := 26) (tgt := 32) dX10_number_23 (by decide) rfl (x1 := wr y2) rfl (fun c3 => ?_) (fun c3 => ?_)
    · replace h := qit c3 h
      refine ev_aload_n (pc' := 27) dX10_number_26 rfl rfl ?_
      refine ev_iconst (pc' := 28) dX10_number_27 rfl ?_
      replace h := qbd h; obtain ⟨y4, hy4, h⟩ := h
      refine ev_callg (pc' := 31) (st2 := [iv y4.1]) dX10_number_28 (qs_V tc_10_125 rfl rfl (cS_cls sh78) rfl) rfl rfl (eX10_fail (d := d + 2) hy4) rfl rfl ?_
      replace h := qbd h; obtain ⟨x5, hx5, h⟩ := h
      obtain ⟨ex5, nx5⟩ := qbl_n hx5
      subst ex5
      cases h
      exact ev_ireturn dX10_number_31 rfl nx5
    · replace h := qif' c3 h
      refine ev_aload_n (pc' := 33) dX10_number_32 rfl rfl ?_
      refine ev_aload_n (pc' := 34) dX10_number_33 rfl rfl ?_
      refine ev_geti (pc' := 37) (ki := 13) dX10_number_34 rfl tf_10_98 sh78 rfl rfl ?_
      replace h := qbd h; obtain ⟨μ6, hμ6, h⟩ := h
      refine ev_puti (pc' := 40) dX10_number_37 rfl tf_10_132 sh78 rfl rfl (qw_9_16 _) rfl hμ6 ?_
      refine ev_aload_n (pc' := 41) dX10_number_40 rfl rfl ?_
      replace h := qbd h; obtain ⟨y7, hy7, h⟩ := h
      refine ev_callg (pc' := 44) (st2 := [iv y7.1]) dX10_number_41 (qs_V tc_10_135 rfl rfl (cS_cls sh78) rfl) rfl rfl (eX10_advance (d := d + 0) hy7) rfl rfl ?_
      replace h := qbd h; obtain ⟨x8, hx8, h⟩ := h
      obtain ⟨ex8, nx8⟩ := qbl_n hx8
      subst ex8
      cases h
      exact ev_ireturn dX10_number_44 rfl nx8
  · replace h := qif' c1 h
    refine ev_aload_n (pc' := 9) dX10_number_8 rfl rfl ?_
    refine ev_iconst (pc' := 10) dX10_number_9 rfl ?_
    replace h := qbd h; obtain ⟨y9, hy9, h⟩ := h
    refine ev_callg (pc' := 13) (st2 := [iv y9.1]) dX10_number_10 (qs_V tc_10_125 rfl rfl (cS_cls sh78) rfl) rfl rfl (eX10_fail (d := d + 2) hy9) rfl rfl ?_
    replace h := qbd h; obtain ⟨x10, hx10, h⟩ := h
    obtain ⟨ex10, nx10⟩ := qbl_n hx10
    subst ex10
    cases h
    exact ev_ireturn dX10_number_13 rfl nx10
set_option maxRecDepth 100000 in
theorem eX10_closed {Ls t d n : Nat} {μ : qMu} {r : Int × qMu} (h : fX10_closed n μ = some r) : Ev (d + 3) mX10_closed 0 [some (.ref 78)] [] (cS Ls t μ) (.inl (some (iv r.1))) (cS Ls t r.2) := by
  unfold fX10_closed at h
  refine ev_aload_n (pc' := 1) dX10_closed_0 rfl rfl ?_
  refine ev_geti (pc' := 4) (ki := 12) dX10_closed_1 rfl tf_10_95 sh78 rfl rfl ?_
  refine ev_iconst (pc' := 5) dX10_closed_4 rfl ?_
  refine ev_icmpeq (pc' := 8) (tgt := 14) dX10_closed_5 (by decide) rfl (x1 := wr (rd μ 78 12)) (y1 := 4) rfl wl_4  (fun c1 => ?_) (fun c1 => ?_)
  · replace h := qit c1 h
    refine ev_aload_n (pc' := 15) dX10_closed_14 rfl rfl ?_
    replace h := qbd h; obtain ⟨y2, hy2, h⟩ := h
    refine ev_callg (pc' := 18) (st2 := [iv y2.1]) dX10_closed_15 (qs_V tc_10_135 rfl rfl (cS_cls sh78) rfl) rfl rfl (eX10_advance (d := d + 0) hy2) rfl rfl ?_
    replace h := qbd h; obtain ⟨x3, hx3, h⟩ := h
    obtain ⟨ex3, nx3⟩ := qbl_n hx3
    subst ex3
    cases h
    exact ev_ireturn dX10_closed_18 rfl nx3
  · replace h := qif' c1 h
    refine ev_aload_n (pc' := 9) dX10_closed_8 rfl rfl ?_
    refine ev_iconst (pc' := 10) dX10_closed_9 rfl ?_
    replace h := qbd h; obtain ⟨y4, hy4, h⟩ := h
    refine ev_callg (pc' := 13) (st2 := [iv y4.1]) dX10_closed_10 (qs_V tc_10_125 rfl rfl (cS_cls sh78) rfl) rfl rfl (eX10_fail (d := d + 2) hy4) rfl rfl ?_
    replace h := qbd h; obtain ⟨x5, hx5, h⟩ := h
    obtain ⟨ex5, nx5⟩ := qbl_n hx5
    subst ex5
    cases h
    exact ev_ireturn dX10_closed_13 rfl nx5
set_option maxRecDepth 100000 in
theorem ebX10_realisesByLoops_9 {Ls t d n : Nat} : ∀ (k : Nat) (x : Int × Int × qMu) (y : qMu), lp (fun x : Int × Int × qMu => bX10_realisesByLoops_9 n x.1 x.2.1 x.2.2) k x = some y → ∀ (o : qO) (s' : qSt), Ev (d + 2) mX10_realisesByLoops 84 [none, none, none] [] (cS Ls t y) o s' → Ev (d + 2) mX10_realisesByLoops 9 [some (.ref 78), some (iv x.1), some (iv x.2.1)] [] (cS Ls t x.2.2) o s' := by
  intro k
  induction k with
  | zero => intro x y h; cases h
  | succ k ih =>
    intro x y h o s' kE
    rw [lp_s] at h
    replace h := qbd h; obtain ⟨zz, h0, h1⟩ := h
    have h : bX10_realisesByLoops_9 n x.1 x.2.1 x.2.2 = some zz := h0
    clear h0
    unfold bX10_realisesByLoops_9 at h
    refine ev_iload_n (pc' := 10) dX10_realisesByLoops_9 rfl rfl ?_
    refine ev_aload_n (pc' := 11) dX10_realisesByLoops_10 rfl rfl ?_
    refine ev_getr (pc' := 14) dX10_realisesByLoops_11 rfl tf_10_7 sh78 rfl ?_
    refine ev_iconst (pc' := 15) dX10_realisesByLoops_14 rfl ?_
    replace h := qbd h; obtain ⟨x2, hx2, h⟩ := h
    refine ev_iald (pc' := 16) dX10_realisesByLoops_15 rfl sh79 hx2 ?_
    refine ev_icmpge (pc' := 19) (tgt := 84) dX10_realisesByLoops_16 (by decide) rfl (x1 := wr x.2.1) (y1 := wr x2) rfl rfl  (fun c3 => ?_) (fun c3 => ?_)
    · replace h := qit c3 h
      refine ev_aload_n (pc' := 20) dX10_realisesByLoops_19 rfl rfl ?_
      refine ev_iconst (pc' := 21) dX10_realisesByLoops_20 rfl ?_
      refine ev_iload_n (pc' := 22) dX10_realisesByLoops_21 rfl rfl ?_
      refine ev_iload_n (pc' := 23) dX10_realisesByLoops_22 rfl rfl ?_
      refine ev_aload_n (pc' := 24) dX10_realisesByLoops_23 rfl rfl ?_
      refine ev_getr (pc' := 27) dX10_realisesByLoops_24 rfl tf_10_38 sh78 rfl ?_
      refine ev_iload_n (pc' := 28) dX10_realisesByLoops_27 rfl rfl ?_
      replace h := qbd h; obtain ⟨x4, hx4, h⟩ := h
      refine ev_iald (pc' := 29) dX10_realisesByLoops_28 rfl sh87 hx4 ?_
      refine ev_iconst (pc' := 30) dX10_realisesByLoops_29 rfl ?_
      refine ev_idiv (pc' := 31) dX10_realisesByLoops_30 rfl zl_2 ?_
      replace h := qbd h; obtain ⟨y5, hy5, h⟩ := h
      refine ev_callg (pc' := 34) (st2 := []) dX10_realisesByLoops_31 (qs_V tc_10_149 rfl rfl (cS_cls sh78) rfl) rfl rfl (eX10_adds (d := d + 0) hy5) rfl rfl ?_
      refine ev_aload_n (pc' := 35) dX10_realisesByLoops_34 rfl rfl ?_
      refine ev_getr (pc' := 38) dX10_realisesByLoops_35 rfl tf_10_38 sh78 rfl ?_
      refine ev_iload_n (pc' := 39) dX10_realisesByLoops_38 rfl rfl ?_
      replace h := qbd h; obtain ⟨x6, hx6, h⟩ := h
      refine ev_iald (pc' := 40) dX10_realisesByLoops_39 rfl sh87 hx6 ?_
      refine ev_iconst (pc' := 41) dX10_realisesByLoops_40 rfl ?_
      refine ev_irem (pc' := 42) dX10_realisesByLoops_41 rfl zl_2 ?_
      refine ev_iconst (pc' := 43) dX10_realisesByLoops_42 rfl ?_
      replace h := qbd h; obtain ⟨y8, hy8, h⟩ := h
      have kJ : Ev (d + 2) mX10_realisesByLoops 78 [some (.ref 78), some (iv y8.1), some (iv x.2.1)] [] (cS Ls t y8.2) o s' := by
        refine ev_iinc (pc' := 81) (x := x.2.1) (L1 := [some (.ref 78), some (iv y8.1), some (iv (x.2.1 + 1))]) dX10_realisesByLoops_78 rfl rfl rfl ?_
        refine ev_goto (pc' := 9) dX10_realisesByLoops_81 (by decide) ?_
        cases h
        exact ev_wk (qLe_eq (qLe_eq (qLe_eq qLe_nil))) (ih _ _ h1 _ _ kE)
      replace h := hy8
      clear hy8
      refine ev_icmpne (pc' := 46) (tgt := 56) dX10_realisesByLoops_43 (by decide) rfl (x1 := wr (irm x6 2)) (y1 := 1) rfl wl_1  (fun c7 => ?_) (fun c7 => ?_)
      · replace h := qit c7 h
        refine ev_iload_n (pc' := 47) dX10_realisesByLoops_46 rfl rfl ?_
        refine ev_iconst (pc' := 48) dX10_realisesByLoops_47 rfl ?_
        refine ev_icmpne (pc' := 51) (tgt := 56) dX10_realisesByLoops_48 (by decide) rfl (x1 := wr x.1) (y1 := (-1)) rfl wl_m1  (fun c9 => ?_) (fun c9 => ?_)
        · replace h := qit c9 h
          refine ev_iload_n (pc' := 52) dX10_realisesByLoops_51 rfl rfl ?_
          refine ev_istore_n (pc' := 53) (L1 := [some (.ref 78), some (iv x.2.1), some (iv x.2.1)]) dX10_realisesByLoops_52 rfl rfl ?_
          refine ev_goto (pc' := 78) dX10_realisesByLoops_53 (by decide) ?_
          cases h
          exact ev_wk (qLe_eq (qLe_eq (qLe_eq qLe_nil))) kJ
        · replace h := qif' c9 h
          refine ev_aload_n (pc' := 57) dX10_realisesByLoops_56 rfl rfl ?_
          refine ev_getr (pc' := 60) dX10_realisesByLoops_57 rfl tf_10_38 sh78 rfl ?_
          refine ev_iload_n (pc' := 61) dX10_realisesByLoops_60 rfl rfl ?_
          replace h := qbd h; obtain ⟨x10, hx10, h⟩ := h
          refine ev_iald (pc' := 62) dX10_realisesByLoops_61 rfl sh87 hx10 ?_
          refine ev_iconst (pc' := 63) dX10_realisesByLoops_62 rfl ?_
          refine ev_irem (pc' := 64) dX10_realisesByLoops_63 rfl zl_2 ?_
          refine ev_iconst (pc' := 65) dX10_realisesByLoops_64 rfl ?_
          refine ev_icmpne (pc' := 68) (tgt := 78) dX10_realisesByLoops_65 (by decide) rfl (x1 := wr (irm x10 2)) (y1 := 1) rfl wl_1  (fun c11 => ?_) (fun c11 => ?_)
          · replace h := qit c11 h
            refine ev_aload_n (pc' := 69) dX10_realisesByLoops_68 rfl rfl ?_
            refine ev_iconst (pc' := 70) dX10_realisesByLoops_69 rfl ?_
            refine ev_iload_n (pc' := 71) dX10_realisesByLoops_70 rfl rfl ?_
            refine ev_iload_n (pc' := 72) dX10_realisesByLoops_71 rfl rfl ?_
            refine ev_iconst (pc' := 73) dX10_realisesByLoops_72 rfl ?_
            replace h := qbd h; obtain ⟨y12, hy12, h⟩ := h
            refine ev_callg (pc' := 76) (st2 := []) dX10_realisesByLoops_73 (qs_V tc_10_149 rfl rfl (cS_cls sh78) rfl) rfl rfl (eX10_adds (d := d + 0) hy12) rfl rfl ?_
            refine ev_iconst (pc' := 77) dX10_realisesByLoops_76 rfl ?_
            refine ev_istore_n (pc' := 78) (L1 := [some (.ref 78), some (iv (-1)), some (iv x.2.1)]) dX10_realisesByLoops_77 rfl rfl ?_
            cases h
            exact ev_wk (qLe_eq (qLe_eq (qLe_eq qLe_nil))) kJ
          · replace h := qif' c11 h
            cases h
            exact ev_wk (qLe_eq (qLe_eq (qLe_eq qLe_nil))) kJ
      · replace h := qif' c7 h
        refine ev_aload_n (pc' := 57) dX10_realisesByLoops_56 rfl rfl ?_
        refine ev_getr (pc' := 60) dX10_realisesByLoops_57 rfl tf_10_38 sh78 rfl ?_
        refine ev_iload_n (pc' := 61) dX10_realisesByLoops_60 rfl rfl ?_
        replace h := qbd h; obtain ⟨x13, hx13, h⟩ := h
        refine ev_iald (pc' := 62) dX10_realisesByLoops_61 rfl sh87 hx13 ?_
        refine ev_iconst (pc' := 63) dX10_realisesByLoops_62 rfl ?_
        refine ev_irem (pc' := 64) dX10_realisesByLoops_63 rfl zl_2 ?_
        refine ev_iconst (pc' := 65) dX10_realisesByLoops_64 rfl ?_
        refine ev_icmpne (pc' := 68) (tgt := 78) dX10_realisesByLoops_65 (by decide) rfl (x1 := wr (irm x13 2)) (y1 := 1) rfl wl_1  (fun c14 => ?_) (fun c14 => ?_)
        · replace h := qit c14 h
          refine ev_aload_n (pc' := 69) dX10_realisesByLoops_68 rfl rfl ?_
          refine ev_iconst (pc' := 70) dX10_realisesByLoops_69 rfl ?_
          refine ev_iload_n (pc' := 71) dX10_realisesByLoops_70 rfl rfl ?_
          refine ev_iload_n (pc' := 72) dX10_realisesByLoops_71 rfl rfl ?_
          refine ev_iconst (pc' := 73) dX10_realisesByLoops_72 rfl ?_
          replace h := qbd h; obtain ⟨y15, hy15, h⟩ := h
          refine ev_callg (pc' := 76) (st2 := []) dX10_realisesByLoops_73 (qs_V tc_10_149 rfl rfl (cS_cls sh78) rfl) rfl rfl (eX10_adds (d := d + 0) hy15) rfl rfl ?_
          refine ev_iconst (pc' := 77) dX10_realisesByLoops_76 rfl ?_
          refine ev_istore_n (pc' := 78) (L1 := [some (.ref 78), some (iv (-1)), some (iv x.2.1)]) dX10_realisesByLoops_77 rfl rfl ?_
          cases h
          exact ev_wk (qLe_eq (qLe_eq (qLe_eq qLe_nil))) kJ
        · replace h := qif' c14 h
          cases h
          exact ev_wk (qLe_eq (qLe_eq (qLe_eq qLe_nil))) kJ
    · replace h := qif' c3 h
      cases h
      cases h1
      exact ev_wk (qLe_sk (qLe_sk (qLe_sk qLe_nil))) kE
set_option maxRecDepth 100000 in
theorem eX10_realisesByLoops {Ls t d n : Nat} {μ : qMu} {r : qMu} (h : fX10_realisesByLoops n μ = some r) : Ev (d + 2) mX10_realisesByLoops 0 [some (.ref 78), none, none] [] (cS Ls t μ) (.inl none) (cS Ls t r) := by
  unfold fX10_realisesByLoops at h
  refine ev_aload_n (pc' := 1) dX10_realisesByLoops_0 rfl rfl ?_
  refine ev_iconst (pc' := 2) dX10_realisesByLoops_1 rfl ?_
  replace h := qbd h; obtain ⟨y1, hy1, h⟩ := h
  refine ev_callg (pc' := 5) (st2 := []) dX10_realisesByLoops_2 (qs_V tc_10_259 rfl rfl (cS_cls sh78) rfl) rfl rfl (eX10_empties (d := d + 1) hy1) rfl rfl ?_
  refine ev_iconst (pc' := 6) dX10_realisesByLoops_5 rfl ?_
  refine ev_istore_n (pc' := 7) (L1 := [some (.ref 78), some (iv (-1)), none]) dX10_realisesByLoops_6 rfl rfl ?_
  refine ev_iconst (pc' := 8) dX10_realisesByLoops_7 rfl ?_
  refine ev_istore_n (pc' := 9) (L1 := [some (.ref 78), some (iv (-1)), some (iv 0)]) dX10_realisesByLoops_8 rfl rfl ?_
  replace h := qbd h; obtain ⟨y16, hy16, h⟩ := h
  refine ev_wk (qLe_eq (qLe_eq (qLe_eq qLe_nil))) (?_ : Ev _ _ _ [some (.ref 78), some (iv (-1)), some (iv 0)] _ _ _ _)
  refine ebX10_realisesByLoops_9 _ _ _ hy16 _ _ ?_
  cases h
  exact ev_return dX10_realisesByLoops_84 rfl
set_option maxRecDepth 100000 in
theorem ebX10_degreesStatement_9 {Ls t d n : Nat} : ∀ (k : Nat) (x : Int × Int × qMu) (y : (Int × Int × qMu) ⊕ (Int × qMu)), lp (fun x : Int × Int × qMu => bX10_degreesStatement_9 n x.1 x.2.1 x.2.2) k x = some y → ∀ (o : qO) (s' : qSt), (∀ b : Int × Int × qMu, y = .inl b → Ev (d + 4) mX10_degreesStatement 89 [some (.ref 78), some (iv b.1), some (iv b.2.1), none] [] (cS Ls t b.2.2) o s') → (∀ r : Int × qMu, y = .inr r → o = (.inl (some (iv r.1))) ∧ s' = (cS Ls t r.2)) → Ev (d + 4) mX10_degreesStatement 9 [some (.ref 78), some (iv x.1), some (iv x.2.1), none] [] (cS Ls t x.2.2) o s' := by
  intro k
  induction k with
  | zero => intro x y h; cases h
  | succ k ih =>
    intro x y h o s' kE kR
    rw [lp_s] at h
    replace h := qbd h; obtain ⟨zz, h0, h1⟩ := h
    have h : bX10_degreesStatement_9 n x.1 x.2.1 x.2.2 = some zz := h0
    clear h0
    unfold bX10_degreesStatement_9 at h
    refine ev_iload_n (pc' := 10) dX10_degreesStatement_9 rfl rfl ?_
    refine ev_ifeq (pc' := 13) (tgt := 21) dX10_degreesStatement_10 (by decide) rfl (x1 := wr x.1) rfl (fun c2 => ?_) (fun c2 => ?_)
    · replace h := qit c2 h
      refine ev_aload_n (pc' := 22) dX10_degreesStatement_21 rfl rfl ?_
      refine ev_geti (pc' := 25) (ki := 12) dX10_degreesStatement_22 rfl tf_10_95 sh78 rfl rfl ?_
      refine ev_iconst (pc' := 26) dX10_degreesStatement_25 rfl ?_
      refine ev_icmpne (pc' := 29) (tgt := 54) dX10_degreesStatement_26 (by decide) rfl (x1 := wr (rd x.2.2 78 12)) (y1 := 3) rfl wl_3  (fun c3 => ?_) (fun c3 => ?_)
      · replace h := qit c3 h
        refine ev_aload_n (pc' := 30) dX10_degreesStatement_29 rfl rfl ?_
        refine ev_geti (pc' := 33) (ki := 13) dX10_degreesStatement_30 rfl tf_10_98 sh78 rfl rfl ?_
        refine ev_iconst (pc' := 34) dX10_degreesStatement_33 rfl ?_
        refine ev_bipush (pc' := 36) dX10_degreesStatement_34 rfl bl_32 ?_
        replace h := qbd h; obtain ⟨y4, hy4, h⟩ := h
        refine ev_callg (pc' := 39) (st2 := [iv y4]) dX10_degreesStatement_36 (qs_S tc_10_128 (by decide) rfl rfl) rfl rfl (eX10_isIn (d := d + 3) hy4) rfl rfl ?_
        refine ev_ifeq (pc' := 42) (tgt := 54) dX10_degreesStatement_39 (by decide) rfl (x1 := wr y4) rfl (fun c5 => ?_) (fun c5 => ?_)
        · replace h := qit c5 h
          refine ev_aload_n (pc' := 55) dX10_degreesStatement_54 rfl rfl ?_
          refine ev_iconst (pc' := 56) dX10_degreesStatement_55 rfl ?_
          refine ev_bipush (pc' := 58) dX10_degreesStatement_56 rfl bl_32 ?_
          replace h := qbd h; obtain ⟨y6, hy6, h⟩ := h
          refine ev_callg (pc' := 61) (st2 := [iv y6.1]) dX10_degreesStatement_58 (qs_V tc_10_139 rfl rfl (cS_cls sh78) rfl) rfl rfl (eX10_number (d := d + 0) hy6) rfl rfl ?_
          refine ev_ifne (pc' := 64) (tgt := 66) dX10_degreesStatement_61 (by decide) rfl (x1 := wr y6.1) rfl (fun c7 => ?_) (fun c7 => ?_)
          · replace h := qit c7 h
            refine ev_iconst (pc' := 65) dX10_degreesStatement_64 rfl ?_
            cases h
            cases h1
            obtain ⟨rfl, rfl⟩ := kR _ rfl
            exact ev_ireturn dX10_degreesStatement_65 rfl rfl
          · replace h := qif' c7 h
            refine ev_aload_n (pc' := 67) dX10_degreesStatement_66 rfl rfl ?_
            refine ev_getr (pc' := 70) dX10_degreesStatement_67 rfl tf_10_26 sh78 rfl ?_
            refine ev_iload_n (pc' := 71) dX10_degreesStatement_70 rfl rfl ?_
            refine ev_aload_n (pc' := 72) dX10_degreesStatement_71 rfl rfl ?_
            refine ev_geti (pc' := 75) (ki := 16) dX10_degreesStatement_72 rfl tf_10_132 sh78 rfl rfl ?_
            replace h := qbd h; obtain ⟨μ8, hμ8, h⟩ := h
            refine ev_iast (pc' := 76) dX10_degreesStatement_75 rfl sh83 hμ8 ?_
            refine ev_iload_n (pc' := 77) dX10_degreesStatement_76 rfl rfl ?_
            refine ev_aload_n (pc' := 78) dX10_degreesStatement_77 rfl rfl ?_
            refine ev_geti (pc' := 81) (ki := 16) dX10_degreesStatement_78 rfl tf_10_132 sh78 rfl rfl ?_
            refine ev_iadd (pc' := 82) dX10_degreesStatement_81 rfl ?_
            refine ev_istore_n (pc' := 83) (L1 := [some (.ref 78), some (iv x.1), some (iv (x.2.1 + (rd μ8 78 16))), none]) dX10_degreesStatement_82 rfl rfl ?_
            refine ev_iinc (pc' := 86) (x := x.1) (L1 := [some (.ref 78), some (iv (x.1 + 1)), some (iv (x.2.1 + (rd μ8 78 16))), none]) dX10_degreesStatement_83 rfl rfl rfl ?_
            refine ev_goto (pc' := 9) dX10_degreesStatement_86 (by decide) ?_
            cases h
            exact ev_wk (qLe_eq (qLe_eq (qLe_eq (qLe_eq qLe_nil)))) (ih _ _ h1 _ _ kE kR)
        · replace h := qif' c5 h
          refine ev_iload_n (pc' := 43) dX10_degreesStatement_42 rfl rfl ?_
          refine ev_bipush (pc' := 45) dX10_degreesStatement_43 rfl bl_8 ?_
          refine ev_icmpne (pc' := 48) (tgt := 54) dX10_degreesStatement_45 (by decide) rfl (x1 := wr x.1) (y1 := 8) rfl wl_8  (fun c9 => ?_) (fun c9 => ?_)
          · replace h := qit c9 h
            refine ev_aload_n (pc' := 49) dX10_degreesStatement_48 rfl rfl ?_
            refine ev_iconst (pc' := 50) dX10_degreesStatement_49 rfl ?_
            replace h := qbd h; obtain ⟨y10, hy10, h⟩ := h
            refine ev_callg (pc' := 53) (st2 := [iv y10.1]) dX10_degreesStatement_50 (qs_V tc_10_125 rfl rfl (cS_cls sh78) rfl) rfl rfl (eX10_fail (d := d + 3) hy10) rfl rfl ?_
            replace h := qbd h; obtain ⟨x11, hx11, h⟩ := h
            obtain ⟨ex11, nx11⟩ := qbl_n hx11
            subst ex11
            cases h
            cases h1
            obtain ⟨rfl, rfl⟩ := kR _ rfl
            exact ev_ireturn dX10_degreesStatement_53 rfl nx11
          · replace h := qif' c9 h
            refine ev_aload_n (pc' := 55) dX10_degreesStatement_54 rfl rfl ?_
            refine ev_iconst (pc' := 56) dX10_degreesStatement_55 rfl ?_
            refine ev_bipush (pc' := 58) dX10_degreesStatement_56 rfl bl_32 ?_
            replace h := qbd h; obtain ⟨y12, hy12, h⟩ := h
            refine ev_callg (pc' := 61) (st2 := [iv y12.1]) dX10_degreesStatement_58 (qs_V tc_10_139 rfl rfl (cS_cls sh78) rfl) rfl rfl (eX10_number (d := d + 0) hy12) rfl rfl ?_
            refine ev_ifne (pc' := 64) (tgt := 66) dX10_degreesStatement_61 (by decide) rfl (x1 := wr y12.1) rfl (fun c13 => ?_) (fun c13 => ?_)
            · replace h := qit c13 h
              refine ev_iconst (pc' := 65) dX10_degreesStatement_64 rfl ?_
              cases h
              cases h1
              obtain ⟨rfl, rfl⟩ := kR _ rfl
              exact ev_ireturn dX10_degreesStatement_65 rfl rfl
            · replace h := qif' c13 h
              refine ev_aload_n (pc' := 67) dX10_degreesStatement_66 rfl rfl ?_
              refine ev_getr (pc' := 70) dX10_degreesStatement_67 rfl tf_10_26 sh78 rfl ?_
              refine ev_iload_n (pc' := 71) dX10_degreesStatement_70 rfl rfl ?_
              refine ev_aload_n (pc' := 72) dX10_degreesStatement_71 rfl rfl ?_
              refine ev_geti (pc' := 75) (ki := 16) dX10_degreesStatement_72 rfl tf_10_132 sh78 rfl rfl ?_
              replace h := qbd h; obtain ⟨μ14, hμ14, h⟩ := h
              refine ev_iast (pc' := 76) dX10_degreesStatement_75 rfl sh83 hμ14 ?_
              refine ev_iload_n (pc' := 77) dX10_degreesStatement_76 rfl rfl ?_
              refine ev_aload_n (pc' := 78) dX10_degreesStatement_77 rfl rfl ?_
              refine ev_geti (pc' := 81) (ki := 16) dX10_degreesStatement_78 rfl tf_10_132 sh78 rfl rfl ?_
              refine ev_iadd (pc' := 82) dX10_degreesStatement_81 rfl ?_
              refine ev_istore_n (pc' := 83) (L1 := [some (.ref 78), some (iv x.1), some (iv (x.2.1 + (rd μ14 78 16))), none]) dX10_degreesStatement_82 rfl rfl ?_
              refine ev_iinc (pc' := 86) (x := x.1) (L1 := [some (.ref 78), some (iv (x.1 + 1)), some (iv (x.2.1 + (rd μ14 78 16))), none]) dX10_degreesStatement_83 rfl rfl rfl ?_
              refine ev_goto (pc' := 9) dX10_degreesStatement_86 (by decide) ?_
              cases h
              exact ev_wk (qLe_eq (qLe_eq (qLe_eq (qLe_eq qLe_nil)))) (ih _ _ h1 _ _ kE kR)
      · replace h := qif' c3 h
        refine ev_aload_n (pc' := 55) dX10_degreesStatement_54 rfl rfl ?_
        refine ev_iconst (pc' := 56) dX10_degreesStatement_55 rfl ?_
        refine ev_bipush (pc' := 58) dX10_degreesStatement_56 rfl bl_32 ?_
        replace h := qbd h; obtain ⟨y15, hy15, h⟩ := h
        refine ev_callg (pc' := 61) (st2 := [iv y15.1]) dX10_degreesStatement_58 (qs_V tc_10_139 rfl rfl (cS_cls sh78) rfl) rfl rfl (eX10_number (d := d + 0) hy15) rfl rfl ?_
        refine ev_ifne (pc' := 64) (tgt := 66) dX10_degreesStatement_61 (by decide) rfl (x1 := wr y15.1) rfl (fun c16 => ?_) (fun c16 => ?_)
        · replace h := qit c16 h
          refine ev_iconst (pc' := 65) dX10_degreesStatement_64 rfl ?_
          cases h
          cases h1
          obtain ⟨rfl, rfl⟩ := kR _ rfl
          exact ev_ireturn dX10_degreesStatement_65 rfl rfl
        · replace h := qif' c16 h
          refine ev_aload_n (pc' := 67) dX10_degreesStatement_66 rfl rfl ?_
          refine ev_getr (pc' := 70) dX10_degreesStatement_67 rfl tf_10_26 sh78 rfl ?_
          refine ev_iload_n (pc' := 71) dX10_degreesStatement_70 rfl rfl ?_
          refine ev_aload_n (pc' := 72) dX10_degreesStatement_71 rfl rfl ?_
          refine ev_geti (pc' := 75) (ki := 16) dX10_degreesStatement_72 rfl tf_10_132 sh78 rfl rfl ?_
          replace h := qbd h; obtain ⟨μ17, hμ17, h⟩ := h
          refine ev_iast (pc' := 76) dX10_degreesStatement_75 rfl sh83 hμ17 ?_
          refine ev_iload_n (pc' := 77) dX10_degreesStatement_76 rfl rfl ?_
          refine ev_aload_n (pc' := 78) dX10_degreesStatement_77 rfl rfl ?_
          refine ev_geti (pc' := 81) (ki := 16) dX10_degreesStatement_78 rfl tf_10_132 sh78 rfl rfl ?_
          refine ev_iadd (pc' := 82) dX10_degreesStatement_81 rfl ?_
          refine ev_istore_n (pc' := 83) (L1 := [some (.ref 78), some (iv x.1), some (iv (x.2.1 + (rd μ17 78 16))), none]) dX10_degreesStatement_82 rfl rfl ?_
          refine ev_iinc (pc' := 86) (x := x.1) (L1 := [some (.ref 78), some (iv (x.1 + 1)), some (iv (x.2.1 + (rd μ17 78 16))), none]) dX10_degreesStatement_83 rfl rfl rfl ?_
          refine ev_goto (pc' := 9) dX10_degreesStatement_86 (by decide) ?_
          cases h
          exact ev_wk (qLe_eq (qLe_eq (qLe_eq (qLe_eq qLe_nil)))) (ih _ _ h1 _ _ kE kR)
    · replace h := qif' c2 h
      refine ev_aload_n (pc' := 14) dX10_degreesStatement_13 rfl rfl ?_
      refine ev_geti (pc' := 17) (ki := 12) dX10_degreesStatement_14 rfl tf_10_95 sh78 rfl rfl ?_
      refine ev_iconst (pc' := 18) dX10_degreesStatement_17 rfl ?_
      refine ev_icmpne (pc' := 21) (tgt := 89) dX10_degreesStatement_18 (by decide) rfl (x1 := wr (rd x.2.2 78 12)) (y1 := 3) rfl wl_3  (fun c18 => ?_) (fun c18 => ?_)
      · replace h := qit c18 h
        refine ev_aload_n (pc' := 22) dX10_degreesStatement_21 rfl rfl ?_
        refine ev_geti (pc' := 25) (ki := 12) dX10_degreesStatement_22 rfl tf_10_95 sh78 rfl rfl ?_
        refine ev_iconst (pc' := 26) dX10_degreesStatement_25 rfl ?_
        refine ev_icmpne (pc' := 29) (tgt := 54) dX10_degreesStatement_26 (by decide) rfl (x1 := wr (rd x.2.2 78 12)) (y1 := 3) rfl wl_3  (fun c19 => ?_) (fun c19 => ?_)
        · replace h := qit c19 h
          refine ev_aload_n (pc' := 30) dX10_degreesStatement_29 rfl rfl ?_
          refine ev_geti (pc' := 33) (ki := 13) dX10_degreesStatement_30 rfl tf_10_98 sh78 rfl rfl ?_
          refine ev_iconst (pc' := 34) dX10_degreesStatement_33 rfl ?_
          refine ev_bipush (pc' := 36) dX10_degreesStatement_34 rfl bl_32 ?_
          replace h := qbd h; obtain ⟨y20, hy20, h⟩ := h
          refine ev_callg (pc' := 39) (st2 := [iv y20]) dX10_degreesStatement_36 (qs_S tc_10_128 (by decide) rfl rfl) rfl rfl (eX10_isIn (d := d + 3) hy20) rfl rfl ?_
          refine ev_ifeq (pc' := 42) (tgt := 54) dX10_degreesStatement_39 (by decide) rfl (x1 := wr y20) rfl (fun c21 => ?_) (fun c21 => ?_)
          · replace h := qit c21 h
            refine ev_aload_n (pc' := 55) dX10_degreesStatement_54 rfl rfl ?_
            refine ev_iconst (pc' := 56) dX10_degreesStatement_55 rfl ?_
            refine ev_bipush (pc' := 58) dX10_degreesStatement_56 rfl bl_32 ?_
            replace h := qbd h; obtain ⟨y22, hy22, h⟩ := h
            refine ev_callg (pc' := 61) (st2 := [iv y22.1]) dX10_degreesStatement_58 (qs_V tc_10_139 rfl rfl (cS_cls sh78) rfl) rfl rfl (eX10_number (d := d + 0) hy22) rfl rfl ?_
            refine ev_ifne (pc' := 64) (tgt := 66) dX10_degreesStatement_61 (by decide) rfl (x1 := wr y22.1) rfl (fun c23 => ?_) (fun c23 => ?_)
            · replace h := qit c23 h
              refine ev_iconst (pc' := 65) dX10_degreesStatement_64 rfl ?_
              cases h
              cases h1
              obtain ⟨rfl, rfl⟩ := kR _ rfl
              exact ev_ireturn dX10_degreesStatement_65 rfl rfl
            · replace h := qif' c23 h
              refine ev_aload_n (pc' := 67) dX10_degreesStatement_66 rfl rfl ?_
              refine ev_getr (pc' := 70) dX10_degreesStatement_67 rfl tf_10_26 sh78 rfl ?_
              refine ev_iload_n (pc' := 71) dX10_degreesStatement_70 rfl rfl ?_
              refine ev_aload_n (pc' := 72) dX10_degreesStatement_71 rfl rfl ?_
              refine ev_geti (pc' := 75) (ki := 16) dX10_degreesStatement_72 rfl tf_10_132 sh78 rfl rfl ?_
              replace h := qbd h; obtain ⟨μ24, hμ24, h⟩ := h
              refine ev_iast (pc' := 76) dX10_degreesStatement_75 rfl sh83 hμ24 ?_
              refine ev_iload_n (pc' := 77) dX10_degreesStatement_76 rfl rfl ?_
              refine ev_aload_n (pc' := 78) dX10_degreesStatement_77 rfl rfl ?_
              refine ev_geti (pc' := 81) (ki := 16) dX10_degreesStatement_78 rfl tf_10_132 sh78 rfl rfl ?_
              refine ev_iadd (pc' := 82) dX10_degreesStatement_81 rfl ?_
              refine ev_istore_n (pc' := 83) (L1 := [some (.ref 78), some (iv x.1), some (iv (x.2.1 + (rd μ24 78 16))), none]) dX10_degreesStatement_82 rfl rfl ?_
              refine ev_iinc (pc' := 86) (x := x.1) (L1 := [some (.ref 78), some (iv (x.1 + 1)), some (iv (x.2.1 + (rd μ24 78 16))), none]) dX10_degreesStatement_83 rfl rfl rfl ?_
              refine ev_goto (pc' := 9) dX10_degreesStatement_86 (by decide) ?_
              cases h
              exact ev_wk (qLe_eq (qLe_eq (qLe_eq (qLe_eq qLe_nil)))) (ih _ _ h1 _ _ kE kR)
          · replace h := qif' c21 h
            refine ev_iload_n (pc' := 43) dX10_degreesStatement_42 rfl rfl ?_
            refine ev_bipush (pc' := 45) dX10_degreesStatement_43 rfl bl_8 ?_
            refine ev_icmpne (pc' := 48) (tgt := 54) dX10_degreesStatement_45 (by decide) rfl (x1 := wr x.1) (y1 := 8) rfl wl_8  (fun c25 => ?_) (fun c25 => ?_)
            · replace h := qit c25 h
              refine ev_aload_n (pc' := 49) dX10_degreesStatement_48 rfl rfl ?_
              refine ev_iconst (pc' := 50) dX10_degreesStatement_49 rfl ?_
              replace h := qbd h; obtain ⟨y26, hy26, h⟩ := h
              refine ev_callg (pc' := 53) (st2 := [iv y26.1]) dX10_degreesStatement_50 (qs_V tc_10_125 rfl rfl (cS_cls sh78) rfl) rfl rfl (eX10_fail (d := d + 3) hy26) rfl rfl ?_
              replace h := qbd h; obtain ⟨x27, hx27, h⟩ := h
              obtain ⟨ex27, nx27⟩ := qbl_n hx27
              subst ex27
              cases h
              cases h1
              obtain ⟨rfl, rfl⟩ := kR _ rfl
              exact ev_ireturn dX10_degreesStatement_53 rfl nx27
            · replace h := qif' c25 h
              refine ev_aload_n (pc' := 55) dX10_degreesStatement_54 rfl rfl ?_
              refine ev_iconst (pc' := 56) dX10_degreesStatement_55 rfl ?_
              refine ev_bipush (pc' := 58) dX10_degreesStatement_56 rfl bl_32 ?_
              replace h := qbd h; obtain ⟨y28, hy28, h⟩ := h
              refine ev_callg (pc' := 61) (st2 := [iv y28.1]) dX10_degreesStatement_58 (qs_V tc_10_139 rfl rfl (cS_cls sh78) rfl) rfl rfl (eX10_number (d := d + 0) hy28) rfl rfl ?_
              refine ev_ifne (pc' := 64) (tgt := 66) dX10_degreesStatement_61 (by decide) rfl (x1 := wr y28.1) rfl (fun c29 => ?_) (fun c29 => ?_)
              · replace h := qit c29 h
                refine ev_iconst (pc' := 65) dX10_degreesStatement_64 rfl ?_
                cases h
                cases h1
                obtain ⟨rfl, rfl⟩ := kR _ rfl
                exact ev_ireturn dX10_degreesStatement_65 rfl rfl
              · replace h := qif' c29 h
                refine ev_aload_n (pc' := 67) dX10_degreesStatement_66 rfl rfl ?_
                refine ev_getr (pc' := 70) dX10_degreesStatement_67 rfl tf_10_26 sh78 rfl ?_
                refine ev_iload_n (pc' := 71) dX10_degreesStatement_70 rfl rfl ?_
                refine ev_aload_n (pc' := 72) dX10_degreesStatement_71 rfl rfl ?_
                refine ev_geti (pc' := 75) (ki := 16) dX10_degreesStatement_72 rfl tf_10_132 sh78 rfl rfl ?_
                replace h := qbd h; obtain ⟨μ30, hμ30, h⟩ := h
                refine ev_iast (pc' := 76) dX10_degreesStatement_75 rfl sh83 hμ30 ?_
                refine ev_iload_n (pc' := 77) dX10_degreesStatement_76 rfl rfl ?_
                refine ev_aload_n (pc' := 78) dX10_degreesStatement_77 rfl rfl ?_
                refine ev_geti (pc' := 81) (ki := 16) dX10_degreesStatement_78 rfl tf_10_132 sh78 rfl rfl ?_
                refine ev_iadd (pc' := 82) dX10_degreesStatement_81 rfl ?_
                refine ev_istore_n (pc' := 83) (L1 := [some (.ref 78), some (iv x.1), some (iv (x.2.1 + (rd μ30 78 16))), none]) dX10_degreesStatement_82 rfl rfl ?_
                refine ev_iinc (pc' := 86) (x := x.1) (L1 := [some (.ref 78), some (iv (x.1 + 1)), some (iv (x.2.1 + (rd μ30 78 16))), none]) dX10_degreesStatement_83 rfl rfl rfl ?_
                refine ev_goto (pc' := 9) dX10_degreesStatement_86 (by decide) ?_
                cases h
                exact ev_wk (qLe_eq (qLe_eq (qLe_eq (qLe_eq qLe_nil)))) (ih _ _ h1 _ _ kE kR)
        · replace h := qif' c19 h
          refine ev_aload_n (pc' := 55) dX10_degreesStatement_54 rfl rfl ?_
          refine ev_iconst (pc' := 56) dX10_degreesStatement_55 rfl ?_
          refine ev_bipush (pc' := 58) dX10_degreesStatement_56 rfl bl_32 ?_
          replace h := qbd h; obtain ⟨y31, hy31, h⟩ := h
          refine ev_callg (pc' := 61) (st2 := [iv y31.1]) dX10_degreesStatement_58 (qs_V tc_10_139 rfl rfl (cS_cls sh78) rfl) rfl rfl (eX10_number (d := d + 0) hy31) rfl rfl ?_
          refine ev_ifne (pc' := 64) (tgt := 66) dX10_degreesStatement_61 (by decide) rfl (x1 := wr y31.1) rfl (fun c32 => ?_) (fun c32 => ?_)
          · replace h := qit c32 h
            refine ev_iconst (pc' := 65) dX10_degreesStatement_64 rfl ?_
            cases h
            cases h1
            obtain ⟨rfl, rfl⟩ := kR _ rfl
            exact ev_ireturn dX10_degreesStatement_65 rfl rfl
          · replace h := qif' c32 h
            refine ev_aload_n (pc' := 67) dX10_degreesStatement_66 rfl rfl ?_
            refine ev_getr (pc' := 70) dX10_degreesStatement_67 rfl tf_10_26 sh78 rfl ?_
            refine ev_iload_n (pc' := 71) dX10_degreesStatement_70 rfl rfl ?_
            refine ev_aload_n (pc' := 72) dX10_degreesStatement_71 rfl rfl ?_
            refine ev_geti (pc' := 75) (ki := 16) dX10_degreesStatement_72 rfl tf_10_132 sh78 rfl rfl ?_
            replace h := qbd h; obtain ⟨μ33, hμ33, h⟩ := h
            refine ev_iast (pc' := 76) dX10_degreesStatement_75 rfl sh83 hμ33 ?_
            refine ev_iload_n (pc' := 77) dX10_degreesStatement_76 rfl rfl ?_
            refine ev_aload_n (pc' := 78) dX10_degreesStatement_77 rfl rfl ?_
            refine ev_geti (pc' := 81) (ki := 16) dX10_degreesStatement_78 rfl tf_10_132 sh78 rfl rfl ?_
            refine ev_iadd (pc' := 82) dX10_degreesStatement_81 rfl ?_
            refine ev_istore_n (pc' := 83) (L1 := [some (.ref 78), some (iv x.1), some (iv (x.2.1 + (rd μ33 78 16))), none]) dX10_degreesStatement_82 rfl rfl ?_
            refine ev_iinc (pc' := 86) (x := x.1) (L1 := [some (.ref 78), some (iv (x.1 + 1)), some (iv (x.2.1 + (rd μ33 78 16))), none]) dX10_degreesStatement_83 rfl rfl rfl ?_
            refine ev_goto (pc' := 9) dX10_degreesStatement_86 (by decide) ?_
            cases h
            exact ev_wk (qLe_eq (qLe_eq (qLe_eq (qLe_eq qLe_nil)))) (ih _ _ h1 _ _ kE kR)
      · replace h := qif' c18 h
        cases h
        cases h1
        exact ev_wk (qLe_eq (qLe_eq (qLe_eq (qLe_eq qLe_nil)))) (kE _ rfl)
set_option maxRecDepth 100000 in
theorem ebX10_degreesStatement_125 {Ls t d n : Nat} {w1 : Int} : ∀ (k : Nat) (x : Int × qMu) (y : qMu), lp (fun x : Int × qMu => bX10_degreesStatement_125 n w1 x.1 x.2) k x = some y → ∀ (o : qO) (s' : qSt), Ev (d + 4) mX10_degreesStatement 148 [some (.ref 78), none, none, none] [] (cS Ls t y) o s' → Ev (d + 4) mX10_degreesStatement 125 [some (.ref 78), some (iv w1), none, some (iv x.1)] [] (cS Ls t x.2) o s' := by
  intro k
  induction k with
  | zero => intro x y h; cases h
  | succ k ih =>
    intro x y h o s' kE
    rw [lp_s] at h
    replace h := qbd h; obtain ⟨zz, h0, h1⟩ := h
    have h : bX10_degreesStatement_125 n w1 x.1 x.2 = some zz := h0
    clear h0
    unfold bX10_degreesStatement_125 at h
    refine ev_iload_n (pc' := 126) dX10_degreesStatement_125 rfl rfl ?_
    refine ev_iload_n (pc' := 127) dX10_degreesStatement_126 rfl rfl ?_
    refine ev_icmpge (pc' := 130) (tgt := 148) dX10_degreesStatement_127 (by decide) rfl (x1 := wr x.1) (y1 := wr w1) rfl rfl  (fun c50 => ?_) (fun c50 => ?_)
    · replace h := qit c50 h
      refine ev_aload_n (pc' := 131) dX10_degreesStatement_130 rfl rfl ?_
      refine ev_getr (pc' := 134) dX10_degreesStatement_131 rfl tf_10_38 sh78 rfl ?_
      refine ev_iload_n (pc' := 135) dX10_degreesStatement_134 rfl rfl ?_
      refine ev_aload_n (pc' := 136) dX10_degreesStatement_135 rfl rfl ?_
      refine ev_getr (pc' := 139) dX10_degreesStatement_136 rfl tf_10_26 sh78 rfl ?_
      refine ev_iload_n (pc' := 140) dX10_degreesStatement_139 rfl rfl ?_
      replace h := qbd h; obtain ⟨x51, hx51, h⟩ := h
      refine ev_iald (pc' := 141) dX10_degreesStatement_140 rfl sh83 hx51 ?_
      replace h := qbd h; obtain ⟨μ52, hμ52, h⟩ := h
      refine ev_iast (pc' := 142) dX10_degreesStatement_141 rfl sh87 hμ52 ?_
      refine ev_iinc (pc' := 145) (x := x.1) (L1 := [some (.ref 78), some (iv w1), none, some (iv (x.1 + 1))]) dX10_degreesStatement_142 rfl rfl rfl ?_
      refine ev_goto (pc' := 125) dX10_degreesStatement_145 (by decide) ?_
      cases h
      exact ev_wk (qLe_eq (qLe_eq (qLe_eq (qLe_eq qLe_nil)))) (ih _ _ h1 _ _ kE)
    · replace h := qif' c50 h
      cases h
      cases h1
      exact ev_wk (qLe_eq (qLe_sk (qLe_eq (qLe_sk qLe_nil)))) kE
set_option maxRecDepth 100000 in
theorem eX10_degreesStatement {Ls t d n : Nat} {μ : qMu} {r : Int × qMu} (h : fX10_degreesStatement n μ = some r) : Ev (d + 4) mX10_degreesStatement 0 [some (.ref 78), none, none, none] [] (cS Ls t μ) (.inl (some (iv r.1))) (cS Ls t r.2) := by
  unfold fX10_degreesStatement at h
  refine ev_aload_n (pc' := 1) dX10_degreesStatement_0 rfl rfl ?_
  replace h := qbd h; obtain ⟨y1, hy1, h⟩ := h
  refine ev_callg (pc' := 4) (st2 := [iv y1.1]) dX10_degreesStatement_1 (qs_V tc_10_135 rfl rfl (cS_cls sh78) rfl) rfl rfl (eX10_advance (d := d + 1) hy1) rfl rfl ?_
  refine ev_pop (pc' := 5) dX10_degreesStatement_4 rfl rfl ?_
  refine ev_iconst (pc' := 6) dX10_degreesStatement_5 rfl ?_
  refine ev_istore_n (pc' := 7) (L1 := [some (.ref 78), some (iv 0), none, none]) dX10_degreesStatement_6 rfl rfl ?_
  refine ev_iconst (pc' := 8) dX10_degreesStatement_7 rfl ?_
  refine ev_istore_n (pc' := 9) (L1 := [some (.ref 78), some (iv 0), some (iv 0), none]) dX10_degreesStatement_8 rfl rfl ?_
  replace h := qbd h; obtain ⟨y34, hy34, h⟩ := h
  refine ev_wk (qLe_eq (qLe_eq (qLe_eq (qLe_eq qLe_nil)))) (?_ : Ev _ _ _ [some (.ref 78), some (iv 0), some (iv 0), none] _ _ _ _)
  refine ebX10_degreesStatement_9 _ _ _ hy34 _ _ ?_ ?_
  · intro b35 eb35
    subst eb35
    replace h := qel h
    refine ev_aload_n (pc' := 90) dX10_degreesStatement_89 rfl rfl ?_
    refine ev_geti (pc' := 93) (ki := 12) dX10_degreesStatement_90 rfl tf_10_95 sh78 rfl rfl ?_
    refine ev_iconst (pc' := 94) dX10_degreesStatement_93 rfl ?_
    refine ev_icmpne (pc' := 97) (tgt := 116) dX10_degreesStatement_94 (by decide) rfl (x1 := wr (rd b35.2.2 78 12)) (y1 := 4) rfl wl_4  (fun c36 => ?_) (fun c36 => ?_)
    · replace h := qit c36 h
      refine ev_iload_n (pc' := 98) dX10_degreesStatement_97 rfl rfl ?_
      refine ev_iconst (pc' := 99) dX10_degreesStatement_98 rfl ?_
      refine ev_irem (pc' := 100) dX10_degreesStatement_99 rfl zl_2 ?_
      refine ev_iconst (pc' := 101) dX10_degreesStatement_100 rfl ?_
      refine ev_icmpeq (pc' := 104) (tgt := 110) dX10_degreesStatement_101 (by decide) rfl (x1 := wr (irm b35.2.1 2)) (y1 := 1) rfl wl_1  (fun c37 => ?_) (fun c37 => ?_)
      · replace h := qit c37 h
        refine ev_aload_n (pc' := 111) dX10_degreesStatement_110 rfl rfl ?_
        refine ev_iconst (pc' := 112) dX10_degreesStatement_111 rfl ?_
        replace h := qbd h; obtain ⟨y38, hy38, h⟩ := h
        refine ev_callg (pc' := 115) (st2 := [iv y38.1]) dX10_degreesStatement_112 (qs_V tc_10_125 rfl rfl (cS_cls sh78) rfl) rfl rfl (eX10_fail (d := d + 3) hy38) rfl rfl ?_
        replace h := qbd h; obtain ⟨x39, hx39, h⟩ := h
        obtain ⟨ex39, nx39⟩ := qbl_n hx39
        subst ex39
        cases h
        exact ev_ireturn dX10_degreesStatement_115 rfl nx39
      · replace h := qif' c37 h
        refine ev_iload_n (pc' := 105) dX10_degreesStatement_104 rfl rfl ?_
        refine ev_bipush (pc' := 107) dX10_degreesStatement_105 rfl bl_32 ?_
        refine ev_icmple (pc' := 110) (tgt := 116) dX10_degreesStatement_107 (by decide) rfl (x1 := wr b35.2.1) (y1 := 32) rfl wl_32  (fun c40 => ?_) (fun c40 => ?_)
        · replace h := qit c40 h
          refine ev_aload_n (pc' := 111) dX10_degreesStatement_110 rfl rfl ?_
          refine ev_iconst (pc' := 112) dX10_degreesStatement_111 rfl ?_
          replace h := qbd h; obtain ⟨y41, hy41, h⟩ := h
          refine ev_callg (pc' := 115) (st2 := [iv y41.1]) dX10_degreesStatement_112 (qs_V tc_10_125 rfl rfl (cS_cls sh78) rfl) rfl rfl (eX10_fail (d := d + 3) hy41) rfl rfl ?_
          replace h := qbd h; obtain ⟨x42, hx42, h⟩ := h
          obtain ⟨ex42, nx42⟩ := qbl_n hx42
          subst ex42
          cases h
          exact ev_ireturn dX10_degreesStatement_115 rfl nx42
        · replace h := qif' c40 h
          refine ev_aload_n (pc' := 117) dX10_degreesStatement_116 rfl rfl ?_
          refine ev_getr (pc' := 120) dX10_degreesStatement_117 rfl tf_10_7 sh78 rfl ?_
          refine ev_iconst (pc' := 121) dX10_degreesStatement_120 rfl ?_
          refine ev_iload_n (pc' := 122) dX10_degreesStatement_121 rfl rfl ?_
          replace h := qbd h; obtain ⟨μ43, hμ43, h⟩ := h
          refine ev_iast (pc' := 123) dX10_degreesStatement_122 rfl sh79 hμ43 ?_
          refine ev_iconst (pc' := 124) dX10_degreesStatement_123 rfl ?_
          refine ev_istore_n (pc' := 125) (L1 := [some (.ref 78), some (iv b35.1), some (iv b35.2.1), some (iv 0)]) dX10_degreesStatement_124 rfl rfl ?_
          replace h := qbd h; obtain ⟨y47, hy47, h⟩ := h
          refine ev_wk (qLe_eq (qLe_eq (qLe_sk (qLe_eq qLe_nil)))) (?_ : Ev _ _ _ [some (.ref 78), some (iv b35.1), none, some (iv 0)] _ _ _ _)
          refine ebX10_degreesStatement_125 _ _ _ hy47 _ _ ?_
          refine ev_aload_n (pc' := 149) dX10_degreesStatement_148 rfl rfl ?_
          replace h := qbd h; obtain ⟨y48, hy48, h⟩ := h
          refine ev_callg (pc' := 152) (st2 := []) dX10_degreesStatement_149 (qs_V tc_10_143 rfl rfl (cS_cls sh78) rfl) rfl rfl (eX10_realisesByLoops (d := d + 1) hy48) rfl rfl ?_
          refine ev_iconst (pc' := 153) dX10_degreesStatement_152 rfl ?_
          cases h
          exact ev_ireturn dX10_degreesStatement_153 rfl rfl
    · replace h := qif' c36 h
      refine ev_aload_n (pc' := 117) dX10_degreesStatement_116 rfl rfl ?_
      refine ev_getr (pc' := 120) dX10_degreesStatement_117 rfl tf_10_7 sh78 rfl ?_
      refine ev_iconst (pc' := 121) dX10_degreesStatement_120 rfl ?_
      refine ev_iload_n (pc' := 122) dX10_degreesStatement_121 rfl rfl ?_
      replace h := qbd h; obtain ⟨μ49, hμ49, h⟩ := h
      refine ev_iast (pc' := 123) dX10_degreesStatement_122 rfl sh79 hμ49 ?_
      refine ev_iconst (pc' := 124) dX10_degreesStatement_123 rfl ?_
      refine ev_istore_n (pc' := 125) (L1 := [some (.ref 78), some (iv b35.1), some (iv b35.2.1), some (iv 0)]) dX10_degreesStatement_124 rfl rfl ?_
      replace h := qbd h; obtain ⟨y53, hy53, h⟩ := h
      refine ev_wk (qLe_eq (qLe_eq (qLe_sk (qLe_eq qLe_nil)))) (?_ : Ev _ _ _ [some (.ref 78), some (iv b35.1), none, some (iv 0)] _ _ _ _)
      refine ebX10_degreesStatement_125 _ _ _ hy53 _ _ ?_
      refine ev_aload_n (pc' := 149) dX10_degreesStatement_148 rfl rfl ?_
      replace h := qbd h; obtain ⟨y54, hy54, h⟩ := h
      refine ev_callg (pc' := 152) (st2 := []) dX10_degreesStatement_149 (qs_V tc_10_143 rfl rfl (cS_cls sh78) rfl) rfl rfl (eX10_realisesByLoops (d := d + 1) hy54) rfl rfl ?_
      refine ev_iconst (pc' := 153) dX10_degreesStatement_152 rfl ?_
      cases h
      exact ev_ireturn dX10_degreesStatement_153 rfl rfl
  · intro r55 er55
    subst er55
    replace h := qer h
    cases h
    exact ⟨rfl, rfl⟩
set_option maxRecDepth 100000 in
theorem eX10_verticesStatement {Ls t d n : Nat} {μ : qMu} {r : Int × qMu} (h : fX10_verticesStatement n μ = some r) : Ev (d + 4) mX10_verticesStatement 0 [some (.ref 78)] [] (cS Ls t μ) (.inl (some (iv r.1))) (cS Ls t r.2) := by
  unfold fX10_verticesStatement at h
  refine ev_aload_n (pc' := 1) dX10_verticesStatement_0 rfl rfl ?_
  replace h := qbd h; obtain ⟨y1, hy1, h⟩ := h
  refine ev_callg (pc' := 4) (st2 := [iv y1.1]) dX10_verticesStatement_1 (qs_V tc_10_135 rfl rfl (cS_cls sh78) rfl) rfl rfl (eX10_advance (d := d + 1) hy1) rfl rfl ?_
  refine ev_pop (pc' := 5) dX10_verticesStatement_4 rfl rfl ?_
  refine ev_aload_n (pc' := 6) dX10_verticesStatement_5 rfl rfl ?_
  refine ev_iconst (pc' := 7) dX10_verticesStatement_6 rfl ?_
  refine ev_bipush (pc' := 9) dX10_verticesStatement_7 rfl bl_8 ?_
  replace h := qbd h; obtain ⟨y2, hy2, h⟩ := h
  refine ev_callg (pc' := 12) (st2 := [iv y2.1]) dX10_verticesStatement_9 (qs_V tc_10_139 rfl rfl (cS_cls sh78) rfl) rfl rfl (eX10_number (d := d + 0) hy2) rfl rfl ?_
  refine ev_ifne (pc' := 15) (tgt := 17) dX10_verticesStatement_12 (by decide) rfl (x1 := wr y2.1) rfl (fun c3 => ?_) (fun c3 => ?_)
  · replace h := qit c3 h
    refine ev_iconst (pc' := 16) dX10_verticesStatement_15 rfl ?_
    cases h
    exact ev_ireturn dX10_verticesStatement_16 rfl rfl
  · replace h := qif' c3 h
    refine ev_aload_n (pc' := 18) dX10_verticesStatement_17 rfl rfl ?_
    refine ev_getr (pc' := 21) dX10_verticesStatement_18 rfl tf_10_7 sh78 rfl ?_
    refine ev_iconst (pc' := 22) dX10_verticesStatement_21 rfl ?_
    refine ev_aload_n (pc' := 23) dX10_verticesStatement_22 rfl rfl ?_
    refine ev_geti (pc' := 26) (ki := 16) dX10_verticesStatement_23 rfl tf_10_132 sh78 rfl rfl ?_
    replace h := qbd h; obtain ⟨μ4, hμ4, h⟩ := h
    refine ev_iast (pc' := 27) dX10_verticesStatement_26 rfl sh79 hμ4 ?_
    refine ev_iconst (pc' := 28) dX10_verticesStatement_27 rfl ?_
    cases h
    exact ev_ireturn dX10_verticesStatement_28 rfl rfl
set_option maxRecDepth 100000 in
theorem eX10_edgeStatement {Ls t d n : Nat} {p0 : Int} {μ : qMu} {r : Int × qMu} (h : fX10_edgeStatement n p0 μ = some r) : Ev (d + 4) mX10_edgeStatement 0 [some (.ref 78), some (iv p0), none, none, none] [] (cS Ls t μ) (.inl (some (iv r.1))) (cS Ls t r.2) := by
  unfold fX10_edgeStatement at h
  refine ev_aload_n (pc' := 1) dX10_edgeStatement_0 rfl rfl ?_
  replace h := qbd h; obtain ⟨y1, hy1, h⟩ := h
  refine ev_callg (pc' := 4) (st2 := [iv y1.1]) dX10_edgeStatement_1 (qs_V tc_10_135 rfl rfl (cS_cls sh78) rfl) rfl rfl (eX10_advance (d := d + 1) hy1) rfl rfl ?_
  refine ev_pop (pc' := 5) dX10_edgeStatement_4 rfl rfl ?_
  refine ev_aload_n (pc' := 6) dX10_edgeStatement_5 rfl rfl ?_
  refine ev_iconst (pc' := 7) dX10_edgeStatement_6 rfl ?_
  refine ev_aload_n (pc' := 8) dX10_edgeStatement_7 rfl rfl ?_
  refine ev_getr (pc' := 11) dX10_edgeStatement_8 rfl tf_10_7 sh78 rfl ?_
  refine ev_iconst (pc' := 12) dX10_edgeStatement_11 rfl ?_
  replace h := qbd h; obtain ⟨x2, hx2, h⟩ := h
  refine ev_iald (pc' := 13) dX10_edgeStatement_12 rfl sh79 hx2 ?_
  refine ev_iconst (pc' := 14) dX10_edgeStatement_13 rfl ?_
  refine ev_isub (pc' := 15) dX10_edgeStatement_14 rfl ?_
  replace h := qbd h; obtain ⟨y3, hy3, h⟩ := h
  refine ev_callg (pc' := 18) (st2 := [iv y3.1]) dX10_edgeStatement_15 (qs_V tc_10_139 rfl rfl (cS_cls sh78) rfl) rfl rfl (eX10_number (d := d + 0) hy3) rfl rfl ?_
  refine ev_ifne (pc' := 21) (tgt := 23) dX10_edgeStatement_18 (by decide) rfl (x1 := wr y3.1) rfl (fun c4 => ?_) (fun c4 => ?_)
  · replace h := qit c4 h
    refine ev_iconst (pc' := 22) dX10_edgeStatement_21 rfl ?_
    cases h
    exact ev_ireturn dX10_edgeStatement_22 rfl rfl
  · replace h := qif' c4 h
    refine ev_aload_n (pc' := 24) dX10_edgeStatement_23 rfl rfl ?_
    refine ev_geti (pc' := 27) (ki := 16) dX10_edgeStatement_24 rfl tf_10_132 sh78 rfl rfl ?_
    refine ev_istore_n (pc' := 28) (L1 := [some (.ref 78), some (iv p0), some (iv (rd y3.2 78 16)), none, none]) dX10_edgeStatement_27 rfl rfl ?_
    refine ev_aload_n (pc' := 29) dX10_edgeStatement_28 rfl rfl ?_
    refine ev_iconst (pc' := 30) dX10_edgeStatement_29 rfl ?_
    refine ev_aload_n (pc' := 31) dX10_edgeStatement_30 rfl rfl ?_
    refine ev_getr (pc' := 34) dX10_edgeStatement_31 rfl tf_10_7 sh78 rfl ?_
    refine ev_iconst (pc' := 35) dX10_edgeStatement_34 rfl ?_
    replace h := qbd h; obtain ⟨x5, hx5, h⟩ := h
    refine ev_iald (pc' := 36) dX10_edgeStatement_35 rfl sh79 hx5 ?_
    refine ev_iconst (pc' := 37) dX10_edgeStatement_36 rfl ?_
    refine ev_isub (pc' := 38) dX10_edgeStatement_37 rfl ?_
    replace h := qbd h; obtain ⟨y6, hy6, h⟩ := h
    refine ev_callg (pc' := 41) (st2 := [iv y6.1]) dX10_edgeStatement_38 (qs_V tc_10_139 rfl rfl (cS_cls sh78) rfl) rfl rfl (eX10_number (d := d + 0) hy6) rfl rfl ?_
    refine ev_ifne (pc' := 44) (tgt := 46) dX10_edgeStatement_41 (by decide) rfl (x1 := wr y6.1) rfl (fun c7 => ?_) (fun c7 => ?_)
    · replace h := qit c7 h
      refine ev_iconst (pc' := 45) dX10_edgeStatement_44 rfl ?_
      cases h
      exact ev_ireturn dX10_edgeStatement_45 rfl rfl
    · replace h := qif' c7 h
      refine ev_aload_n (pc' := 47) dX10_edgeStatement_46 rfl rfl ?_
      refine ev_geti (pc' := 50) (ki := 16) dX10_edgeStatement_47 rfl tf_10_132 sh78 rfl rfl ?_
      refine ev_istore_n (pc' := 51) (L1 := [some (.ref 78), some (iv p0), some (iv (rd y3.2 78 16)), some (iv (rd y6.2 78 16)), none]) dX10_edgeStatement_50 rfl rfl ?_
      refine ev_iconst (pc' := 52) dX10_edgeStatement_51 rfl ?_
      refine ev_istore (pc' := 54) (L1 := [some (.ref 78), some (iv p0), some (iv (rd y3.2 78 16)), some (iv (rd y6.2 78 16)), some (iv 1)]) dX10_edgeStatement_52 rfl rfl ?_
      refine ev_aload_n (pc' := 55) dX10_edgeStatement_54 rfl rfl ?_
      refine ev_geti (pc' := 58) (ki := 12) dX10_edgeStatement_55 rfl tf_10_95 sh78 rfl rfl ?_
      refine ev_iconst (pc' := 59) dX10_edgeStatement_58 rfl ?_
      refine ev_icmpne (pc' := 62) (tgt := 85) dX10_edgeStatement_59 (by decide) rfl (x1 := wr (rd y6.2 78 12)) (y1 := 3) rfl wl_3  (fun c8 => ?_) (fun c8 => ?_)
      · replace h := qit c8 h
        refine ev_aload_n (pc' := 63) dX10_edgeStatement_62 rfl rfl ?_
        refine ev_geti (pc' := 66) (ki := 13) dX10_edgeStatement_63 rfl tf_10_98 sh78 rfl rfl ?_
        refine ev_istore (pc' := 68) (L1 := [some (.ref 78), some (iv p0), some (iv (rd y3.2 78 16)), some (iv (rd y6.2 78 16)), some (iv (rd y6.2 78 13))]) dX10_edgeStatement_66 rfl rfl ?_
        refine ev_iload (pc' := 70) dX10_edgeStatement_68 rfl rfl ?_
        refine ev_iconst (pc' := 71) dX10_edgeStatement_70 rfl ?_
        refine ev_bipush (pc' := 73) dX10_edgeStatement_71 rfl bl_9 ?_
        replace h := qbd h; obtain ⟨y9, hy9, h⟩ := h
        refine ev_callg (pc' := 76) (st2 := [iv y9]) dX10_edgeStatement_73 (qs_S tc_10_128 (by decide) rfl rfl) rfl rfl (eX10_isIn (d := d + 3) hy9) rfl rfl ?_
        refine ev_ifne (pc' := 79) (tgt := 99) dX10_edgeStatement_76 (by decide) rfl (x1 := wr y9) rfl (fun c10 => ?_) (fun c10 => ?_)
        · replace h := qit c10 h
          refine ev_aload_n (pc' := 80) dX10_edgeStatement_79 rfl rfl ?_
          refine ev_iconst (pc' := 81) dX10_edgeStatement_80 rfl ?_
          replace h := qbd h; obtain ⟨y11, hy11, h⟩ := h
          refine ev_callg (pc' := 84) (st2 := [iv y11.1]) dX10_edgeStatement_81 (qs_V tc_10_125 rfl rfl (cS_cls sh78) rfl) rfl rfl (eX10_fail (d := d + 3) hy11) rfl rfl ?_
          replace h := qbd h; obtain ⟨x12, hx12, h⟩ := h
          obtain ⟨ex12, nx12⟩ := qbl_n hx12
          subst ex12
          cases h
          exact ev_ireturn dX10_edgeStatement_84 rfl nx12
        · replace h := qif' c10 h
          refine ev_aload_n (pc' := 100) dX10_edgeStatement_99 rfl rfl ?_
          refine ev_iload_n (pc' := 101) dX10_edgeStatement_100 rfl rfl ?_
          replace h := qbd h; obtain ⟨y13, hy13, h⟩ := h
          refine ev_callg (pc' := 104) (st2 := [iv y13]) dX10_edgeStatement_101 (qs_V tc_10_146 rfl rfl (cS_cls sh78) rfl) rfl rfl (eX10_edgesOf (d := d + 1) hy13) rfl rfl ?_
          refine ev_iload (pc' := 106) dX10_edgeStatement_104 rfl rfl ?_
          refine ev_iadd (pc' := 107) dX10_edgeStatement_106 rfl ?_
          refine ev_bipush (pc' := 109) dX10_edgeStatement_107 rfl bl_16 ?_
          refine ev_icmple (pc' := 112) (tgt := 118) dX10_edgeStatement_109 (by decide) rfl (x1 := wr (y13 + (rd y6.2 78 13))) (y1 := 16) rfl wl_16  (fun c14 => ?_) (fun c14 => ?_)
          · replace h := qit c14 h
            refine ev_aload_n (pc' := 113) dX10_edgeStatement_112 rfl rfl ?_
            refine ev_iconst (pc' := 114) dX10_edgeStatement_113 rfl ?_
            replace h := qbd h; obtain ⟨y15, hy15, h⟩ := h
            refine ev_callg (pc' := 117) (st2 := [iv y15.1]) dX10_edgeStatement_114 (qs_V tc_10_125 rfl rfl (cS_cls sh78) rfl) rfl rfl (eX10_fail (d := d + 3) hy15) rfl rfl ?_
            replace h := qbd h; obtain ⟨x16, hx16, h⟩ := h
            obtain ⟨ex16, nx16⟩ := qbl_n hx16
            subst ex16
            cases h
            exact ev_ireturn dX10_edgeStatement_117 rfl nx16
          · replace h := qif' c14 h
            refine ev_aload_n (pc' := 119) dX10_edgeStatement_118 rfl rfl ?_
            refine ev_geti (pc' := 122) (ki := 12) dX10_edgeStatement_119 rfl tf_10_95 sh78 rfl rfl ?_
            refine ev_iconst (pc' := 123) dX10_edgeStatement_122 rfl ?_
            replace h := qbd h; obtain ⟨y18, hy18, h⟩ := h
            have kJ : Ev (d + 4) mX10_edgeStatement 131 [some (.ref 78), some (iv p0), some (iv (rd y3.2 78 16)), some (iv (rd y6.2 78 16)), some (iv (rd y6.2 78 13))] [] (cS Ls t y18) (.inl (some (iv r.1))) (cS Ls t r.2) := by
              refine ev_aload_n (pc' := 132) dX10_edgeStatement_131 rfl rfl ?_
              refine ev_iload_n (pc' := 133) dX10_edgeStatement_132 rfl rfl ?_
              refine ev_iload_n (pc' := 134) dX10_edgeStatement_133 rfl rfl ?_
              refine ev_iload_n (pc' := 135) dX10_edgeStatement_134 rfl rfl ?_
              refine ev_iload (pc' := 137) dX10_edgeStatement_135 rfl rfl ?_
              replace h := qbd h; obtain ⟨y20, hy20, h⟩ := h
              refine ev_callg (pc' := 140) (st2 := []) dX10_edgeStatement_137 (qs_V tc_10_149 rfl rfl (cS_cls sh78) rfl) rfl rfl (eX10_adds (d := d + 2) hy20) rfl rfl ?_
              refine ev_iconst (pc' := 141) dX10_edgeStatement_140 rfl ?_
              cases h
              exact ev_ireturn dX10_edgeStatement_141 rfl rfl
            replace h := hy18
            clear hy18
            refine ev_icmpne (pc' := 126) (tgt := 131) dX10_edgeStatement_123 (by decide) rfl (x1 := wr (rd y6.2 78 12)) (y1 := 3) rfl wl_3  (fun c17 => ?_) (fun c17 => ?_)
            · replace h := qit c17 h
              refine ev_aload_n (pc' := 127) dX10_edgeStatement_126 rfl rfl ?_
              replace h := qbd h; obtain ⟨y19, hy19, h⟩ := h
              refine ev_callg (pc' := 130) (st2 := [iv y19.1]) dX10_edgeStatement_127 (qs_V tc_10_135 rfl rfl (cS_cls sh78) rfl) rfl rfl (eX10_advance (d := d + 1) hy19) rfl rfl ?_
              refine ev_pop (pc' := 131) dX10_edgeStatement_130 rfl rfl ?_
              cases h
              exact ev_wk (qLe_eq (qLe_eq (qLe_eq (qLe_eq (qLe_eq qLe_nil))))) kJ
            · replace h := qif' c17 h
              cases h
              exact ev_wk (qLe_eq (qLe_eq (qLe_eq (qLe_eq (qLe_eq qLe_nil))))) kJ
      · replace h := qif' c8 h
        refine ev_aload_n (pc' := 86) dX10_edgeStatement_85 rfl rfl ?_
        refine ev_geti (pc' := 89) (ki := 12) dX10_edgeStatement_86 rfl tf_10_95 sh78 rfl rfl ?_
        refine ev_iconst (pc' := 90) dX10_edgeStatement_89 rfl ?_
        refine ev_icmpeq (pc' := 93) (tgt := 99) dX10_edgeStatement_90 (by decide) rfl (x1 := wr (rd y6.2 78 12)) (y1 := 4) rfl wl_4  (fun c21 => ?_) (fun c21 => ?_)
        · replace h := qit c21 h
          refine ev_aload_n (pc' := 100) dX10_edgeStatement_99 rfl rfl ?_
          refine ev_iload_n (pc' := 101) dX10_edgeStatement_100 rfl rfl ?_
          replace h := qbd h; obtain ⟨y22, hy22, h⟩ := h
          refine ev_callg (pc' := 104) (st2 := [iv y22]) dX10_edgeStatement_101 (qs_V tc_10_146 rfl rfl (cS_cls sh78) rfl) rfl rfl (eX10_edgesOf (d := d + 1) hy22) rfl rfl ?_
          refine ev_iload (pc' := 106) dX10_edgeStatement_104 rfl rfl ?_
          refine ev_iadd (pc' := 107) dX10_edgeStatement_106 rfl ?_
          refine ev_bipush (pc' := 109) dX10_edgeStatement_107 rfl bl_16 ?_
          refine ev_icmple (pc' := 112) (tgt := 118) dX10_edgeStatement_109 (by decide) rfl (x1 := wr (y22 + 1)) (y1 := 16) rfl wl_16  (fun c23 => ?_) (fun c23 => ?_)
          · replace h := qit c23 h
            refine ev_aload_n (pc' := 113) dX10_edgeStatement_112 rfl rfl ?_
            refine ev_iconst (pc' := 114) dX10_edgeStatement_113 rfl ?_
            replace h := qbd h; obtain ⟨y24, hy24, h⟩ := h
            refine ev_callg (pc' := 117) (st2 := [iv y24.1]) dX10_edgeStatement_114 (qs_V tc_10_125 rfl rfl (cS_cls sh78) rfl) rfl rfl (eX10_fail (d := d + 3) hy24) rfl rfl ?_
            replace h := qbd h; obtain ⟨x25, hx25, h⟩ := h
            obtain ⟨ex25, nx25⟩ := qbl_n hx25
            subst ex25
            cases h
            exact ev_ireturn dX10_edgeStatement_117 rfl nx25
          · replace h := qif' c23 h
            refine ev_aload_n (pc' := 119) dX10_edgeStatement_118 rfl rfl ?_
            refine ev_geti (pc' := 122) (ki := 12) dX10_edgeStatement_119 rfl tf_10_95 sh78 rfl rfl ?_
            refine ev_iconst (pc' := 123) dX10_edgeStatement_122 rfl ?_
            replace h := qbd h; obtain ⟨y27, hy27, h⟩ := h
            have kJ : Ev (d + 4) mX10_edgeStatement 131 [some (.ref 78), some (iv p0), some (iv (rd y3.2 78 16)), some (iv (rd y6.2 78 16)), some (iv 1)] [] (cS Ls t y27) (.inl (some (iv r.1))) (cS Ls t r.2) := by
              refine ev_aload_n (pc' := 132) dX10_edgeStatement_131 rfl rfl ?_
              refine ev_iload_n (pc' := 133) dX10_edgeStatement_132 rfl rfl ?_
              refine ev_iload_n (pc' := 134) dX10_edgeStatement_133 rfl rfl ?_
              refine ev_iload_n (pc' := 135) dX10_edgeStatement_134 rfl rfl ?_
              refine ev_iload (pc' := 137) dX10_edgeStatement_135 rfl rfl ?_
              replace h := qbd h; obtain ⟨y29, hy29, h⟩ := h
              refine ev_callg (pc' := 140) (st2 := []) dX10_edgeStatement_137 (qs_V tc_10_149 rfl rfl (cS_cls sh78) rfl) rfl rfl (eX10_adds (d := d + 2) hy29) rfl rfl ?_
              refine ev_iconst (pc' := 141) dX10_edgeStatement_140 rfl ?_
              cases h
              exact ev_ireturn dX10_edgeStatement_141 rfl rfl
            replace h := hy27
            clear hy27
            refine ev_icmpne (pc' := 126) (tgt := 131) dX10_edgeStatement_123 (by decide) rfl (x1 := wr (rd y6.2 78 12)) (y1 := 3) rfl wl_3  (fun c26 => ?_) (fun c26 => ?_)
            · replace h := qit c26 h
              refine ev_aload_n (pc' := 127) dX10_edgeStatement_126 rfl rfl ?_
              replace h := qbd h; obtain ⟨y28, hy28, h⟩ := h
              refine ev_callg (pc' := 130) (st2 := [iv y28.1]) dX10_edgeStatement_127 (qs_V tc_10_135 rfl rfl (cS_cls sh78) rfl) rfl rfl (eX10_advance (d := d + 1) hy28) rfl rfl ?_
              refine ev_pop (pc' := 131) dX10_edgeStatement_130 rfl rfl ?_
              cases h
              exact ev_wk (qLe_eq (qLe_eq (qLe_eq (qLe_eq (qLe_eq qLe_nil))))) kJ
            · replace h := qif' c26 h
              cases h
              exact ev_wk (qLe_eq (qLe_eq (qLe_eq (qLe_eq (qLe_eq qLe_nil))))) kJ
        · replace h := qif' c21 h
          refine ev_aload_n (pc' := 94) dX10_edgeStatement_93 rfl rfl ?_
          refine ev_iconst (pc' := 95) dX10_edgeStatement_94 rfl ?_
          replace h := qbd h; obtain ⟨y30, hy30, h⟩ := h
          refine ev_callg (pc' := 98) (st2 := [iv y30.1]) dX10_edgeStatement_95 (qs_V tc_10_125 rfl rfl (cS_cls sh78) rfl) rfl rfl (eX10_fail (d := d + 3) hy30) rfl rfl ?_
          replace h := qbd h; obtain ⟨x31, hx31, h⟩ := h
          obtain ⟨ex31, nx31⟩ := qbl_n hx31
          subst ex31
          cases h
          exact ev_ireturn dX10_edgeStatement_98 rfl nx31
set_option maxRecDepth 100000 in
theorem eX10_modeStatement {Ls t d n : Nat} {μ : qMu} {r : Int × qMu} (h : fX10_modeStatement n μ = some r) : Ev (d + 4) mX10_modeStatement 0 [some (.ref 78)] [] (cS Ls t μ) (.inl (some (iv r.1))) (cS Ls t r.2) := by
  unfold fX10_modeStatement at h
  refine ev_aload_n (pc' := 1) dX10_modeStatement_0 rfl rfl ?_
  replace h := qbd h; obtain ⟨y1, hy1, h⟩ := h
  refine ev_callg (pc' := 4) (st2 := [iv y1.1]) dX10_modeStatement_1 (qs_V tc_10_135 rfl rfl (cS_cls sh78) rfl) rfl rfl (eX10_advance (d := d + 1) hy1) rfl rfl ?_
  refine ev_pop (pc' := 5) dX10_modeStatement_4 rfl rfl ?_
  refine ev_aload_n (pc' := 6) dX10_modeStatement_5 rfl rfl ?_
  refine ev_iconst (pc' := 7) dX10_modeStatement_6 rfl ?_
  refine ev_iconst (pc' := 8) dX10_modeStatement_7 rfl ?_
  replace h := qbd h; obtain ⟨y2, hy2, h⟩ := h
  refine ev_callg (pc' := 11) (st2 := [iv y2.1]) dX10_modeStatement_8 (qs_V tc_10_139 rfl rfl (cS_cls sh78) rfl) rfl rfl (eX10_number (d := d + 0) hy2) rfl rfl ?_
  refine ev_ifne (pc' := 14) (tgt := 16) dX10_modeStatement_11 (by decide) rfl (x1 := wr y2.1) rfl (fun c3 => ?_) (fun c3 => ?_)
  · replace h := qit c3 h
    refine ev_iconst (pc' := 15) dX10_modeStatement_14 rfl ?_
    cases h
    exact ev_ireturn dX10_modeStatement_15 rfl rfl
  · replace h := qif' c3 h
    refine ev_aload_n (pc' := 17) dX10_modeStatement_16 rfl rfl ?_
    refine ev_getr (pc' := 20) dX10_modeStatement_17 rfl tf_10_7 sh78 rfl ?_
    refine ev_iconst (pc' := 21) dX10_modeStatement_20 rfl ?_
    refine ev_aload_n (pc' := 22) dX10_modeStatement_21 rfl rfl ?_
    refine ev_geti (pc' := 25) (ki := 16) dX10_modeStatement_22 rfl tf_10_132 sh78 rfl rfl ?_
    replace h := qbd h; obtain ⟨μ4, hμ4, h⟩ := h
    refine ev_iast (pc' := 26) dX10_modeStatement_25 rfl sh79 hμ4 ?_
    refine ev_iconst (pc' := 27) dX10_modeStatement_26 rfl ?_
    cases h
    exact ev_ireturn dX10_modeStatement_27 rfl rfl
set_option maxRecDepth 100000 in
theorem eX10_firstStatement {Ls t d n : Nat} {μ : qMu} {r : Int × qMu} (h : fX10_firstStatement n μ = some r) : Ev (d + 5) mX10_firstStatement 0 [some (.ref 78)] [] (cS Ls t μ) (.inl (some (iv r.1))) (cS Ls t r.2) := by
  unfold fX10_firstStatement at h
  refine ev_aload_n (pc' := 1) dX10_firstStatement_0 rfl rfl ?_
  refine ev_ldc (pc' := 3) dX10_firstStatement_1 rfl ts_10_153 ?_
  replace h := qbd h; obtain ⟨y1, hy1, h⟩ := h
  refine ev_callg (pc' := 6) (st2 := [iv y1]) dX10_firstStatement_3 (qs_V tc_10_155 rfl rfl (cS_cls sh78) rfl) rfl rfl (eX10_isWord (d := d + 4) ⟨by decide, by decide⟩ hy1) rfl rfl ?_
  refine ev_ifeq (pc' := 9) (tgt := 14) dX10_firstStatement_6 (by decide) rfl (x1 := wr y1) rfl (fun c2 => ?_) (fun c2 => ?_)
  · replace h := qit c2 h
    refine ev_aload_n (pc' := 15) dX10_firstStatement_14 rfl rfl ?_
    refine ev_ldc (pc' := 17) dX10_firstStatement_15 rfl ts_10_162 ?_
    replace h := qbd h; obtain ⟨y3, hy3, h⟩ := h
    refine ev_callg (pc' := 20) (st2 := [iv y3]) dX10_firstStatement_17 (qs_V tc_10_155 rfl rfl (cS_cls sh78) rfl) rfl rfl (eX10_isWord (d := d + 4) ⟨by decide, by decide⟩ hy3) rfl rfl ?_
    refine ev_ifeq (pc' := 23) (tgt := 30) dX10_firstStatement_20 (by decide) rfl (x1 := wr y3) rfl (fun c4 => ?_) (fun c4 => ?_)
    · replace h := qit c4 h
      refine ev_aload_n (pc' := 31) dX10_firstStatement_30 rfl rfl ?_
      refine ev_iconst (pc' := 32) dX10_firstStatement_31 rfl ?_
      replace h := qbd h; obtain ⟨y5, hy5, h⟩ := h
      refine ev_callg (pc' := 35) (st2 := [iv y5.1]) dX10_firstStatement_32 (qs_V tc_10_125 rfl rfl (cS_cls sh78) rfl) rfl rfl (eX10_fail (d := d + 4) hy5) rfl rfl ?_
      replace h := qbd h; obtain ⟨x6, hx6, h⟩ := h
      obtain ⟨ex6, nx6⟩ := qbl_n hx6
      subst ex6
      cases h
      exact ev_ireturn dX10_firstStatement_35 rfl nx6
    · replace h := qif' c4 h
      refine ev_aload_n (pc' := 24) dX10_firstStatement_23 rfl rfl ?_
      replace h := qbd h; obtain ⟨y7, hy7, h⟩ := h
      refine ev_callg (pc' := 27) (st2 := [iv y7.1]) dX10_firstStatement_24 (qs_V tc_10_164 rfl rfl (cS_cls sh78) rfl) rfl rfl (eX10_degreesStatement (d := d + 0) hy7) rfl rfl ?_
      refine ev_goto (pc' := 35) dX10_firstStatement_27 (by decide) ?_
      replace h := qbd h; obtain ⟨x8, hx8, h⟩ := h
      obtain ⟨ex8, nx8⟩ := qbl_n hx8
      subst ex8
      cases h
      exact ev_ireturn dX10_firstStatement_35 rfl nx8
  · replace h := qif' c2 h
    refine ev_aload_n (pc' := 10) dX10_firstStatement_9 rfl rfl ?_
    replace h := qbd h; obtain ⟨y9, hy9, h⟩ := h
    refine ev_callg (pc' := 13) (st2 := [iv y9.1]) dX10_firstStatement_10 (qs_V tc_10_159 rfl rfl (cS_cls sh78) rfl) rfl rfl (eX10_verticesStatement (d := d + 0) hy9) rfl rfl ?_
    replace h := qbd h; obtain ⟨x10, hx10, h⟩ := h
    obtain ⟨ex10, nx10⟩ := qbl_n hx10
    subst ex10
    cases h
    exact ev_ireturn dX10_firstStatement_13 rfl nx10
set_option maxRecDepth 100000 in
theorem eX10_statement {Ls t d n : Nat} {μ : qMu} {r : Int × qMu} (h : fX10_statement n μ = some r) : Ev (d + 5) mX10_statement 0 [some (.ref 78)] [] (cS Ls t μ) (.inl (some (iv r.1))) (cS Ls t r.2) := by
  unfold fX10_statement at h
  refine ev_aload_n (pc' := 1) dX10_statement_0 rfl rfl ?_
  refine ev_ldc (pc' := 3) dX10_statement_1 rfl ts_10_167 ?_
  replace h := qbd h; obtain ⟨y1, hy1, h⟩ := h
  refine ev_callg (pc' := 6) (st2 := [iv y1]) dX10_statement_3 (qs_V tc_10_155 rfl rfl (cS_cls sh78) rfl) rfl rfl (eX10_isWord (d := d + 4) ⟨by decide, by decide⟩ hy1) rfl rfl ?_
  refine ev_ifeq (pc' := 9) (tgt := 15) dX10_statement_6 (by decide) rfl (x1 := wr y1) rfl (fun c2 => ?_) (fun c2 => ?_)
  · replace h := qit c2 h
    refine ev_aload_n (pc' := 16) dX10_statement_15 rfl rfl ?_
    refine ev_ldc (pc' := 18) dX10_statement_16 rfl ts_10_172 ?_
    replace h := qbd h; obtain ⟨y3, hy3, h⟩ := h
    refine ev_callg (pc' := 21) (st2 := [iv y3]) dX10_statement_18 (qs_V tc_10_155 rfl rfl (cS_cls sh78) rfl) rfl rfl (eX10_isWord (d := d + 4) ⟨by decide, by decide⟩ hy3) rfl rfl ?_
    refine ev_ifeq (pc' := 24) (tgt := 31) dX10_statement_21 (by decide) rfl (x1 := wr y3) rfl (fun c4 => ?_) (fun c4 => ?_)
    · replace h := qit c4 h
      refine ev_aload_n (pc' := 32) dX10_statement_31 rfl rfl ?_
      refine ev_ldc (pc' := 34) dX10_statement_32 rfl ts_10_174 ?_
      replace h := qbd h; obtain ⟨y5, hy5, h⟩ := h
      refine ev_callg (pc' := 37) (st2 := [iv y5]) dX10_statement_34 (qs_V tc_10_155 rfl rfl (cS_cls sh78) rfl) rfl rfl (eX10_isWord (d := d + 4) ⟨by decide, by decide⟩ hy5) rfl rfl ?_
      refine ev_ifeq (pc' := 40) (tgt := 47) dX10_statement_37 (by decide) rfl (x1 := wr y5) rfl (fun c6 => ?_) (fun c6 => ?_)
      · replace h := qit c6 h
        refine ev_aload_n (pc' := 48) dX10_statement_47 rfl rfl ?_
        refine ev_iconst (pc' := 49) dX10_statement_48 rfl ?_
        replace h := qbd h; obtain ⟨y7, hy7, h⟩ := h
        refine ev_callg (pc' := 52) (st2 := [iv y7.1]) dX10_statement_49 (qs_V tc_10_125 rfl rfl (cS_cls sh78) rfl) rfl rfl (eX10_fail (d := d + 4) hy7) rfl rfl ?_
        replace h := qbd h; obtain ⟨x8, hx8, h⟩ := h
        obtain ⟨ex8, nx8⟩ := qbl_n hx8
        subst ex8
        cases h
        exact ev_ireturn dX10_statement_52 rfl nx8
      · replace h := qif' c6 h
        refine ev_aload_n (pc' := 41) dX10_statement_40 rfl rfl ?_
        replace h := qbd h; obtain ⟨y9, hy9, h⟩ := h
        refine ev_callg (pc' := 44) (st2 := [iv y9.1]) dX10_statement_41 (qs_V tc_10_176 rfl rfl (cS_cls sh78) rfl) rfl rfl (eX10_modeStatement (d := d + 0) hy9) rfl rfl ?_
        refine ev_goto (pc' := 52) dX10_statement_44 (by decide) ?_
        replace h := qbd h; obtain ⟨x10, hx10, h⟩ := h
        obtain ⟨ex10, nx10⟩ := qbl_n hx10
        subst ex10
        cases h
        exact ev_ireturn dX10_statement_52 rfl nx10
    · replace h := qif' c4 h
      refine ev_aload_n (pc' := 25) dX10_statement_24 rfl rfl ?_
      refine ev_bipush (pc' := 27) dX10_statement_25 rfl bl_66 ?_
      replace h := qbd h; obtain ⟨y11, hy11, h⟩ := h
      refine ev_callg (pc' := 30) (st2 := [iv y11.1]) dX10_statement_27 (qs_V tc_10_169 rfl rfl (cS_cls sh78) rfl) rfl rfl (eX10_edgeStatement (d := d + 0) hy11) rfl rfl ?_
      replace h := qbd h; obtain ⟨x12, hx12, h⟩ := h
      obtain ⟨ex12, nx12⟩ := qbl_n hx12
      subst ex12
      cases h
      exact ev_ireturn dX10_statement_30 rfl nx12
  · replace h := qif' c2 h
    refine ev_aload_n (pc' := 10) dX10_statement_9 rfl rfl ?_
    refine ev_iconst (pc' := 11) dX10_statement_10 rfl ?_
    replace h := qbd h; obtain ⟨y13, hy13, h⟩ := h
    refine ev_callg (pc' := 14) (st2 := [iv y13.1]) dX10_statement_11 (qs_V tc_10_169 rfl rfl (cS_cls sh78) rfl) rfl rfl (eX10_edgeStatement (d := d + 0) hy13) rfl rfl ?_
    replace h := qbd h; obtain ⟨x14, hx14, h⟩ := h
    obtain ⟨ex14, nx14⟩ := qbl_n hx14
    subst ex14
    cases h
    exact ev_ireturn dX10_statement_14 rfl nx14
set_option maxRecDepth 100000 in
theorem ebX10_parse_27 {Ls t d n : Nat} : ∀ (k : Nat) (x : Int × qMu) (y : qMu), lp (fun x : Int × qMu => bX10_parse_27 n x.1 x.2) k x = some y → ∀ (o : qO) (s' : qSt), Ev (d + 6) mX10_parse 47 [some (.ref 78), none, none] [] (cS Ls t y) o s' → Ev (d + 6) mX10_parse 27 [some (.ref 78), none, some (iv x.1)] [] (cS Ls t x.2) o s' := by
  intro k
  induction k with
  | zero => intro x y h; cases h
  | succ k ih =>
    intro x y h o s' kE
    rw [lp_s] at h
    replace h := qbd h; obtain ⟨zz, h0, h1⟩ := h
    have h : bX10_parse_27 n x.1 x.2 = some zz := h0
    clear h0
    unfold bX10_parse_27 at h
    refine ev_iload_n (pc' := 28) dX10_parse_27 rfl rfl ?_
    refine ev_sipush (pc' := 31) dX10_parse_28 rfl sl_130 ?_
    refine ev_icmpge (pc' := 34) (tgt := 47) dX10_parse_31 (by decide) rfl (x1 := wr x.1) (y1 := 130) rfl wl_130  (fun c6 => ?_) (fun c6 => ?_)
    · replace h := qit c6 h
      refine ev_aload_n (pc' := 35) dX10_parse_34 rfl rfl ?_
      refine ev_getr (pc' := 38) dX10_parse_35 rfl tf_10_7 sh78 rfl ?_
      refine ev_iload_n (pc' := 39) dX10_parse_38 rfl rfl ?_
      refine ev_iconst (pc' := 40) dX10_parse_39 rfl ?_
      replace h := qbd h; obtain ⟨μ7, hμ7, h⟩ := h
      refine ev_iast (pc' := 41) dX10_parse_40 rfl sh79 hμ7 ?_
      refine ev_iinc (pc' := 44) (x := x.1) (L1 := [some (.ref 78), none, some (iv (x.1 + 1))]) dX10_parse_41 rfl rfl rfl ?_
      refine ev_goto (pc' := 27) dX10_parse_44 (by decide) ?_
      cases h
      exact ev_wk (qLe_eq (qLe_eq (qLe_eq qLe_nil))) (ih _ _ h1 _ _ kE)
    · replace h := qif' c6 h
      cases h
      cases h1
      exact ev_wk (qLe_eq (qLe_eq (qLe_sk qLe_nil))) kE
set_option maxRecDepth 100000 in
theorem ebX10_parse_86 {Ls t d n : Nat} : ∀ (k : Nat) (x : Int × qMu) (y : Int × qMu), lp (fun x : Int × qMu => bX10_parse_86 n x.1 x.2) k x = some y → ∀ (o : qO) (s' : qSt), Ev (d + 6) mX10_parse 120 [none, none, some (iv y.1)] [] (cS Ls t y.2) o s' → Ev (d + 6) mX10_parse 86 [some (.ref 78), none, some (iv x.1)] [] (cS Ls t x.2) o s' := by
  intro k
  induction k with
  | zero => intro x y h; cases h
  | succ k ih =>
    intro x y h o s' kE
    rw [lp_s] at h
    replace h := qbd h; obtain ⟨zz, h0, h1⟩ := h
    have h : bX10_parse_86 n x.1 x.2 = some zz := h0
    clear h0
    unfold bX10_parse_86 at h
    refine ev_iload_n (pc' := 87) dX10_parse_86 rfl rfl ?_
    refine ev_ifeq (pc' := 90) (tgt := 120) dX10_parse_87 (by decide) rfl (x1 := wr x.1) rfl (fun c17 => ?_) (fun c17 => ?_)
    · replace h := qit c17 h
      cases h
      cases h1
      exact ev_wk (qLe_sk (qLe_eq (qLe_eq qLe_nil))) kE
    · replace h := qif' c17 h
      refine ev_aload_n (pc' := 91) dX10_parse_90 rfl rfl ?_
      refine ev_geti (pc' := 94) (ki := 12) dX10_parse_91 rfl tf_10_95 sh78 rfl rfl ?_
      refine ev_ifeq (pc' := 97) (tgt := 120) dX10_parse_94 (by decide) rfl (x1 := wr (rd x.2 78 12)) rfl (fun c18 => ?_) (fun c18 => ?_)
      · replace h := qit c18 h
        cases h
        cases h1
        exact ev_wk (qLe_sk (qLe_eq (qLe_eq qLe_nil))) kE
      · replace h := qif' c18 h
        refine ev_aload_n (pc' := 98) dX10_parse_97 rfl rfl ?_
        replace h := qbd h; obtain ⟨y19, hy19, h⟩ := h
        refine ev_callg (pc' := 101) (st2 := [iv y19.1]) dX10_parse_98 (qs_V tc_10_185 rfl rfl (cS_cls sh78) rfl) rfl rfl (eX10_statement (d := d + 0) hy19) rfl rfl ?_
        replace h := qbd h; obtain ⟨y21, hy21, h⟩ := h
        have kJ : Ev (d + 6) mX10_parse 116 [some (.ref 78), none, none] [iv y21.1] (cS Ls t y21.2) o s' := by
          refine ev_istore_n (pc' := 117) (L1 := [some (.ref 78), none, some (iv y21.1)]) dX10_parse_116 rfl rfl ?_
          refine ev_goto (pc' := 86) dX10_parse_117 (by decide) ?_
          cases h
          exact ev_wk (qLe_eq (qLe_eq (qLe_eq qLe_nil))) (ih _ _ h1 _ _ kE)
        replace h := hy21
        clear hy21
        refine ev_ifeq (pc' := 104) (tgt := 115) dX10_parse_101 (by decide) rfl (x1 := wr y19.1) rfl (fun c20 => ?_) (fun c20 => ?_)
        · replace h := qit c20 h
          refine ev_iconst (pc' := 116) dX10_parse_115 rfl ?_
          cases h
          exact ev_wk (qLe_eq (qLe_eq (qLe_sk qLe_nil))) kJ
        · replace h := qif' c20 h
          refine ev_aload_n (pc' := 105) dX10_parse_104 rfl rfl ?_
          replace h := qbd h; obtain ⟨y22, hy22, h⟩ := h
          refine ev_callg (pc' := 108) (st2 := [iv y22.1]) dX10_parse_105 (qs_V tc_10_182 rfl rfl (cS_cls sh78) rfl) rfl rfl (eX10_closed (d := d + 2) hy22) rfl rfl ?_
          refine ev_ifeq (pc' := 111) (tgt := 115) dX10_parse_108 (by decide) rfl (x1 := wr y22.1) rfl (fun c23 => ?_) (fun c23 => ?_)
          · replace h := qit c23 h
            refine ev_iconst (pc' := 116) dX10_parse_115 rfl ?_
            cases h
            exact ev_wk (qLe_eq (qLe_eq (qLe_sk qLe_nil))) kJ
          · replace h := qif' c23 h
            refine ev_iconst (pc' := 112) dX10_parse_111 rfl ?_
            refine ev_goto (pc' := 116) dX10_parse_112 (by decide) ?_
            cases h
            exact ev_wk (qLe_eq (qLe_eq (qLe_sk qLe_nil))) kJ
set_option maxRecDepth 100000 in
theorem eX10_parse {Ls t d n : Nat} {p0 : Int} {μ : qMu} {r : Int × qMu} (h : fX10_parse n p0 μ = some r) : Ev (d + 6) mX10_parse 0 [some (.ref 78), some (iv p0), none] [] (cS Ls t μ) (.inl (some (iv r.1))) (cS Ls t r.2) := by
  unfold fX10_parse at h
  refine ev_aload_n (pc' := 1) dX10_parse_0 rfl rfl ?_
  refine ev_iload_n (pc' := 2) dX10_parse_1 rfl rfl ?_
  replace h := qbd h; obtain ⟨μ1, hμ1, h⟩ := h
  refine ev_puti (pc' := 5) dX10_parse_2 rfl tf_10_78 sh78 rfl rfl (qw_9_9 _) rfl hμ1 ?_
  refine ev_aload_n (pc' := 6) dX10_parse_5 rfl rfl ?_
  refine ev_iconst (pc' := 7) dX10_parse_6 rfl ?_
  replace h := qbd h; obtain ⟨μ2, hμ2, h⟩ := h
  refine ev_puti (pc' := 10) dX10_parse_7 rfl tf_10_71 sh78 rfl rfl (qw_9_6 _) rfl hμ2 ?_
  refine ev_aload_n (pc' := 11) dX10_parse_10 rfl rfl ?_
  refine ev_iconst (pc' := 12) dX10_parse_11 rfl ?_
  replace h := qbd h; obtain ⟨μ3, hμ3, h⟩ := h
  refine ev_puti (pc' := 15) dX10_parse_12 rfl tf_10_81 sh78 rfl rfl (qw_9_11 _) rfl hμ3 ?_
  refine ev_aload_n (pc' := 16) dX10_parse_15 rfl rfl ?_
  refine ev_iconst (pc' := 17) dX10_parse_16 rfl ?_
  replace h := qbd h; obtain ⟨μ4, hμ4, h⟩ := h
  refine ev_puti (pc' := 20) dX10_parse_17 rfl tf_10_119 sh78 rfl rfl (qw_9_14 _) rfl hμ4 ?_
  refine ev_aload_n (pc' := 21) dX10_parse_20 rfl rfl ?_
  refine ev_iconst (pc' := 22) dX10_parse_21 rfl ?_
  replace h := qbd h; obtain ⟨μ5, hμ5, h⟩ := h
  refine ev_puti (pc' := 25) dX10_parse_22 rfl tf_10_122 sh78 rfl rfl (qw_9_15 _) rfl hμ5 ?_
  refine ev_iconst (pc' := 26) dX10_parse_25 rfl ?_
  refine ev_istore_n (pc' := 27) (L1 := [some (.ref 78), some (iv p0), some (iv 0)]) dX10_parse_26 rfl rfl ?_
  replace h := qbd h; obtain ⟨y8, hy8, h⟩ := h
  refine ev_wk (qLe_eq (qLe_sk (qLe_eq qLe_nil))) (?_ : Ev _ _ _ [some (.ref 78), none, some (iv 0)] _ _ _ _)
  refine ebX10_parse_27 _ _ _ hy8 _ _ ?_
  refine ev_aload_n (pc' := 48) dX10_parse_47 rfl rfl ?_
  refine ev_getr (pc' := 51) dX10_parse_48 rfl tf_10_7 sh78 rfl ?_
  refine ev_iconst (pc' := 52) dX10_parse_51 rfl ?_
  refine ev_iconst (pc' := 53) dX10_parse_52 rfl ?_
  replace h := qbd h; obtain ⟨μ9, hμ9, h⟩ := h
  refine ev_iast (pc' := 54) dX10_parse_53 rfl sh79 hμ9 ?_
  refine ev_aload_n (pc' := 55) dX10_parse_54 rfl rfl ?_
  replace h := qbd h; obtain ⟨y10, hy10, h⟩ := h
  refine ev_callg (pc' := 58) (st2 := [iv y10.1]) dX10_parse_55 (qs_V tc_10_135 rfl rfl (cS_cls sh78) rfl) rfl rfl (eX10_advance (d := d + 3) hy10) rfl rfl ?_
  refine ev_pop (pc' := 59) dX10_parse_58 rfl rfl ?_
  refine ev_aload_n (pc' := 60) dX10_parse_59 rfl rfl ?_
  refine ev_geti (pc' := 63) (ki := 12) dX10_parse_60 rfl tf_10_95 sh78 rfl rfl ?_
  replace h := qbd h; obtain ⟨y12, hy12, h⟩ := h
  have kJ : Ev (d + 6) mX10_parse 85 [some (.ref 78), none, none] [iv y12.1] (cS Ls t y12.2) (.inl (some (iv r.1))) (cS Ls t r.2) := by
    refine ev_istore_n (pc' := 86) (L1 := [some (.ref 78), none, some (iv y12.1)]) dX10_parse_85 rfl rfl ?_
    replace h := qbd h; obtain ⟨y24, hy24, h⟩ := h
    refine ev_wk (qLe_eq (qLe_eq (qLe_eq qLe_nil))) (?_ : Ev _ _ _ [some (.ref 78), none, some (iv y12.1)] _ _ _ _)
    refine ebX10_parse_86 _ _ _ hy24 _ _ ?_
    refine ev_iload_n (pc' := 121) dX10_parse_120 rfl rfl ?_
    replace h := qbd h; obtain ⟨x25, hx25, h⟩ := h
    obtain ⟨ex25, nx25⟩ := qbl_n hx25
    subst ex25
    cases h
    exact ev_ireturn dX10_parse_121 rfl nx25
  replace h := hy12
  clear hy12
  refine ev_ifeq (pc' := 66) (tgt := 80) dX10_parse_63 (by decide) rfl (x1 := wr (rd y10.2 78 12)) rfl (fun c11 => ?_) (fun c11 => ?_)
  · replace h := qit c11 h
    refine ev_iconst (pc' := 81) dX10_parse_80 rfl ?_
    refine ev_goto (pc' := 85) dX10_parse_81 (by decide) ?_
    cases h
    exact ev_wk (qLe_eq (qLe_eq (qLe_eq qLe_nil))) kJ
  · replace h := qif' c11 h
    refine ev_aload_n (pc' := 67) dX10_parse_66 rfl rfl ?_
    replace h := qbd h; obtain ⟨y13, hy13, h⟩ := h
    refine ev_callg (pc' := 70) (st2 := [iv y13.1]) dX10_parse_67 (qs_V tc_10_179 rfl rfl (cS_cls sh78) rfl) rfl rfl (eX10_firstStatement (d := d + 0) hy13) rfl rfl ?_
    refine ev_ifeq (pc' := 73) (tgt := 84) dX10_parse_70 (by decide) rfl (x1 := wr y13.1) rfl (fun c14 => ?_) (fun c14 => ?_)
    · replace h := qit c14 h
      refine ev_iconst (pc' := 85) dX10_parse_84 rfl ?_
      cases h
      exact ev_wk (qLe_eq (qLe_eq (qLe_eq qLe_nil))) kJ
    · replace h := qif' c14 h
      refine ev_aload_n (pc' := 74) dX10_parse_73 rfl rfl ?_
      replace h := qbd h; obtain ⟨y15, hy15, h⟩ := h
      refine ev_callg (pc' := 77) (st2 := [iv y15.1]) dX10_parse_74 (qs_V tc_10_182 rfl rfl (cS_cls sh78) rfl) rfl rfl (eX10_closed (d := d + 2) hy15) rfl rfl ?_
      refine ev_ifeq (pc' := 80) (tgt := 84) dX10_parse_77 (by decide) rfl (x1 := wr y15.1) rfl (fun c16 => ?_) (fun c16 => ?_)
      · replace h := qit c16 h
        refine ev_iconst (pc' := 85) dX10_parse_84 rfl ?_
        cases h
        exact ev_wk (qLe_eq (qLe_eq (qLe_eq qLe_nil))) kJ
      · replace h := qif' c16 h
        refine ev_iconst (pc' := 81) dX10_parse_80 rfl ?_
        refine ev_goto (pc' := 85) dX10_parse_81 (by decide) ?_
        cases h
        exact ev_wk (qLe_eq (qLe_eq (qLe_eq qLe_nil))) kJ
set_option maxRecDepth 100000 in
theorem eX10_load {Ls t d n : Nat} {p0 : Int} {μ : qMu} {r : Int × qMu} (h : fX10_load n p0 μ = some r) : Ev (d + 7) mX10_load 0 [some (.ref 78), some (iv p0), none] [] (cS Ls t μ) (.inl (some (iv r.1))) (cS Ls t r.2) := by
  unfold fX10_load at h
  refine ev_aload_n (pc' := 1) dX10_load_0 rfl rfl ?_
  refine ev_iload_n (pc' := 2) dX10_load_1 rfl rfl ?_
  refine ev_iconst (pc' := 3) dX10_load_2 rfl ?_
  refine ev_aload_n (pc' := 4) dX10_load_3 rfl rfl ?_
  refine ev_geti (pc' := 7) (ki := 6) dX10_load_4 rfl tf_10_71 sh78 rfl rfl ?_
  replace h := qbd h; obtain ⟨y1, hy1, h⟩ := h
  refine ev_callg (pc' := 10) (st2 := [iv y1, .ref 78]) dX10_load_7 (qs_S tc_10_128 (by decide) rfl rfl) rfl rfl (eX10_isIn (d := d + 6) hy1) rfl rfl ?_
  replace h := qbd h; obtain ⟨y2, hy2, h⟩ := h
  refine ev_callg (pc' := 13) (st2 := [iv y2.1]) dX10_load_10 (qs_V tc_10_188 rfl rfl (cS_cls sh78) rfl) rfl rfl (eX10_good (d := d + 6) hy2) rfl rfl ?_
  refine ev_ifne (pc' := 16) (tgt := 18) dX10_load_13 (by decide) rfl (x1 := wr y2.1) rfl (fun c3 => ?_) (fun c3 => ?_)
  · replace h := qit c3 h
    refine ev_iconst (pc' := 17) dX10_load_16 rfl ?_
    cases h
    exact ev_ireturn dX10_load_17 rfl rfl
  · replace h := qif' c3 h
    refine ev_aload_n (pc' := 19) dX10_load_18 rfl rfl ?_
    replace h := qbd h; obtain ⟨y4, hy4, h⟩ := h
    refine ev_callg (pc' := 22) (st2 := []) dX10_load_19 (qs_V tc_10_191 rfl rfl (cS_cls sh78) rfl) rfl rfl (eX10_putAside (d := d + 6) hy4) rfl rfl ?_
    refine ev_aload_n (pc' := 23) dX10_load_22 rfl rfl ?_
    refine ev_iload_n (pc' := 24) dX10_load_23 rfl rfl ?_
    replace h := qbd h; obtain ⟨y5, hy5, h⟩ := h
    refine ev_callg (pc' := 27) (st2 := [iv y5.1]) dX10_load_24 (qs_V tc_10_194 rfl rfl (cS_cls sh78) rfl) rfl rfl (eX10_parse (d := d + 0) hy5) rfl rfl ?_
    refine ev_istore_n (pc' := 28) (L1 := [some (.ref 78), some (iv p0), some (iv y5.1)]) dX10_load_27 rfl rfl ?_
    refine ev_aload_n (pc' := 29) dX10_load_28 rfl rfl ?_
    refine ev_aload_n (pc' := 30) dX10_load_29 rfl rfl ?_
    refine ev_geti (pc' := 33) (ki := 14) dX10_load_30 rfl tf_10_119 sh78 rfl rfl ?_
    replace h := qbd h; obtain ⟨μ6, hμ6, h⟩ := h
    refine ev_puti (pc' := 36) dX10_load_33 rfl tf_10_197 sh78 rfl rfl (qw_9_7 _) rfl hμ6 ?_
    refine ev_aload_n (pc' := 37) dX10_load_36 rfl rfl ?_
    refine ev_aload_n (pc' := 38) dX10_load_37 rfl rfl ?_
    refine ev_geti (pc' := 41) (ki := 15) dX10_load_38 rfl tf_10_122 sh78 rfl rfl ?_
    replace h := qbd h; obtain ⟨μ7, hμ7, h⟩ := h
    refine ev_puti (pc' := 44) dX10_load_41 rfl tf_10_22 sh78 rfl rfl (qw_9_8 _) rfl hμ7 ?_
    refine ev_iload_n (pc' := 45) dX10_load_44 rfl rfl ?_
    refine ev_ifne (pc' := 48) (tgt := 55) dX10_load_45 (by decide) rfl (x1 := wr y5.1) rfl (fun c8 => ?_) (fun c8 => ?_)
    · replace h := qit c8 h
      refine ev_aload_n (pc' := 49) dX10_load_48 rfl rfl ?_
      replace h := qbd h; obtain ⟨y9, hy9, h⟩ := h
      refine ev_callg (pc' := 52) (st2 := []) dX10_load_49 (qs_V tc_10_200 rfl rfl (cS_cls sh78) rfl) rfl rfl (eX10_layBack (d := d + 6) hy9) rfl rfl ?_
      refine ev_bipush (pc' := 54) dX10_load_52 rfl bl_m3 ?_
      cases h
      exact ev_ireturn dX10_load_54 rfl rfl
    · replace h := qif' c8 h
      refine ev_aload_n (pc' := 56) dX10_load_55 rfl rfl ?_
      refine ev_iconst (pc' := 57) dX10_load_56 rfl ?_
      replace h := qbd h; obtain ⟨μ10, hμ10, h⟩ := h
      refine ev_puti (pc' := 60) dX10_load_57 rfl tf_10_61 sh78 rfl rfl (qw_9_3 _) rfl hμ10 ?_
      refine ev_aload_n (pc' := 61) dX10_load_60 rfl rfl ?_
      refine ev_iconst (pc' := 62) dX10_load_61 rfl ?_
      replace h := qbd h; obtain ⟨y11, hy11, h⟩ := h
      refine ev_callg (pc' := 65) (st2 := [iv y11]) dX10_load_62 (qs_V tc_10_146 rfl rfl (cS_cls sh78) rfl) rfl rfl (eX10_edgesOf (d := d + 4) hy11) rfl rfl ?_
      cases h
      exact ev_ireturn dX10_load_65 rfl rfl
set_option maxRecDepth 100000 in
theorem eX10_errorKind {Ls t d : Nat} {μ : qMu} {r : Int × qMu} (h : fX10_errorKind μ = some r) : Ev (d + 0) mX10_errorKind 0 [some (.ref 78)] [] (cS Ls t μ) (.inl (some (iv r.1))) (cS Ls t r.2) := by
  unfold fX10_errorKind at h
  refine ev_aload_n (pc' := 1) dX10_errorKind_0 rfl rfl ?_
  refine ev_iconst (pc' := 2) dX10_errorKind_1 rfl ?_
  replace h := qbd h; obtain ⟨μ1, hμ1, h⟩ := h
  refine ev_puti (pc' := 5) dX10_errorKind_2 rfl tf_10_54 sh78 rfl rfl (qw_9_4 _) rfl hμ1 ?_
  refine ev_aload_n (pc' := 6) dX10_errorKind_5 rfl rfl ?_
  refine ev_geti (pc' := 9) (ki := 7) dX10_errorKind_6 rfl tf_10_197 sh78 rfl rfl ?_
  cases h
  exact ev_ireturn dX10_errorKind_9 rfl rfl
set_option maxRecDepth 100000 in
theorem eX10_errorPosition {Ls t d : Nat} {μ : qMu} {r : Int × qMu} (h : fX10_errorPosition μ = some r) : Ev (d + 0) mX10_errorPosition 0 [some (.ref 78)] [] (cS Ls t μ) (.inl (some (iv r.1))) (cS Ls t r.2) := by
  unfold fX10_errorPosition at h
  refine ev_aload_n (pc' := 1) dX10_errorPosition_0 rfl rfl ?_
  refine ev_iconst (pc' := 2) dX10_errorPosition_1 rfl ?_
  replace h := qbd h; obtain ⟨μ1, hμ1, h⟩ := h
  refine ev_puti (pc' := 5) dX10_errorPosition_2 rfl tf_10_54 sh78 rfl rfl (qw_9_4 _) rfl hμ1 ?_
  refine ev_aload_n (pc' := 6) dX10_errorPosition_5 rfl rfl ?_
  refine ev_geti (pc' := 9) (ki := 8) dX10_errorPosition_6 rfl tf_10_22 sh78 rfl rfl ?_
  cases h
  exact ev_ireturn dX10_errorPosition_9 rfl rfl
set_option maxRecDepth 100000 in
theorem eX10_isVertex {Ls t d : Nat} {p0 : Int} {μ : qMu} {r : Int} (h : fX10_isVertex p0 μ = some r) : Ev (d + 1) mX10_isVertex 0 [some (.ref 78), some (iv p0)] [] (cS Ls t μ) (.inl (some (iv r))) (cS Ls t μ) := by
  unfold fX10_isVertex at h
  refine ev_iload_n (pc' := 1) dX10_isVertex_0 rfl rfl ?_
  refine ev_iconst (pc' := 2) dX10_isVertex_1 rfl ?_
  refine ev_aload_n (pc' := 3) dX10_isVertex_2 rfl rfl ?_
  refine ev_getr (pc' := 6) dX10_isVertex_3 rfl tf_10_7 sh78 rfl ?_
  refine ev_iconst (pc' := 7) dX10_isVertex_6 rfl ?_
  replace h := qbd h; obtain ⟨x1, hx1, h⟩ := h
  refine ev_iald (pc' := 8) dX10_isVertex_7 rfl sh79 hx1 ?_
  refine ev_iconst (pc' := 9) dX10_isVertex_8 rfl ?_
  refine ev_isub (pc' := 10) dX10_isVertex_9 rfl ?_
  replace h := qbd h; obtain ⟨y2, hy2, h⟩ := h
  refine ev_callg (pc' := 13) (st2 := [iv y2]) dX10_isVertex_10 (qs_S tc_10_128 (by decide) rfl rfl) rfl rfl (eX10_isIn (d := d + 0) hy2) rfl rfl ?_
  replace h := qbd h; obtain ⟨x3, hx3, h⟩ := h
  obtain ⟨ex3, nx3⟩ := qbl_n hx3
  subst ex3
  cases h
  exact ev_ireturn dX10_isVertex_13 rfl nx3
set_option maxRecDepth 100000 in
theorem eX10_areVertices {Ls t d : Nat} {p0 : Int} {p1 : Int} {μ : qMu} {r : Int} (h : fX10_areVertices p0 p1 μ = some r) : Ev (d + 2) mX10_areVertices 0 [some (.ref 78), some (iv p0), some (iv p1)] [] (cS Ls t μ) (.inl (some (iv r))) (cS Ls t μ) := by
  unfold fX10_areVertices at h
  refine ev_aload_n (pc' := 1) dX10_areVertices_0 rfl rfl ?_
  refine ev_iload_n (pc' := 2) dX10_areVertices_1 rfl rfl ?_
  replace h := qbd h; obtain ⟨y1, hy1, h⟩ := h
  refine ev_callg (pc' := 5) (st2 := [iv y1]) dX10_areVertices_2 (qs_V tc_10_203 rfl rfl (cS_cls sh78) rfl) rfl rfl (eX10_isVertex (d := d + 0) hy1) rfl rfl ?_
  refine ev_ifeq (pc' := 8) (tgt := 20) dX10_areVertices_5 (by decide) rfl (x1 := wr y1) rfl (fun c2 => ?_) (fun c2 => ?_)
  · replace h := qit c2 h
    refine ev_iconst (pc' := 21) dX10_areVertices_20 rfl ?_
    cases h
    exact ev_ireturn dX10_areVertices_21 rfl rfl
  · replace h := qif' c2 h
    refine ev_aload_n (pc' := 9) dX10_areVertices_8 rfl rfl ?_
    refine ev_iload_n (pc' := 10) dX10_areVertices_9 rfl rfl ?_
    replace h := qbd h; obtain ⟨y3, hy3, h⟩ := h
    refine ev_callg (pc' := 13) (st2 := [iv y3]) dX10_areVertices_10 (qs_V tc_10_203 rfl rfl (cS_cls sh78) rfl) rfl rfl (eX10_isVertex (d := d + 0) hy3) rfl rfl ?_
    refine ev_ifeq (pc' := 16) (tgt := 20) dX10_areVertices_13 (by decide) rfl (x1 := wr y3) rfl (fun c4 => ?_) (fun c4 => ?_)
    · replace h := qit c4 h
      refine ev_iconst (pc' := 21) dX10_areVertices_20 rfl ?_
      cases h
      exact ev_ireturn dX10_areVertices_21 rfl rfl
    · replace h := qif' c4 h
      refine ev_iconst (pc' := 17) dX10_areVertices_16 rfl ?_
      refine ev_goto (pc' := 21) dX10_areVertices_17 (by decide) ?_
      cases h
      exact ev_ireturn dX10_areVertices_21 rfl rfl
set_option maxRecDepth 100000 in
theorem eX10_vertices {Ls t d : Nat} {μ : qMu} {r : Int × qMu} (h : fX10_vertices μ = some r) : Ev (d + 0) mX10_vertices 0 [some (.ref 78)] [] (cS Ls t μ) (.inl (some (iv r.1))) (cS Ls t r.2) := by
  unfold fX10_vertices at h
  refine ev_aload_n (pc' := 1) dX10_vertices_0 rfl rfl ?_
  refine ev_iconst (pc' := 2) dX10_vertices_1 rfl ?_
  replace h := qbd h; obtain ⟨μ1, hμ1, h⟩ := h
  refine ev_puti (pc' := 5) dX10_vertices_2 rfl tf_10_54 sh78 rfl rfl (qw_9_4 _) rfl hμ1 ?_
  refine ev_aload_n (pc' := 6) dX10_vertices_5 rfl rfl ?_
  refine ev_getr (pc' := 9) dX10_vertices_6 rfl tf_10_7 sh78 rfl ?_
  refine ev_iconst (pc' := 10) dX10_vertices_9 rfl ?_
  replace h := qbd h; obtain ⟨x2, hx2, h⟩ := h
  refine ev_iald (pc' := 11) dX10_vertices_10 rfl sh79 hx2 ?_
  cases h
  exact ev_ireturn dX10_vertices_11 rfl rfl
set_option maxRecDepth 100000 in
theorem eX10_mode {Ls t d : Nat} {μ : qMu} {r : Int × qMu} (h : fX10_mode μ = some r) : Ev (d + 0) mX10_mode 0 [some (.ref 78)] [] (cS Ls t μ) (.inl (some (iv r.1))) (cS Ls t r.2) := by
  unfold fX10_mode at h
  refine ev_aload_n (pc' := 1) dX10_mode_0 rfl rfl ?_
  refine ev_iconst (pc' := 2) dX10_mode_1 rfl ?_
  replace h := qbd h; obtain ⟨μ1, hμ1, h⟩ := h
  refine ev_puti (pc' := 5) dX10_mode_2 rfl tf_10_54 sh78 rfl rfl (qw_9_4 _) rfl hμ1 ?_
  refine ev_aload_n (pc' := 6) dX10_mode_5 rfl rfl ?_
  refine ev_getr (pc' := 9) dX10_mode_6 rfl tf_10_7 sh78 rfl ?_
  refine ev_iconst (pc' := 10) dX10_mode_9 rfl ?_
  replace h := qbd h; obtain ⟨x2, hx2, h⟩ := h
  refine ev_iald (pc' := 11) dX10_mode_10 rfl sh79 hx2 ?_
  cases h
  exact ev_ireturn dX10_mode_11 rfl rfl
set_option maxRecDepth 100000 in
theorem eX10_table {Ls t d : Nat} {p0 : Int} {μ : qMu} {r : Int} (h : fX10_table p0 μ = some r) : Ev (d + 0) mX10_table 0 [some (iv p0)] [] (cS Ls t μ) (.inl (some (iv r))) (cS Ls t μ) := by
  unfold fX10_table at h
  refine ev_iload_n (pc' := 1) dX10_table_0 rfl rfl ?_
  refine ev_ifeq (pc' := 4) (tgt := 9) dX10_table_1 (by decide) rfl (x1 := wr p0) rfl (fun c1 => ?_) (fun c1 => ?_)
  · replace h := qit c1 h
    refine ev_iconst (pc' := 10) dX10_table_9 rfl ?_
    cases h
    exact ev_ireturn dX10_table_10 rfl rfl
  · replace h := qif' c1 h
    refine ev_bipush (pc' := 6) dX10_table_4 rfl bl_66 ?_
    refine ev_goto (pc' := 10) dX10_table_6 (by decide) ?_
    cases h
    exact ev_ireturn dX10_table_10 rfl rfl
set_option maxRecDepth 100000 in
theorem eX10_edges {Ls t d n : Nat} {p0 : Int} {μ : qMu} {r : Int × qMu} (h : fX10_edges n p0 μ = some r) : Ev (d + 3) mX10_edges 0 [some (.ref 78), some (iv p0)] [] (cS Ls t μ) (.inl (some (iv r.1))) (cS Ls t r.2) := by
  unfold fX10_edges at h
  refine ev_aload_n (pc' := 1) dX10_edges_0 rfl rfl ?_
  refine ev_iconst (pc' := 2) dX10_edges_1 rfl ?_
  replace h := qbd h; obtain ⟨μ1, hμ1, h⟩ := h
  refine ev_puti (pc' := 5) dX10_edges_2 rfl tf_10_54 sh78 rfl rfl (qw_9_4 _) rfl hμ1 ?_
  refine ev_aload_n (pc' := 6) dX10_edges_5 rfl rfl ?_
  refine ev_iload_n (pc' := 7) dX10_edges_6 rfl rfl ?_
  replace h := qbd h; obtain ⟨y2, hy2, h⟩ := h
  refine ev_callg (pc' := 10) (st2 := [iv y2, .ref 78]) dX10_edges_7 (qs_S tc_10_206 (by decide) rfl rfl) rfl rfl (eX10_table (d := d + 2) hy2) rfl rfl ?_
  replace h := qbd h; obtain ⟨y3, hy3, h⟩ := h
  refine ev_callg (pc' := 13) (st2 := [iv y3]) dX10_edges_10 (qs_V tc_10_146 rfl rfl (cS_cls sh78) rfl) rfl rfl (eX10_edgesOf (d := d + 0) hy3) rfl rfl ?_
  cases h
  exact ev_ireturn dX10_edges_13 rfl rfl
set_option maxRecDepth 100000 in
theorem eX10_times {Ls t d : Nat} {p0 : Int} {p1 : Int} {p2 : Int} {μ : qMu} {r : Int × qMu} (h : fX10_times p0 p1 p2 μ = some r) : Ev (d + 3) mX10_times 0 [some (.ref 78), some (iv p0), some (iv p1), some (iv p2)] [] (cS Ls t μ) (.inl (some (iv r.1))) (cS Ls t r.2) := by
  unfold fX10_times at h
  refine ev_aload_n (pc' := 1) dX10_times_0 rfl rfl ?_
  refine ev_aload_n (pc' := 2) dX10_times_1 rfl rfl ?_
  refine ev_iload_n (pc' := 3) dX10_times_2 rfl rfl ?_
  refine ev_iload_n (pc' := 4) dX10_times_3 rfl rfl ?_
  replace h := qbd h; obtain ⟨y1, hy1, h⟩ := h
  refine ev_callg (pc' := 7) (st2 := [iv y1, .ref 78]) dX10_times_4 (qs_V tc_10_210 rfl rfl (cS_cls sh78) rfl) rfl rfl (eX10_areVertices (d := d + 0) hy1) rfl rfl ?_
  replace h := qbd h; obtain ⟨y2, hy2, h⟩ := h
  refine ev_callg (pc' := 10) (st2 := [iv y2.1]) dX10_times_7 (qs_V tc_10_188 rfl rfl (cS_cls sh78) rfl) rfl rfl (eX10_good (d := d + 2) hy2) rfl rfl ?_
  refine ev_ifeq (pc' := 13) (tgt := 26) dX10_times_10 (by decide) rfl (x1 := wr y2.1) rfl (fun c3 => ?_) (fun c3 => ?_)
  · replace h := qit c3 h
    refine ev_iconst (pc' := 27) dX10_times_26 rfl ?_
    cases h
    exact ev_ireturn dX10_times_27 rfl rfl
  · replace h := qif' c3 h
    refine ev_aload_n (pc' := 14) dX10_times_13 rfl rfl ?_
    refine ev_iload_n (pc' := 15) dX10_times_14 rfl rfl ?_
    replace h := qbd h; obtain ⟨y4, hy4, h⟩ := h
    refine ev_callg (pc' := 18) (st2 := [iv y4, .ref 78]) dX10_times_15 (qs_S tc_10_206 (by decide) rfl rfl) rfl rfl (eX10_table (d := d + 2) hy4) rfl rfl ?_
    refine ev_iload_n (pc' := 19) dX10_times_18 rfl rfl ?_
    refine ev_iload_n (pc' := 20) dX10_times_19 rfl rfl ?_
    replace h := qbd h; obtain ⟨y5, hy5, h⟩ := h
    refine ev_callg (pc' := 23) (st2 := [iv y5]) dX10_times_20 (qs_V tc_10_68 rfl rfl (cS_cls sh78) rfl) rfl rfl (eX10_many (d := d + 1) hy5) rfl rfl ?_
    refine ev_goto (pc' := 27) dX10_times_23 (by decide) ?_
    cases h
    exact ev_ireturn dX10_times_27 rfl rfl
set_option maxRecDepth 100000 in
theorem eX10_degree {Ls t d n : Nat} {p0 : Int} {p1 : Int} {μ : qMu} {r : Int × qMu} (h : fX10_degree n p0 p1 μ = some r) : Ev (d + 3) mX10_degree 0 [some (.ref 78), some (iv p0), some (iv p1)] [] (cS Ls t μ) (.inl (some (iv r.1))) (cS Ls t r.2) := by
  unfold fX10_degree at h
  refine ev_aload_n (pc' := 1) dX10_degree_0 rfl rfl ?_
  refine ev_aload_n (pc' := 2) dX10_degree_1 rfl rfl ?_
  refine ev_iload_n (pc' := 3) dX10_degree_2 rfl rfl ?_
  replace h := qbd h; obtain ⟨y1, hy1, h⟩ := h
  refine ev_callg (pc' := 6) (st2 := [iv y1, .ref 78]) dX10_degree_3 (qs_V tc_10_203 rfl rfl (cS_cls sh78) rfl) rfl rfl (eX10_isVertex (d := d + 1) hy1) rfl rfl ?_
  replace h := qbd h; obtain ⟨y2, hy2, h⟩ := h
  refine ev_callg (pc' := 9) (st2 := [iv y2.1]) dX10_degree_6 (qs_V tc_10_188 rfl rfl (cS_cls sh78) rfl) rfl rfl (eX10_good (d := d + 2) hy2) rfl rfl ?_
  refine ev_ifeq (pc' := 12) (tgt := 24) dX10_degree_9 (by decide) rfl (x1 := wr y2.1) rfl (fun c3 => ?_) (fun c3 => ?_)
  · replace h := qit c3 h
    refine ev_iconst (pc' := 25) dX10_degree_24 rfl ?_
    cases h
    exact ev_ireturn dX10_degree_25 rfl rfl
  · replace h := qif' c3 h
    refine ev_aload_n (pc' := 13) dX10_degree_12 rfl rfl ?_
    refine ev_iload_n (pc' := 14) dX10_degree_13 rfl rfl ?_
    replace h := qbd h; obtain ⟨y4, hy4, h⟩ := h
    refine ev_callg (pc' := 17) (st2 := [iv y4, .ref 78]) dX10_degree_14 (qs_S tc_10_206 (by decide) rfl rfl) rfl rfl (eX10_table (d := d + 2) hy4) rfl rfl ?_
    refine ev_iload_n (pc' := 18) dX10_degree_17 rfl rfl ?_
    replace h := qbd h; obtain ⟨y5, hy5, h⟩ := h
    refine ev_callg (pc' := 21) (st2 := [iv y5]) dX10_degree_18 (qs_V tc_10_213 rfl rfl (cS_cls sh78) rfl) rfl rfl (eX10_degreeOf (d := d + 0) hy5) rfl rfl ?_
    refine ev_goto (pc' := 25) dX10_degree_21 (by decide) ?_
    cases h
    exact ev_ireturn dX10_degree_25 rfl rfl
set_option maxRecDepth 100000 in
theorem ebX10_loopsNow_4 {Ls t d n : Nat} {μ : qMu} : ∀ (k : Nat) (x : Int × Int) (y : Int), lp (fun x : Int × Int => bX10_loopsNow_4 n x.1 x.2 μ) k x = some y → ∀ (o : qO) (s' : qSt), Ev (d + 2) mX10_loopsNow 26 [none, some (iv y), none] [] (cS Ls t μ) o s' → Ev (d + 2) mX10_loopsNow 4 [some (.ref 78), some (iv x.1), some (iv x.2)] [] (cS Ls t μ) o s' := by
  intro k
  induction k with
  | zero => intro x y h; cases h
  | succ k ih =>
    intro x y h o s' kE
    rw [lp_s] at h
    replace h := qbd h; obtain ⟨zz, h0, h1⟩ := h
    have h : bX10_loopsNow_4 n x.1 x.2 μ = some zz := h0
    clear h0
    unfold bX10_loopsNow_4 at h
    refine ev_iload_n (pc' := 5) dX10_loopsNow_4 rfl rfl ?_
    refine ev_bipush (pc' := 7) dX10_loopsNow_5 rfl bl_8 ?_
    refine ev_icmpge (pc' := 10) (tgt := 26) dX10_loopsNow_7 (by decide) rfl (x1 := wr x.2) (y1 := 8) rfl wl_8  (fun c1 => ?_) (fun c1 => ?_)
    · replace h := qit c1 h
      refine ev_iload_n (pc' := 11) dX10_loopsNow_10 rfl rfl ?_
      refine ev_aload_n (pc' := 12) dX10_loopsNow_11 rfl rfl ?_
      refine ev_iconst (pc' := 13) dX10_loopsNow_12 rfl ?_
      refine ev_iload_n (pc' := 14) dX10_loopsNow_13 rfl rfl ?_
      refine ev_iload_n (pc' := 15) dX10_loopsNow_14 rfl rfl ?_
      replace h := qbd h; obtain ⟨y2, hy2, h⟩ := h
      refine ev_callg (pc' := 18) (st2 := [iv y2, iv x.1]) dX10_loopsNow_15 (qs_V tc_10_68 rfl rfl (cS_cls sh78) rfl) rfl rfl (eX10_many (d := d + 0) hy2) rfl rfl ?_
      refine ev_iadd (pc' := 19) dX10_loopsNow_18 rfl ?_
      refine ev_istore_n (pc' := 20) (L1 := [some (.ref 78), some (iv (x.1 + y2)), some (iv x.2)]) dX10_loopsNow_19 rfl rfl ?_
      refine ev_iinc (pc' := 23) (x := x.2) (L1 := [some (.ref 78), some (iv (x.1 + y2)), some (iv (x.2 + 1))]) dX10_loopsNow_20 rfl rfl rfl ?_
      refine ev_goto (pc' := 4) dX10_loopsNow_23 (by decide) ?_
      cases h
      exact ev_wk (qLe_eq (qLe_eq (qLe_eq qLe_nil))) (ih _ _ h1 _ _ kE)
    · replace h := qif' c1 h
      cases h
      cases h1
      exact ev_wk (qLe_sk (qLe_eq (qLe_sk qLe_nil))) kE
set_option maxRecDepth 100000 in
theorem eX10_loopsNow {Ls t d n : Nat} {μ : qMu} {r : Int} (h : fX10_loopsNow n μ = some r) : Ev (d + 2) mX10_loopsNow 0 [some (.ref 78), none, none] [] (cS Ls t μ) (.inl (some (iv r))) (cS Ls t μ) := by
  unfold fX10_loopsNow at h
  refine ev_iconst (pc' := 1) dX10_loopsNow_0 rfl ?_
  refine ev_istore_n (pc' := 2) (L1 := [some (.ref 78), some (iv 0), none]) dX10_loopsNow_1 rfl rfl ?_
  refine ev_iconst (pc' := 3) dX10_loopsNow_2 rfl ?_
  refine ev_istore_n (pc' := 4) (L1 := [some (.ref 78), some (iv 0), some (iv 0)]) dX10_loopsNow_3 rfl rfl ?_
  replace h := qbd h; obtain ⟨y3, hy3, h⟩ := h
  refine ev_wk (qLe_eq (qLe_eq (qLe_eq qLe_nil))) (?_ : Ev _ _ _ [some (.ref 78), some (iv 0), some (iv 0)] _ _ _ _)
  refine ebX10_loopsNow_4 _ _ _ hy3 _ _ ?_
  refine ev_iload_n (pc' := 27) dX10_loopsNow_26 rfl rfl ?_
  cases h
  exact ev_ireturn dX10_loopsNow_27 rfl rfl
set_option maxRecDepth 100000 in
theorem eX10_loops {Ls t d n : Nat} {μ : qMu} {r : Int × qMu} (h : fX10_loops n μ = some r) : Ev (d + 3) mX10_loops 0 [some (.ref 78)] [] (cS Ls t μ) (.inl (some (iv r.1))) (cS Ls t r.2) := by
  unfold fX10_loops at h
  refine ev_aload_n (pc' := 1) dX10_loops_0 rfl rfl ?_
  refine ev_iconst (pc' := 2) dX10_loops_1 rfl ?_
  replace h := qbd h; obtain ⟨μ1, hμ1, h⟩ := h
  refine ev_puti (pc' := 5) dX10_loops_2 rfl tf_10_54 sh78 rfl rfl (qw_9_4 _) rfl hμ1 ?_
  refine ev_aload_n (pc' := 6) dX10_loops_5 rfl rfl ?_
  replace h := qbd h; obtain ⟨y2, hy2, h⟩ := h
  refine ev_callg (pc' := 9) (st2 := [iv y2]) dX10_loops_6 (qs_V tc_10_217 rfl rfl (cS_cls sh78) rfl) rfl rfl (eX10_loopsNow (d := d + 0) hy2) rfl rfl ?_
  cases h
  exact ev_ireturn dX10_loops_9 rfl rfl
set_option maxRecDepth 100000 in
theorem ebX10_defectsNow_17 {Ls t d n : Nat} {w2 : Int} {μ : qMu} : ∀ (k : Nat) (x : Int × Int) (y : Int), lp (fun x : Int × Int => bX10_defectsNow_17 n w2 x.1 x.2 μ) k x = some y → ∀ (o : qO) (s' : qSt), Ev (d + 3) mX10_defectsNow 45 [some (.ref 78), some (iv y), some (iv w2), none] [] (cS Ls t μ) o s' → Ev (d + 3) mX10_defectsNow 17 [some (.ref 78), some (iv x.1), some (iv w2), some (iv x.2)] [] (cS Ls t μ) o s' := by
  intro k
  induction k with
  | zero => intro x y h; cases h
  | succ k ih =>
    intro x y h o s' kE
    rw [lp_s] at h
    replace h := qbd h; obtain ⟨zz, h0, h1⟩ := h
    have h : bX10_defectsNow_17 n w2 x.1 x.2 μ = some zz := h0
    clear h0
    unfold bX10_defectsNow_17 at h
    refine ev_iload_n (pc' := 18) dX10_defectsNow_17 rfl rfl ?_
    refine ev_bipush (pc' := 20) dX10_defectsNow_18 rfl bl_8 ?_
    refine ev_icmpge (pc' := 23) (tgt := 45) dX10_defectsNow_20 (by decide) rfl (x1 := wr x.2) (y1 := 8) rfl wl_8  (fun c3 => ?_) (fun c3 => ?_)
    · replace h := qit c3 h
      refine ev_iload_n (pc' := 24) dX10_defectsNow_23 rfl rfl ?_
      refine ev_iconst (pc' := 25) dX10_defectsNow_24 rfl ?_
      refine ev_aload_n (pc' := 26) dX10_defectsNow_25 rfl rfl ?_
      refine ev_iconst (pc' := 27) dX10_defectsNow_26 rfl ?_
      refine ev_iload_n (pc' := 28) dX10_defectsNow_27 rfl rfl ?_
      refine ev_iload_n (pc' := 29) dX10_defectsNow_28 rfl rfl ?_
      replace h := qbd h; obtain ⟨y4, hy4, h⟩ := h
      refine ev_callg (pc' := 32) (st2 := [iv y4, iv 0, iv x.1]) dX10_defectsNow_29 (qs_V tc_10_68 rfl rfl (cS_cls sh78) rfl) rfl rfl (eX10_many (d := d + 1) hy4) rfl rfl ?_
      refine ev_iconst (pc' := 33) dX10_defectsNow_32 rfl ?_
      refine ev_isub (pc' := 34) dX10_defectsNow_33 rfl ?_
      refine ev_max (pc' := 37) dX10_defectsNow_34 rfl tc_10_220 rfl ?_
      refine ev_iadd (pc' := 38) dX10_defectsNow_37 rfl ?_
      refine ev_istore_n (pc' := 39) (L1 := [some (.ref 78), some (iv (x.1 + (mx 0 (y4 - 1)))), some (iv w2), some (iv x.2)]) dX10_defectsNow_38 rfl rfl ?_
      refine ev_iinc (pc' := 42) (x := x.2) (L1 := [some (.ref 78), some (iv (x.1 + (mx 0 (y4 - 1)))), some (iv w2), some (iv (x.2 + 1))]) dX10_defectsNow_39 rfl rfl rfl ?_
      refine ev_goto (pc' := 17) dX10_defectsNow_42 (by decide) ?_
      cases h
      exact ev_wk (qLe_eq (qLe_eq (qLe_eq (qLe_eq qLe_nil)))) (ih _ _ h1 _ _ kE)
    · replace h := qif' c3 h
      cases h
      cases h1
      exact ev_wk (qLe_eq (qLe_eq (qLe_eq (qLe_sk qLe_nil)))) kE
set_option maxRecDepth 100000 in
theorem ebX10_defectsNow_7 {Ls t d n : Nat} {μ : qMu} : ∀ (k : Nat) (x : Int × Int) (y : Int), lp (fun x : Int × Int => bX10_defectsNow_7 n x.1 x.2 μ) k x = some y → ∀ (o : qO) (s' : qSt), Ev (d + 3) mX10_defectsNow 51 [none, some (iv y), none, none] [] (cS Ls t μ) o s' → Ev (d + 3) mX10_defectsNow 7 [some (.ref 78), some (iv x.1), some (iv x.2), none] [] (cS Ls t μ) o s' := by
  intro k
  induction k with
  | zero => intro x y h; cases h
  | succ k ih =>
    intro x y h o s' kE
    rw [lp_s] at h
    replace h := qbd h; obtain ⟨zz, h0, h1⟩ := h
    have h : bX10_defectsNow_7 n x.1 x.2 μ = some zz := h0
    clear h0
    unfold bX10_defectsNow_7 at h
    refine ev_iload_n (pc' := 8) dX10_defectsNow_7 rfl rfl ?_
    refine ev_bipush (pc' := 10) dX10_defectsNow_8 rfl bl_8 ?_
    refine ev_icmpge (pc' := 13) (tgt := 51) dX10_defectsNow_10 (by decide) rfl (x1 := wr x.2) (y1 := 8) rfl wl_8  (fun c2 => ?_) (fun c2 => ?_)
    · replace h := qit c2 h
      refine ev_iload_n (pc' := 14) dX10_defectsNow_13 rfl rfl ?_
      refine ev_iconst (pc' := 15) dX10_defectsNow_14 rfl ?_
      refine ev_iadd (pc' := 16) dX10_defectsNow_15 rfl ?_
      refine ev_istore_n (pc' := 17) (L1 := [some (.ref 78), some (iv x.1), some (iv x.2), some (iv (x.2 + 1))]) dX10_defectsNow_16 rfl rfl ?_
      replace h := qbd h; obtain ⟨y5, hy5, h⟩ := h
      refine ev_wk (qLe_eq (qLe_eq (qLe_eq (qLe_eq qLe_nil)))) (?_ : Ev _ _ _ [some (.ref 78), some (iv x.1), some (iv x.2), some (iv (x.2 + 1))] _ _ _ _)
      refine ebX10_defectsNow_17 _ _ _ hy5 _ _ ?_
      refine ev_iinc (pc' := 48) (x := x.2) (L1 := [some (.ref 78), some (iv y5), some (iv (x.2 + 1)), none]) dX10_defectsNow_45 rfl rfl rfl ?_
      refine ev_goto (pc' := 7) dX10_defectsNow_48 (by decide) ?_
      cases h
      exact ev_wk (qLe_eq (qLe_eq (qLe_eq (qLe_eq qLe_nil)))) (ih _ _ h1 _ _ kE)
    · replace h := qif' c2 h
      cases h
      cases h1
      exact ev_wk (qLe_sk (qLe_eq (qLe_sk (qLe_eq qLe_nil)))) kE
set_option maxRecDepth 100000 in
theorem eX10_defectsNow {Ls t d n : Nat} {μ : qMu} {r : Int} (h : fX10_defectsNow n μ = some r) : Ev (d + 3) mX10_defectsNow 0 [some (.ref 78), none, none, none] [] (cS Ls t μ) (.inl (some (iv r))) (cS Ls t μ) := by
  unfold fX10_defectsNow at h
  refine ev_aload_n (pc' := 1) dX10_defectsNow_0 rfl rfl ?_
  replace h := qbd h; obtain ⟨y1, hy1, h⟩ := h
  refine ev_callg (pc' := 4) (st2 := [iv y1]) dX10_defectsNow_1 (qs_V tc_10_217 rfl rfl (cS_cls sh78) rfl) rfl rfl (eX10_loopsNow (d := d + 0) hy1) rfl rfl ?_
  refine ev_istore_n (pc' := 5) (L1 := [some (.ref 78), some (iv y1), none, none]) dX10_defectsNow_4 rfl rfl ?_
  refine ev_iconst (pc' := 6) dX10_defectsNow_5 rfl ?_
  refine ev_istore_n (pc' := 7) (L1 := [some (.ref 78), some (iv y1), some (iv 0), none]) dX10_defectsNow_6 rfl rfl ?_
  replace h := qbd h; obtain ⟨y6, hy6, h⟩ := h
  refine ev_wk (qLe_eq (qLe_eq (qLe_eq (qLe_eq qLe_nil)))) (?_ : Ev _ _ _ [some (.ref 78), some (iv y1), some (iv 0), none] _ _ _ _)
  refine ebX10_defectsNow_7 _ _ _ hy6 _ _ ?_
  refine ev_iload_n (pc' := 52) dX10_defectsNow_51 rfl rfl ?_
  cases h
  exact ev_ireturn dX10_defectsNow_52 rfl rfl
set_option maxRecDepth 100000 in
theorem eX10_defects {Ls t d n : Nat} {μ : qMu} {r : Int × qMu} (h : fX10_defects n μ = some r) : Ev (d + 4) mX10_defects 0 [some (.ref 78)] [] (cS Ls t μ) (.inl (some (iv r.1))) (cS Ls t r.2) := by
  unfold fX10_defects at h
  refine ev_aload_n (pc' := 1) dX10_defects_0 rfl rfl ?_
  refine ev_iconst (pc' := 2) dX10_defects_1 rfl ?_
  replace h := qbd h; obtain ⟨μ1, hμ1, h⟩ := h
  refine ev_puti (pc' := 5) dX10_defects_2 rfl tf_10_54 sh78 rfl rfl (qw_9_4 _) rfl hμ1 ?_
  refine ev_aload_n (pc' := 6) dX10_defects_5 rfl rfl ?_
  replace h := qbd h; obtain ⟨y2, hy2, h⟩ := h
  refine ev_callg (pc' := 9) (st2 := [iv y2]) dX10_defects_6 (qs_V tc_10_225 rfl rfl (cS_cls sh78) rfl) rfl rfl (eX10_defectsNow (d := d + 0) hy2) rfl rfl ?_
  cases h
  exact ev_ireturn dX10_defects_9 rfl rfl
set_option maxRecDepth 100000 in
theorem eX10_isSimple {Ls t d n : Nat} {μ : qMu} {r : Int × qMu} (h : fX10_isSimple n μ = some r) : Ev (d + 4) mX10_isSimple 0 [some (.ref 78)] [] (cS Ls t μ) (.inl (some (iv r.1))) (cS Ls t r.2) := by
  unfold fX10_isSimple at h
  refine ev_aload_n (pc' := 1) dX10_isSimple_0 rfl rfl ?_
  refine ev_iconst (pc' := 2) dX10_isSimple_1 rfl ?_
  replace h := qbd h; obtain ⟨μ1, hμ1, h⟩ := h
  refine ev_puti (pc' := 5) dX10_isSimple_2 rfl tf_10_54 sh78 rfl rfl (qw_9_4 _) rfl hμ1 ?_
  refine ev_aload_n (pc' := 6) dX10_isSimple_5 rfl rfl ?_
  replace h := qbd h; obtain ⟨y2, hy2, h⟩ := h
  refine ev_callg (pc' := 9) (st2 := [iv y2]) dX10_isSimple_6 (qs_V tc_10_225 rfl rfl (cS_cls sh78) rfl) rfl rfl (eX10_defectsNow (d := d + 0) hy2) rfl rfl ?_
  refine ev_ifne (pc' := 12) (tgt := 16) dX10_isSimple_9 (by decide) rfl (x1 := wr y2) rfl (fun c3 => ?_) (fun c3 => ?_)
  · replace h := qit c3 h
    refine ev_iconst (pc' := 13) dX10_isSimple_12 rfl ?_
    refine ev_goto (pc' := 17) dX10_isSimple_13 (by decide) ?_
    cases h
    exact ev_ireturn dX10_isSimple_17 rfl rfl
  · replace h := qif' c3 h
    refine ev_iconst (pc' := 17) dX10_isSimple_16 rfl ?_
    cases h
    exact ev_ireturn dX10_isSimple_17 rfl rfl
set_option maxRecDepth 100000 in
theorem eX10_areJoined {Ls t d : Nat} {p0 : Int} {p1 : Int} {μ : qMu} {r : Int} (h : fX10_areJoined p0 p1 μ = some r) : Ev (d + 2) mX10_areJoined 0 [some (.ref 78), some (iv p0), some (iv p1)] [] (cS Ls t μ) (.inl (some (iv r))) (cS Ls t μ) := by
  unfold fX10_areJoined at h
  refine ev_iload_n (pc' := 1) dX10_areJoined_0 rfl rfl ?_
  refine ev_iload_n (pc' := 2) dX10_areJoined_1 rfl rfl ?_
  refine ev_icmpeq (pc' := 5) (tgt := 19) dX10_areJoined_2 (by decide) rfl (x1 := wr p0) (y1 := wr p1) rfl rfl  (fun c1 => ?_) (fun c1 => ?_)
  · replace h := qit c1 h
    refine ev_iconst (pc' := 20) dX10_areJoined_19 rfl ?_
    cases h
    exact ev_ireturn dX10_areJoined_20 rfl rfl
  · replace h := qif' c1 h
    refine ev_aload_n (pc' := 6) dX10_areJoined_5 rfl rfl ?_
    refine ev_iconst (pc' := 7) dX10_areJoined_6 rfl ?_
    refine ev_iload_n (pc' := 8) dX10_areJoined_7 rfl rfl ?_
    refine ev_iload_n (pc' := 9) dX10_areJoined_8 rfl rfl ?_
    replace h := qbd h; obtain ⟨y2, hy2, h⟩ := h
    refine ev_callg (pc' := 12) (st2 := [iv y2]) dX10_areJoined_9 (qs_V tc_10_68 rfl rfl (cS_cls sh78) rfl) rfl rfl (eX10_many (d := d + 0) hy2) rfl rfl ?_
    refine ev_ifle (pc' := 15) (tgt := 19) dX10_areJoined_12 (by decide) rfl (x1 := wr y2) rfl (fun c3 => ?_) (fun c3 => ?_)
    · replace h := qit c3 h
      refine ev_iconst (pc' := 16) dX10_areJoined_15 rfl ?_
      refine ev_goto (pc' := 20) dX10_areJoined_16 (by decide) ?_
      cases h
      exact ev_ireturn dX10_areJoined_20 rfl rfl
    · replace h := qif' c3 h
      refine ev_iconst (pc' := 20) dX10_areJoined_19 rfl ?_
      cases h
      exact ev_ireturn dX10_areJoined_20 rfl rfl
set_option maxRecDepth 100000 in
theorem ebX10_neighbours_18 {Ls t d n : Nat} {w1 : Int} {μ : qMu} : ∀ (k : Nat) (x : Int × Int) (y : Int), lp (fun x : Int × Int => bX10_neighbours_18 n w1 x.1 x.2 μ) k x = some y → ∀ (o : qO) (s' : qSt), Ev (d + 3) mX10_neighbours 42 [none, none, some (iv y), none] [] (cS Ls t μ) o s' → Ev (d + 3) mX10_neighbours 18 [some (.ref 78), some (iv w1), some (iv x.1), some (iv x.2)] [] (cS Ls t μ) o s' := by
  intro k
  induction k with
  | zero => intro x y h; cases h
  | succ k ih =>
    intro x y h o s' kE
    rw [lp_s] at h
    replace h := qbd h; obtain ⟨zz, h0, h1⟩ := h
    have h : bX10_neighbours_18 n w1 x.1 x.2 μ = some zz := h0
    clear h0
    unfold bX10_neighbours_18 at h
    refine ev_iload_n (pc' := 19) dX10_neighbours_18 rfl rfl ?_
    refine ev_bipush (pc' := 21) dX10_neighbours_19 rfl bl_8 ?_
    refine ev_icmpge (pc' := 24) (tgt := 42) dX10_neighbours_21 (by decide) rfl (x1 := wr x.2) (y1 := 8) rfl wl_8  (fun c4 => ?_) (fun c4 => ?_)
    · replace h := qit c4 h
      refine ev_aload_n (pc' := 25) dX10_neighbours_24 rfl rfl ?_
      refine ev_iload_n (pc' := 26) dX10_neighbours_25 rfl rfl ?_
      refine ev_iload_n (pc' := 27) dX10_neighbours_26 rfl rfl ?_
      replace h := qbd h; obtain ⟨y5, hy5, h⟩ := h
      refine ev_callg (pc' := 30) (st2 := [iv y5]) dX10_neighbours_27 (qs_V tc_10_228 rfl rfl (cS_cls sh78) rfl) rfl rfl (eX10_areJoined (d := d + 0) hy5) rfl rfl ?_
      have k7 : ∀ j8 : Int, j8 = (if wr y5 = 0 then x.1 else (x.1 + 1)) → Ev (d + 3) mX10_neighbours 36 [some (.ref 78), some (iv w1), some (iv j8), some (iv x.2)] [] (cS Ls t μ) o s' := by
        intro j8 ej8
        subst ej8
        refine ev_iinc (pc' := 39) (x := x.2) (L1 := [some (.ref 78), some (iv w1), some (iv (if wr y5 = 0 then x.1 else (x.1 + 1))), some (iv (x.2 + 1))]) dX10_neighbours_36 rfl rfl rfl ?_
        refine ev_goto (pc' := 18) dX10_neighbours_39 (by decide) ?_
        cases h
        exact ev_wk (qLe_eq (qLe_eq (qLe_eq (qLe_eq qLe_nil)))) (ih _ _ h1 _ _ kE)
      refine ev_ifeq (pc' := 33) (tgt := 36) dX10_neighbours_30 (by decide) rfl (x1 := wr y5) rfl (fun c6 => ?_) (fun c6 => ?_)
      · skip
        exact ev_wk (qLe_eq (qLe_eq (qLe_eq (qLe_eq qLe_nil)))) (k7 _ (qet c6 rfl))
      · skip
        refine ev_iinc (pc' := 36) (x := x.1) (L1 := [some (.ref 78), some (iv w1), some (iv (x.1 + 1)), some (iv x.2)]) dX10_neighbours_33 rfl rfl rfl ?_
        exact ev_wk (qLe_eq (qLe_eq (qLe_eq (qLe_eq qLe_nil)))) (k7 _ (qef c6 rfl))
    · replace h := qif' c4 h
      cases h
      cases h1
      exact ev_wk (qLe_sk (qLe_sk (qLe_eq (qLe_sk qLe_nil)))) kE
set_option maxRecDepth 100000 in
theorem eX10_neighbours {Ls t d n : Nat} {p0 : Int} {μ : qMu} {r : Int × qMu} (h : fX10_neighbours n p0 μ = some r) : Ev (d + 3) mX10_neighbours 0 [some (.ref 78), some (iv p0), none, none] [] (cS Ls t μ) (.inl (some (iv r.1))) (cS Ls t r.2) := by
  unfold fX10_neighbours at h
  refine ev_aload_n (pc' := 1) dX10_neighbours_0 rfl rfl ?_
  refine ev_aload_n (pc' := 2) dX10_neighbours_1 rfl rfl ?_
  refine ev_iload_n (pc' := 3) dX10_neighbours_2 rfl rfl ?_
  replace h := qbd h; obtain ⟨y1, hy1, h⟩ := h
  refine ev_callg (pc' := 6) (st2 := [iv y1, .ref 78]) dX10_neighbours_3 (qs_V tc_10_203 rfl rfl (cS_cls sh78) rfl) rfl rfl (eX10_isVertex (d := d + 1) hy1) rfl rfl ?_
  replace h := qbd h; obtain ⟨y2, hy2, h⟩ := h
  refine ev_callg (pc' := 9) (st2 := [iv y2.1]) dX10_neighbours_6 (qs_V tc_10_188 rfl rfl (cS_cls sh78) rfl) rfl rfl (eX10_good (d := d + 2) hy2) rfl rfl ?_
  refine ev_ifne (pc' := 12) (tgt := 14) dX10_neighbours_9 (by decide) rfl (x1 := wr y2.1) rfl (fun c3 => ?_) (fun c3 => ?_)
  · replace h := qit c3 h
    refine ev_iconst (pc' := 13) dX10_neighbours_12 rfl ?_
    cases h
    exact ev_ireturn dX10_neighbours_13 rfl rfl
  · replace h := qif' c3 h
    refine ev_iconst (pc' := 15) dX10_neighbours_14 rfl ?_
    refine ev_istore_n (pc' := 16) (L1 := [some (.ref 78), some (iv p0), some (iv 0), none]) dX10_neighbours_15 rfl rfl ?_
    refine ev_iconst (pc' := 17) dX10_neighbours_16 rfl ?_
    refine ev_istore_n (pc' := 18) (L1 := [some (.ref 78), some (iv p0), some (iv 0), some (iv 0)]) dX10_neighbours_17 rfl rfl ?_
    replace h := qbd h; obtain ⟨y9, hy9, h⟩ := h
    refine ev_wk (qLe_eq (qLe_eq (qLe_eq (qLe_eq qLe_nil)))) (?_ : Ev _ _ _ [some (.ref 78), some (iv p0), some (iv 0), some (iv 0)] _ _ _ _)
    refine ebX10_neighbours_18 _ _ _ hy9 _ _ ?_
    refine ev_iload_n (pc' := 43) dX10_neighbours_42 rfl rfl ?_
    cases h
    exact ev_ireturn dX10_neighbours_43 rfl rfl
set_option maxRecDepth 100000 in
theorem ebX10_triangles_30 {Ls t d n : Nat} {w2 : Int} {w3 : Int} {μ : qMu} : ∀ (k : Nat) (x : Int × Int) (y : Int), lp (fun x : Int × Int => bX10_triangles_30 n w2 w3 x.1 x.2 μ) k x = some y → ∀ (o : qO) (s' : qSt), Ev (d + 3) mX10_triangles 75 [some (.ref 78), some (iv y), some (iv w2), some (iv w3), none] [] (cS Ls t μ) o s' → Ev (d + 3) mX10_triangles 30 [some (.ref 78), some (iv x.1), some (iv w2), some (iv w3), some (iv x.2)] [] (cS Ls t μ) o s' := by
  intro k
  induction k with
  | zero => intro x y h; cases h
  | succ k ih =>
    intro x y h o s' kE
    rw [lp_s] at h
    replace h := qbd h; obtain ⟨zz, h0, h1⟩ := h
    have h : bX10_triangles_30 n w2 w3 x.1 x.2 μ = some zz := h0
    clear h0
    unfold bX10_triangles_30 at h
    refine ev_iload (pc' := 32) dX10_triangles_30 rfl rfl ?_
    refine ev_bipush (pc' := 34) dX10_triangles_32 rfl bl_8 ?_
    refine ev_icmpge (pc' := 37) (tgt := 75) dX10_triangles_34 (by decide) rfl (x1 := wr x.2) (y1 := 8) rfl wl_8  (fun c4 => ?_) (fun c4 => ?_)
    · replace h := qit c4 h
      refine ev_aload_n (pc' := 38) dX10_triangles_37 rfl rfl ?_
      refine ev_iload_n (pc' := 39) dX10_triangles_38 rfl rfl ?_
      refine ev_iload_n (pc' := 40) dX10_triangles_39 rfl rfl ?_
      replace h := qbd h; obtain ⟨y5, hy5, h⟩ := h
      refine ev_callg (pc' := 43) (st2 := [iv y5]) dX10_triangles_40 (qs_V tc_10_228 rfl rfl (cS_cls sh78) rfl) rfl rfl (eX10_areJoined (d := d + 0) hy5) rfl rfl ?_
      replace h := qbd h; obtain ⟨y7, hy7, h⟩ := h
      have kJ : Ev (d + 3) mX10_triangles 69 [some (.ref 78), some (iv y7), some (iv w2), some (iv w3), some (iv x.2)] [] (cS Ls t μ) o s' := by
        refine ev_iinc (pc' := 72) (x := x.2) (L1 := [some (.ref 78), some (iv y7), some (iv w2), some (iv w3), some (iv (x.2 + 1))]) dX10_triangles_69 rfl rfl rfl ?_
        refine ev_goto (pc' := 30) dX10_triangles_72 (by decide) ?_
        cases h
        exact ev_wk (qLe_eq (qLe_eq (qLe_eq (qLe_eq (qLe_eq qLe_nil))))) (ih _ _ h1 _ _ kE)
      replace h := hy7
      clear hy7
      refine ev_ifeq (pc' := 46) (tgt := 69) dX10_triangles_43 (by decide) rfl (x1 := wr y5) rfl (fun c6 => ?_) (fun c6 => ?_)
      · replace h := qit c6 h
        cases h
        exact ev_wk (qLe_eq (qLe_eq (qLe_eq (qLe_eq (qLe_eq qLe_nil))))) kJ
      · replace h := qif' c6 h
        refine ev_aload_n (pc' := 47) dX10_triangles_46 rfl rfl ?_
        refine ev_iload_n (pc' := 48) dX10_triangles_47 rfl rfl ?_
        refine ev_iload (pc' := 50) dX10_triangles_48 rfl rfl ?_
        replace h := qbd h; obtain ⟨y8, hy8, h⟩ := h
        refine ev_callg (pc' := 53) (st2 := [iv y8]) dX10_triangles_50 (qs_V tc_10_228 rfl rfl (cS_cls sh78) rfl) rfl rfl (eX10_areJoined (d := d + 0) hy8) rfl rfl ?_
        refine ev_ifeq (pc' := 56) (tgt := 69) dX10_triangles_53 (by decide) rfl (x1 := wr y8) rfl (fun c9 => ?_) (fun c9 => ?_)
        · replace h := qit c9 h
          cases h
          exact ev_wk (qLe_eq (qLe_eq (qLe_eq (qLe_eq (qLe_eq qLe_nil))))) kJ
        · replace h := qif' c9 h
          refine ev_aload_n (pc' := 57) dX10_triangles_56 rfl rfl ?_
          refine ev_iload_n (pc' := 58) dX10_triangles_57 rfl rfl ?_
          refine ev_iload (pc' := 60) dX10_triangles_58 rfl rfl ?_
          replace h := qbd h; obtain ⟨y10, hy10, h⟩ := h
          refine ev_callg (pc' := 63) (st2 := [iv y10]) dX10_triangles_60 (qs_V tc_10_228 rfl rfl (cS_cls sh78) rfl) rfl rfl (eX10_areJoined (d := d + 0) hy10) rfl rfl ?_
          refine ev_ifeq (pc' := 66) (tgt := 69) dX10_triangles_63 (by decide) rfl (x1 := wr y10) rfl (fun c11 => ?_) (fun c11 => ?_)
          · replace h := qit c11 h
            cases h
            exact ev_wk (qLe_eq (qLe_eq (qLe_eq (qLe_eq (qLe_eq qLe_nil))))) kJ
          · replace h := qif' c11 h
            refine ev_iinc (pc' := 69) (x := x.1) (L1 := [some (.ref 78), some (iv (x.1 + 1)), some (iv w2), some (iv w3), some (iv x.2)]) dX10_triangles_66 rfl rfl rfl ?_
            cases h
            exact ev_wk (qLe_eq (qLe_eq (qLe_eq (qLe_eq (qLe_eq qLe_nil))))) kJ
    · replace h := qif' c4 h
      cases h
      cases h1
      exact ev_wk (qLe_eq (qLe_eq (qLe_eq (qLe_eq (qLe_sk qLe_nil))))) kE
set_option maxRecDepth 100000 in
theorem ebX10_triangles_19 {Ls t d n : Nat} {w2 : Int} {μ : qMu} : ∀ (k : Nat) (x : Int × Int) (y : Int), lp (fun x : Int × Int => bX10_triangles_19 n w2 x.1 x.2 μ) k x = some y → ∀ (o : qO) (s' : qSt), Ev (d + 3) mX10_triangles 81 [some (.ref 78), some (iv y), some (iv w2), none, none] [] (cS Ls t μ) o s' → Ev (d + 3) mX10_triangles 19 [some (.ref 78), some (iv x.1), some (iv w2), some (iv x.2), none] [] (cS Ls t μ) o s' := by
  intro k
  induction k with
  | zero => intro x y h; cases h
  | succ k ih =>
    intro x y h o s' kE
    rw [lp_s] at h
    replace h := qbd h; obtain ⟨zz, h0, h1⟩ := h
    have h : bX10_triangles_19 n w2 x.1 x.2 μ = some zz := h0
    clear h0
    unfold bX10_triangles_19 at h
    refine ev_iload_n (pc' := 20) dX10_triangles_19 rfl rfl ?_
    refine ev_bipush (pc' := 22) dX10_triangles_20 rfl bl_8 ?_
    refine ev_icmpge (pc' := 25) (tgt := 81) dX10_triangles_22 (by decide) rfl (x1 := wr x.2) (y1 := 8) rfl wl_8  (fun c3 => ?_) (fun c3 => ?_)
    · replace h := qit c3 h
      refine ev_iload_n (pc' := 26) dX10_triangles_25 rfl rfl ?_
      refine ev_iconst (pc' := 27) dX10_triangles_26 rfl ?_
      refine ev_iadd (pc' := 28) dX10_triangles_27 rfl ?_
      refine ev_istore (pc' := 30) (L1 := [some (.ref 78), some (iv x.1), some (iv w2), some (iv x.2), some (iv (x.2 + 1))]) dX10_triangles_28 rfl rfl ?_
      replace h := qbd h; obtain ⟨y12, hy12, h⟩ := h
      refine ev_wk (qLe_eq (qLe_eq (qLe_eq (qLe_eq (qLe_eq qLe_nil))))) (?_ : Ev _ _ _ [some (.ref 78), some (iv x.1), some (iv w2), some (iv x.2), some (iv (x.2 + 1))] _ _ _ _)
      refine ebX10_triangles_30 _ _ _ hy12 _ _ ?_
      refine ev_iinc (pc' := 78) (x := x.2) (L1 := [some (.ref 78), some (iv y12), some (iv w2), some (iv (x.2 + 1)), none]) dX10_triangles_75 rfl rfl rfl ?_
      refine ev_goto (pc' := 19) dX10_triangles_78 (by decide) ?_
      cases h
      exact ev_wk (qLe_eq (qLe_eq (qLe_eq (qLe_eq (qLe_eq qLe_nil))))) (ih _ _ h1 _ _ kE)
    · replace h := qif' c3 h
      cases h
      cases h1
      exact ev_wk (qLe_eq (qLe_eq (qLe_eq (qLe_sk (qLe_eq qLe_nil))))) kE
set_option maxRecDepth 100000 in
theorem ebX10_triangles_9 {Ls t d n : Nat} {μ : qMu} : ∀ (k : Nat) (x : Int × Int) (y : Int), lp (fun x : Int × Int => bX10_triangles_9 n x.1 x.2 μ) k x = some y → ∀ (o : qO) (s' : qSt), Ev (d + 3) mX10_triangles 87 [none, some (iv y), none, none, none] [] (cS Ls t μ) o s' → Ev (d + 3) mX10_triangles 9 [some (.ref 78), some (iv x.1), some (iv x.2), none, none] [] (cS Ls t μ) o s' := by
  intro k
  induction k with
  | zero => intro x y h; cases h
  | succ k ih =>
    intro x y h o s' kE
    rw [lp_s] at h
    replace h := qbd h; obtain ⟨zz, h0, h1⟩ := h
    have h : bX10_triangles_9 n x.1 x.2 μ = some zz := h0
    clear h0
    unfold bX10_triangles_9 at h
    refine ev_iload_n (pc' := 10) dX10_triangles_9 rfl rfl ?_
    refine ev_bipush (pc' := 12) dX10_triangles_10 rfl bl_8 ?_
    refine ev_icmpge (pc' := 15) (tgt := 87) dX10_triangles_12 (by decide) rfl (x1 := wr x.2) (y1 := 8) rfl wl_8  (fun c2 => ?_) (fun c2 => ?_)
    · replace h := qit c2 h
      refine ev_iload_n (pc' := 16) dX10_triangles_15 rfl rfl ?_
      refine ev_iconst (pc' := 17) dX10_triangles_16 rfl ?_
      refine ev_iadd (pc' := 18) dX10_triangles_17 rfl ?_
      refine ev_istore_n (pc' := 19) (L1 := [some (.ref 78), some (iv x.1), some (iv x.2), some (iv (x.2 + 1)), none]) dX10_triangles_18 rfl rfl ?_
      replace h := qbd h; obtain ⟨y13, hy13, h⟩ := h
      refine ev_wk (qLe_eq (qLe_eq (qLe_eq (qLe_eq (qLe_eq qLe_nil))))) (?_ : Ev _ _ _ [some (.ref 78), some (iv x.1), some (iv x.2), some (iv (x.2 + 1)), none] _ _ _ _)
      refine ebX10_triangles_19 _ _ _ hy13 _ _ ?_
      refine ev_iinc (pc' := 84) (x := x.2) (L1 := [some (.ref 78), some (iv y13), some (iv (x.2 + 1)), none, none]) dX10_triangles_81 rfl rfl rfl ?_
      refine ev_goto (pc' := 9) dX10_triangles_84 (by decide) ?_
      cases h
      exact ev_wk (qLe_eq (qLe_eq (qLe_eq (qLe_eq (qLe_eq qLe_nil))))) (ih _ _ h1 _ _ kE)
    · replace h := qif' c2 h
      cases h
      cases h1
      exact ev_wk (qLe_sk (qLe_eq (qLe_sk (qLe_eq (qLe_eq qLe_nil))))) kE
set_option maxRecDepth 100000 in
theorem eX10_triangles {Ls t d n : Nat} {μ : qMu} {r : Int × qMu} (h : fX10_triangles n μ = some r) : Ev (d + 3) mX10_triangles 0 [some (.ref 78), none, none, none, none] [] (cS Ls t μ) (.inl (some (iv r.1))) (cS Ls t r.2) := by
  unfold fX10_triangles at h
  refine ev_aload_n (pc' := 1) dX10_triangles_0 rfl rfl ?_
  refine ev_iconst (pc' := 2) dX10_triangles_1 rfl ?_
  replace h := qbd h; obtain ⟨μ1, hμ1, h⟩ := h
  refine ev_puti (pc' := 5) dX10_triangles_2 rfl tf_10_54 sh78 rfl rfl (qw_9_4 _) rfl hμ1 ?_
  refine ev_iconst (pc' := 6) dX10_triangles_5 rfl ?_
  refine ev_istore_n (pc' := 7) (L1 := [some (.ref 78), some (iv 0), none, none, none]) dX10_triangles_6 rfl rfl ?_
  refine ev_iconst (pc' := 8) dX10_triangles_7 rfl ?_
  refine ev_istore_n (pc' := 9) (L1 := [some (.ref 78), some (iv 0), some (iv 0), none, none]) dX10_triangles_8 rfl rfl ?_
  replace h := qbd h; obtain ⟨y14, hy14, h⟩ := h
  refine ev_wk (qLe_eq (qLe_eq (qLe_eq (qLe_eq (qLe_eq qLe_nil))))) (?_ : Ev _ _ _ [some (.ref 78), some (iv 0), some (iv 0), none, none] _ _ _ _)
  refine ebX10_triangles_9 _ _ _ hy14 _ _ ?_
  refine ev_iload_n (pc' := 88) dX10_triangles_87 rfl rfl ?_
  cases h
  exact ev_ireturn dX10_triangles_88 rfl rfl
set_option maxRecDepth 100000 in
theorem ebX10_spreads_32 {Ls t d n : Nat} {w2 : Int} {w4 : Int} : ∀ (k : Nat) (x : Int × Int × qMu) (y : Int × qMu), lp (fun x : Int × Int × qMu => bX10_spreads_32 n w2 w4 x.1 x.2.1 x.2.2) k x = some y → ∀ (o : qO) (s' : qSt), Ev (d + 3) mX10_spreads 92 [some (.ref 78), none, some (iv w2), some (iv y.1), some (iv w4), none] [] (cS Ls t y.2) o s' → Ev (d + 3) mX10_spreads 32 [some (.ref 78), none, some (iv w2), some (iv x.1), some (iv w4), some (iv x.2.1)] [] (cS Ls t x.2.2) o s' := by
  intro k
  induction k with
  | zero => intro x y h; cases h
  | succ k ih =>
    intro x y h o s' kE
    rw [lp_s] at h
    replace h := qbd h; obtain ⟨zz, h0, h1⟩ := h
    have h : bX10_spreads_32 n w2 w4 x.1 x.2.1 x.2.2 = some zz := h0
    clear h0
    unfold bX10_spreads_32 at h
    refine ev_iload (pc' := 34) dX10_spreads_32 rfl rfl ?_
    refine ev_aload_n (pc' := 35) dX10_spreads_34 rfl rfl ?_
    refine ev_getr (pc' := 38) dX10_spreads_35 rfl tf_10_7 sh78 rfl ?_
    refine ev_iconst (pc' := 39) dX10_spreads_38 rfl ?_
    replace h := qbd h; obtain ⟨x5, hx5, h⟩ := h
    refine ev_iald (pc' := 40) dX10_spreads_39 rfl sh79 hx5 ?_
    refine ev_icmpge (pc' := 43) (tgt := 92) dX10_spreads_40 (by decide) rfl (x1 := wr x.2.1) (y1 := wr x5) rfl rfl  (fun c6 => ?_) (fun c6 => ?_)
    · replace h := qit c6 h
      refine ev_aload_n (pc' := 44) dX10_spreads_43 rfl rfl ?_
      refine ev_getr (pc' := 47) dX10_spreads_44 rfl tf_10_29 sh78 rfl ?_
      refine ev_iload (pc' := 49) dX10_spreads_47 rfl rfl ?_
      replace h := qbd h; obtain ⟨x7, hx7, h⟩ := h
      refine ev_iald (pc' := 50) dX10_spreads_49 rfl sh84 hx7 ?_
      refine ev_iload_n (pc' := 51) dX10_spreads_50 rfl rfl ?_
      replace h := qbd h; obtain ⟨y9, hy9, h⟩ := h
      have kJ : Ev (d + 3) mX10_spreads 86 [some (.ref 78), none, some (iv w2), some (iv y9.1), some (iv w4), some (iv x.2.1)] [] (cS Ls t y9.2) o s' := by
        refine ev_iinc (pc' := 89) (x := x.2.1) (L1 := [some (.ref 78), none, some (iv w2), some (iv y9.1), some (iv w4), some (iv (x.2.1 + 1))]) dX10_spreads_86 rfl rfl rfl ?_
        refine ev_goto (pc' := 32) dX10_spreads_89 (by decide) ?_
        cases h
        exact ev_wk (qLe_eq (qLe_eq (qLe_eq (qLe_eq (qLe_eq (qLe_eq qLe_nil)))))) (ih _ _ h1 _ _ kE)
      replace h := hy9
      clear hy9
      refine ev_icmpne (pc' := 54) (tgt := 86) dX10_spreads_51 (by decide) rfl (x1 := wr x7) (y1 := wr w2) rfl rfl  (fun c8 => ?_) (fun c8 => ?_)
      · replace h := qit c8 h
        refine ev_aload_n (pc' := 55) dX10_spreads_54 rfl rfl ?_
        refine ev_getr (pc' := 58) dX10_spreads_55 rfl tf_10_29 sh78 rfl ?_
        refine ev_iload (pc' := 60) dX10_spreads_58 rfl rfl ?_
        replace h := qbd h; obtain ⟨x10, hx10, h⟩ := h
        refine ev_iald (pc' := 61) dX10_spreads_60 rfl sh84 hx10 ?_
        refine ev_iconst (pc' := 62) dX10_spreads_61 rfl ?_
        refine ev_icmpne (pc' := 65) (tgt := 86) dX10_spreads_62 (by decide) rfl (x1 := wr x10) (y1 := (-1)) rfl wl_m1  (fun c11 => ?_) (fun c11 => ?_)
        · replace h := qit c11 h
          refine ev_aload_n (pc' := 66) dX10_spreads_65 rfl rfl ?_
          refine ev_iload (pc' := 68) dX10_spreads_66 rfl rfl ?_
          refine ev_iload (pc' := 70) dX10_spreads_68 rfl rfl ?_
          replace h := qbd h; obtain ⟨y12, hy12, h⟩ := h
          refine ev_callg (pc' := 73) (st2 := [iv y12]) dX10_spreads_70 (qs_V tc_10_228 rfl rfl (cS_cls sh78) rfl) rfl rfl (eX10_areJoined (d := d + 0) hy12) rfl rfl ?_
          refine ev_ifeq (pc' := 76) (tgt := 86) dX10_spreads_73 (by decide) rfl (x1 := wr y12) rfl (fun c13 => ?_) (fun c13 => ?_)
          · replace h := qit c13 h
            cases h
            exact ev_wk (qLe_eq (qLe_eq (qLe_eq (qLe_eq (qLe_eq (qLe_eq qLe_nil)))))) kJ
          · replace h := qif' c13 h
            refine ev_aload_n (pc' := 77) dX10_spreads_76 rfl rfl ?_
            refine ev_getr (pc' := 80) dX10_spreads_77 rfl tf_10_29 sh78 rfl ?_
            refine ev_iload (pc' := 82) dX10_spreads_80 rfl rfl ?_
            refine ev_iload_n (pc' := 83) dX10_spreads_82 rfl rfl ?_
            replace h := qbd h; obtain ⟨μ14, hμ14, h⟩ := h
            refine ev_iast (pc' := 84) dX10_spreads_83 rfl sh84 hμ14 ?_
            refine ev_iconst (pc' := 85) dX10_spreads_84 rfl ?_
            refine ev_istore_n (pc' := 86) (L1 := [some (.ref 78), none, some (iv w2), some (iv 1), some (iv w4), some (iv x.2.1)]) dX10_spreads_85 rfl rfl ?_
            cases h
            exact ev_wk (qLe_eq (qLe_eq (qLe_eq (qLe_eq (qLe_eq (qLe_eq qLe_nil)))))) kJ
        · replace h := qif' c11 h
          cases h
          exact ev_wk (qLe_eq (qLe_eq (qLe_eq (qLe_eq (qLe_eq (qLe_eq qLe_nil)))))) kJ
      · replace h := qif' c8 h
        cases h
        exact ev_wk (qLe_eq (qLe_eq (qLe_eq (qLe_eq (qLe_eq (qLe_eq qLe_nil)))))) kJ
    · replace h := qif' c6 h
      cases h
      cases h1
      exact ev_wk (qLe_eq (qLe_eq (qLe_eq (qLe_eq (qLe_eq (qLe_sk qLe_nil)))))) kE
set_option maxRecDepth 100000 in
theorem ebX10_spreads_18 {Ls t d n : Nat} {w2 : Int} : ∀ (k : Nat) (x : Int × Int × qMu) (y : Int × qMu), lp (fun x : Int × Int × qMu => bX10_spreads_18 n w2 x.1 x.2.1 x.2.2) k x = some y → ∀ (o : qO) (s' : qSt), Ev (d + 3) mX10_spreads 98 [some (.ref 78), none, some (iv w2), some (iv y.1), none, none] [] (cS Ls t y.2) o s' → Ev (d + 3) mX10_spreads 18 [some (.ref 78), none, some (iv w2), some (iv x.1), some (iv x.2.1), none] [] (cS Ls t x.2.2) o s' := by
  intro k
  induction k with
  | zero => intro x y h; cases h
  | succ k ih =>
    intro x y h o s' kE
    rw [lp_s] at h
    replace h := qbd h; obtain ⟨zz, h0, h1⟩ := h
    have h : bX10_spreads_18 n w2 x.1 x.2.1 x.2.2 = some zz := h0
    clear h0
    unfold bX10_spreads_18 at h
    refine ev_iload (pc' := 20) dX10_spreads_18 rfl rfl ?_
    refine ev_aload_n (pc' := 21) dX10_spreads_20 rfl rfl ?_
    refine ev_getr (pc' := 24) dX10_spreads_21 rfl tf_10_7 sh78 rfl ?_
    refine ev_iconst (pc' := 25) dX10_spreads_24 rfl ?_
    replace h := qbd h; obtain ⟨x3, hx3, h⟩ := h
    refine ev_iald (pc' := 26) dX10_spreads_25 rfl sh79 hx3 ?_
    refine ev_icmpge (pc' := 29) (tgt := 98) dX10_spreads_26 (by decide) rfl (x1 := wr x.2.1) (y1 := wr x3) rfl rfl  (fun c4 => ?_) (fun c4 => ?_)
    · replace h := qit c4 h
      refine ev_iconst (pc' := 30) dX10_spreads_29 rfl ?_
      refine ev_istore (pc' := 32) (L1 := [some (.ref 78), none, some (iv w2), some (iv x.1), some (iv x.2.1), some (iv 0)]) dX10_spreads_30 rfl rfl ?_
      replace h := qbd h; obtain ⟨y15, hy15, h⟩ := h
      refine ev_wk (qLe_eq (qLe_eq (qLe_eq (qLe_eq (qLe_eq (qLe_eq qLe_nil)))))) (?_ : Ev _ _ _ [some (.ref 78), none, some (iv w2), some (iv x.1), some (iv x.2.1), some (iv 0)] _ _ _ _)
      refine ebX10_spreads_32 _ _ _ hy15 _ _ ?_
      refine ev_iinc (pc' := 95) (x := x.2.1) (L1 := [some (.ref 78), none, some (iv w2), some (iv y15.1), some (iv (x.2.1 + 1)), none]) dX10_spreads_92 rfl rfl rfl ?_
      refine ev_goto (pc' := 18) dX10_spreads_95 (by decide) ?_
      cases h
      exact ev_wk (qLe_eq (qLe_eq (qLe_eq (qLe_eq (qLe_eq (qLe_eq qLe_nil)))))) (ih _ _ h1 _ _ kE)
    · replace h := qif' c4 h
      cases h
      cases h1
      exact ev_wk (qLe_eq (qLe_eq (qLe_eq (qLe_eq (qLe_sk (qLe_eq qLe_nil)))))) kE
set_option maxRecDepth 100000 in
theorem ebX10_spreads_9 {Ls t d n : Nat} {w2 : Int} : ∀ (k : Nat) (x : Int × qMu) (y : qMu), lp (fun x : Int × qMu => bX10_spreads_9 n w2 x.1 x.2) k x = some y → ∀ (o : qO) (s' : qSt), Ev (d + 3) mX10_spreads 101 [none, none, none, none, none, none] [] (cS Ls t y) o s' → Ev (d + 3) mX10_spreads 9 [some (.ref 78), none, some (iv w2), some (iv x.1), none, none] [] (cS Ls t x.2) o s' := by
  intro k
  induction k with
  | zero => intro x y h; cases h
  | succ k ih =>
    intro x y h o s' kE
    rw [lp_s] at h
    replace h := qbd h; obtain ⟨zz, h0, h1⟩ := h
    have h : bX10_spreads_9 n w2 x.1 x.2 = some zz := h0
    clear h0
    unfold bX10_spreads_9 at h
    refine ev_iload_n (pc' := 10) dX10_spreads_9 rfl rfl ?_
    refine ev_ifeq (pc' := 13) (tgt := 101) dX10_spreads_10 (by decide) rfl (x1 := wr x.1) rfl (fun c2 => ?_) (fun c2 => ?_)
    · replace h := qit c2 h
      cases h
      cases h1
      exact ev_wk (qLe_sk (qLe_eq (qLe_sk (qLe_sk (qLe_eq (qLe_eq qLe_nil)))))) kE
    · replace h := qif' c2 h
      refine ev_iconst (pc' := 14) dX10_spreads_13 rfl ?_
      refine ev_istore_n (pc' := 15) (L1 := [some (.ref 78), none, some (iv w2), some (iv 0), none, none]) dX10_spreads_14 rfl rfl ?_
      refine ev_iconst (pc' := 16) dX10_spreads_15 rfl ?_
      refine ev_istore (pc' := 18) (L1 := [some (.ref 78), none, some (iv w2), some (iv 0), some (iv 0), none]) dX10_spreads_16 rfl rfl ?_
      replace h := qbd h; obtain ⟨y16, hy16, h⟩ := h
      refine ev_wk (qLe_eq (qLe_eq (qLe_eq (qLe_eq (qLe_eq (qLe_eq qLe_nil)))))) (?_ : Ev _ _ _ [some (.ref 78), none, some (iv w2), some (iv 0), some (iv 0), none] _ _ _ _)
      refine ebX10_spreads_18 _ _ _ hy16 _ _ ?_
      refine ev_goto (pc' := 9) dX10_spreads_98 (by decide) ?_
      cases h
      exact ev_wk (qLe_eq (qLe_eq (qLe_eq (qLe_eq (qLe_eq (qLe_eq qLe_nil)))))) (ih _ _ h1 _ _ kE)
set_option maxRecDepth 100000 in
theorem eX10_spreads {Ls t d n : Nat} {p0 : Int} {p1 : Int} {μ : qMu} {r : qMu} (h : fX10_spreads n p0 p1 μ = some r) : Ev (d + 3) mX10_spreads 0 [some (.ref 78), some (iv p0), some (iv p1), none, none, none] [] (cS Ls t μ) (.inl none) (cS Ls t r) := by
  unfold fX10_spreads at h
  refine ev_aload_n (pc' := 1) dX10_spreads_0 rfl rfl ?_
  refine ev_getr (pc' := 4) dX10_spreads_1 rfl tf_10_29 sh78 rfl ?_
  refine ev_iload_n (pc' := 5) dX10_spreads_4 rfl rfl ?_
  refine ev_iload_n (pc' := 6) dX10_spreads_5 rfl rfl ?_
  replace h := qbd h; obtain ⟨μ1, hμ1, h⟩ := h
  refine ev_iast (pc' := 7) dX10_spreads_6 rfl sh84 hμ1 ?_
  refine ev_iconst (pc' := 8) dX10_spreads_7 rfl ?_
  refine ev_istore_n (pc' := 9) (L1 := [some (.ref 78), some (iv p0), some (iv p1), some (iv 1), none, none]) dX10_spreads_8 rfl rfl ?_
  replace h := qbd h; obtain ⟨y17, hy17, h⟩ := h
  refine ev_wk (qLe_eq (qLe_sk (qLe_eq (qLe_eq (qLe_eq (qLe_eq qLe_nil)))))) (?_ : Ev _ _ _ [some (.ref 78), none, some (iv p1), some (iv 1), none, none] _ _ _ _)
  refine ebX10_spreads_9 _ _ _ hy17 _ _ ?_
  cases h
  exact ev_return dX10_spreads_101 rfl
set_option maxRecDepth 100000 in
theorem ebX10_laysParts_2 {Ls t d n : Nat} : ∀ (k : Nat) (x : Int × qMu) (y : qMu), lp (fun x : Int × qMu => bX10_laysParts_2 n x.1 x.2) k x = some y → ∀ (o : qO) (s' : qSt), Ev (d + 4) mX10_laysParts 21 [some (.ref 78), none, none] [] (cS Ls t y) o s' → Ev (d + 4) mX10_laysParts 2 [some (.ref 78), some (iv x.1), none] [] (cS Ls t x.2) o s' := by
  intro k
  induction k with
  | zero => intro x y h; cases h
  | succ k ih =>
    intro x y h o s' kE
    rw [lp_s] at h
    replace h := qbd h; obtain ⟨zz, h0, h1⟩ := h
    have h : bX10_laysParts_2 n x.1 x.2 = some zz := h0
    clear h0
    unfold bX10_laysParts_2 at h
    refine ev_iload_n (pc' := 3) dX10_laysParts_2 rfl rfl ?_
    refine ev_bipush (pc' := 5) dX10_laysParts_3 rfl bl_8 ?_
    refine ev_icmpge (pc' := 8) (tgt := 21) dX10_laysParts_5 (by decide) rfl (x1 := wr x.1) (y1 := 8) rfl wl_8  (fun c1 => ?_) (fun c1 => ?_)
    · replace h := qit c1 h
      refine ev_aload_n (pc' := 9) dX10_laysParts_8 rfl rfl ?_
      refine ev_getr (pc' := 12) dX10_laysParts_9 rfl tf_10_29 sh78 rfl ?_
      refine ev_iload_n (pc' := 13) dX10_laysParts_12 rfl rfl ?_
      refine ev_iconst (pc' := 14) dX10_laysParts_13 rfl ?_
      replace h := qbd h; obtain ⟨μ2, hμ2, h⟩ := h
      refine ev_iast (pc' := 15) dX10_laysParts_14 rfl sh84 hμ2 ?_
      refine ev_iinc (pc' := 18) (x := x.1) (L1 := [some (.ref 78), some (iv (x.1 + 1)), none]) dX10_laysParts_15 rfl rfl rfl ?_
      refine ev_goto (pc' := 2) dX10_laysParts_18 (by decide) ?_
      cases h
      exact ev_wk (qLe_eq (qLe_eq (qLe_eq qLe_nil))) (ih _ _ h1 _ _ kE)
    · replace h := qif' c1 h
      cases h
      cases h1
      exact ev_wk (qLe_eq (qLe_sk (qLe_eq qLe_nil))) kE
set_option maxRecDepth 100000 in
theorem ebX10_laysParts_25 {Ls t d n : Nat} : ∀ (k : Nat) (x : Int × Int × qMu) (y : Int × qMu), lp (fun x : Int × Int × qMu => bX10_laysParts_25 n x.1 x.2.1 x.2.2) k x = some y → ∀ (o : qO) (s' : qSt), Ev (d + 4) mX10_laysParts 60 [none, some (iv y.1), none] [] (cS Ls t y.2) o s' → Ev (d + 4) mX10_laysParts 25 [some (.ref 78), some (iv x.1), some (iv x.2.1)] [] (cS Ls t x.2.2) o s' := by
  intro k
  induction k with
  | zero => intro x y h; cases h
  | succ k ih =>
    intro x y h o s' kE
    rw [lp_s] at h
    replace h := qbd h; obtain ⟨zz, h0, h1⟩ := h
    have h : bX10_laysParts_25 n x.1 x.2.1 x.2.2 = some zz := h0
    clear h0
    unfold bX10_laysParts_25 at h
    refine ev_iload_n (pc' := 26) dX10_laysParts_25 rfl rfl ?_
    refine ev_aload_n (pc' := 27) dX10_laysParts_26 rfl rfl ?_
    refine ev_getr (pc' := 30) dX10_laysParts_27 rfl tf_10_7 sh78 rfl ?_
    refine ev_iconst (pc' := 31) dX10_laysParts_30 rfl ?_
    replace h := qbd h; obtain ⟨x4, hx4, h⟩ := h
    refine ev_iald (pc' := 32) dX10_laysParts_31 rfl sh79 hx4 ?_
    refine ev_icmpge (pc' := 35) (tgt := 60) dX10_laysParts_32 (by decide) rfl (x1 := wr x.2.1) (y1 := wr x4) rfl rfl  (fun c5 => ?_) (fun c5 => ?_)
    · replace h := qit c5 h
      refine ev_aload_n (pc' := 36) dX10_laysParts_35 rfl rfl ?_
      refine ev_getr (pc' := 39) dX10_laysParts_36 rfl tf_10_29 sh78 rfl ?_
      refine ev_iload_n (pc' := 40) dX10_laysParts_39 rfl rfl ?_
      replace h := qbd h; obtain ⟨x6, hx6, h⟩ := h
      refine ev_iald (pc' := 41) dX10_laysParts_40 rfl sh84 hx6 ?_
      refine ev_iconst (pc' := 42) dX10_laysParts_41 rfl ?_
      replace h := qbd h; obtain ⟨y8, hy8, h⟩ := h
      have kJ : Ev (d + 4) mX10_laysParts 54 [some (.ref 78), some (iv y8.1), some (iv x.2.1)] [] (cS Ls t y8.2) o s' := by
        refine ev_iinc (pc' := 57) (x := x.2.1) (L1 := [some (.ref 78), some (iv y8.1), some (iv (x.2.1 + 1))]) dX10_laysParts_54 rfl rfl rfl ?_
        refine ev_goto (pc' := 25) dX10_laysParts_57 (by decide) ?_
        cases h
        exact ev_wk (qLe_eq (qLe_eq (qLe_eq qLe_nil))) (ih _ _ h1 _ _ kE)
      replace h := hy8
      clear hy8
      refine ev_icmpne (pc' := 45) (tgt := 54) dX10_laysParts_42 (by decide) rfl (x1 := wr x6) (y1 := (-1)) rfl wl_m1  (fun c7 => ?_) (fun c7 => ?_)
      · replace h := qit c7 h
        refine ev_aload_n (pc' := 46) dX10_laysParts_45 rfl rfl ?_
        refine ev_iload_n (pc' := 47) dX10_laysParts_46 rfl rfl ?_
        refine ev_iload_n (pc' := 48) dX10_laysParts_47 rfl rfl ?_
        replace h := qbd h; obtain ⟨y9, hy9, h⟩ := h
        refine ev_callg (pc' := 51) (st2 := []) dX10_laysParts_48 (qs_V tc_10_231 rfl rfl (cS_cls sh78) rfl) rfl rfl (eX10_spreads (d := d + 0) hy9) rfl rfl ?_
        refine ev_iinc (pc' := 54) (x := x.1) (L1 := [some (.ref 78), some (iv (x.1 + 1)), some (iv x.2.1)]) dX10_laysParts_51 rfl rfl rfl ?_
        cases h
        exact ev_wk (qLe_eq (qLe_eq (qLe_eq qLe_nil))) kJ
      · replace h := qif' c7 h
        cases h
        exact ev_wk (qLe_eq (qLe_eq (qLe_eq qLe_nil))) kJ
    · replace h := qif' c5 h
      cases h
      cases h1
      exact ev_wk (qLe_sk (qLe_eq (qLe_sk qLe_nil))) kE
set_option maxRecDepth 100000 in
theorem eX10_laysParts {Ls t d n : Nat} {μ : qMu} {r : Int × qMu} (h : fX10_laysParts n μ = some r) : Ev (d + 4) mX10_laysParts 0 [some (.ref 78), none, none] [] (cS Ls t μ) (.inl (some (iv r.1))) (cS Ls t r.2) := by
  unfold fX10_laysParts at h
  refine ev_iconst (pc' := 1) dX10_laysParts_0 rfl ?_
  refine ev_istore_n (pc' := 2) (L1 := [some (.ref 78), some (iv 0), none]) dX10_laysParts_1 rfl rfl ?_
  replace h := qbd h; obtain ⟨y3, hy3, h⟩ := h
  refine ev_wk (qLe_eq (qLe_eq (qLe_eq qLe_nil))) (?_ : Ev _ _ _ [some (.ref 78), some (iv 0), none] _ _ _ _)
  refine ebX10_laysParts_2 _ _ _ hy3 _ _ ?_
  refine ev_iconst (pc' := 22) dX10_laysParts_21 rfl ?_
  refine ev_istore_n (pc' := 23) (L1 := [some (.ref 78), some (iv 0), none]) dX10_laysParts_22 rfl rfl ?_
  refine ev_iconst (pc' := 24) dX10_laysParts_23 rfl ?_
  refine ev_istore_n (pc' := 25) (L1 := [some (.ref 78), some (iv 0), some (iv 0)]) dX10_laysParts_24 rfl rfl ?_
  replace h := qbd h; obtain ⟨y10, hy10, h⟩ := h
  refine ev_wk (qLe_eq (qLe_eq (qLe_eq qLe_nil))) (?_ : Ev _ _ _ [some (.ref 78), some (iv 0), some (iv 0)] _ _ _ _)
  refine ebX10_laysParts_25 _ _ _ hy10 _ _ ?_
  refine ev_iload_n (pc' := 61) dX10_laysParts_60 rfl rfl ?_
  cases h
  exact ev_ireturn dX10_laysParts_61 rfl rfl
set_option maxRecDepth 100000 in
theorem ebX10_partsWithEdges_20 {Ls t d n : Nat} {w1 : Int} {w2 : Int} {w3 : Int} {μ : qMu} : ∀ (k : Nat) (x : Int × Int) (y : Int), lp (fun x : Int × Int => bX10_partsWithEdges_20 n w1 w2 w3 x.1 x.2 μ) k x = some y → ∀ (o : qO) (s' : qSt), Ev (d + 5) mX10_partsWithEdges 70 [some (.ref 78), some (iv w1), some (iv w2), some (iv w3), some (iv y), none] [] (cS Ls t μ) o s' → Ev (d + 5) mX10_partsWithEdges 20 [some (.ref 78), some (iv w1), some (iv w2), some (iv w3), some (iv x.1), some (iv x.2)] [] (cS Ls t μ) o s' := by
  intro k
  induction k with
  | zero => intro x y h; cases h
  | succ k ih =>
    intro x y h o s' kE
    rw [lp_s] at h
    replace h := qbd h; obtain ⟨zz, h0, h1⟩ := h
    have h : bX10_partsWithEdges_20 n w1 w2 w3 x.1 x.2 μ = some zz := h0
    clear h0
    unfold bX10_partsWithEdges_20 at h
    refine ev_iload (pc' := 22) dX10_partsWithEdges_20 rfl rfl ?_
    refine ev_aload_n (pc' := 23) dX10_partsWithEdges_22 rfl rfl ?_
    refine ev_getr (pc' := 26) dX10_partsWithEdges_23 rfl tf_10_7 sh78 rfl ?_
    refine ev_iconst (pc' := 27) dX10_partsWithEdges_26 rfl ?_
    replace h := qbd h; obtain ⟨x3, hx3, h⟩ := h
    refine ev_iald (pc' := 28) dX10_partsWithEdges_27 rfl sh79 hx3 ?_
    refine ev_icmpge (pc' := 31) (tgt := 70) dX10_partsWithEdges_28 (by decide) rfl (x1 := wr x.2) (y1 := wr x3) rfl rfl  (fun c4 => ?_) (fun c4 => ?_)
    · replace h := qit c4 h
      refine ev_iload (pc' := 33) dX10_partsWithEdges_31 rfl rfl ?_
      replace h := qbd h; obtain ⟨y6, hy6, h⟩ := h
      have kJ : Ev (d + 5) mX10_partsWithEdges 62 [some (.ref 78), some (iv w1), some (iv w2), some (iv w3), none, some (iv x.2)] [iv y6] (cS Ls t μ) o s' := by
        refine ev_istore (pc' := 64) (L1 := [some (.ref 78), some (iv w1), some (iv w2), some (iv w3), some (iv y6), some (iv x.2)]) dX10_partsWithEdges_62 rfl rfl ?_
        refine ev_iinc (pc' := 67) (x := x.2) (L1 := [some (.ref 78), some (iv w1), some (iv w2), some (iv w3), some (iv y6), some (iv (x.2 + 1))]) dX10_partsWithEdges_64 rfl rfl rfl ?_
        refine ev_goto (pc' := 20) dX10_partsWithEdges_67 (by decide) ?_
        cases h
        exact ev_wk (qLe_eq (qLe_eq (qLe_eq (qLe_eq (qLe_eq (qLe_eq qLe_nil)))))) (ih _ _ h1 _ _ kE)
      replace h := hy6
      clear hy6
      refine ev_ifne (pc' := 36) (tgt := 57) dX10_partsWithEdges_33 (by decide) rfl (x1 := wr x.1) rfl (fun c5 => ?_) (fun c5 => ?_)
      · replace h := qit c5 h
        refine ev_aload_n (pc' := 37) dX10_partsWithEdges_36 rfl rfl ?_
        refine ev_getr (pc' := 40) dX10_partsWithEdges_37 rfl tf_10_29 sh78 rfl ?_
        refine ev_iload (pc' := 42) dX10_partsWithEdges_40 rfl rfl ?_
        replace h := qbd h; obtain ⟨x7, hx7, h⟩ := h
        refine ev_iald (pc' := 43) dX10_partsWithEdges_42 rfl sh84 hx7 ?_
        refine ev_iload_n (pc' := 44) dX10_partsWithEdges_43 rfl rfl ?_
        refine ev_icmpne (pc' := 47) (tgt := 61) dX10_partsWithEdges_44 (by decide) rfl (x1 := wr x7) (y1 := wr w3) rfl rfl  (fun c8 => ?_) (fun c8 => ?_)
        · replace h := qit c8 h
          refine ev_aload_n (pc' := 48) dX10_partsWithEdges_47 rfl rfl ?_
          refine ev_iconst (pc' := 49) dX10_partsWithEdges_48 rfl ?_
          refine ev_iload (pc' := 51) dX10_partsWithEdges_49 rfl rfl ?_
          replace h := qbd h; obtain ⟨y9, hy9, h⟩ := h
          refine ev_callg (pc' := 54) (st2 := [iv y9]) dX10_partsWithEdges_51 (qs_V tc_10_213 rfl rfl (cS_cls sh78) rfl) rfl rfl (eX10_degreeOf (d := d + 2) hy9) rfl rfl ?_
          refine ev_ifle (pc' := 57) (tgt := 61) dX10_partsWithEdges_54 (by decide) rfl (x1 := wr y9) rfl (fun c10 => ?_) (fun c10 => ?_)
          · replace h := qit c10 h
            refine ev_iconst (pc' := 58) dX10_partsWithEdges_57 rfl ?_
            refine ev_goto (pc' := 62) dX10_partsWithEdges_58 (by decide) ?_
            cases h
            exact ev_wk (qLe_eq (qLe_eq (qLe_eq (qLe_eq (qLe_sk (qLe_eq qLe_nil)))))) kJ
          · replace h := qif' c10 h
            refine ev_iconst (pc' := 62) dX10_partsWithEdges_61 rfl ?_
            cases h
            exact ev_wk (qLe_eq (qLe_eq (qLe_eq (qLe_eq (qLe_sk (qLe_eq qLe_nil)))))) kJ
        · replace h := qif' c8 h
          refine ev_iconst (pc' := 62) dX10_partsWithEdges_61 rfl ?_
          cases h
          exact ev_wk (qLe_eq (qLe_eq (qLe_eq (qLe_eq (qLe_sk (qLe_eq qLe_nil)))))) kJ
      · replace h := qif' c5 h
        refine ev_iconst (pc' := 58) dX10_partsWithEdges_57 rfl ?_
        refine ev_goto (pc' := 62) dX10_partsWithEdges_58 (by decide) ?_
        cases h
        exact ev_wk (qLe_eq (qLe_eq (qLe_eq (qLe_eq (qLe_sk (qLe_eq qLe_nil)))))) kJ
    · replace h := qif' c4 h
      cases h
      cases h1
      exact ev_wk (qLe_eq (qLe_eq (qLe_eq (qLe_eq (qLe_eq (qLe_sk qLe_nil)))))) kE
set_option maxRecDepth 100000 in
theorem ebX10_partsWithEdges_9 {Ls t d n : Nat} {w1 : Int} {μ : qMu} : ∀ (k : Nat) (x : Int × Int) (y : Int), lp (fun x : Int × Int => bX10_partsWithEdges_9 n w1 x.1 x.2 μ) k x = some y → ∀ (o : qO) (s' : qSt), Ev (d + 5) mX10_partsWithEdges 89 [none, none, some (iv y), none, none, none] [] (cS Ls t μ) o s' → Ev (d + 5) mX10_partsWithEdges 9 [some (.ref 78), some (iv w1), some (iv x.1), some (iv x.2), none, none] [] (cS Ls t μ) o s' := by
  intro k
  induction k with
  | zero => intro x y h; cases h
  | succ k ih =>
    intro x y h o s' kE
    rw [lp_s] at h
    replace h := qbd h; obtain ⟨zz, h0, h1⟩ := h
    have h : bX10_partsWithEdges_9 n w1 x.1 x.2 μ = some zz := h0
    clear h0
    unfold bX10_partsWithEdges_9 at h
    refine ev_iload_n (pc' := 10) dX10_partsWithEdges_9 rfl rfl ?_
    refine ev_iload_n (pc' := 11) dX10_partsWithEdges_10 rfl rfl ?_
    refine ev_icmpge (pc' := 14) (tgt := 89) dX10_partsWithEdges_11 (by decide) rfl (x1 := wr x.2) (y1 := wr w1) rfl rfl  (fun c2 => ?_) (fun c2 => ?_)
    · replace h := qit c2 h
      refine ev_iconst (pc' := 15) dX10_partsWithEdges_14 rfl ?_
      refine ev_istore (pc' := 17) (L1 := [some (.ref 78), some (iv w1), some (iv x.1), some (iv x.2), some (iv 0), none]) dX10_partsWithEdges_15 rfl rfl ?_
      refine ev_iconst (pc' := 18) dX10_partsWithEdges_17 rfl ?_
      refine ev_istore (pc' := 20) (L1 := [some (.ref 78), some (iv w1), some (iv x.1), some (iv x.2), some (iv 0), some (iv 0)]) dX10_partsWithEdges_18 rfl rfl ?_
      replace h := qbd h; obtain ⟨y11, hy11, h⟩ := h
      refine ev_wk (qLe_eq (qLe_eq (qLe_eq (qLe_eq (qLe_eq (qLe_eq qLe_nil)))))) (?_ : Ev _ _ _ [some (.ref 78), some (iv w1), some (iv x.1), some (iv x.2), some (iv 0), some (iv 0)] _ _ _ _)
      refine ebX10_partsWithEdges_20 _ _ _ hy11 _ _ ?_
      refine ev_iload_n (pc' := 71) dX10_partsWithEdges_70 rfl rfl ?_
      refine ev_iload (pc' := 73) dX10_partsWithEdges_71 rfl rfl ?_
      have k13 : ∀ j14 : Int, j14 = (if wr y11 = 0 then 0 else 1) → Ev (d + 5) mX10_partsWithEdges 81 [some (.ref 78), some (iv w1), none, some (iv x.2), none, none] [iv j14, iv x.1] (cS Ls t μ) o s' := by
        intro j14 ej14
        subst ej14
        refine ev_iadd (pc' := 82) dX10_partsWithEdges_81 rfl ?_
        refine ev_istore_n (pc' := 83) (L1 := [some (.ref 78), some (iv w1), some (iv (x.1 + (if wr y11 = 0 then 0 else 1))), some (iv x.2), none, none]) dX10_partsWithEdges_82 rfl rfl ?_
        refine ev_iinc (pc' := 86) (x := x.2) (L1 := [some (.ref 78), some (iv w1), some (iv (x.1 + (if wr y11 = 0 then 0 else 1))), some (iv (x.2 + 1)), none, none]) dX10_partsWithEdges_83 rfl rfl rfl ?_
        refine ev_goto (pc' := 9) dX10_partsWithEdges_86 (by decide) ?_
        cases h
        exact ev_wk (qLe_eq (qLe_eq (qLe_eq (qLe_eq (qLe_eq (qLe_eq qLe_nil)))))) (ih _ _ h1 _ _ kE)
      refine ev_ifeq (pc' := 76) (tgt := 80) dX10_partsWithEdges_73 (by decide) rfl (x1 := wr y11) rfl (fun c12 => ?_) (fun c12 => ?_)
      · skip
        refine ev_iconst (pc' := 81) dX10_partsWithEdges_80 rfl ?_
        exact ev_wk (qLe_eq (qLe_eq (qLe_sk (qLe_eq (qLe_sk (qLe_eq qLe_nil)))))) (k13 _ (qet c12 rfl))
      · skip
        refine ev_iconst (pc' := 77) dX10_partsWithEdges_76 rfl ?_
        refine ev_goto (pc' := 81) dX10_partsWithEdges_77 (by decide) ?_
        exact ev_wk (qLe_eq (qLe_eq (qLe_sk (qLe_eq (qLe_sk (qLe_eq qLe_nil)))))) (k13 _ (qef c12 rfl))
    · replace h := qif' c2 h
      cases h
      cases h1
      exact ev_wk (qLe_sk (qLe_sk (qLe_eq (qLe_sk (qLe_eq (qLe_eq qLe_nil)))))) kE
set_option maxRecDepth 100000 in
theorem eX10_partsWithEdges {Ls t d n : Nat} {μ : qMu} {r : Int × qMu} (h : fX10_partsWithEdges n μ = some r) : Ev (d + 5) mX10_partsWithEdges 0 [some (.ref 78), none, none, none, none, none] [] (cS Ls t μ) (.inl (some (iv r.1))) (cS Ls t r.2) := by
  unfold fX10_partsWithEdges at h
  refine ev_aload_n (pc' := 1) dX10_partsWithEdges_0 rfl rfl ?_
  replace h := qbd h; obtain ⟨y1, hy1, h⟩ := h
  refine ev_callg (pc' := 4) (st2 := [iv y1.1]) dX10_partsWithEdges_1 (qs_V tc_10_235 rfl rfl (cS_cls sh78) rfl) rfl rfl (eX10_laysParts (d := d + 0) hy1) rfl rfl ?_
  refine ev_istore_n (pc' := 5) (L1 := [some (.ref 78), some (iv y1.1), none, none, none, none]) dX10_partsWithEdges_4 rfl rfl ?_
  refine ev_iconst (pc' := 6) dX10_partsWithEdges_5 rfl ?_
  refine ev_istore_n (pc' := 7) (L1 := [some (.ref 78), some (iv y1.1), some (iv 0), none, none, none]) dX10_partsWithEdges_6 rfl rfl ?_
  refine ev_iconst (pc' := 8) dX10_partsWithEdges_7 rfl ?_
  refine ev_istore_n (pc' := 9) (L1 := [some (.ref 78), some (iv y1.1), some (iv 0), some (iv 0), none, none]) dX10_partsWithEdges_8 rfl rfl ?_
  replace h := qbd h; obtain ⟨y15, hy15, h⟩ := h
  refine ev_wk (qLe_eq (qLe_eq (qLe_eq (qLe_eq (qLe_eq (qLe_eq qLe_nil)))))) (?_ : Ev _ _ _ [some (.ref 78), some (iv y1.1), some (iv 0), some (iv 0), none, none] _ _ _ _)
  refine ebX10_partsWithEdges_9 _ _ _ hy15 _ _ ?_
  refine ev_iload_n (pc' := 90) dX10_partsWithEdges_89 rfl rfl ?_
  cases h
  exact ev_ireturn dX10_partsWithEdges_90 rfl rfl
set_option maxRecDepth 100000 in
theorem eX10_components {Ls t d n : Nat} {μ : qMu} {r : Int × qMu} (h : fX10_components n μ = some r) : Ev (d + 5) mX10_components 0 [some (.ref 78)] [] (cS Ls t μ) (.inl (some (iv r.1))) (cS Ls t r.2) := by
  unfold fX10_components at h
  refine ev_aload_n (pc' := 1) dX10_components_0 rfl rfl ?_
  refine ev_iconst (pc' := 2) dX10_components_1 rfl ?_
  replace h := qbd h; obtain ⟨μ1, hμ1, h⟩ := h
  refine ev_puti (pc' := 5) dX10_components_2 rfl tf_10_54 sh78 rfl rfl (qw_9_4 _) rfl hμ1 ?_
  refine ev_aload_n (pc' := 6) dX10_components_5 rfl rfl ?_
  replace h := qbd h; obtain ⟨y2, hy2, h⟩ := h
  refine ev_callg (pc' := 9) (st2 := [iv y2.1]) dX10_components_6 (qs_V tc_10_235 rfl rfl (cS_cls sh78) rfl) rfl rfl (eX10_laysParts (d := d + 0) hy2) rfl rfl ?_
  cases h
  exact ev_ireturn dX10_components_9 rfl rfl
set_option maxRecDepth 100000 in
theorem eX10_component {Ls t d n : Nat} {p0 : Int} {μ : qMu} {r : Int × qMu} (h : fX10_component n p0 μ = some r) : Ev (d + 5) mX10_component 0 [some (.ref 78), some (iv p0), none] [] (cS Ls t μ) (.inl (some (iv r.1))) (cS Ls t r.2) := by
  unfold fX10_component at h
  refine ev_aload_n (pc' := 1) dX10_component_0 rfl rfl ?_
  refine ev_aload_n (pc' := 2) dX10_component_1 rfl rfl ?_
  refine ev_iload_n (pc' := 3) dX10_component_2 rfl rfl ?_
  replace h := qbd h; obtain ⟨y1, hy1, h⟩ := h
  refine ev_callg (pc' := 6) (st2 := [iv y1, .ref 78]) dX10_component_3 (qs_V tc_10_203 rfl rfl (cS_cls sh78) rfl) rfl rfl (eX10_isVertex (d := d + 3) hy1) rfl rfl ?_
  replace h := qbd h; obtain ⟨y2, hy2, h⟩ := h
  refine ev_callg (pc' := 9) (st2 := [iv y2.1]) dX10_component_6 (qs_V tc_10_188 rfl rfl (cS_cls sh78) rfl) rfl rfl (eX10_good (d := d + 4) hy2) rfl rfl ?_
  refine ev_ifne (pc' := 12) (tgt := 14) dX10_component_9 (by decide) rfl (x1 := wr y2.1) rfl (fun c3 => ?_) (fun c3 => ?_)
  · replace h := qit c3 h
    refine ev_iconst (pc' := 13) dX10_component_12 rfl ?_
    cases h
    exact ev_ireturn dX10_component_13 rfl rfl
  · replace h := qif' c3 h
    refine ev_aload_n (pc' := 15) dX10_component_14 rfl rfl ?_
    replace h := qbd h; obtain ⟨y4, hy4, h⟩ := h
    refine ev_callg (pc' := 18) (st2 := [iv y4.1]) dX10_component_15 (qs_V tc_10_235 rfl rfl (cS_cls sh78) rfl) rfl rfl (eX10_laysParts (d := d + 0) hy4) rfl rfl ?_
    refine ev_istore_n (pc' := 19) (L1 := [some (.ref 78), some (iv p0), some (iv y4.1)]) dX10_component_18 rfl rfl ?_
    refine ev_iload_n (pc' := 20) dX10_component_19 rfl rfl ?_
    refine ev_aload_n (pc' := 21) dX10_component_20 rfl rfl ?_
    refine ev_getr (pc' := 24) dX10_component_21 rfl tf_10_29 sh78 rfl ?_
    refine ev_iload_n (pc' := 25) dX10_component_24 rfl rfl ?_
    replace h := qbd h; obtain ⟨x5, hx5, h⟩ := h
    refine ev_iald (pc' := 26) dX10_component_25 rfl sh84 hx5 ?_
    refine ev_min (pc' := 29) dX10_component_26 rfl tc_10_238 rfl ?_
    cases h
    exact ev_ireturn dX10_component_29 rfl rfl
set_option maxRecDepth 100000 in
theorem eX10_isConnected {Ls t d n : Nat} {μ : qMu} {r : Int × qMu} (h : fX10_isConnected n μ = some r) : Ev (d + 6) mX10_isConnected 0 [some (.ref 78)] [] (cS Ls t μ) (.inl (some (iv r.1))) (cS Ls t r.2) := by
  unfold fX10_isConnected at h
  refine ev_aload_n (pc' := 1) dX10_isConnected_0 rfl rfl ?_
  refine ev_iconst (pc' := 2) dX10_isConnected_1 rfl ?_
  replace h := qbd h; obtain ⟨μ1, hμ1, h⟩ := h
  refine ev_puti (pc' := 5) dX10_isConnected_2 rfl tf_10_54 sh78 rfl rfl (qw_9_4 _) rfl hμ1 ?_
  refine ev_aload_n (pc' := 6) dX10_isConnected_5 rfl rfl ?_
  replace h := qbd h; obtain ⟨y2, hy2, h⟩ := h
  refine ev_callg (pc' := 9) (st2 := [iv y2.1]) dX10_isConnected_6 (qs_V tc_10_241 rfl rfl (cS_cls sh78) rfl) rfl rfl (eX10_partsWithEdges (d := d + 0) hy2) rfl rfl ?_
  refine ev_iconst (pc' := 10) dX10_isConnected_9 rfl ?_
  refine ev_icmpgt (pc' := 13) (tgt := 17) dX10_isConnected_10 (by decide) rfl (x1 := wr y2.1) (y1 := 1) rfl wl_1  (fun c3 => ?_) (fun c3 => ?_)
  · replace h := qit c3 h
    refine ev_iconst (pc' := 18) dX10_isConnected_17 rfl ?_
    cases h
    exact ev_ireturn dX10_isConnected_18 rfl rfl
  · replace h := qif' c3 h
    refine ev_iconst (pc' := 14) dX10_isConnected_13 rfl ?_
    refine ev_goto (pc' := 18) dX10_isConnected_14 (by decide) ?_
    cases h
    exact ev_ireturn dX10_isConnected_18 rfl rfl
set_option maxRecDepth 100000 in
theorem eX10_isBridgeNow {Ls t d n : Nat} {p0 : Int} {p1 : Int} {μ : qMu} {r : Int × qMu} (h : fX10_isBridgeNow n p0 p1 μ = some r) : Ev (d + 5) mX10_isBridgeNow 0 [some (.ref 78), some (iv p0), some (iv p1), none] [] (cS Ls t μ) (.inl (some (iv r.1))) (cS Ls t r.2) := by
  unfold fX10_isBridgeNow at h
  refine ev_iload_n (pc' := 1) dX10_isBridgeNow_0 rfl rfl ?_
  refine ev_iload_n (pc' := 2) dX10_isBridgeNow_1 rfl rfl ?_
  refine ev_icmpeq (pc' := 5) (tgt := 16) dX10_isBridgeNow_2 (by decide) rfl (x1 := wr p0) (y1 := wr p1) rfl rfl  (fun c1 => ?_) (fun c1 => ?_)
  · replace h := qit c1 h
    refine ev_iconst (pc' := 17) dX10_isBridgeNow_16 rfl ?_
    cases h
    exact ev_ireturn dX10_isBridgeNow_17 rfl rfl
  · replace h := qif' c1 h
    refine ev_aload_n (pc' := 6) dX10_isBridgeNow_5 rfl rfl ?_
    refine ev_iconst (pc' := 7) dX10_isBridgeNow_6 rfl ?_
    refine ev_iload_n (pc' := 8) dX10_isBridgeNow_7 rfl rfl ?_
    refine ev_iload_n (pc' := 9) dX10_isBridgeNow_8 rfl rfl ?_
    replace h := qbd h; obtain ⟨y2, hy2, h⟩ := h
    refine ev_callg (pc' := 12) (st2 := [iv y2]) dX10_isBridgeNow_9 (qs_V tc_10_68 rfl rfl (cS_cls sh78) rfl) rfl rfl (eX10_many (d := d + 3) hy2) rfl rfl ?_
    refine ev_iconst (pc' := 13) dX10_isBridgeNow_12 rfl ?_
    refine ev_icmpeq (pc' := 16) (tgt := 18) dX10_isBridgeNow_13 (by decide) rfl (x1 := wr y2) (y1 := 1) rfl wl_1  (fun c3 => ?_) (fun c3 => ?_)
    · replace h := qit c3 h
      refine ev_aload_n (pc' := 19) dX10_isBridgeNow_18 rfl rfl ?_
      refine ev_iconst (pc' := 20) dX10_isBridgeNow_19 rfl ?_
      refine ev_iload_n (pc' := 21) dX10_isBridgeNow_20 rfl rfl ?_
      refine ev_iload_n (pc' := 22) dX10_isBridgeNow_21 rfl rfl ?_
      refine ev_iconst (pc' := 23) dX10_isBridgeNow_22 rfl ?_
      replace h := qbd h; obtain ⟨y4, hy4, h⟩ := h
      refine ev_callg (pc' := 26) (st2 := []) dX10_isBridgeNow_23 (qs_V tc_10_149 rfl rfl (cS_cls sh78) rfl) rfl rfl (eX10_adds (d := d + 3) hy4) rfl rfl ?_
      refine ev_aload_n (pc' := 27) dX10_isBridgeNow_26 rfl rfl ?_
      replace h := qbd h; obtain ⟨y5, hy5, h⟩ := h
      refine ev_callg (pc' := 30) (st2 := [iv y5.1]) dX10_isBridgeNow_27 (qs_V tc_10_235 rfl rfl (cS_cls sh78) rfl) rfl rfl (eX10_laysParts (d := d + 0) hy5) rfl rfl ?_
      refine ev_istore_n (pc' := 31) (L1 := [some (.ref 78), some (iv p0), some (iv p1), some (iv y5.1)]) dX10_isBridgeNow_30 rfl rfl ?_
      refine ev_aload_n (pc' := 32) dX10_isBridgeNow_31 rfl rfl ?_
      refine ev_iconst (pc' := 33) dX10_isBridgeNow_32 rfl ?_
      refine ev_iload_n (pc' := 34) dX10_isBridgeNow_33 rfl rfl ?_
      refine ev_iload_n (pc' := 35) dX10_isBridgeNow_34 rfl rfl ?_
      refine ev_iconst (pc' := 36) dX10_isBridgeNow_35 rfl ?_
      replace h := qbd h; obtain ⟨y6, hy6, h⟩ := h
      refine ev_callg (pc' := 39) (st2 := []) dX10_isBridgeNow_36 (qs_V tc_10_149 rfl rfl (cS_cls sh78) rfl) rfl rfl (eX10_adds (d := d + 3) hy6) rfl rfl ?_
      refine ev_iload_n (pc' := 40) dX10_isBridgeNow_39 rfl rfl ?_
      refine ev_iconst (pc' := 41) dX10_isBridgeNow_40 rfl ?_
      refine ev_icmple (pc' := 44) (tgt := 63) dX10_isBridgeNow_41 (by decide) rfl (x1 := wr y5.1) (y1 := 1) rfl wl_1  (fun c7 => ?_) (fun c7 => ?_)
      · replace h := qit c7 h
        refine ev_aload_n (pc' := 45) dX10_isBridgeNow_44 rfl rfl ?_
        refine ev_getr (pc' := 48) dX10_isBridgeNow_45 rfl tf_10_29 sh78 rfl ?_
        refine ev_iload_n (pc' := 49) dX10_isBridgeNow_48 rfl rfl ?_
        replace h := qbd h; obtain ⟨x8, hx8, h⟩ := h
        refine ev_iald (pc' := 50) dX10_isBridgeNow_49 rfl sh84 hx8 ?_
        refine ev_aload_n (pc' := 51) dX10_isBridgeNow_50 rfl rfl ?_
        refine ev_getr (pc' := 54) dX10_isBridgeNow_51 rfl tf_10_29 sh78 rfl ?_
        refine ev_iload_n (pc' := 55) dX10_isBridgeNow_54 rfl rfl ?_
        replace h := qbd h; obtain ⟨x9, hx9, h⟩ := h
        refine ev_iald (pc' := 56) dX10_isBridgeNow_55 rfl sh84 hx9 ?_
        refine ev_icmpeq (pc' := 59) (tgt := 63) dX10_isBridgeNow_56 (by decide) rfl (x1 := wr x8) (y1 := wr x9) rfl rfl  (fun c10 => ?_) (fun c10 => ?_)
        · replace h := qit c10 h
          refine ev_iconst (pc' := 64) dX10_isBridgeNow_63 rfl ?_
          cases h
          exact ev_ireturn dX10_isBridgeNow_64 rfl rfl
        · replace h := qif' c10 h
          refine ev_iconst (pc' := 60) dX10_isBridgeNow_59 rfl ?_
          refine ev_goto (pc' := 64) dX10_isBridgeNow_60 (by decide) ?_
          cases h
          exact ev_ireturn dX10_isBridgeNow_64 rfl rfl
      · replace h := qif' c7 h
        refine ev_iconst (pc' := 64) dX10_isBridgeNow_63 rfl ?_
        cases h
        exact ev_ireturn dX10_isBridgeNow_64 rfl rfl
    · replace h := qif' c3 h
      refine ev_iconst (pc' := 17) dX10_isBridgeNow_16 rfl ?_
      cases h
      exact ev_ireturn dX10_isBridgeNow_17 rfl rfl
set_option maxRecDepth 100000 in
theorem eX10_isBridge {Ls t d n : Nat} {p0 : Int} {p1 : Int} {μ : qMu} {r : Int × qMu} (h : fX10_isBridge n p0 p1 μ = some r) : Ev (d + 6) mX10_isBridge 0 [some (.ref 78), some (iv p0), some (iv p1), none] [] (cS Ls t μ) (.inl (some (iv r.1))) (cS Ls t r.2) := by
  unfold fX10_isBridge at h
  refine ev_aload_n (pc' := 1) dX10_isBridge_0 rfl rfl ?_
  refine ev_iload_n (pc' := 2) dX10_isBridge_1 rfl rfl ?_
  refine ev_iload_n (pc' := 3) dX10_isBridge_2 rfl rfl ?_
  replace h := qbd h; obtain ⟨y1, hy1, h⟩ := h
  refine ev_callg (pc' := 6) (st2 := [iv y1]) dX10_isBridge_3 (qs_V tc_10_210 rfl rfl (cS_cls sh78) rfl) rfl rfl (eX10_areVertices (d := d + 3) hy1) rfl rfl ?_
  refine ev_istore_n (pc' := 7) (L1 := [some (.ref 78), some (iv p0), some (iv p1), some (iv y1)]) dX10_isBridge_6 rfl rfl ?_
  refine ev_aload_n (pc' := 8) dX10_isBridge_7 rfl rfl ?_
  refine ev_iload_n (pc' := 9) dX10_isBridge_8 rfl rfl ?_
  refine ev_iload_n (pc' := 10) dX10_isBridge_9 rfl rfl ?_
  replace h := qbd h; obtain ⟨y3, hy3, h⟩ := h
  have kJ : Ev (d + 6) mX10_isBridge 28 [some (.ref 78), some (iv p0), some (iv p1), none] [iv y3, iv y1, .ref 78] (cS Ls t μ) (.inl (some (iv r.1))) (cS Ls t r.2) := by
    replace h := qbd h; obtain ⟨y6, hy6, h⟩ := h
    refine ev_callg (pc' := 31) (st2 := [iv y6.1]) dX10_isBridge_28 (qs_V tc_10_244 rfl rfl (cS_cls sh78) rfl) rfl rfl (eX10_good_ (d := d + 4) hy6) rfl rfl ?_
    refine ev_ifeq (pc' := 34) (tgt := 47) dX10_isBridge_31 (by decide) rfl (x1 := wr y6.1) rfl (fun c7 => ?_) (fun c7 => ?_)
    · replace h := qit c7 h
      refine ev_iconst (pc' := 48) dX10_isBridge_47 rfl ?_
      cases h
      exact ev_ireturn dX10_isBridge_48 rfl rfl
    · replace h := qif' c7 h
      refine ev_aload_n (pc' := 35) dX10_isBridge_34 rfl rfl ?_
      refine ev_iload_n (pc' := 36) dX10_isBridge_35 rfl rfl ?_
      refine ev_iload_n (pc' := 37) dX10_isBridge_36 rfl rfl ?_
      replace h := qbd h; obtain ⟨y8, hy8, h⟩ := h
      refine ev_callg (pc' := 40) (st2 := [iv y8.1]) dX10_isBridge_37 (qs_V tc_10_247 rfl rfl (cS_cls sh78) rfl) rfl rfl (eX10_isBridgeNow (d := d + 0) hy8) rfl rfl ?_
      refine ev_ifeq (pc' := 43) (tgt := 47) dX10_isBridge_40 (by decide) rfl (x1 := wr y8.1) rfl (fun c9 => ?_) (fun c9 => ?_)
      · replace h := qit c9 h
        refine ev_iconst (pc' := 48) dX10_isBridge_47 rfl ?_
        cases h
        exact ev_ireturn dX10_isBridge_48 rfl rfl
      · replace h := qif' c9 h
        refine ev_iconst (pc' := 44) dX10_isBridge_43 rfl ?_
        refine ev_goto (pc' := 48) dX10_isBridge_44 (by decide) ?_
        cases h
        exact ev_ireturn dX10_isBridge_48 rfl rfl
  replace h := hy3
  clear hy3
  refine ev_ifeq (pc' := 13) (tgt := 27) dX10_isBridge_10 (by decide) rfl (x1 := wr y1) rfl (fun c2 => ?_) (fun c2 => ?_)
  · replace h := qit c2 h
    refine ev_iconst (pc' := 28) dX10_isBridge_27 rfl ?_
    cases h
    exact ev_wk (qLe_eq (qLe_eq (qLe_eq (qLe_sk qLe_nil)))) kJ
  · replace h := qif' c2 h
    refine ev_aload_n (pc' := 14) dX10_isBridge_13 rfl rfl ?_
    refine ev_iconst (pc' := 15) dX10_isBridge_14 rfl ?_
    refine ev_iload_n (pc' := 16) dX10_isBridge_15 rfl rfl ?_
    refine ev_iload_n (pc' := 17) dX10_isBridge_16 rfl rfl ?_
    replace h := qbd h; obtain ⟨y4, hy4, h⟩ := h
    refine ev_callg (pc' := 20) (st2 := [iv y4, iv y1, .ref 78]) dX10_isBridge_17 (qs_V tc_10_68 rfl rfl (cS_cls sh78) rfl) rfl rfl (eX10_many (d := d + 4) hy4) rfl rfl ?_
    refine ev_ifle (pc' := 23) (tgt := 27) dX10_isBridge_20 (by decide) rfl (x1 := wr y4) rfl (fun c5 => ?_) (fun c5 => ?_)
    · replace h := qit c5 h
      refine ev_iconst (pc' := 24) dX10_isBridge_23 rfl ?_
      refine ev_goto (pc' := 28) dX10_isBridge_24 (by decide) ?_
      cases h
      exact ev_wk (qLe_eq (qLe_eq (qLe_eq (qLe_sk qLe_nil)))) kJ
    · replace h := qif' c5 h
      refine ev_iconst (pc' := 28) dX10_isBridge_27 rfl ?_
      cases h
      exact ev_wk (qLe_eq (qLe_eq (qLe_eq (qLe_sk qLe_nil)))) kJ
set_option maxRecDepth 100000 in
theorem ebX10_bridges_23 {Ls t d n : Nat} {w2 : Int} : ∀ (k : Nat) (x : Int × Int × qMu) (y : Int × qMu), lp (fun x : Int × Int × qMu => bX10_bridges_23 n w2 x.1 x.2.1 x.2.2) k x = some y → ∀ (o : qO) (s' : qSt), Ev (d + 6) mX10_bridges 51 [some (.ref 78), some (iv y.1), some (iv w2), none] [] (cS Ls t y.2) o s' → Ev (d + 6) mX10_bridges 23 [some (.ref 78), some (iv x.1), some (iv w2), some (iv x.2.1)] [] (cS Ls t x.2.2) o s' := by
  intro k
  induction k with
  | zero => intro x y h; cases h
  | succ k ih =>
    intro x y h o s' kE
    rw [lp_s] at h
    replace h := qbd h; obtain ⟨zz, h0, h1⟩ := h
    have h : bX10_bridges_23 n w2 x.1 x.2.1 x.2.2 = some zz := h0
    clear h0
    unfold bX10_bridges_23 at h
    refine ev_iload_n (pc' := 24) dX10_bridges_23 rfl rfl ?_
    refine ev_aload_n (pc' := 25) dX10_bridges_24 rfl rfl ?_
    refine ev_getr (pc' := 28) dX10_bridges_25 rfl tf_10_7 sh78 rfl ?_
    refine ev_iconst (pc' := 29) dX10_bridges_28 rfl ?_
    replace h := qbd h; obtain ⟨x4, hx4, h⟩ := h
    refine ev_iald (pc' := 30) dX10_bridges_29 rfl sh79 hx4 ?_
    refine ev_icmpge (pc' := 33) (tgt := 51) dX10_bridges_30 (by decide) rfl (x1 := wr x.2.1) (y1 := wr x4) rfl rfl  (fun c5 => ?_) (fun c5 => ?_)
    · replace h := qit c5 h
      refine ev_aload_n (pc' := 34) dX10_bridges_33 rfl rfl ?_
      refine ev_iload_n (pc' := 35) dX10_bridges_34 rfl rfl ?_
      refine ev_iload_n (pc' := 36) dX10_bridges_35 rfl rfl ?_
      replace h := qbd h; obtain ⟨y6, hy6, h⟩ := h
      refine ev_callg (pc' := 39) (st2 := [iv y6.1]) dX10_bridges_36 (qs_V tc_10_247 rfl rfl (cS_cls sh78) rfl) rfl rfl (eX10_isBridgeNow (d := d + 0) hy6) rfl rfl ?_
      have k8 : ∀ j9 : Int, j9 = (if wr y6.1 = 0 then x.1 else (x.1 + 1)) → Ev (d + 6) mX10_bridges 45 [some (.ref 78), some (iv j9), some (iv w2), some (iv x.2.1)] [] (cS Ls t y6.2) o s' := by
        intro j9 ej9
        subst ej9
        refine ev_iinc (pc' := 48) (x := x.2.1) (L1 := [some (.ref 78), some (iv (if wr y6.1 = 0 then x.1 else (x.1 + 1))), some (iv w2), some (iv (x.2.1 + 1))]) dX10_bridges_45 rfl rfl rfl ?_
        refine ev_goto (pc' := 23) dX10_bridges_48 (by decide) ?_
        cases h
        exact ev_wk (qLe_eq (qLe_eq (qLe_eq (qLe_eq qLe_nil)))) (ih _ _ h1 _ _ kE)
      refine ev_ifeq (pc' := 42) (tgt := 45) dX10_bridges_39 (by decide) rfl (x1 := wr y6.1) rfl (fun c7 => ?_) (fun c7 => ?_)
      · skip
        exact ev_wk (qLe_eq (qLe_eq (qLe_eq (qLe_eq qLe_nil)))) (k8 _ (qet c7 rfl))
      · skip
        refine ev_iinc (pc' := 45) (x := x.1) (L1 := [some (.ref 78), some (iv (x.1 + 1)), some (iv w2), some (iv x.2.1)]) dX10_bridges_42 rfl rfl rfl ?_
        exact ev_wk (qLe_eq (qLe_eq (qLe_eq (qLe_eq qLe_nil)))) (k8 _ (qef c7 rfl))
    · replace h := qif' c5 h
      cases h
      cases h1
      exact ev_wk (qLe_eq (qLe_eq (qLe_eq (qLe_sk qLe_nil)))) kE
set_option maxRecDepth 100000 in
theorem ebX10_bridges_9 {Ls t d n : Nat} : ∀ (k : Nat) (x : Int × Int × qMu) (y : Int × qMu), lp (fun x : Int × Int × qMu => bX10_bridges_9 n x.1 x.2.1 x.2.2) k x = some y → ∀ (o : qO) (s' : qSt), Ev (d + 6) mX10_bridges 57 [none, some (iv y.1), none, none] [] (cS Ls t y.2) o s' → Ev (d + 6) mX10_bridges 9 [some (.ref 78), some (iv x.1), some (iv x.2.1), none] [] (cS Ls t x.2.2) o s' := by
  intro k
  induction k with
  | zero => intro x y h; cases h
  | succ k ih =>
    intro x y h o s' kE
    rw [lp_s] at h
    replace h := qbd h; obtain ⟨zz, h0, h1⟩ := h
    have h : bX10_bridges_9 n x.1 x.2.1 x.2.2 = some zz := h0
    clear h0
    unfold bX10_bridges_9 at h
    refine ev_iload_n (pc' := 10) dX10_bridges_9 rfl rfl ?_
    refine ev_aload_n (pc' := 11) dX10_bridges_10 rfl rfl ?_
    refine ev_getr (pc' := 14) dX10_bridges_11 rfl tf_10_7 sh78 rfl ?_
    refine ev_iconst (pc' := 15) dX10_bridges_14 rfl ?_
    replace h := qbd h; obtain ⟨x2, hx2, h⟩ := h
    refine ev_iald (pc' := 16) dX10_bridges_15 rfl sh79 hx2 ?_
    refine ev_icmpge (pc' := 19) (tgt := 57) dX10_bridges_16 (by decide) rfl (x1 := wr x.2.1) (y1 := wr x2) rfl rfl  (fun c3 => ?_) (fun c3 => ?_)
    · replace h := qit c3 h
      refine ev_iload_n (pc' := 20) dX10_bridges_19 rfl rfl ?_
      refine ev_iconst (pc' := 21) dX10_bridges_20 rfl ?_
      refine ev_iadd (pc' := 22) dX10_bridges_21 rfl ?_
      refine ev_istore_n (pc' := 23) (L1 := [some (.ref 78), some (iv x.1), some (iv x.2.1), some (iv (x.2.1 + 1))]) dX10_bridges_22 rfl rfl ?_
      replace h := qbd h; obtain ⟨y10, hy10, h⟩ := h
      refine ev_wk (qLe_eq (qLe_eq (qLe_eq (qLe_eq qLe_nil)))) (?_ : Ev _ _ _ [some (.ref 78), some (iv x.1), some (iv x.2.1), some (iv (x.2.1 + 1))] _ _ _ _)
      refine ebX10_bridges_23 _ _ _ hy10 _ _ ?_
      refine ev_iinc (pc' := 54) (x := x.2.1) (L1 := [some (.ref 78), some (iv y10.1), some (iv (x.2.1 + 1)), none]) dX10_bridges_51 rfl rfl rfl ?_
      refine ev_goto (pc' := 9) dX10_bridges_54 (by decide) ?_
      cases h
      exact ev_wk (qLe_eq (qLe_eq (qLe_eq (qLe_eq qLe_nil)))) (ih _ _ h1 _ _ kE)
    · replace h := qif' c3 h
      cases h
      cases h1
      exact ev_wk (qLe_sk (qLe_eq (qLe_sk (qLe_eq qLe_nil)))) kE
set_option maxRecDepth 100000 in
theorem eX10_bridges {Ls t d n : Nat} {μ : qMu} {r : Int × qMu} (h : fX10_bridges n μ = some r) : Ev (d + 6) mX10_bridges 0 [some (.ref 78), none, none, none] [] (cS Ls t μ) (.inl (some (iv r.1))) (cS Ls t r.2) := by
  unfold fX10_bridges at h
  refine ev_aload_n (pc' := 1) dX10_bridges_0 rfl rfl ?_
  refine ev_iconst (pc' := 2) dX10_bridges_1 rfl ?_
  replace h := qbd h; obtain ⟨μ1, hμ1, h⟩ := h
  refine ev_puti (pc' := 5) dX10_bridges_2 rfl tf_10_54 sh78 rfl rfl (qw_9_4 _) rfl hμ1 ?_
  refine ev_iconst (pc' := 6) dX10_bridges_5 rfl ?_
  refine ev_istore_n (pc' := 7) (L1 := [some (.ref 78), some (iv 0), none, none]) dX10_bridges_6 rfl rfl ?_
  refine ev_iconst (pc' := 8) dX10_bridges_7 rfl ?_
  refine ev_istore_n (pc' := 9) (L1 := [some (.ref 78), some (iv 0), some (iv 0), none]) dX10_bridges_8 rfl rfl ?_
  replace h := qbd h; obtain ⟨y11, hy11, h⟩ := h
  refine ev_wk (qLe_eq (qLe_eq (qLe_eq (qLe_eq qLe_nil)))) (?_ : Ev _ _ _ [some (.ref 78), some (iv 0), some (iv 0), none] _ _ _ _)
  refine ebX10_bridges_9 _ _ _ hy11 _ _ ?_
  refine ev_iload_n (pc' := 58) dX10_bridges_57 rfl rfl ?_
  cases h
  exact ev_ireturn dX10_bridges_58 rfl rfl
set_option maxRecDepth 100000 in
theorem ebX10_way_17 {Ls t d n : Nat} {w1 : Int} {w2 : Int} : ∀ (k : Nat) (x : Int × qMu) (y : qMu), lp (fun x : Int × qMu => bX10_way_17 n w1 w2 x.1 x.2) k x = some y → ∀ (o : qO) (s' : qSt), Ev (d + 3) mX10_way 46 [some (.ref 78), none, some (iv w2), none, none, none] [] (cS Ls t y) o s' → Ev (d + 3) mX10_way 17 [some (.ref 78), some (iv w1), some (iv w2), some (iv x.1), none, none] [] (cS Ls t x.2) o s' := by
  intro k
  induction k with
  | zero => intro x y h; cases h
  | succ k ih =>
    intro x y h o s' kE
    rw [lp_s] at h
    replace h := qbd h; obtain ⟨zz, h0, h1⟩ := h
    have h : bX10_way_17 n w1 w2 x.1 x.2 = some zz := h0
    clear h0
    unfold bX10_way_17 at h
    refine ev_iload_n (pc' := 18) dX10_way_17 rfl rfl ?_
    refine ev_bipush (pc' := 20) dX10_way_18 rfl bl_8 ?_
    refine ev_icmpge (pc' := 23) (tgt := 46) dX10_way_20 (by decide) rfl (x1 := wr x.1) (y1 := 8) rfl wl_8  (fun c4 => ?_) (fun c4 => ?_)
    · replace h := qit c4 h
      refine ev_aload_n (pc' := 24) dX10_way_23 rfl rfl ?_
      refine ev_getr (pc' := 27) dX10_way_24 rfl tf_10_32 sh78 rfl ?_
      refine ev_iload_n (pc' := 28) dX10_way_27 rfl rfl ?_
      refine ev_iload_n (pc' := 29) dX10_way_28 rfl rfl ?_
      refine ev_iload_n (pc' := 30) dX10_way_29 rfl rfl ?_
      have k6 : ∀ j7 : Int, j7 = (if wr x.1 = wr w1 then 0 else 8) → Ev (d + 3) mX10_way 39 [some (.ref 78), some (iv w1), some (iv w2), some (iv x.1), none, none] [iv j7, iv x.1, .ref 85] (cS Ls t x.2) o s' := by
        intro j7 ej7
        subst ej7
        replace h := qbd h; obtain ⟨μ8, hμ8, h⟩ := h
        refine ev_iast (pc' := 40) dX10_way_39 rfl sh85 hμ8 ?_
        refine ev_iinc (pc' := 43) (x := x.1) (L1 := [some (.ref 78), some (iv w1), some (iv w2), some (iv (x.1 + 1)), none, none]) dX10_way_40 rfl rfl rfl ?_
        refine ev_goto (pc' := 17) dX10_way_43 (by decide) ?_
        cases h
        exact ev_wk (qLe_eq (qLe_eq (qLe_eq (qLe_eq (qLe_eq (qLe_eq qLe_nil)))))) (ih _ _ h1 _ _ kE)
      refine ev_icmpne (pc' := 33) (tgt := 37) dX10_way_30 (by decide) rfl (x1 := wr x.1) (y1 := wr w1) rfl rfl  (fun c5 => ?_) (fun c5 => ?_)
      · skip
        refine ev_iconst (pc' := 34) dX10_way_33 rfl ?_
        refine ev_goto (pc' := 39) dX10_way_34 (by decide) ?_
        exact ev_wk (qLe_eq (qLe_eq (qLe_eq (qLe_eq (qLe_eq (qLe_eq qLe_nil)))))) (k6 _ (qet c5 rfl))
      · skip
        refine ev_bipush (pc' := 39) dX10_way_37 rfl bl_8 ?_
        exact ev_wk (qLe_eq (qLe_eq (qLe_eq (qLe_eq (qLe_eq (qLe_eq qLe_nil)))))) (k6 _ (qef c5 rfl))
    · replace h := qif' c4 h
      cases h
      cases h1
      exact ev_wk (qLe_eq (qLe_sk (qLe_eq (qLe_sk (qLe_eq (qLe_eq qLe_nil)))))) kE
set_option maxRecDepth 100000 in
theorem ebX10_way_67 {Ls t d n : Nat} {w2 : Int} {w3 : Int} {w4 : Int} : ∀ (k : Nat) (x : Int × qMu) (y : qMu), lp (fun x : Int × qMu => bX10_way_67 n w2 w3 w4 x.1 x.2) k x = some y → ∀ (o : qO) (s' : qSt), Ev (d + 3) mX10_way 127 [some (.ref 78), none, some (iv w2), some (iv w3), some (iv w4), none] [] (cS Ls t y) o s' → Ev (d + 3) mX10_way 67 [some (.ref 78), none, some (iv w2), some (iv w3), some (iv w4), some (iv x.1)] [] (cS Ls t x.2) o s' := by
  intro k
  induction k with
  | zero => intro x y h; cases h
  | succ k ih =>
    intro x y h o s' kE
    rw [lp_s] at h
    replace h := qbd h; obtain ⟨zz, h0, h1⟩ := h
    have h : bX10_way_67 n w2 w3 w4 x.1 x.2 = some zz := h0
    clear h0
    unfold bX10_way_67 at h
    refine ev_iload (pc' := 69) dX10_way_67 rfl rfl ?_
    refine ev_bipush (pc' := 71) dX10_way_69 rfl bl_8 ?_
    refine ev_icmpge (pc' := 74) (tgt := 127) dX10_way_71 (by decide) rfl (x1 := wr x.1) (y1 := 8) rfl wl_8  (fun c12 => ?_) (fun c12 => ?_)
    · replace h := qit c12 h
      refine ev_aload_n (pc' := 75) dX10_way_74 rfl rfl ?_
      refine ev_getr (pc' := 78) dX10_way_75 rfl tf_10_32 sh78 rfl ?_
      refine ev_iload (pc' := 80) dX10_way_78 rfl rfl ?_
      refine ev_aload_n (pc' := 81) dX10_way_80 rfl rfl ?_
      refine ev_iload (pc' := 83) dX10_way_81 rfl rfl ?_
      refine ev_iload (pc' := 85) dX10_way_83 rfl rfl ?_
      replace h := qbd h; obtain ⟨y13, hy13, h⟩ := h
      refine ev_callg (pc' := 88) (st2 := [iv y13, iv x.1, .ref 85]) dX10_way_85 (qs_V tc_10_228 rfl rfl (cS_cls sh78) rfl) rfl rfl (eX10_areJoined (d := d + 0) hy13) rfl rfl ?_
      replace h := qbd h; obtain ⟨y15, hy15, h⟩ := h
      have kJ : Ev (d + 3) mX10_way 120 [some (.ref 78), none, some (iv w2), some (iv w3), some (iv w4), some (iv x.1)] [iv y15, iv x.1, .ref 85] (cS Ls t x.2) o s' := by
        replace h := qbd h; obtain ⟨μ19, hμ19, h⟩ := h
        refine ev_iast (pc' := 121) dX10_way_120 rfl sh85 hμ19 ?_
        refine ev_iinc (pc' := 124) (x := x.1) (L1 := [some (.ref 78), none, some (iv w2), some (iv w3), some (iv w4), some (iv (x.1 + 1))]) dX10_way_121 rfl rfl rfl ?_
        refine ev_goto (pc' := 67) dX10_way_124 (by decide) ?_
        cases h
        exact ev_wk (qLe_eq (qLe_eq (qLe_eq (qLe_eq (qLe_eq (qLe_eq qLe_nil)))))) (ih _ _ h1 _ _ kE)
      replace h := hy15
      clear hy15
      refine ev_ifeq (pc' := 91) (tgt := 113) dX10_way_88 (by decide) rfl (x1 := wr y13) rfl (fun c14 => ?_) (fun c14 => ?_)
      · replace h := qit c14 h
        refine ev_aload_n (pc' := 114) dX10_way_113 rfl rfl ?_
        refine ev_getr (pc' := 117) dX10_way_114 rfl tf_10_32 sh78 rfl ?_
        refine ev_iload (pc' := 119) dX10_way_117 rfl rfl ?_
        replace h := qbd h; obtain ⟨x16, hx16, h⟩ := h
        refine ev_iald (pc' := 120) dX10_way_119 rfl sh85 hx16 ?_
        cases h
        exact ev_wk (qLe_eq (qLe_eq (qLe_eq (qLe_eq (qLe_eq (qLe_eq qLe_nil)))))) kJ
      · replace h := qif' c14 h
        refine ev_aload_n (pc' := 92) dX10_way_91 rfl rfl ?_
        refine ev_getr (pc' := 95) dX10_way_92 rfl tf_10_32 sh78 rfl ?_
        refine ev_iload (pc' := 97) dX10_way_95 rfl rfl ?_
        replace h := qbd h; obtain ⟨x17, hx17, h⟩ := h
        refine ev_iald (pc' := 98) dX10_way_97 rfl sh85 hx17 ?_
        refine ev_aload_n (pc' := 99) dX10_way_98 rfl rfl ?_
        refine ev_getr (pc' := 102) dX10_way_99 rfl tf_10_32 sh78 rfl ?_
        refine ev_iload (pc' := 104) dX10_way_102 rfl rfl ?_
        replace h := qbd h; obtain ⟨x18, hx18, h⟩ := h
        refine ev_iald (pc' := 105) dX10_way_104 rfl sh85 hx18 ?_
        refine ev_iconst (pc' := 106) dX10_way_105 rfl ?_
        refine ev_iadd (pc' := 107) dX10_way_106 rfl ?_
        refine ev_min (pc' := 110) dX10_way_107 rfl tc_10_238 rfl ?_
        refine ev_goto (pc' := 120) dX10_way_110 (by decide) ?_
        cases h
        exact ev_wk (qLe_eq (qLe_eq (qLe_eq (qLe_eq (qLe_eq (qLe_eq qLe_nil)))))) kJ
    · replace h := qif' c12 h
      cases h
      cases h1
      exact ev_wk (qLe_eq (qLe_eq (qLe_eq (qLe_eq (qLe_eq (qLe_sk qLe_nil)))))) kE
set_option maxRecDepth 100000 in
theorem ebX10_way_57 {Ls t d n : Nat} {w2 : Int} {w3 : Int} : ∀ (k : Nat) (x : Int × qMu) (y : qMu), lp (fun x : Int × qMu => bX10_way_57 n w2 w3 x.1 x.2) k x = some y → ∀ (o : qO) (s' : qSt), Ev (d + 3) mX10_way 133 [some (.ref 78), none, some (iv w2), some (iv w3), none, none] [] (cS Ls t y) o s' → Ev (d + 3) mX10_way 57 [some (.ref 78), none, some (iv w2), some (iv w3), some (iv x.1), none] [] (cS Ls t x.2) o s' := by
  intro k
  induction k with
  | zero => intro x y h; cases h
  | succ k ih =>
    intro x y h o s' kE
    rw [lp_s] at h
    replace h := qbd h; obtain ⟨zz, h0, h1⟩ := h
    have h : bX10_way_57 n w2 w3 x.1 x.2 = some zz := h0
    clear h0
    unfold bX10_way_57 at h
    refine ev_iload (pc' := 59) dX10_way_57 rfl rfl ?_
    refine ev_bipush (pc' := 61) dX10_way_59 rfl bl_8 ?_
    refine ev_icmpge (pc' := 64) (tgt := 133) dX10_way_61 (by decide) rfl (x1 := wr x.1) (y1 := 8) rfl wl_8  (fun c11 => ?_) (fun c11 => ?_)
    · replace h := qit c11 h
      refine ev_iconst (pc' := 65) dX10_way_64 rfl ?_
      refine ev_istore (pc' := 67) (L1 := [some (.ref 78), none, some (iv w2), some (iv w3), some (iv x.1), some (iv 0)]) dX10_way_65 rfl rfl ?_
      replace h := qbd h; obtain ⟨y20, hy20, h⟩ := h
      refine ev_wk (qLe_eq (qLe_eq (qLe_eq (qLe_eq (qLe_eq (qLe_eq qLe_nil)))))) (?_ : Ev _ _ _ [some (.ref 78), none, some (iv w2), some (iv w3), some (iv x.1), some (iv 0)] _ _ _ _)
      refine ebX10_way_67 _ _ _ hy20 _ _ ?_
      refine ev_iinc (pc' := 130) (x := x.1) (L1 := [some (.ref 78), none, some (iv w2), some (iv w3), some (iv (x.1 + 1)), none]) dX10_way_127 rfl rfl rfl ?_
      refine ev_goto (pc' := 57) dX10_way_130 (by decide) ?_
      cases h
      exact ev_wk (qLe_eq (qLe_eq (qLe_eq (qLe_eq (qLe_eq (qLe_eq qLe_nil)))))) (ih _ _ h1 _ _ kE)
    · replace h := qif' c11 h
      cases h
      cases h1
      exact ev_wk (qLe_eq (qLe_eq (qLe_eq (qLe_eq (qLe_sk (qLe_eq qLe_nil)))))) kE
set_option maxRecDepth 100000 in
theorem ebX10_way_48 {Ls t d n : Nat} {w2 : Int} : ∀ (k : Nat) (x : Int × qMu) (y : qMu), lp (fun x : Int × qMu => bX10_way_48 n w2 x.1 x.2) k x = some y → ∀ (o : qO) (s' : qSt), Ev (d + 3) mX10_way 139 [some (.ref 78), none, some (iv w2), none, none, none] [] (cS Ls t y) o s' → Ev (d + 3) mX10_way 48 [some (.ref 78), none, some (iv w2), some (iv x.1), none, none] [] (cS Ls t x.2) o s' := by
  intro k
  induction k with
  | zero => intro x y h; cases h
  | succ k ih =>
    intro x y h o s' kE
    rw [lp_s] at h
    replace h := qbd h; obtain ⟨zz, h0, h1⟩ := h
    have h : bX10_way_48 n w2 x.1 x.2 = some zz := h0
    clear h0
    unfold bX10_way_48 at h
    refine ev_iload_n (pc' := 49) dX10_way_48 rfl rfl ?_
    refine ev_bipush (pc' := 51) dX10_way_49 rfl bl_8 ?_
    refine ev_icmpge (pc' := 54) (tgt := 139) dX10_way_51 (by decide) rfl (x1 := wr x.1) (y1 := 8) rfl wl_8  (fun c10 => ?_) (fun c10 => ?_)
    · replace h := qit c10 h
      refine ev_iconst (pc' := 55) dX10_way_54 rfl ?_
      refine ev_istore (pc' := 57) (L1 := [some (.ref 78), none, some (iv w2), some (iv x.1), some (iv 0), none]) dX10_way_55 rfl rfl ?_
      replace h := qbd h; obtain ⟨y21, hy21, h⟩ := h
      refine ev_wk (qLe_eq (qLe_eq (qLe_eq (qLe_eq (qLe_eq (qLe_eq qLe_nil)))))) (?_ : Ev _ _ _ [some (.ref 78), none, some (iv w2), some (iv x.1), some (iv 0), none] _ _ _ _)
      refine ebX10_way_57 _ _ _ hy21 _ _ ?_
      refine ev_iinc (pc' := 136) (x := x.1) (L1 := [some (.ref 78), none, some (iv w2), some (iv (x.1 + 1)), none, none]) dX10_way_133 rfl rfl rfl ?_
      refine ev_goto (pc' := 48) dX10_way_136 (by decide) ?_
      cases h
      exact ev_wk (qLe_eq (qLe_eq (qLe_eq (qLe_eq (qLe_eq (qLe_eq qLe_nil)))))) (ih _ _ h1 _ _ kE)
    · replace h := qif' c10 h
      cases h
      cases h1
      exact ev_wk (qLe_eq (qLe_eq (qLe_eq (qLe_sk (qLe_eq (qLe_eq qLe_nil)))))) kE
set_option maxRecDepth 100000 in
theorem eX10_way {Ls t d n : Nat} {p0 : Int} {p1 : Int} {μ : qMu} {r : Int × qMu} (h : fX10_way n p0 p1 μ = some r) : Ev (d + 3) mX10_way 0 [some (.ref 78), some (iv p0), some (iv p1), none, none, none] [] (cS Ls t μ) (.inl (some (iv r.1))) (cS Ls t r.2) := by
  unfold fX10_way at h
  refine ev_aload_n (pc' := 1) dX10_way_0 rfl rfl ?_
  refine ev_aload_n (pc' := 2) dX10_way_1 rfl rfl ?_
  refine ev_iload_n (pc' := 3) dX10_way_2 rfl rfl ?_
  refine ev_iload_n (pc' := 4) dX10_way_3 rfl rfl ?_
  replace h := qbd h; obtain ⟨y1, hy1, h⟩ := h
  refine ev_callg (pc' := 7) (st2 := [iv y1, .ref 78]) dX10_way_4 (qs_V tc_10_210 rfl rfl (cS_cls sh78) rfl) rfl rfl (eX10_areVertices (d := d + 0) hy1) rfl rfl ?_
  replace h := qbd h; obtain ⟨y2, hy2, h⟩ := h
  refine ev_callg (pc' := 10) (st2 := [iv y2.1]) dX10_way_7 (qs_V tc_10_188 rfl rfl (cS_cls sh78) rfl) rfl rfl (eX10_good (d := d + 2) hy2) rfl rfl ?_
  refine ev_ifne (pc' := 13) (tgt := 15) dX10_way_10 (by decide) rfl (x1 := wr y2.1) rfl (fun c3 => ?_) (fun c3 => ?_)
  · replace h := qit c3 h
    refine ev_iconst (pc' := 14) dX10_way_13 rfl ?_
    cases h
    exact ev_ireturn dX10_way_14 rfl rfl
  · replace h := qif' c3 h
    refine ev_iconst (pc' := 16) dX10_way_15 rfl ?_
    refine ev_istore_n (pc' := 17) (L1 := [some (.ref 78), some (iv p0), some (iv p1), some (iv 0), none, none]) dX10_way_16 rfl rfl ?_
    replace h := qbd h; obtain ⟨y9, hy9, h⟩ := h
    refine ev_wk (qLe_eq (qLe_eq (qLe_eq (qLe_eq (qLe_eq (qLe_eq qLe_nil)))))) (?_ : Ev _ _ _ [some (.ref 78), some (iv p0), some (iv p1), some (iv 0), none, none] _ _ _ _)
    refine ebX10_way_17 _ _ _ hy9 _ _ ?_
    refine ev_iconst (pc' := 47) dX10_way_46 rfl ?_
    refine ev_istore_n (pc' := 48) (L1 := [some (.ref 78), none, some (iv p1), some (iv 0), none, none]) dX10_way_47 rfl rfl ?_
    replace h := qbd h; obtain ⟨y22, hy22, h⟩ := h
    refine ev_wk (qLe_eq (qLe_eq (qLe_eq (qLe_eq (qLe_eq (qLe_eq qLe_nil)))))) (?_ : Ev _ _ _ [some (.ref 78), none, some (iv p1), some (iv 0), none, none] _ _ _ _)
    refine ebX10_way_48 _ _ _ hy22 _ _ ?_
    refine ev_aload_n (pc' := 140) dX10_way_139 rfl rfl ?_
    refine ev_getr (pc' := 143) dX10_way_140 rfl tf_10_32 sh78 rfl ?_
    refine ev_iload_n (pc' := 144) dX10_way_143 rfl rfl ?_
    replace h := qbd h; obtain ⟨x23, hx23, h⟩ := h
    refine ev_iald (pc' := 145) dX10_way_144 rfl sh85 hx23 ?_
    refine ev_bipush (pc' := 147) dX10_way_145 rfl bl_8 ?_
    refine ev_icmpne (pc' := 150) (tgt := 154) dX10_way_147 (by decide) rfl (x1 := wr x23) (y1 := 8) rfl wl_8  (fun c24 => ?_) (fun c24 => ?_)
    · replace h := qit c24 h
      refine ev_iconst (pc' := 151) dX10_way_150 rfl ?_
      refine ev_goto (pc' := 160) dX10_way_151 (by decide) ?_
      cases h
      exact ev_ireturn dX10_way_160 rfl rfl
    · replace h := qif' c24 h
      refine ev_aload_n (pc' := 155) dX10_way_154 rfl rfl ?_
      refine ev_getr (pc' := 158) dX10_way_155 rfl tf_10_32 sh78 rfl ?_
      refine ev_iload_n (pc' := 159) dX10_way_158 rfl rfl ?_
      replace h := qbd h; obtain ⟨x25, hx25, h⟩ := h
      refine ev_iald (pc' := 160) dX10_way_159 rfl sh85 hx25 ?_
      cases h
      exact ev_ireturn dX10_way_160 rfl rfl
set_option maxRecDepth 100000 in
theorem ebX10_ordersDegrees_21 {Ls t d n : Nat} {w1 : Int} {w2 : Int} : ∀ (k : Nat) (x : Int × qMu) (y : Int × qMu), lp (fun x : Int × qMu => bX10_ordersDegrees_21 n w1 w2 x.1 x.2) k x = some y → ∀ (o : qO) (s' : qSt), Ev (d + 3) mX10_ordersDegrees 57 [some (.ref 78), some (iv w1), some (iv w2), some (iv y.1)] [] (cS Ls t y.2) o s' → Ev (d + 3) mX10_ordersDegrees 21 [some (.ref 78), some (iv w1), some (iv w2), some (iv x.1)] [] (cS Ls t x.2) o s' := by
  intro k
  induction k with
  | zero => intro x y h; cases h
  | succ k ih =>
    intro x y h o s' kE
    rw [lp_s] at h
    replace h := qbd h; obtain ⟨zz, h0, h1⟩ := h
    have h : bX10_ordersDegrees_21 n w1 w2 x.1 x.2 = some zz := h0
    clear h0
    unfold bX10_ordersDegrees_21 at h
    refine ev_iload_n (pc' := 22) dX10_ordersDegrees_21 rfl rfl ?_
    refine ev_ifle (pc' := 25) (tgt := 57) dX10_ordersDegrees_22 (by decide) rfl (x1 := wr x.1) rfl (fun c4 => ?_) (fun c4 => ?_)
    · replace h := qit c4 h
      refine ev_aload_n (pc' := 26) dX10_ordersDegrees_25 rfl rfl ?_
      refine ev_getr (pc' := 29) dX10_ordersDegrees_26 rfl tf_10_35 sh78 rfl ?_
      refine ev_iload_n (pc' := 30) dX10_ordersDegrees_29 rfl rfl ?_
      refine ev_iconst (pc' := 31) dX10_ordersDegrees_30 rfl ?_
      refine ev_isub (pc' := 32) dX10_ordersDegrees_31 rfl ?_
      replace h := qbd h; obtain ⟨x5, hx5, h⟩ := h
      refine ev_iald (pc' := 33) dX10_ordersDegrees_32 rfl sh86 hx5 ?_
      refine ev_iload_n (pc' := 34) dX10_ordersDegrees_33 rfl rfl ?_
      refine ev_icmpge (pc' := 37) (tgt := 57) dX10_ordersDegrees_34 (by decide) rfl (x1 := wr x5) (y1 := wr w2) rfl rfl  (fun c6 => ?_) (fun c6 => ?_)
      · replace h := qit c6 h
        refine ev_aload_n (pc' := 38) dX10_ordersDegrees_37 rfl rfl ?_
        refine ev_getr (pc' := 41) dX10_ordersDegrees_38 rfl tf_10_35 sh78 rfl ?_
        refine ev_iload_n (pc' := 42) dX10_ordersDegrees_41 rfl rfl ?_
        refine ev_aload_n (pc' := 43) dX10_ordersDegrees_42 rfl rfl ?_
        refine ev_getr (pc' := 46) dX10_ordersDegrees_43 rfl tf_10_35 sh78 rfl ?_
        refine ev_iload_n (pc' := 47) dX10_ordersDegrees_46 rfl rfl ?_
        refine ev_iconst (pc' := 48) dX10_ordersDegrees_47 rfl ?_
        refine ev_isub (pc' := 49) dX10_ordersDegrees_48 rfl ?_
        replace h := qbd h; obtain ⟨x7, hx7, h⟩ := h
        refine ev_iald (pc' := 50) dX10_ordersDegrees_49 rfl sh86 hx7 ?_
        replace h := qbd h; obtain ⟨μ8, hμ8, h⟩ := h
        refine ev_iast (pc' := 51) dX10_ordersDegrees_50 rfl sh86 hμ8 ?_
        refine ev_iinc (pc' := 54) (x := x.1) (L1 := [some (.ref 78), some (iv w1), some (iv w2), some (iv (x.1 + (-1)))]) dX10_ordersDegrees_51 rfl rfl rfl ?_
        refine ev_goto (pc' := 21) dX10_ordersDegrees_54 (by decide) ?_
        cases h
        exact ev_wk (qLe_eq (qLe_eq (qLe_eq (qLe_eq qLe_nil)))) (ih _ _ h1 _ _ kE)
      · replace h := qif' c6 h
        cases h
        cases h1
        exact ev_wk (qLe_eq (qLe_eq (qLe_eq (qLe_eq qLe_nil)))) kE
    · replace h := qif' c4 h
      cases h
      cases h1
      exact ev_wk (qLe_eq (qLe_eq (qLe_eq (qLe_eq qLe_nil)))) kE
set_option maxRecDepth 100000 in
theorem ebX10_ordersDegrees_2 {Ls t d n : Nat} : ∀ (k : Nat) (x : Int × qMu) (y : qMu), lp (fun x : Int × qMu => bX10_ordersDegrees_2 n x.1 x.2) k x = some y → ∀ (o : qO) (s' : qSt), Ev (d + 3) mX10_ordersDegrees 70 [none, none, none, none] [] (cS Ls t y) o s' → Ev (d + 3) mX10_ordersDegrees 2 [some (.ref 78), some (iv x.1), none, none] [] (cS Ls t x.2) o s' := by
  intro k
  induction k with
  | zero => intro x y h; cases h
  | succ k ih =>
    intro x y h o s' kE
    rw [lp_s] at h
    replace h := qbd h; obtain ⟨zz, h0, h1⟩ := h
    have h : bX10_ordersDegrees_2 n x.1 x.2 = some zz := h0
    clear h0
    unfold bX10_ordersDegrees_2 at h
    refine ev_iload_n (pc' := 3) dX10_ordersDegrees_2 rfl rfl ?_
    refine ev_aload_n (pc' := 4) dX10_ordersDegrees_3 rfl rfl ?_
    refine ev_getr (pc' := 7) dX10_ordersDegrees_4 rfl tf_10_7 sh78 rfl ?_
    refine ev_iconst (pc' := 8) dX10_ordersDegrees_7 rfl ?_
    replace h := qbd h; obtain ⟨x1, hx1, h⟩ := h
    refine ev_iald (pc' := 9) dX10_ordersDegrees_8 rfl sh79 hx1 ?_
    refine ev_icmpge (pc' := 12) (tgt := 70) dX10_ordersDegrees_9 (by decide) rfl (x1 := wr x.1) (y1 := wr x1) rfl rfl  (fun c2 => ?_) (fun c2 => ?_)
    · replace h := qit c2 h
      refine ev_aload_n (pc' := 13) dX10_ordersDegrees_12 rfl rfl ?_
      refine ev_iconst (pc' := 14) dX10_ordersDegrees_13 rfl ?_
      refine ev_iload_n (pc' := 15) dX10_ordersDegrees_14 rfl rfl ?_
      replace h := qbd h; obtain ⟨y3, hy3, h⟩ := h
      refine ev_callg (pc' := 18) (st2 := [iv y3]) dX10_ordersDegrees_15 (qs_V tc_10_213 rfl rfl (cS_cls sh78) rfl) rfl rfl (eX10_degreeOf (d := d + 0) hy3) rfl rfl ?_
      refine ev_istore_n (pc' := 19) (L1 := [some (.ref 78), some (iv x.1), some (iv y3), none]) dX10_ordersDegrees_18 rfl rfl ?_
      refine ev_iload_n (pc' := 20) dX10_ordersDegrees_19 rfl rfl ?_
      refine ev_istore_n (pc' := 21) (L1 := [some (.ref 78), some (iv x.1), some (iv y3), some (iv x.1)]) dX10_ordersDegrees_20 rfl rfl ?_
      replace h := qbd h; obtain ⟨y9, hy9, h⟩ := h
      refine ev_wk (qLe_eq (qLe_eq (qLe_eq (qLe_eq qLe_nil)))) (?_ : Ev _ _ _ [some (.ref 78), some (iv x.1), some (iv y3), some (iv x.1)] _ _ _ _)
      refine ebX10_ordersDegrees_21 _ _ _ hy9 _ _ ?_
      refine ev_aload_n (pc' := 58) dX10_ordersDegrees_57 rfl rfl ?_
      refine ev_getr (pc' := 61) dX10_ordersDegrees_58 rfl tf_10_35 sh78 rfl ?_
      refine ev_iload_n (pc' := 62) dX10_ordersDegrees_61 rfl rfl ?_
      refine ev_iload_n (pc' := 63) dX10_ordersDegrees_62 rfl rfl ?_
      replace h := qbd h; obtain ⟨μ10, hμ10, h⟩ := h
      refine ev_iast (pc' := 64) dX10_ordersDegrees_63 rfl sh86 hμ10 ?_
      refine ev_iinc (pc' := 67) (x := x.1) (L1 := [some (.ref 78), some (iv (x.1 + 1)), some (iv y3), some (iv y9.1)]) dX10_ordersDegrees_64 rfl rfl rfl ?_
      refine ev_goto (pc' := 2) dX10_ordersDegrees_67 (by decide) ?_
      cases h
      exact ev_wk (qLe_eq (qLe_eq (qLe_sk (qLe_sk qLe_nil)))) (ih _ _ h1 _ _ kE)
    · replace h := qif' c2 h
      cases h
      cases h1
      exact ev_wk (qLe_sk (qLe_sk (qLe_eq (qLe_eq qLe_nil)))) kE
set_option maxRecDepth 100000 in
theorem eX10_ordersDegrees {Ls t d n : Nat} {μ : qMu} {r : qMu} (h : fX10_ordersDegrees n μ = some r) : Ev (d + 3) mX10_ordersDegrees 0 [some (.ref 78), none, none, none] [] (cS Ls t μ) (.inl none) (cS Ls t r) := by
  unfold fX10_ordersDegrees at h
  refine ev_iconst (pc' := 1) dX10_ordersDegrees_0 rfl ?_
  refine ev_istore_n (pc' := 2) (L1 := [some (.ref 78), some (iv 0), none, none]) dX10_ordersDegrees_1 rfl rfl ?_
  replace h := qbd h; obtain ⟨y11, hy11, h⟩ := h
  refine ev_wk (qLe_eq (qLe_eq (qLe_eq (qLe_eq qLe_nil)))) (?_ : Ev _ _ _ [some (.ref 78), some (iv 0), none, none] _ _ _ _)
  refine ebX10_ordersDegrees_2 _ _ _ hy11 _ _ ?_
  cases h
  exact ev_return dX10_ordersDegrees_70 rfl
set_option maxRecDepth 100000 in
theorem eX10_sorted {Ls t d n : Nat} {p0 : Int} {μ : qMu} {r : Int × qMu} (h : fX10_sorted n p0 μ = some r) : Ev (d + 4) mX10_sorted 0 [some (.ref 78), some (iv p0)] [] (cS Ls t μ) (.inl (some (iv r.1))) (cS Ls t r.2) := by
  unfold fX10_sorted at h
  refine ev_aload_n (pc' := 1) dX10_sorted_0 rfl rfl ?_
  refine ev_aload_n (pc' := 2) dX10_sorted_1 rfl rfl ?_
  refine ev_iload_n (pc' := 3) dX10_sorted_2 rfl rfl ?_
  replace h := qbd h; obtain ⟨y1, hy1, h⟩ := h
  refine ev_callg (pc' := 6) (st2 := [iv y1, .ref 78]) dX10_sorted_3 (qs_V tc_10_203 rfl rfl (cS_cls sh78) rfl) rfl rfl (eX10_isVertex (d := d + 2) hy1) rfl rfl ?_
  replace h := qbd h; obtain ⟨y2, hy2, h⟩ := h
  refine ev_callg (pc' := 9) (st2 := [iv y2.1]) dX10_sorted_6 (qs_V tc_10_188 rfl rfl (cS_cls sh78) rfl) rfl rfl (eX10_good (d := d + 3) hy2) rfl rfl ?_
  refine ev_ifne (pc' := 12) (tgt := 14) dX10_sorted_9 (by decide) rfl (x1 := wr y2.1) rfl (fun c3 => ?_) (fun c3 => ?_)
  · replace h := qit c3 h
    refine ev_iconst (pc' := 13) dX10_sorted_12 rfl ?_
    cases h
    exact ev_ireturn dX10_sorted_13 rfl rfl
  · replace h := qif' c3 h
    refine ev_aload_n (pc' := 15) dX10_sorted_14 rfl rfl ?_
    replace h := qbd h; obtain ⟨y4, hy4, h⟩ := h
    refine ev_callg (pc' := 18) (st2 := []) dX10_sorted_15 (qs_V tc_10_250 rfl rfl (cS_cls sh78) rfl) rfl rfl (eX10_ordersDegrees (d := d + 0) hy4) rfl rfl ?_
    refine ev_aload_n (pc' := 19) dX10_sorted_18 rfl rfl ?_
    refine ev_getr (pc' := 22) dX10_sorted_19 rfl tf_10_35 sh78 rfl ?_
    refine ev_iload_n (pc' := 23) dX10_sorted_22 rfl rfl ?_
    replace h := qbd h; obtain ⟨x5, hx5, h⟩ := h
    refine ev_iald (pc' := 24) dX10_sorted_23 rfl sh86 hx5 ?_
    cases h
    exact ev_ireturn dX10_sorted_24 rfl rfl
set_option maxRecDepth 100000 in
theorem ebX10_slackOf_8 {Ls t d n : Nat} {w1 : Int} {μ : qMu} : ∀ (k : Nat) (x : Int × Int) (y : Int), lp (fun x : Int × Int => bX10_slackOf_8 n w1 x.1 x.2 μ) k x = some y → ∀ (o : qO) (s' : qSt), Ev (d + 0) mX10_slackOf 52 [none, none, some (iv y), none] [] (cS Ls t μ) o s' → Ev (d + 0) mX10_slackOf 8 [some (.ref 78), some (iv w1), some (iv x.1), some (iv x.2)] [] (cS Ls t μ) o s' := by
  intro k
  induction k with
  | zero => intro x y h; cases h
  | succ k ih =>
    intro x y h o s' kE
    rw [lp_s] at h
    replace h := qbd h; obtain ⟨zz, h0, h1⟩ := h
    have h : bX10_slackOf_8 n w1 x.1 x.2 μ = some zz := h0
    clear h0
    unfold bX10_slackOf_8 at h
    refine ev_iload_n (pc' := 9) dX10_slackOf_8 rfl rfl ?_
    refine ev_aload_n (pc' := 10) dX10_slackOf_9 rfl rfl ?_
    refine ev_getr (pc' := 13) dX10_slackOf_10 rfl tf_10_7 sh78 rfl ?_
    refine ev_iconst (pc' := 14) dX10_slackOf_13 rfl ?_
    replace h := qbd h; obtain ⟨x1, hx1, h⟩ := h
    refine ev_iald (pc' := 15) dX10_slackOf_14 rfl sh79 hx1 ?_
    refine ev_icmpge (pc' := 18) (tgt := 52) dX10_slackOf_15 (by decide) rfl (x1 := wr x.2) (y1 := wr x1) rfl rfl  (fun c2 => ?_) (fun c2 => ?_)
    · replace h := qit c2 h
      refine ev_iload_n (pc' := 19) dX10_slackOf_18 rfl rfl ?_
      refine ev_iload_n (pc' := 20) dX10_slackOf_19 rfl rfl ?_
      refine ev_iload_n (pc' := 21) dX10_slackOf_20 rfl rfl ?_
      replace h := qbd h; obtain ⟨y4, hy4, h⟩ := h
      have kJ : Ev (d + 0) mX10_slackOf 44 [some (.ref 78), some (iv w1), none, some (iv x.2)] [iv y4, iv x.1] (cS Ls t μ) o s' := by
        refine ev_iadd (pc' := 45) dX10_slackOf_44 rfl ?_
        refine ev_istore_n (pc' := 46) (L1 := [some (.ref 78), some (iv w1), some (iv (x.1 + y4)), some (iv x.2)]) dX10_slackOf_45 rfl rfl ?_
        refine ev_iinc (pc' := 49) (x := x.2) (L1 := [some (.ref 78), some (iv w1), some (iv (x.1 + y4)), some (iv (x.2 + 1))]) dX10_slackOf_46 rfl rfl rfl ?_
        refine ev_goto (pc' := 8) dX10_slackOf_49 (by decide) ?_
        cases h
        exact ev_wk (qLe_eq (qLe_eq (qLe_eq (qLe_eq qLe_nil)))) (ih _ _ h1 _ _ kE)
      replace h := hy4
      clear hy4
      refine ev_icmpge (pc' := 24) (tgt := 34) dX10_slackOf_21 (by decide) rfl (x1 := wr x.2) (y1 := wr w1) rfl rfl  (fun c3 => ?_) (fun c3 => ?_)
      · replace h := qit c3 h
        refine ev_aload_n (pc' := 25) dX10_slackOf_24 rfl rfl ?_
        refine ev_getr (pc' := 28) dX10_slackOf_25 rfl tf_10_35 sh78 rfl ?_
        refine ev_iload_n (pc' := 29) dX10_slackOf_28 rfl rfl ?_
        replace h := qbd h; obtain ⟨x5, hx5, h⟩ := h
        refine ev_iald (pc' := 30) dX10_slackOf_29 rfl sh86 hx5 ?_
        refine ev_ineg (pc' := 31) dX10_slackOf_30 rfl ?_
        refine ev_goto (pc' := 44) dX10_slackOf_31 (by decide) ?_
        cases h
        exact ev_wk (qLe_eq (qLe_eq (qLe_sk (qLe_eq qLe_nil)))) kJ
      · replace h := qif' c3 h
        refine ev_iload_n (pc' := 35) dX10_slackOf_34 rfl rfl ?_
        refine ev_aload_n (pc' := 36) dX10_slackOf_35 rfl rfl ?_
        refine ev_getr (pc' := 39) dX10_slackOf_36 rfl tf_10_35 sh78 rfl ?_
        refine ev_iload_n (pc' := 40) dX10_slackOf_39 rfl rfl ?_
        replace h := qbd h; obtain ⟨x6, hx6, h⟩ := h
        refine ev_iald (pc' := 41) dX10_slackOf_40 rfl sh86 hx6 ?_
        refine ev_min (pc' := 44) dX10_slackOf_41 rfl tc_10_238 rfl ?_
        cases h
        exact ev_wk (qLe_eq (qLe_eq (qLe_sk (qLe_eq qLe_nil)))) kJ
    · replace h := qif' c2 h
      cases h
      cases h1
      exact ev_wk (qLe_sk (qLe_sk (qLe_eq (qLe_sk qLe_nil)))) kE
set_option maxRecDepth 100000 in
theorem eX10_slackOf {Ls t d n : Nat} {p0 : Int} {μ : qMu} {r : Int} (h : fX10_slackOf n p0 μ = some r) : Ev (d + 0) mX10_slackOf 0 [some (.ref 78), some (iv p0), none, none] [] (cS Ls t μ) (.inl (some (iv r))) (cS Ls t μ) := by
  unfold fX10_slackOf at h
  refine ev_iload_n (pc' := 1) dX10_slackOf_0 rfl rfl ?_
  refine ev_iload_n (pc' := 2) dX10_slackOf_1 rfl rfl ?_
  refine ev_iconst (pc' := 3) dX10_slackOf_2 rfl ?_
  refine ev_isub (pc' := 4) dX10_slackOf_3 rfl ?_
  refine ev_imul (pc' := 5) dX10_slackOf_4 rfl ?_
  refine ev_istore_n (pc' := 6) (L1 := [some (.ref 78), some (iv p0), some (iv (p0 * (p0 - 1))), none]) dX10_slackOf_5 rfl rfl ?_
  refine ev_iconst (pc' := 7) dX10_slackOf_6 rfl ?_
  refine ev_istore_n (pc' := 8) (L1 := [some (.ref 78), some (iv p0), some (iv (p0 * (p0 - 1))), some (iv 0)]) dX10_slackOf_7 rfl rfl ?_
  replace h := qbd h; obtain ⟨y7, hy7, h⟩ := h
  refine ev_wk (qLe_eq (qLe_eq (qLe_eq (qLe_eq qLe_nil)))) (?_ : Ev _ _ _ [some (.ref 78), some (iv p0), some (iv (p0 * (p0 - 1))), some (iv 0)] _ _ _ _)
  refine ebX10_slackOf_8 _ _ _ hy7 _ _ ?_
  refine ev_iload_n (pc' := 53) dX10_slackOf_52 rfl rfl ?_
  cases h
  exact ev_ireturn dX10_slackOf_53 rfl rfl
set_option maxRecDepth 100000 in
theorem eX10_slack {Ls t d n : Nat} {p0 : Int} {μ : qMu} {r : Int × qMu} (h : fX10_slack n p0 μ = some r) : Ev (d + 4) mX10_slack 0 [some (.ref 78), some (iv p0)] [] (cS Ls t μ) (.inl (some (iv r.1))) (cS Ls t r.2) := by
  unfold fX10_slack at h
  refine ev_aload_n (pc' := 1) dX10_slack_0 rfl rfl ?_
  refine ev_iload_n (pc' := 2) dX10_slack_1 rfl rfl ?_
  refine ev_iconst (pc' := 3) dX10_slack_2 rfl ?_
  refine ev_aload_n (pc' := 4) dX10_slack_3 rfl rfl ?_
  refine ev_getr (pc' := 7) dX10_slack_4 rfl tf_10_7 sh78 rfl ?_
  refine ev_iconst (pc' := 8) dX10_slack_7 rfl ?_
  replace h := qbd h; obtain ⟨x1, hx1, h⟩ := h
  refine ev_iald (pc' := 9) dX10_slack_8 rfl sh79 hx1 ?_
  replace h := qbd h; obtain ⟨y2, hy2, h⟩ := h
  refine ev_callg (pc' := 12) (st2 := [iv y2, .ref 78]) dX10_slack_9 (qs_S tc_10_128 (by decide) rfl rfl) rfl rfl (eX10_isIn (d := d + 3) hy2) rfl rfl ?_
  replace h := qbd h; obtain ⟨y3, hy3, h⟩ := h
  refine ev_callg (pc' := 15) (st2 := [iv y3.1]) dX10_slack_12 (qs_V tc_10_188 rfl rfl (cS_cls sh78) rfl) rfl rfl (eX10_good (d := d + 3) hy3) rfl rfl ?_
  refine ev_ifne (pc' := 18) (tgt := 20) dX10_slack_15 (by decide) rfl (x1 := wr y3.1) rfl (fun c4 => ?_) (fun c4 => ?_)
  · replace h := qit c4 h
    refine ev_iconst (pc' := 19) dX10_slack_18 rfl ?_
    cases h
    exact ev_ireturn dX10_slack_19 rfl rfl
  · replace h := qif' c4 h
    refine ev_aload_n (pc' := 21) dX10_slack_20 rfl rfl ?_
    replace h := qbd h; obtain ⟨y5, hy5, h⟩ := h
    refine ev_callg (pc' := 24) (st2 := []) dX10_slack_21 (qs_V tc_10_250 rfl rfl (cS_cls sh78) rfl) rfl rfl (eX10_ordersDegrees (d := d + 0) hy5) rfl rfl ?_
    refine ev_aload_n (pc' := 25) dX10_slack_24 rfl rfl ?_
    refine ev_iload_n (pc' := 26) dX10_slack_25 rfl rfl ?_
    replace h := qbd h; obtain ⟨y6, hy6, h⟩ := h
    refine ev_callg (pc' := 29) (st2 := [iv y6]) dX10_slack_26 (qs_V tc_10_253 rfl rfl (cS_cls sh78) rfl) rfl rfl (eX10_slackOf (d := d + 3) hy6) rfl rfl ?_
    cases h
    exact ev_ireturn dX10_slack_29 rfl rfl
set_option maxRecDepth 100000 in
theorem ebX10_isPossibleIn_43 {Ls t d n : Nat} {μ : qMu} : ∀ (k : Nat) (x : Int × Int) (y : Int), lp (fun x : Int × Int => bX10_isPossibleIn_43 n x.1 x.2 μ) k x = some y → ∀ (o : qO) (s' : qSt), Ev (d + 4) mX10_isPossibleIn 77 [none, none, some (iv y), none] [] (cS Ls t μ) o s' → Ev (d + 4) mX10_isPossibleIn 43 [some (.ref 78), none, some (iv x.1), some (iv x.2)] [] (cS Ls t μ) o s' := by
  intro k
  induction k with
  | zero => intro x y h; cases h
  | succ k ih =>
    intro x y h o s' kE
    rw [lp_s] at h
    replace h := qbd h; obtain ⟨zz, h0, h1⟩ := h
    have h : bX10_isPossibleIn_43 n x.1 x.2 μ = some zz := h0
    clear h0
    unfold bX10_isPossibleIn_43 at h
    refine ev_iload_n (pc' := 44) dX10_isPossibleIn_43 rfl rfl ?_
    refine ev_aload_n (pc' := 45) dX10_isPossibleIn_44 rfl rfl ?_
    refine ev_getr (pc' := 48) dX10_isPossibleIn_45 rfl tf_10_7 sh78 rfl ?_
    refine ev_iconst (pc' := 49) dX10_isPossibleIn_48 rfl ?_
    replace h := qbd h; obtain ⟨x7, hx7, h⟩ := h
    refine ev_iald (pc' := 50) dX10_isPossibleIn_49 rfl sh79 hx7 ?_
    refine ev_icmpgt (pc' := 53) (tgt := 77) dX10_isPossibleIn_50 (by decide) rfl (x1 := wr x.2) (y1 := wr x7) rfl rfl  (fun c8 => ?_) (fun c8 => ?_)
    · replace h := qit c8 h
      cases h
      cases h1
      exact ev_wk (qLe_sk (qLe_eq (qLe_eq (qLe_sk qLe_nil)))) kE
    · replace h := qif' c8 h
      refine ev_iload_n (pc' := 54) dX10_isPossibleIn_53 rfl rfl ?_
      replace h := qbd h; obtain ⟨y10, hy10, h⟩ := h
      have kJ : Ev (d + 4) mX10_isPossibleIn 70 [some (.ref 78), none, none, some (iv x.2)] [iv y10] (cS Ls t μ) o s' := by
        refine ev_istore_n (pc' := 71) (L1 := [some (.ref 78), none, some (iv y10), some (iv x.2)]) dX10_isPossibleIn_70 rfl rfl ?_
        refine ev_iinc (pc' := 74) (x := x.2) (L1 := [some (.ref 78), none, some (iv y10), some (iv (x.2 + 1))]) dX10_isPossibleIn_71 rfl rfl rfl ?_
        refine ev_goto (pc' := 43) dX10_isPossibleIn_74 (by decide) ?_
        cases h
        exact ev_wk (qLe_eq (qLe_eq (qLe_eq (qLe_eq qLe_nil)))) (ih _ _ h1 _ _ kE)
      replace h := hy10
      clear hy10
      refine ev_ifeq (pc' := 57) (tgt := 69) dX10_isPossibleIn_54 (by decide) rfl (x1 := wr x.1) rfl (fun c9 => ?_) (fun c9 => ?_)
      · replace h := qit c9 h
        refine ev_iconst (pc' := 70) dX10_isPossibleIn_69 rfl ?_
        cases h
        exact ev_wk (qLe_eq (qLe_eq (qLe_sk (qLe_eq qLe_nil)))) kJ
      · replace h := qif' c9 h
        refine ev_aload_n (pc' := 58) dX10_isPossibleIn_57 rfl rfl ?_
        refine ev_iload_n (pc' := 59) dX10_isPossibleIn_58 rfl rfl ?_
        replace h := qbd h; obtain ⟨y11, hy11, h⟩ := h
        refine ev_callg (pc' := 62) (st2 := [iv y11]) dX10_isPossibleIn_59 (qs_V tc_10_253 rfl rfl (cS_cls sh78) rfl) rfl rfl (eX10_slackOf (d := d + 3) hy11) rfl rfl ?_
        refine ev_iflt (pc' := 65) (tgt := 69) dX10_isPossibleIn_62 (by decide) rfl (x1 := wr y11) rfl (fun c12 => ?_) (fun c12 => ?_)
        · replace h := qit c12 h
          refine ev_iconst (pc' := 70) dX10_isPossibleIn_69 rfl ?_
          cases h
          exact ev_wk (qLe_eq (qLe_eq (qLe_sk (qLe_eq qLe_nil)))) kJ
        · replace h := qif' c12 h
          refine ev_iconst (pc' := 66) dX10_isPossibleIn_65 rfl ?_
          refine ev_goto (pc' := 70) dX10_isPossibleIn_66 (by decide) ?_
          cases h
          exact ev_wk (qLe_eq (qLe_eq (qLe_sk (qLe_eq qLe_nil)))) kJ
set_option maxRecDepth 100000 in
theorem eX10_isPossibleIn {Ls t d n : Nat} {p0 : Int} {μ : qMu} {r : Int × qMu} (h : fX10_isPossibleIn n p0 μ = some r) : Ev (d + 4) mX10_isPossibleIn 0 [some (.ref 78), some (iv p0), none, none] [] (cS Ls t μ) (.inl (some (iv r.1))) (cS Ls t r.2) := by
  unfold fX10_isPossibleIn at h
  refine ev_aload_n (pc' := 1) dX10_isPossibleIn_0 rfl rfl ?_
  replace h := qbd h; obtain ⟨y1, hy1, h⟩ := h
  refine ev_callg (pc' := 4) (st2 := []) dX10_isPossibleIn_1 (qs_V tc_10_250 rfl rfl (cS_cls sh78) rfl) rfl rfl (eX10_ordersDegrees (d := d + 0) hy1) rfl rfl ?_
  refine ev_iload_n (pc' := 5) dX10_isPossibleIn_4 rfl rfl ?_
  refine ev_ifne (pc' := 8) (tgt := 10) dX10_isPossibleIn_5 (by decide) rfl (x1 := wr p0) rfl (fun c2 => ?_) (fun c2 => ?_)
  · replace h := qit c2 h
    refine ev_iconst (pc' := 9) dX10_isPossibleIn_8 rfl ?_
    cases h
    exact ev_ireturn dX10_isPossibleIn_9 rfl rfl
  · replace h := qif' c2 h
    refine ev_iload_n (pc' := 11) dX10_isPossibleIn_10 rfl rfl ?_
    refine ev_iconst (pc' := 12) dX10_isPossibleIn_11 rfl ?_
    refine ev_icmpne (pc' := 15) (tgt := 39) dX10_isPossibleIn_12 (by decide) rfl (x1 := wr p0) (y1 := 1) rfl wl_1  (fun c3 => ?_) (fun c3 => ?_)
    · replace h := qit c3 h
      refine ev_iconst (pc' := 16) dX10_isPossibleIn_15 rfl ?_
      refine ev_aload_n (pc' := 17) dX10_isPossibleIn_16 rfl rfl ?_
      refine ev_getr (pc' := 20) dX10_isPossibleIn_17 rfl tf_10_35 sh78 rfl ?_
      refine ev_iconst (pc' := 21) dX10_isPossibleIn_20 rfl ?_
      replace h := qbd h; obtain ⟨x4, hx4, h⟩ := h
      refine ev_iald (pc' := 22) dX10_isPossibleIn_21 rfl sh86 hx4 ?_
      refine ev_imul (pc' := 23) dX10_isPossibleIn_22 rfl ?_
      refine ev_iconst (pc' := 24) dX10_isPossibleIn_23 rfl ?_
      refine ev_aload_n (pc' := 25) dX10_isPossibleIn_24 rfl rfl ?_
      refine ev_iconst (pc' := 26) dX10_isPossibleIn_25 rfl ?_
      replace h := qbd h; obtain ⟨y5, hy5, h⟩ := h
      refine ev_callg (pc' := 29) (st2 := [iv y5, iv 2, iv (2 * x4)]) dX10_isPossibleIn_26 (qs_V tc_10_146 rfl rfl (cS_cls sh78) rfl) rfl rfl (eX10_edgesOf (d := d + 1) hy5) rfl rfl ?_
      refine ev_imul (pc' := 30) dX10_isPossibleIn_29 rfl ?_
      refine ev_icmpgt (pc' := 33) (tgt := 37) dX10_isPossibleIn_30 (by decide) rfl (x1 := wr (2 * x4)) (y1 := wr (2 * y5)) rfl rfl  (fun c6 => ?_) (fun c6 => ?_)
      · replace h := qit c6 h
        refine ev_iconst (pc' := 38) dX10_isPossibleIn_37 rfl ?_
        cases h
        exact ev_ireturn dX10_isPossibleIn_38 rfl rfl
      · replace h := qif' c6 h
        refine ev_iconst (pc' := 34) dX10_isPossibleIn_33 rfl ?_
        refine ev_goto (pc' := 38) dX10_isPossibleIn_34 (by decide) ?_
        cases h
        exact ev_ireturn dX10_isPossibleIn_38 rfl rfl
    · replace h := qif' c3 h
      refine ev_iconst (pc' := 40) dX10_isPossibleIn_39 rfl ?_
      refine ev_istore_n (pc' := 41) (L1 := [some (.ref 78), some (iv p0), some (iv 1), none]) dX10_isPossibleIn_40 rfl rfl ?_
      refine ev_iconst (pc' := 42) dX10_isPossibleIn_41 rfl ?_
      refine ev_istore_n (pc' := 43) (L1 := [some (.ref 78), some (iv p0), some (iv 1), some (iv 1)]) dX10_isPossibleIn_42 rfl rfl ?_
      replace h := qbd h; obtain ⟨y13, hy13, h⟩ := h
      refine ev_wk (qLe_eq (qLe_sk (qLe_eq (qLe_eq qLe_nil)))) (?_ : Ev _ _ _ [some (.ref 78), none, some (iv 1), some (iv 1)] _ _ _ _)
      refine ebX10_isPossibleIn_43 _ _ _ hy13 _ _ ?_
      refine ev_iload_n (pc' := 78) dX10_isPossibleIn_77 rfl rfl ?_
      replace h := qbd h; obtain ⟨x14, hx14, h⟩ := h
      obtain ⟨ex14, nx14⟩ := qbl_n hx14
      subst ex14
      cases h
      exact ev_ireturn dX10_isPossibleIn_78 rfl nx14
set_option maxRecDepth 100000 in
theorem eX10_isPossible {Ls t d n : Nat} {p0 : Int} {μ : qMu} {r : Int × qMu} (h : fX10_isPossible n p0 μ = some r) : Ev (d + 5) mX10_isPossible 0 [some (.ref 78), some (iv p0)] [] (cS Ls t μ) (.inl (some (iv r.1))) (cS Ls t r.2) := by
  unfold fX10_isPossible at h
  refine ev_aload_n (pc' := 1) dX10_isPossible_0 rfl rfl ?_
  refine ev_iload_n (pc' := 2) dX10_isPossible_1 rfl rfl ?_
  refine ev_iconst (pc' := 3) dX10_isPossible_2 rfl ?_
  refine ev_iconst (pc' := 4) dX10_isPossible_3 rfl ?_
  replace h := qbd h; obtain ⟨y1, hy1, h⟩ := h
  refine ev_callg (pc' := 7) (st2 := [iv y1, .ref 78]) dX10_isPossible_4 (qs_S tc_10_128 (by decide) rfl rfl) rfl rfl (eX10_isIn (d := d + 4) hy1) rfl rfl ?_
  replace h := qbd h; obtain ⟨y2, hy2, h⟩ := h
  refine ev_callg (pc' := 10) (st2 := [iv y2.1]) dX10_isPossible_7 (qs_V tc_10_188 rfl rfl (cS_cls sh78) rfl) rfl rfl (eX10_good (d := d + 4) hy2) rfl rfl ?_
  refine ev_ifeq (pc' := 13) (tgt := 25) dX10_isPossible_10 (by decide) rfl (x1 := wr y2.1) rfl (fun c3 => ?_) (fun c3 => ?_)
  · replace h := qit c3 h
    refine ev_iconst (pc' := 26) dX10_isPossible_25 rfl ?_
    cases h
    exact ev_ireturn dX10_isPossible_26 rfl rfl
  · replace h := qif' c3 h
    refine ev_aload_n (pc' := 14) dX10_isPossible_13 rfl rfl ?_
    refine ev_iload_n (pc' := 15) dX10_isPossible_14 rfl rfl ?_
    replace h := qbd h; obtain ⟨y4, hy4, h⟩ := h
    refine ev_callg (pc' := 18) (st2 := [iv y4.1]) dX10_isPossible_15 (qs_V tc_10_256 rfl rfl (cS_cls sh78) rfl) rfl rfl (eX10_isPossibleIn (d := d + 0) hy4) rfl rfl ?_
    refine ev_ifeq (pc' := 21) (tgt := 25) dX10_isPossible_18 (by decide) rfl (x1 := wr y4.1) rfl (fun c5 => ?_) (fun c5 => ?_)
    · replace h := qit c5 h
      refine ev_iconst (pc' := 26) dX10_isPossible_25 rfl ?_
      cases h
      exact ev_ireturn dX10_isPossible_26 rfl rfl
    · replace h := qif' c5 h
      refine ev_iconst (pc' := 22) dX10_isPossible_21 rfl ?_
      refine ev_goto (pc' := 26) dX10_isPossible_22 (by decide) ?_
      cases h
      exact ev_ireturn dX10_isPossible_26 rfl rfl
set_option maxRecDepth 100000 in
theorem eX10_meanDegree {Ls t d n : Nat} {μ : qMu} {r : UInt64 × qMu} (h : fX10_meanDegree n μ = some r) : Ev (d + 3) mX10_meanDegree 0 [some (.ref 78)] [] (cS Ls t μ) (.inl (some (.double r.1))) (cS Ls t r.2) := by
  unfold fX10_meanDegree at h
  refine ev_aload_n (pc' := 1) dX10_meanDegree_0 rfl rfl ?_
  refine ev_iconst (pc' := 2) dX10_meanDegree_1 rfl ?_
  replace h := qbd h; obtain ⟨μ1, hμ1, h⟩ := h
  refine ev_puti (pc' := 5) dX10_meanDegree_2 rfl tf_10_54 sh78 rfl rfl (qw_9_4 _) rfl hμ1 ?_
  refine ev_iconst (pc' := 6) dX10_meanDegree_5 rfl ?_
  refine ev_aload_n (pc' := 7) dX10_meanDegree_6 rfl rfl ?_
  refine ev_iconst (pc' := 8) dX10_meanDegree_7 rfl ?_
  replace h := qbd h; obtain ⟨y2, hy2, h⟩ := h
  refine ev_callg (pc' := 11) (st2 := [iv y2, iv 2]) dX10_meanDegree_8 (qs_V tc_10_146 rfl rfl (cS_cls sh78) rfl) rfl rfl (eX10_edgesOf (d := d + 0) hy2) rfl rfl ?_
  refine ev_imul (pc' := 12) dX10_meanDegree_11 rfl ?_
  refine ev_i2d (pc' := 13) dX10_meanDegree_12 rfl ?_
  refine ev_aload_n (pc' := 14) dX10_meanDegree_13 rfl rfl ?_
  refine ev_getr (pc' := 17) dX10_meanDegree_14 rfl tf_10_7 sh78 rfl ?_
  refine ev_iconst (pc' := 18) dX10_meanDegree_17 rfl ?_
  replace h := qbd h; obtain ⟨x3, hx3, h⟩ := h
  refine ev_iald (pc' := 19) dX10_meanDegree_18 rfl sh79 hx3 ?_
  refine ev_i2d (pc' := 20) dX10_meanDegree_19 rfl ?_
  replace h := qbd h; obtain ⟨x4, hx4, h⟩ := h
  refine ev_ddiv (pc' := 21) dX10_meanDegree_20 rfl hx4 ?_
  cases h
  exact ev_dreturn dX10_meanDegree_21 rfl
set_option maxRecDepth 100000 in
theorem ebX10_neediest_4 {Ls t d n : Nat} {μ : qMu} : ∀ (k : Nat) (x : Int × Int) (y : Int), lp (fun x : Int × Int => bX10_neediest_4 n x.1 x.2 μ) k x = some y → ∀ (o : qO) (s' : qSt), Ev (d + 0) mX10_neediest 55 [none, some (iv y), none] [] (cS Ls t μ) o s' → Ev (d + 0) mX10_neediest 4 [some (.ref 78), some (iv x.1), some (iv x.2)] [] (cS Ls t μ) o s' := by
  intro k
  induction k with
  | zero => intro x y h; cases h
  | succ k ih =>
    intro x y h o s' kE
    rw [lp_s] at h
    replace h := qbd h; obtain ⟨zz, h0, h1⟩ := h
    have h : bX10_neediest_4 n x.1 x.2 μ = some zz := h0
    clear h0
    unfold bX10_neediest_4 at h
    refine ev_iload_n (pc' := 5) dX10_neediest_4 rfl rfl ?_
    refine ev_aload_n (pc' := 6) dX10_neediest_5 rfl rfl ?_
    refine ev_getr (pc' := 9) dX10_neediest_6 rfl tf_10_7 sh78 rfl ?_
    refine ev_iconst (pc' := 10) dX10_neediest_9 rfl ?_
    replace h := qbd h; obtain ⟨x1, hx1, h⟩ := h
    refine ev_iald (pc' := 11) dX10_neediest_10 rfl sh79 hx1 ?_
    refine ev_icmpge (pc' := 14) (tgt := 55) dX10_neediest_11 (by decide) rfl (x1 := wr x.2) (y1 := wr x1) rfl rfl  (fun c2 => ?_) (fun c2 => ?_)
    · replace h := qit c2 h
      refine ev_aload_n (pc' := 15) dX10_neediest_14 rfl rfl ?_
      refine ev_getr (pc' := 18) dX10_neediest_15 rfl tf_10_41 sh78 rfl ?_
      refine ev_iload_n (pc' := 19) dX10_neediest_18 rfl rfl ?_
      replace h := qbd h; obtain ⟨x3, hx3, h⟩ := h
      refine ev_bald3 (pc' := 20) dX10_neediest_19 rfl sh88 hx3 ?_
      replace h := qbd h; obtain ⟨y5, hy5, h⟩ := h
      have kJ : Ev (d + 0) mX10_neediest 49 [some (.ref 78), some (iv y5), some (iv x.2)] [] (cS Ls t μ) o s' := by
        refine ev_iinc (pc' := 52) (x := x.2) (L1 := [some (.ref 78), some (iv y5), some (iv (x.2 + 1))]) dX10_neediest_49 rfl rfl rfl ?_
        refine ev_goto (pc' := 4) dX10_neediest_52 (by decide) ?_
        cases h
        exact ev_wk (qLe_eq (qLe_eq (qLe_eq qLe_nil))) (ih _ _ h1 _ _ kE)
      replace h := hy5
      clear hy5
      refine ev_ifne (pc' := 23) (tgt := 49) dX10_neediest_20 (by decide) rfl (x1 := wr x3) rfl (fun c4 => ?_) (fun c4 => ?_)
      · replace h := qit c4 h
        refine ev_aload_n (pc' := 24) dX10_neediest_23 rfl rfl ?_
        refine ev_getr (pc' := 27) dX10_neediest_24 rfl tf_10_38 sh78 rfl ?_
        refine ev_iload_n (pc' := 28) dX10_neediest_27 rfl rfl ?_
        replace h := qbd h; obtain ⟨x6, hx6, h⟩ := h
        refine ev_iald (pc' := 29) dX10_neediest_28 rfl sh87 hx6 ?_
        refine ev_iload_n (pc' := 30) dX10_neediest_29 rfl rfl ?_
        refine ev_iconst (pc' := 31) dX10_neediest_30 rfl ?_
        replace h := qbd h; obtain ⟨y8, hy8, h⟩ := h
        have kJ : Ev (d + 0) mX10_neediest 44 [some (.ref 78), some (iv x.1), some (iv x.2)] [iv y8, iv x6] (cS Ls t μ) o s' := by
          refine ev_icmple (pc' := 47) (tgt := 49) dX10_neediest_44 (by decide) rfl (x1 := wr x6) (y1 := wr y8) rfl rfl  (fun c10 => ?_) (fun c10 => ?_)
          · replace h := qit c10 h
            refine ev_iload_n (pc' := 48) dX10_neediest_47 rfl rfl ?_
            refine ev_istore_n (pc' := 49) (L1 := [some (.ref 78), some (iv x.2), some (iv x.2)]) dX10_neediest_48 rfl rfl ?_
            cases h
            exact ev_wk (qLe_eq (qLe_eq (qLe_eq qLe_nil))) kJ
          · replace h := qif' c10 h
            cases h
            exact ev_wk (qLe_eq (qLe_eq (qLe_eq qLe_nil))) kJ
        replace h := hy8
        clear hy8
        refine ev_icmpne (pc' := 34) (tgt := 38) dX10_neediest_31 (by decide) rfl (x1 := wr x.1) (y1 := (-1)) rfl wl_m1  (fun c7 => ?_) (fun c7 => ?_)
        · replace h := qit c7 h
          refine ev_iconst (pc' := 35) dX10_neediest_34 rfl ?_
          refine ev_goto (pc' := 44) dX10_neediest_35 (by decide) ?_
          cases h
          exact ev_wk (qLe_eq (qLe_eq (qLe_eq qLe_nil))) kJ
        · replace h := qif' c7 h
          refine ev_aload_n (pc' := 39) dX10_neediest_38 rfl rfl ?_
          refine ev_getr (pc' := 42) dX10_neediest_39 rfl tf_10_38 sh78 rfl ?_
          refine ev_iload_n (pc' := 43) dX10_neediest_42 rfl rfl ?_
          replace h := qbd h; obtain ⟨x9, hx9, h⟩ := h
          refine ev_iald (pc' := 44) dX10_neediest_43 rfl sh87 hx9 ?_
          cases h
          exact ev_wk (qLe_eq (qLe_eq (qLe_eq qLe_nil))) kJ
      · replace h := qif' c4 h
        cases h
        exact ev_wk (qLe_eq (qLe_eq (qLe_eq qLe_nil))) kJ
    · replace h := qif' c2 h
      cases h
      cases h1
      exact ev_wk (qLe_sk (qLe_eq (qLe_sk qLe_nil))) kE
set_option maxRecDepth 100000 in
theorem eX10_neediest {Ls t d n : Nat} {μ : qMu} {r : Int} (h : fX10_neediest n μ = some r) : Ev (d + 0) mX10_neediest 0 [some (.ref 78), none, none] [] (cS Ls t μ) (.inl (some (iv r))) (cS Ls t μ) := by
  unfold fX10_neediest at h
  refine ev_iconst (pc' := 1) dX10_neediest_0 rfl ?_
  refine ev_istore_n (pc' := 2) (L1 := [some (.ref 78), some (iv (-1)), none]) dX10_neediest_1 rfl rfl ?_
  refine ev_iconst (pc' := 3) dX10_neediest_2 rfl ?_
  refine ev_istore_n (pc' := 4) (L1 := [some (.ref 78), some (iv (-1)), some (iv 0)]) dX10_neediest_3 rfl rfl ?_
  replace h := qbd h; obtain ⟨y11, hy11, h⟩ := h
  refine ev_wk (qLe_eq (qLe_eq (qLe_eq qLe_nil))) (?_ : Ev _ _ _ [some (.ref 78), some (iv (-1)), some (iv 0)] _ _ _ _)
  refine ebX10_neediest_4 _ _ _ hy11 _ _ ?_
  refine ev_iload_n (pc' := 56) dX10_neediest_55 rfl rfl ?_
  cases h
  exact ev_ireturn dX10_neediest_56 rfl rfl
set_option maxRecDepth 100000 in
theorem ebX10_freesAll_2 {Ls t d n : Nat} : ∀ (k : Nat) (x : Int × qMu) (y : qMu), lp (fun x : Int × qMu => bX10_freesAll_2 n x.1 x.2) k x = some y → ∀ (o : qO) (s' : qSt), Ev (d + 0) mX10_freesAll 21 [none, none] [] (cS Ls t y) o s' → Ev (d + 0) mX10_freesAll 2 [some (.ref 78), some (iv x.1)] [] (cS Ls t x.2) o s' := by
  intro k
  induction k with
  | zero => intro x y h; cases h
  | succ k ih =>
    intro x y h o s' kE
    rw [lp_s] at h
    replace h := qbd h; obtain ⟨zz, h0, h1⟩ := h
    have h : bX10_freesAll_2 n x.1 x.2 = some zz := h0
    clear h0
    unfold bX10_freesAll_2 at h
    refine ev_iload_n (pc' := 3) dX10_freesAll_2 rfl rfl ?_
    refine ev_bipush (pc' := 5) dX10_freesAll_3 rfl bl_8 ?_
    refine ev_icmpge (pc' := 8) (tgt := 21) dX10_freesAll_5 (by decide) rfl (x1 := wr x.1) (y1 := 8) rfl wl_8  (fun c1 => ?_) (fun c1 => ?_)
    · replace h := qit c1 h
      refine ev_aload_n (pc' := 9) dX10_freesAll_8 rfl rfl ?_
      refine ev_getr (pc' := 12) dX10_freesAll_9 rfl tf_10_41 sh78 rfl ?_
      refine ev_iload_n (pc' := 13) dX10_freesAll_12 rfl rfl ?_
      refine ev_iconst (pc' := 14) dX10_freesAll_13 rfl ?_
      replace h := qbd h; obtain ⟨μ2, hμ2, h⟩ := h
      refine ev_bast3 (pc' := 15) dX10_freesAll_14 rfl sh88 hμ2 ?_
      refine ev_iinc (pc' := 18) (x := x.1) (L1 := [some (.ref 78), some (iv (x.1 + 1))]) dX10_freesAll_15 rfl rfl rfl ?_
      refine ev_goto (pc' := 2) dX10_freesAll_18 (by decide) ?_
      cases h
      exact ev_wk (qLe_eq (qLe_eq qLe_nil)) (ih _ _ h1 _ _ kE)
    · replace h := qif' c1 h
      cases h
      cases h1
      exact ev_wk (qLe_sk (qLe_sk qLe_nil)) kE
set_option maxRecDepth 100000 in
theorem eX10_freesAll {Ls t d n : Nat} {μ : qMu} {r : qMu} (h : fX10_freesAll n μ = some r) : Ev (d + 0) mX10_freesAll 0 [some (.ref 78), none] [] (cS Ls t μ) (.inl none) (cS Ls t r) := by
  unfold fX10_freesAll at h
  refine ev_iconst (pc' := 1) dX10_freesAll_0 rfl ?_
  refine ev_istore_n (pc' := 2) (L1 := [some (.ref 78), some (iv 0)]) dX10_freesAll_1 rfl rfl ?_
  replace h := qbd h; obtain ⟨y3, hy3, h⟩ := h
  refine ev_wk (qLe_eq (qLe_eq qLe_nil)) (?_ : Ev _ _ _ [some (.ref 78), some (iv 0)] _ _ _ _)
  refine ebX10_freesAll_2 _ _ _ hy3 _ _ ?_
  cases h
  exact ev_return dX10_freesAll_21 rfl
set_option maxRecDepth 100000 in
theorem ebX10_joins_13 {Ls t d n : Nat} {w1 : Int} {w2 : Int} : ∀ (k : Nat) (x : Int × qMu) (y : (qMu) ⊕ (qMu)), lp (fun x : Int × qMu => bX10_joins_13 n w1 w2 x.1 x.2) k x = some y → ∀ (o : qO) (s' : qSt), (∀ b : qMu, y = .inl b → Ev (d + 2) mX10_joins 75 [none, none, none, none, none] [] (cS Ls t b) o s') → (∀ r : qMu, y = .inr r → o = (.inl none) ∧ s' = (cS Ls t r)) → Ev (d + 2) mX10_joins 13 [some (.ref 78), some (iv w1), some (iv w2), some (iv x.1), none] [] (cS Ls t x.2) o s' := by
  intro k
  induction k with
  | zero => intro x y h; cases h
  | succ k ih =>
    intro x y h o s' kE kR
    rw [lp_s] at h
    replace h := qbd h; obtain ⟨zz, h0, h1⟩ := h
    have h : bX10_joins_13 n w1 w2 x.1 x.2 = some zz := h0
    clear h0
    unfold bX10_joins_13 at h
    refine ev_iload_n (pc' := 14) dX10_joins_13 rfl rfl ?_
    refine ev_iload_n (pc' := 15) dX10_joins_14 rfl rfl ?_
    refine ev_icmpge (pc' := 18) (tgt := 75) dX10_joins_15 (by decide) rfl (x1 := wr x.1) (y1 := wr w2) rfl rfl  (fun c3 => ?_) (fun c3 => ?_)
    · replace h := qit c3 h
      refine ev_aload_n (pc' := 19) dX10_joins_18 rfl rfl ?_
      replace h := qbd h; obtain ⟨y4, hy4, h⟩ := h
      refine ev_callg (pc' := 22) (st2 := [iv y4]) dX10_joins_19 (qs_V tc_10_265 rfl rfl (cS_cls sh78) rfl) rfl rfl (eX10_neediest (d := d + 1) hy4) rfl rfl ?_
      refine ev_istore (pc' := 24) (L1 := [some (.ref 78), some (iv w1), some (iv w2), some (iv x.1), some (iv y4)]) dX10_joins_22 rfl rfl ?_
      refine ev_iload (pc' := 26) dX10_joins_24 rfl rfl ?_
      refine ev_iconst (pc' := 27) dX10_joins_26 rfl ?_
      refine ev_icmpne (pc' := 30) (tgt := 31) dX10_joins_27 (by decide) rfl (x1 := wr y4) (y1 := (-1)) rfl wl_m1  (fun c5 => ?_) (fun c5 => ?_)
      · replace h := qit c5 h
        cases h
        cases h1
        obtain ⟨rfl, rfl⟩ := kR _ rfl
        exact ev_return dX10_joins_30 rfl
      · replace h := qif' c5 h
        refine ev_aload_n (pc' := 32) dX10_joins_31 rfl rfl ?_
        refine ev_getr (pc' := 35) dX10_joins_32 rfl tf_10_41 sh78 rfl ?_
        refine ev_iload (pc' := 37) dX10_joins_35 rfl rfl ?_
        refine ev_iconst (pc' := 38) dX10_joins_37 rfl ?_
        replace h := qbd h; obtain ⟨μ6, hμ6, h⟩ := h
        refine ev_bast3 (pc' := 39) dX10_joins_38 rfl sh88 hμ6 ?_
        refine ev_aload_n (pc' := 40) dX10_joins_39 rfl rfl ?_
        refine ev_iconst (pc' := 41) dX10_joins_40 rfl ?_
        refine ev_iload_n (pc' := 42) dX10_joins_41 rfl rfl ?_
        refine ev_iload (pc' := 44) dX10_joins_42 rfl rfl ?_
        refine ev_iconst (pc' := 45) dX10_joins_44 rfl ?_
        replace h := qbd h; obtain ⟨y7, hy7, h⟩ := h
        refine ev_callg (pc' := 48) (st2 := []) dX10_joins_45 (qs_V tc_10_149 rfl rfl (cS_cls sh78) rfl) rfl rfl (eX10_adds (d := d + 0) hy7) rfl rfl ?_
        refine ev_aload_n (pc' := 49) dX10_joins_48 rfl rfl ?_
        refine ev_getr (pc' := 52) dX10_joins_49 rfl tf_10_38 sh78 rfl ?_
        refine ev_iload_n (pc' := 53) dX10_joins_52 rfl rfl ?_
        refine ev_dup2 (pc' := 54) dX10_joins_53 rfl ⟨rfl, rfl⟩ ?_
        replace h := qbd h; obtain ⟨x8, hx8, h⟩ := h
        refine ev_iald (pc' := 55) dX10_joins_54 rfl sh87 hx8 ?_
        refine ev_iconst (pc' := 56) dX10_joins_55 rfl ?_
        refine ev_isub (pc' := 57) dX10_joins_56 rfl ?_
        replace h := qbd h; obtain ⟨μ9, hμ9, h⟩ := h
        refine ev_iast (pc' := 58) dX10_joins_57 rfl sh87 hμ9 ?_
        refine ev_aload_n (pc' := 59) dX10_joins_58 rfl rfl ?_
        refine ev_getr (pc' := 62) dX10_joins_59 rfl tf_10_38 sh78 rfl ?_
        refine ev_iload (pc' := 64) dX10_joins_62 rfl rfl ?_
        refine ev_dup2 (pc' := 65) dX10_joins_64 rfl ⟨rfl, rfl⟩ ?_
        replace h := qbd h; obtain ⟨x10, hx10, h⟩ := h
        refine ev_iald (pc' := 66) dX10_joins_65 rfl sh87 hx10 ?_
        refine ev_iconst (pc' := 67) dX10_joins_66 rfl ?_
        refine ev_isub (pc' := 68) dX10_joins_67 rfl ?_
        replace h := qbd h; obtain ⟨μ11, hμ11, h⟩ := h
        refine ev_iast (pc' := 69) dX10_joins_68 rfl sh87 hμ11 ?_
        refine ev_iinc (pc' := 72) (x := x.1) (L1 := [some (.ref 78), some (iv w1), some (iv w2), some (iv (x.1 + 1)), some (iv y4)]) dX10_joins_69 rfl rfl rfl ?_
        refine ev_goto (pc' := 13) dX10_joins_72 (by decide) ?_
        cases h
        exact ev_wk (qLe_eq (qLe_eq (qLe_eq (qLe_eq (qLe_sk qLe_nil))))) (ih _ _ h1 _ _ kE kR)
    · replace h := qif' c3 h
      cases h
      cases h1
      exact ev_wk (qLe_sk (qLe_sk (qLe_sk (qLe_sk (qLe_eq qLe_nil))))) (kE _ rfl)
set_option maxRecDepth 100000 in
theorem eX10_joins {Ls t d n : Nat} {p0 : Int} {p1 : Int} {μ : qMu} {r : qMu} (h : fX10_joins n p0 p1 μ = some r) : Ev (d + 2) mX10_joins 0 [some (.ref 78), some (iv p0), some (iv p1), none, none] [] (cS Ls t μ) (.inl none) (cS Ls t r) := by
  unfold fX10_joins at h
  refine ev_aload_n (pc' := 1) dX10_joins_0 rfl rfl ?_
  replace h := qbd h; obtain ⟨y1, hy1, h⟩ := h
  refine ev_callg (pc' := 4) (st2 := []) dX10_joins_1 (qs_V tc_10_262 rfl rfl (cS_cls sh78) rfl) rfl rfl (eX10_freesAll (d := d + 1) hy1) rfl rfl ?_
  refine ev_aload_n (pc' := 5) dX10_joins_4 rfl rfl ?_
  refine ev_getr (pc' := 8) dX10_joins_5 rfl tf_10_41 sh78 rfl ?_
  refine ev_iload_n (pc' := 9) dX10_joins_8 rfl rfl ?_
  refine ev_iconst (pc' := 10) dX10_joins_9 rfl ?_
  replace h := qbd h; obtain ⟨μ2, hμ2, h⟩ := h
  refine ev_bast3 (pc' := 11) dX10_joins_10 rfl sh88 hμ2 ?_
  refine ev_iconst (pc' := 12) dX10_joins_11 rfl ?_
  refine ev_istore_n (pc' := 13) (L1 := [some (.ref 78), some (iv p0), some (iv p1), some (iv 0), none]) dX10_joins_12 rfl rfl ?_
  replace h := qbd h; obtain ⟨y12, hy12, h⟩ := h
  refine ev_wk (qLe_eq (qLe_eq (qLe_eq (qLe_eq (qLe_eq qLe_nil))))) (?_ : Ev _ _ _ [some (.ref 78), some (iv p0), some (iv p1), some (iv 0), none] _ _ _ _)
  refine ebX10_joins_13 _ _ _ hy12 _ _ ?_ ?_
  · intro b13 eb13
    subst eb13
    replace h := qel h
    cases h
    exact ev_return dX10_joins_75 rfl
  · intro r14 er14
    subst er14
    replace h := qer h
    cases h
    exact ⟨rfl, rfl⟩
set_option maxRecDepth 100000 in
theorem ebX10_realises_2 {Ls t d n : Nat} {w1 : Int} : ∀ (k : Nat) (x : Int × qMu) (y : qMu), lp (fun x : Int × qMu => bX10_realises_2 n w1 x.1 x.2) k x = some y → ∀ (o : qO) (s' : qSt), Ev (d + 3) mX10_realises 30 [some (.ref 78), some (iv w1), none] [] (cS Ls t y) o s' → Ev (d + 3) mX10_realises 2 [some (.ref 78), some (iv w1), some (iv x.1)] [] (cS Ls t x.2) o s' := by
  intro k
  induction k with
  | zero => intro x y h; cases h
  | succ k ih =>
    intro x y h o s' kE
    rw [lp_s] at h
    replace h := qbd h; obtain ⟨zz, h0, h1⟩ := h
    have h : bX10_realises_2 n w1 x.1 x.2 = some zz := h0
    clear h0
    unfold bX10_realises_2 at h
    refine ev_iload_n (pc' := 3) dX10_realises_2 rfl rfl ?_
    refine ev_aload_n (pc' := 4) dX10_realises_3 rfl rfl ?_
    refine ev_getr (pc' := 7) dX10_realises_4 rfl tf_10_7 sh78 rfl ?_
    refine ev_iconst (pc' := 8) dX10_realises_7 rfl ?_
    replace h := qbd h; obtain ⟨x1, hx1, h⟩ := h
    refine ev_iald (pc' := 9) dX10_realises_8 rfl sh79 hx1 ?_
    refine ev_icmpge (pc' := 12) (tgt := 30) dX10_realises_9 (by decide) rfl (x1 := wr x.1) (y1 := wr x1) rfl rfl  (fun c2 => ?_) (fun c2 => ?_)
    · replace h := qit c2 h
      refine ev_aload_n (pc' := 13) dX10_realises_12 rfl rfl ?_
      refine ev_getr (pc' := 16) dX10_realises_13 rfl tf_10_38 sh78 rfl ?_
      refine ev_iload_n (pc' := 17) dX10_realises_16 rfl rfl ?_
      refine ev_aload_n (pc' := 18) dX10_realises_17 rfl rfl ?_
      refine ev_iconst (pc' := 19) dX10_realises_18 rfl ?_
      refine ev_iload_n (pc' := 20) dX10_realises_19 rfl rfl ?_
      replace h := qbd h; obtain ⟨y3, hy3, h⟩ := h
      refine ev_callg (pc' := 23) (st2 := [iv y3, iv x.1, .ref 87]) dX10_realises_20 (qs_V tc_10_213 rfl rfl (cS_cls sh78) rfl) rfl rfl (eX10_degreeOf (d := d + 0) hy3) rfl rfl ?_
      replace h := qbd h; obtain ⟨μ4, hμ4, h⟩ := h
      refine ev_iast (pc' := 24) dX10_realises_23 rfl sh87 hμ4 ?_
      refine ev_iinc (pc' := 27) (x := x.1) (L1 := [some (.ref 78), some (iv w1), some (iv (x.1 + 1))]) dX10_realises_24 rfl rfl rfl ?_
      refine ev_goto (pc' := 2) dX10_realises_27 (by decide) ?_
      cases h
      exact ev_wk (qLe_eq (qLe_eq (qLe_eq qLe_nil))) (ih _ _ h1 _ _ kE)
    · replace h := qif' c2 h
      cases h
      cases h1
      exact ev_wk (qLe_eq (qLe_eq (qLe_sk qLe_nil))) kE
set_option maxRecDepth 100000 in
theorem ebX10_realises_53 {Ls t d n : Nat} {w1 : Int} : ∀ (k : Nat) (x : Int × qMu) (y : qMu), lp (fun x : Int × qMu => bX10_realises_53 n w1 x.1 x.2) k x = some y → ∀ (o : qO) (s' : qSt), Ev (d + 3) mX10_realises 90 [none, none, none] [] (cS Ls t y) o s' → Ev (d + 3) mX10_realises 53 [some (.ref 78), some (iv w1), some (iv x.1)] [] (cS Ls t x.2) o s' := by
  intro k
  induction k with
  | zero => intro x y h; cases h
  | succ k ih =>
    intro x y h o s' kE
    rw [lp_s] at h
    replace h := qbd h; obtain ⟨zz, h0, h1⟩ := h
    have h : bX10_realises_53 n w1 x.1 x.2 = some zz := h0
    clear h0
    unfold bX10_realises_53 at h
    refine ev_iload_n (pc' := 54) dX10_realises_53 rfl rfl ?_
    refine ev_iconst (pc' := 55) dX10_realises_54 rfl ?_
    refine ev_icmpeq (pc' := 58) (tgt := 90) dX10_realises_55 (by decide) rfl (x1 := wr x.1) (y1 := (-1)) rfl wl_m1  (fun c11 => ?_) (fun c11 => ?_)
    · replace h := qit c11 h
      cases h
      cases h1
      exact ev_wk (qLe_sk (qLe_sk (qLe_sk qLe_nil))) kE
    · replace h := qif' c11 h
      refine ev_aload_n (pc' := 59) dX10_realises_58 rfl rfl ?_
      refine ev_iload_n (pc' := 60) dX10_realises_59 rfl rfl ?_
      refine ev_iload_n (pc' := 61) dX10_realises_60 rfl rfl ?_
      refine ev_iconst (pc' := 62) dX10_realises_61 rfl ?_
      replace h := qbd h; obtain ⟨y13, hy13, h⟩ := h
      have kJ : Ev (d + 3) mX10_realises 75 [some (.ref 78), some (iv w1), none] [iv y13, iv x.1, .ref 78] (cS Ls t x.2) o s' := by
        replace h := qbd h; obtain ⟨y15, hy15, h⟩ := h
        refine ev_callg (pc' := 78) (st2 := []) dX10_realises_75 (qs_V tc_10_268 rfl rfl (cS_cls sh78) rfl) rfl rfl (eX10_joins (d := d + 0) hy15) rfl rfl ?_
        refine ev_aload_n (pc' := 79) dX10_realises_78 rfl rfl ?_
        replace h := qbd h; obtain ⟨y16, hy16, h⟩ := h
        refine ev_callg (pc' := 82) (st2 := []) dX10_realises_79 (qs_V tc_10_262 rfl rfl (cS_cls sh78) rfl) rfl rfl (eX10_freesAll (d := d + 2) hy16) rfl rfl ?_
        refine ev_aload_n (pc' := 83) dX10_realises_82 rfl rfl ?_
        replace h := qbd h; obtain ⟨y17, hy17, h⟩ := h
        refine ev_callg (pc' := 86) (st2 := [iv y17]) dX10_realises_83 (qs_V tc_10_265 rfl rfl (cS_cls sh78) rfl) rfl rfl (eX10_neediest (d := d + 2) hy17) rfl rfl ?_
        refine ev_istore_n (pc' := 87) (L1 := [some (.ref 78), some (iv w1), some (iv y17)]) dX10_realises_86 rfl rfl ?_
        refine ev_goto (pc' := 53) dX10_realises_87 (by decide) ?_
        cases h
        exact ev_wk (qLe_eq (qLe_eq (qLe_eq qLe_nil))) (ih _ _ h1 _ _ kE)
      replace h := hy13
      clear hy13
      refine ev_icmpne (pc' := 65) (tgt := 69) dX10_realises_62 (by decide) rfl (x1 := wr w1) (y1 := 1) rfl wl_1  (fun c12 => ?_) (fun c12 => ?_)
      · replace h := qit c12 h
        refine ev_iconst (pc' := 66) dX10_realises_65 rfl ?_
        refine ev_goto (pc' := 75) dX10_realises_66 (by decide) ?_
        cases h
        exact ev_wk (qLe_eq (qLe_eq (qLe_sk qLe_nil))) kJ
      · replace h := qif' c12 h
        refine ev_aload_n (pc' := 70) dX10_realises_69 rfl rfl ?_
        refine ev_getr (pc' := 73) dX10_realises_70 rfl tf_10_38 sh78 rfl ?_
        refine ev_iload_n (pc' := 74) dX10_realises_73 rfl rfl ?_
        replace h := qbd h; obtain ⟨x14, hx14, h⟩ := h
        refine ev_iald (pc' := 75) dX10_realises_74 rfl sh87 hx14 ?_
        cases h
        exact ev_wk (qLe_eq (qLe_eq (qLe_sk qLe_nil))) kJ
set_option maxRecDepth 100000 in
theorem eX10_realises {Ls t d n : Nat} {p0 : Int} {μ : qMu} {r : qMu} (h : fX10_realises n p0 μ = some r) : Ev (d + 3) mX10_realises 0 [some (.ref 78), some (iv p0), none] [] (cS Ls t μ) (.inl none) (cS Ls t r) := by
  unfold fX10_realises at h
  refine ev_iconst (pc' := 1) dX10_realises_0 rfl ?_
  refine ev_istore_n (pc' := 2) (L1 := [some (.ref 78), some (iv p0), some (iv 0)]) dX10_realises_1 rfl rfl ?_
  replace h := qbd h; obtain ⟨y5, hy5, h⟩ := h
  refine ev_wk (qLe_eq (qLe_eq (qLe_eq qLe_nil))) (?_ : Ev _ _ _ [some (.ref 78), some (iv p0), some (iv 0)] _ _ _ _)
  refine ebX10_realises_2 _ _ _ hy5 _ _ ?_
  refine ev_iload_n (pc' := 31) dX10_realises_30 rfl rfl ?_
  refine ev_ifne (pc' := 34) (tgt := 39) dX10_realises_31 (by decide) rfl (x1 := wr p0) rfl (fun c6 => ?_) (fun c6 => ?_)
  · replace h := qit c6 h
    refine ev_aload_n (pc' := 35) dX10_realises_34 rfl rfl ?_
    replace h := qbd h; obtain ⟨y7, hy7, h⟩ := h
    refine ev_callg (pc' := 38) (st2 := []) dX10_realises_35 (qs_V tc_10_143 rfl rfl (cS_cls sh78) rfl) rfl rfl (eX10_realisesByLoops (d := d + 0) hy7) rfl rfl ?_
    cases h
    exact ev_return dX10_realises_38 rfl
  · replace h := qif' c6 h
    refine ev_aload_n (pc' := 40) dX10_realises_39 rfl rfl ?_
    refine ev_iconst (pc' := 41) dX10_realises_40 rfl ?_
    replace h := qbd h; obtain ⟨y8, hy8, h⟩ := h
    refine ev_callg (pc' := 44) (st2 := []) dX10_realises_41 (qs_V tc_10_259 rfl rfl (cS_cls sh78) rfl) rfl rfl (eX10_empties (d := d + 2) hy8) rfl rfl ?_
    refine ev_aload_n (pc' := 45) dX10_realises_44 rfl rfl ?_
    replace h := qbd h; obtain ⟨y9, hy9, h⟩ := h
    refine ev_callg (pc' := 48) (st2 := []) dX10_realises_45 (qs_V tc_10_262 rfl rfl (cS_cls sh78) rfl) rfl rfl (eX10_freesAll (d := d + 2) hy9) rfl rfl ?_
    refine ev_aload_n (pc' := 49) dX10_realises_48 rfl rfl ?_
    replace h := qbd h; obtain ⟨y10, hy10, h⟩ := h
    refine ev_callg (pc' := 52) (st2 := [iv y10]) dX10_realises_49 (qs_V tc_10_265 rfl rfl (cS_cls sh78) rfl) rfl rfl (eX10_neediest (d := d + 2) hy10) rfl rfl ?_
    refine ev_istore_n (pc' := 53) (L1 := [some (.ref 78), some (iv p0), some (iv y10)]) dX10_realises_52 rfl rfl ?_
    replace h := qbd h; obtain ⟨y18, hy18, h⟩ := h
    refine ev_wk (qLe_eq (qLe_eq (qLe_eq qLe_nil))) (?_ : Ev _ _ _ [some (.ref 78), some (iv p0), some (iv y10)] _ _ _ _)
    refine ebX10_realises_53 _ _ _ hy18 _ _ ?_
    cases h
    exact ev_return dX10_realises_90 rfl
set_option maxRecDepth 100000 in
theorem eX10_isSamePair {Ls t d : Nat} {p0 : Int} {p1 : Int} {p2 : Int} {p3 : Int} {μ : qMu} {r : Int} (h : fX10_isSamePair p0 p1 p2 p3 μ = some r) : Ev (d + 0) mX10_isSamePair 0 [some (.ref 78), some (iv p0), some (iv p1), some (iv p2), some (iv p3)] [] (cS Ls t μ) (.inl (some (iv r))) (cS Ls t μ) := by
  unfold fX10_isSamePair at h
  refine ev_iload_n (pc' := 1) dX10_isSamePair_0 rfl rfl ?_
  refine ev_iload_n (pc' := 2) dX10_isSamePair_1 rfl rfl ?_
  refine ev_icmpne (pc' := 5) (tgt := 11) dX10_isSamePair_2 (by decide) rfl (x1 := wr p0) (y1 := wr p2) rfl rfl  (fun c1 => ?_) (fun c1 => ?_)
  · replace h := qit c1 h
    refine ev_iload_n (pc' := 6) dX10_isSamePair_5 rfl rfl ?_
    refine ev_iload (pc' := 8) dX10_isSamePair_6 rfl rfl ?_
    refine ev_icmpeq (pc' := 11) (tgt := 22) dX10_isSamePair_8 (by decide) rfl (x1 := wr p1) (y1 := wr p3) rfl rfl  (fun c2 => ?_) (fun c2 => ?_)
    · replace h := qit c2 h
      refine ev_iconst (pc' := 23) dX10_isSamePair_22 rfl ?_
      refine ev_goto (pc' := 27) dX10_isSamePair_23 (by decide) ?_
      cases h
      exact ev_ireturn dX10_isSamePair_27 rfl rfl
    · replace h := qif' c2 h
      refine ev_iload_n (pc' := 12) dX10_isSamePair_11 rfl rfl ?_
      refine ev_iload (pc' := 14) dX10_isSamePair_12 rfl rfl ?_
      refine ev_icmpne (pc' := 17) (tgt := 26) dX10_isSamePair_14 (by decide) rfl (x1 := wr p0) (y1 := wr p3) rfl rfl  (fun c3 => ?_) (fun c3 => ?_)
      · replace h := qit c3 h
        refine ev_iload_n (pc' := 18) dX10_isSamePair_17 rfl rfl ?_
        refine ev_iload_n (pc' := 19) dX10_isSamePair_18 rfl rfl ?_
        refine ev_icmpne (pc' := 22) (tgt := 26) dX10_isSamePair_19 (by decide) rfl (x1 := wr p1) (y1 := wr p2) rfl rfl  (fun c4 => ?_) (fun c4 => ?_)
        · replace h := qit c4 h
          refine ev_iconst (pc' := 23) dX10_isSamePair_22 rfl ?_
          refine ev_goto (pc' := 27) dX10_isSamePair_23 (by decide) ?_
          cases h
          exact ev_ireturn dX10_isSamePair_27 rfl rfl
        · replace h := qif' c4 h
          refine ev_iconst (pc' := 27) dX10_isSamePair_26 rfl ?_
          cases h
          exact ev_ireturn dX10_isSamePair_27 rfl rfl
      · replace h := qif' c3 h
        refine ev_iconst (pc' := 27) dX10_isSamePair_26 rfl ?_
        cases h
        exact ev_ireturn dX10_isSamePair_27 rfl rfl
  · replace h := qif' c1 h
    refine ev_iload_n (pc' := 12) dX10_isSamePair_11 rfl rfl ?_
    refine ev_iload (pc' := 14) dX10_isSamePair_12 rfl rfl ?_
    refine ev_icmpne (pc' := 17) (tgt := 26) dX10_isSamePair_14 (by decide) rfl (x1 := wr p0) (y1 := wr p3) rfl rfl  (fun c5 => ?_) (fun c5 => ?_)
    · replace h := qit c5 h
      refine ev_iload_n (pc' := 18) dX10_isSamePair_17 rfl rfl ?_
      refine ev_iload_n (pc' := 19) dX10_isSamePair_18 rfl rfl ?_
      refine ev_icmpne (pc' := 22) (tgt := 26) dX10_isSamePair_19 (by decide) rfl (x1 := wr p1) (y1 := wr p2) rfl rfl  (fun c6 => ?_) (fun c6 => ?_)
      · replace h := qit c6 h
        refine ev_iconst (pc' := 23) dX10_isSamePair_22 rfl ?_
        refine ev_goto (pc' := 27) dX10_isSamePair_23 (by decide) ?_
        cases h
        exact ev_ireturn dX10_isSamePair_27 rfl rfl
      · replace h := qif' c6 h
        refine ev_iconst (pc' := 27) dX10_isSamePair_26 rfl ?_
        cases h
        exact ev_ireturn dX10_isSamePair_27 rfl rfl
    · replace h := qif' c5 h
      refine ev_iconst (pc' := 27) dX10_isSamePair_26 rfl ?_
      cases h
      exact ev_ireturn dX10_isSamePair_27 rfl rfl
set_option maxRecDepth 100000 in
theorem eX10_wouldDouble {Ls t d : Nat} {p0 : Int} {p1 : Int} {p2 : Int} {p3 : Int} {μ : qMu} {r : Int × qMu} (h : fX10_wouldDouble p0 p1 p2 p3 μ = some r) : Ev (d + 2) mX10_wouldDouble 0 [some (.ref 78), some (iv p0), some (iv p1), some (iv p2), some (iv p3), none] [] (cS Ls t μ) (.inl (some (iv r.1))) (cS Ls t r.2) := by
  unfold fX10_wouldDouble at h
  refine ev_aload_n (pc' := 1) dX10_wouldDouble_0 rfl rfl ?_
  refine ev_iconst (pc' := 2) dX10_wouldDouble_1 rfl ?_
  refine ev_iload_n (pc' := 3) dX10_wouldDouble_2 rfl rfl ?_
  refine ev_iload_n (pc' := 4) dX10_wouldDouble_3 rfl rfl ?_
  refine ev_iconst (pc' := 5) dX10_wouldDouble_4 rfl ?_
  replace h := qbd h; obtain ⟨y1, hy1, h⟩ := h
  refine ev_callg (pc' := 8) (st2 := []) dX10_wouldDouble_5 (qs_V tc_10_149 rfl rfl (cS_cls sh78) rfl) rfl rfl (eX10_adds (d := d + 0) hy1) rfl rfl ?_
  refine ev_aload_n (pc' := 9) dX10_wouldDouble_8 rfl rfl ?_
  refine ev_iconst (pc' := 10) dX10_wouldDouble_9 rfl ?_
  refine ev_iload_n (pc' := 11) dX10_wouldDouble_10 rfl rfl ?_
  refine ev_iload (pc' := 13) dX10_wouldDouble_11 rfl rfl ?_
  refine ev_iconst (pc' := 14) dX10_wouldDouble_13 rfl ?_
  replace h := qbd h; obtain ⟨y2, hy2, h⟩ := h
  refine ev_callg (pc' := 17) (st2 := []) dX10_wouldDouble_14 (qs_V tc_10_149 rfl rfl (cS_cls sh78) rfl) rfl rfl (eX10_adds (d := d + 0) hy2) rfl rfl ?_
  refine ev_aload_n (pc' := 18) dX10_wouldDouble_17 rfl rfl ?_
  refine ev_iconst (pc' := 19) dX10_wouldDouble_18 rfl ?_
  refine ev_iload_n (pc' := 20) dX10_wouldDouble_19 rfl rfl ?_
  refine ev_iload_n (pc' := 21) dX10_wouldDouble_20 rfl rfl ?_
  replace h := qbd h; obtain ⟨y3, hy3, h⟩ := h
  refine ev_callg (pc' := 24) (st2 := [iv y3]) dX10_wouldDouble_21 (qs_V tc_10_68 rfl rfl (cS_cls sh78) rfl) rfl rfl (eX10_many (d := d + 0) hy3) rfl rfl ?_
  replace h := qbd h; obtain ⟨y5, hy5, h⟩ := h
  have kJ : Ev (d + 2) mX10_wouldDouble 55 [some (.ref 78), some (iv p0), some (iv p1), some (iv p2), some (iv p3), none] [iv y5] (cS Ls t y2) (.inl (some (iv r.1))) (cS Ls t r.2) := by
    refine ev_istore (pc' := 57) (L1 := [some (.ref 78), some (iv p0), some (iv p1), some (iv p2), some (iv p3), some (iv y5)]) dX10_wouldDouble_55 rfl rfl ?_
    refine ev_aload_n (pc' := 58) dX10_wouldDouble_57 rfl rfl ?_
    refine ev_iconst (pc' := 59) dX10_wouldDouble_58 rfl ?_
    refine ev_iload_n (pc' := 60) dX10_wouldDouble_59 rfl rfl ?_
    refine ev_iload_n (pc' := 61) dX10_wouldDouble_60 rfl rfl ?_
    refine ev_iconst (pc' := 62) dX10_wouldDouble_61 rfl ?_
    replace h := qbd h; obtain ⟨y10, hy10, h⟩ := h
    refine ev_callg (pc' := 65) (st2 := []) dX10_wouldDouble_62 (qs_V tc_10_149 rfl rfl (cS_cls sh78) rfl) rfl rfl (eX10_adds (d := d + 0) hy10) rfl rfl ?_
    refine ev_aload_n (pc' := 66) dX10_wouldDouble_65 rfl rfl ?_
    refine ev_iconst (pc' := 67) dX10_wouldDouble_66 rfl ?_
    refine ev_iload_n (pc' := 68) dX10_wouldDouble_67 rfl rfl ?_
    refine ev_iload (pc' := 70) dX10_wouldDouble_68 rfl rfl ?_
    refine ev_iconst (pc' := 71) dX10_wouldDouble_70 rfl ?_
    replace h := qbd h; obtain ⟨y11, hy11, h⟩ := h
    refine ev_callg (pc' := 74) (st2 := []) dX10_wouldDouble_71 (qs_V tc_10_149 rfl rfl (cS_cls sh78) rfl) rfl rfl (eX10_adds (d := d + 0) hy11) rfl rfl ?_
    refine ev_iload (pc' := 76) dX10_wouldDouble_74 rfl rfl ?_
    replace h := qbd h; obtain ⟨x12, hx12, h⟩ := h
    obtain ⟨ex12, nx12⟩ := qbl_n hx12
    subst ex12
    cases h
    exact ev_ireturn dX10_wouldDouble_76 rfl nx12
  replace h := hy5
  clear hy5
  refine ev_ifgt (pc' := 27) (tgt := 50) dX10_wouldDouble_24 (by decide) rfl (x1 := wr y3) rfl (fun c4 => ?_) (fun c4 => ?_)
  · replace h := qit c4 h
    refine ev_iconst (pc' := 51) dX10_wouldDouble_50 rfl ?_
    refine ev_goto (pc' := 55) dX10_wouldDouble_51 (by decide) ?_
    cases h
    exact ev_wk (qLe_eq (qLe_eq (qLe_eq (qLe_eq (qLe_eq (qLe_eq qLe_nil)))))) kJ
  · replace h := qif' c4 h
    refine ev_aload_n (pc' := 28) dX10_wouldDouble_27 rfl rfl ?_
    refine ev_iconst (pc' := 29) dX10_wouldDouble_28 rfl ?_
    refine ev_iload_n (pc' := 30) dX10_wouldDouble_29 rfl rfl ?_
    refine ev_iload (pc' := 32) dX10_wouldDouble_30 rfl rfl ?_
    replace h := qbd h; obtain ⟨y6, hy6, h⟩ := h
    refine ev_callg (pc' := 35) (st2 := [iv y6]) dX10_wouldDouble_32 (qs_V tc_10_68 rfl rfl (cS_cls sh78) rfl) rfl rfl (eX10_many (d := d + 0) hy6) rfl rfl ?_
    refine ev_ifgt (pc' := 38) (tgt := 50) dX10_wouldDouble_35 (by decide) rfl (x1 := wr y6) rfl (fun c7 => ?_) (fun c7 => ?_)
    · replace h := qit c7 h
      refine ev_iconst (pc' := 51) dX10_wouldDouble_50 rfl ?_
      refine ev_goto (pc' := 55) dX10_wouldDouble_51 (by decide) ?_
      cases h
      exact ev_wk (qLe_eq (qLe_eq (qLe_eq (qLe_eq (qLe_eq (qLe_eq qLe_nil)))))) kJ
    · replace h := qif' c7 h
      refine ev_aload_n (pc' := 39) dX10_wouldDouble_38 rfl rfl ?_
      refine ev_iload_n (pc' := 40) dX10_wouldDouble_39 rfl rfl ?_
      refine ev_iload_n (pc' := 41) dX10_wouldDouble_40 rfl rfl ?_
      refine ev_iload_n (pc' := 42) dX10_wouldDouble_41 rfl rfl ?_
      refine ev_iload (pc' := 44) dX10_wouldDouble_42 rfl rfl ?_
      replace h := qbd h; obtain ⟨y8, hy8, h⟩ := h
      refine ev_callg (pc' := 47) (st2 := [iv y8]) dX10_wouldDouble_44 (qs_V tc_10_271 rfl rfl (cS_cls sh78) rfl) rfl rfl (eX10_isSamePair (d := d + 1) hy8) rfl rfl ?_
      refine ev_ifeq (pc' := 50) (tgt := 54) dX10_wouldDouble_47 (by decide) rfl (x1 := wr y8) rfl (fun c9 => ?_) (fun c9 => ?_)
      · replace h := qit c9 h
        refine ev_iconst (pc' := 55) dX10_wouldDouble_54 rfl ?_
        cases h
        exact ev_wk (qLe_eq (qLe_eq (qLe_eq (qLe_eq (qLe_eq (qLe_eq qLe_nil)))))) kJ
      · replace h := qif' c9 h
        refine ev_iconst (pc' := 51) dX10_wouldDouble_50 rfl ?_
        refine ev_goto (pc' := 55) dX10_wouldDouble_51 (by decide) ?_
        cases h
        exact ev_wk (qLe_eq (qLe_eq (qLe_eq (qLe_eq (qLe_eq (qLe_eq qLe_nil)))))) kJ
set_option maxRecDepth 100000 in
theorem eX10_reasonBy {Ls t d : Nat} {p0 : Int} {p1 : Int} {p2 : Int} {p3 : Int} {p4 : Int} {μ : qMu} {r : Int × qMu} (h : fX10_reasonBy p0 p1 p2 p3 p4 μ = some r) : Ev (d + 3) mX10_reasonBy 0 [some (.ref 78), some (iv p0), some (iv p1), some (iv p2), some (iv p3), some (iv p4)] [] (cS Ls t μ) (.inl (some (iv r.1))) (cS Ls t r.2) := by
  unfold fX10_reasonBy at h
  refine ev_aload_n (pc' := 1) dX10_reasonBy_0 rfl rfl ?_
  refine ev_iconst (pc' := 2) dX10_reasonBy_1 rfl ?_
  refine ev_iload_n (pc' := 3) dX10_reasonBy_2 rfl rfl ?_
  refine ev_iload_n (pc' := 4) dX10_reasonBy_3 rfl rfl ?_
  replace h := qbd h; obtain ⟨y1, hy1, h⟩ := h
  refine ev_callg (pc' := 7) (st2 := [iv y1]) dX10_reasonBy_4 (qs_V tc_10_68 rfl rfl (cS_cls sh78) rfl) rfl rfl (eX10_many (d := d + 1) hy1) rfl rfl ?_
  refine ev_ifne (pc' := 10) (tgt := 12) dX10_reasonBy_7 (by decide) rfl (x1 := wr y1) rfl (fun c2 => ?_) (fun c2 => ?_)
  · replace h := qit c2 h
    refine ev_iconst (pc' := 11) dX10_reasonBy_10 rfl ?_
    cases h
    exact ev_ireturn dX10_reasonBy_11 rfl rfl
  · replace h := qif' c2 h
    refine ev_aload_n (pc' := 13) dX10_reasonBy_12 rfl rfl ?_
    refine ev_iconst (pc' := 14) dX10_reasonBy_13 rfl ?_
    refine ev_iload (pc' := 16) dX10_reasonBy_14 rfl rfl ?_
    refine ev_iload (pc' := 18) dX10_reasonBy_16 rfl rfl ?_
    replace h := qbd h; obtain ⟨y3, hy3, h⟩ := h
    refine ev_callg (pc' := 21) (st2 := [iv y3]) dX10_reasonBy_18 (qs_V tc_10_68 rfl rfl (cS_cls sh78) rfl) rfl rfl (eX10_many (d := d + 1) hy3) rfl rfl ?_
    refine ev_aload_n (pc' := 22) dX10_reasonBy_21 rfl rfl ?_
    refine ev_iload_n (pc' := 23) dX10_reasonBy_22 rfl rfl ?_
    refine ev_iload_n (pc' := 24) dX10_reasonBy_23 rfl rfl ?_
    refine ev_iload (pc' := 26) dX10_reasonBy_24 rfl rfl ?_
    refine ev_iload (pc' := 28) dX10_reasonBy_26 rfl rfl ?_
    replace h := qbd h; obtain ⟨y4, hy4, h⟩ := h
    refine ev_callg (pc' := 31) (st2 := [iv y4, iv y3]) dX10_reasonBy_28 (qs_V tc_10_271 rfl rfl (cS_cls sh78) rfl) rfl rfl (eX10_isSamePair (d := d + 2) hy4) rfl rfl ?_
    have k6 : ∀ j7 : Int, j7 = (if wr y4 = 0 then 0 else 1) → Ev (d + 3) mX10_reasonBy 39 [some (.ref 78), some (iv p0), some (iv p1), some (iv p2), some (iv p3), some (iv p4)] [iv j7, iv y3] (cS Ls t μ) (.inl (some (iv r.1))) (cS Ls t r.2) := by
      intro j7 ej7
      subst ej7
      refine ev_isub (pc' := 40) dX10_reasonBy_39 rfl ?_
      refine ev_iconst (pc' := 41) dX10_reasonBy_40 rfl ?_
      refine ev_icmpge (pc' := 44) (tgt := 46) dX10_reasonBy_41 (by decide) rfl (x1 := wr (y3 - (if wr y4 = 0 then 0 else 1))) (y1 := 1) rfl wl_1  (fun c8 => ?_) (fun c8 => ?_)
      · replace h := qit c8 h
        refine ev_iconst (pc' := 45) dX10_reasonBy_44 rfl ?_
        cases h
        exact ev_ireturn dX10_reasonBy_45 rfl rfl
      · replace h := qif' c8 h
        refine ev_iload_n (pc' := 47) dX10_reasonBy_46 rfl rfl ?_
        refine ev_iload (pc' := 49) dX10_reasonBy_47 rfl rfl ?_
        refine ev_icmpeq (pc' := 52) (tgt := 58) dX10_reasonBy_49 (by decide) rfl (x1 := wr p1) (y1 := wr p4) rfl rfl  (fun c9 => ?_) (fun c9 => ?_)
        · replace h := qit c9 h
          refine ev_iconst (pc' := 59) dX10_reasonBy_58 rfl ?_
          cases h
          exact ev_ireturn dX10_reasonBy_59 rfl rfl
        · replace h := qif' c9 h
          refine ev_iload_n (pc' := 53) dX10_reasonBy_52 rfl rfl ?_
          refine ev_iload (pc' := 55) dX10_reasonBy_53 rfl rfl ?_
          refine ev_icmpne (pc' := 58) (tgt := 60) dX10_reasonBy_55 (by decide) rfl (x1 := wr p2) (y1 := wr p3) rfl rfl  (fun c10 => ?_) (fun c10 => ?_)
          · replace h := qit c10 h
            refine ev_iconst (pc' := 59) dX10_reasonBy_58 rfl ?_
            cases h
            exact ev_ireturn dX10_reasonBy_59 rfl rfl
          · replace h := qif' c10 h
            refine ev_iload_n (pc' := 61) dX10_reasonBy_60 rfl rfl ?_
            refine ev_ifle (pc' := 64) (tgt := 78) dX10_reasonBy_61 (by decide) rfl (x1 := wr p0) rfl (fun c11 => ?_) (fun c11 => ?_)
            · replace h := qit c11 h
              refine ev_iload_n (pc' := 65) dX10_reasonBy_64 rfl rfl ?_
              refine ev_iload (pc' := 67) dX10_reasonBy_65 rfl rfl ?_
              refine ev_icmpeq (pc' := 70) (tgt := 76) dX10_reasonBy_67 (by decide) rfl (x1 := wr p1) (y1 := wr p3) rfl rfl  (fun c12 => ?_) (fun c12 => ?_)
              · replace h := qit c12 h
                refine ev_iconst (pc' := 77) dX10_reasonBy_76 rfl ?_
                cases h
                exact ev_ireturn dX10_reasonBy_77 rfl rfl
              · replace h := qif' c12 h
                refine ev_iload_n (pc' := 71) dX10_reasonBy_70 rfl rfl ?_
                refine ev_iload (pc' := 73) dX10_reasonBy_71 rfl rfl ?_
                refine ev_icmpne (pc' := 76) (tgt := 78) dX10_reasonBy_73 (by decide) rfl (x1 := wr p2) (y1 := wr p4) rfl rfl  (fun c13 => ?_) (fun c13 => ?_)
                · replace h := qit c13 h
                  refine ev_iconst (pc' := 77) dX10_reasonBy_76 rfl ?_
                  cases h
                  exact ev_ireturn dX10_reasonBy_77 rfl rfl
                · replace h := qif' c13 h
                  refine ev_iload_n (pc' := 79) dX10_reasonBy_78 rfl rfl ?_
                  refine ev_iconst (pc' := 80) dX10_reasonBy_79 rfl ?_
                  refine ev_icmpne (pc' := 83) (tgt := 100) dX10_reasonBy_80 (by decide) rfl (x1 := wr p0) (y1 := 2) rfl wl_2  (fun c14 => ?_) (fun c14 => ?_)
                  · replace h := qit c14 h
                    refine ev_aload_n (pc' := 84) dX10_reasonBy_83 rfl rfl ?_
                    refine ev_iload_n (pc' := 85) dX10_reasonBy_84 rfl rfl ?_
                    refine ev_iload_n (pc' := 86) dX10_reasonBy_85 rfl rfl ?_
                    refine ev_iload (pc' := 88) dX10_reasonBy_86 rfl rfl ?_
                    refine ev_iload (pc' := 90) dX10_reasonBy_88 rfl rfl ?_
                    replace h := qbd h; obtain ⟨y15, hy15, h⟩ := h
                    refine ev_callg (pc' := 93) (st2 := [iv y15.1]) dX10_reasonBy_90 (qs_V tc_10_275 rfl rfl (cS_cls sh78) rfl) rfl rfl (eX10_wouldDouble (d := d + 0) hy15) rfl rfl ?_
                    refine ev_ifeq (pc' := 96) (tgt := 100) dX10_reasonBy_93 (by decide) rfl (x1 := wr y15.1) rfl (fun c16 => ?_) (fun c16 => ?_)
                    · replace h := qit c16 h
                      refine ev_iconst (pc' := 101) dX10_reasonBy_100 rfl ?_
                      cases h
                      exact ev_ireturn dX10_reasonBy_101 rfl rfl
                    · replace h := qif' c16 h
                      refine ev_iconst (pc' := 97) dX10_reasonBy_96 rfl ?_
                      refine ev_goto (pc' := 101) dX10_reasonBy_97 (by decide) ?_
                      cases h
                      exact ev_ireturn dX10_reasonBy_101 rfl rfl
                  · replace h := qif' c14 h
                    refine ev_iconst (pc' := 101) dX10_reasonBy_100 rfl ?_
                    cases h
                    exact ev_ireturn dX10_reasonBy_101 rfl rfl
            · replace h := qif' c11 h
              refine ev_iload_n (pc' := 79) dX10_reasonBy_78 rfl rfl ?_
              refine ev_iconst (pc' := 80) dX10_reasonBy_79 rfl ?_
              refine ev_icmpne (pc' := 83) (tgt := 100) dX10_reasonBy_80 (by decide) rfl (x1 := wr p0) (y1 := 2) rfl wl_2  (fun c17 => ?_) (fun c17 => ?_)
              · replace h := qit c17 h
                refine ev_aload_n (pc' := 84) dX10_reasonBy_83 rfl rfl ?_
                refine ev_iload_n (pc' := 85) dX10_reasonBy_84 rfl rfl ?_
                refine ev_iload_n (pc' := 86) dX10_reasonBy_85 rfl rfl ?_
                refine ev_iload (pc' := 88) dX10_reasonBy_86 rfl rfl ?_
                refine ev_iload (pc' := 90) dX10_reasonBy_88 rfl rfl ?_
                replace h := qbd h; obtain ⟨y18, hy18, h⟩ := h
                refine ev_callg (pc' := 93) (st2 := [iv y18.1]) dX10_reasonBy_90 (qs_V tc_10_275 rfl rfl (cS_cls sh78) rfl) rfl rfl (eX10_wouldDouble (d := d + 0) hy18) rfl rfl ?_
                refine ev_ifeq (pc' := 96) (tgt := 100) dX10_reasonBy_93 (by decide) rfl (x1 := wr y18.1) rfl (fun c19 => ?_) (fun c19 => ?_)
                · replace h := qit c19 h
                  refine ev_iconst (pc' := 101) dX10_reasonBy_100 rfl ?_
                  cases h
                  exact ev_ireturn dX10_reasonBy_101 rfl rfl
                · replace h := qif' c19 h
                  refine ev_iconst (pc' := 97) dX10_reasonBy_96 rfl ?_
                  refine ev_goto (pc' := 101) dX10_reasonBy_97 (by decide) ?_
                  cases h
                  exact ev_ireturn dX10_reasonBy_101 rfl rfl
              · replace h := qif' c17 h
                refine ev_iconst (pc' := 101) dX10_reasonBy_100 rfl ?_
                cases h
                exact ev_ireturn dX10_reasonBy_101 rfl rfl
    refine ev_ifeq (pc' := 34) (tgt := 38) dX10_reasonBy_31 (by decide) rfl (x1 := wr y4) rfl (fun c5 => ?_) (fun c5 => ?_)
    · skip
      refine ev_iconst (pc' := 39) dX10_reasonBy_38 rfl ?_
      exact ev_wk (qLe_eq (qLe_eq (qLe_eq (qLe_eq (qLe_eq (qLe_eq qLe_nil)))))) (k6 _ (qet c5 rfl))
    · skip
      refine ev_iconst (pc' := 35) dX10_reasonBy_34 rfl ?_
      refine ev_goto (pc' := 39) dX10_reasonBy_35 (by decide) ?_
      exact ev_wk (qLe_eq (qLe_eq (qLe_eq (qLe_eq (qLe_eq (qLe_eq qLe_nil)))))) (k6 _ (qef c5 rfl))
set_option maxRecDepth 100000 in
theorem eX10_switches {Ls t d : Nat} {p0 : Int} {p1 : Int} {p2 : Int} {p3 : Int} {μ : qMu} {r : qMu} (h : fX10_switches p0 p1 p2 p3 μ = some r) : Ev (d + 2) mX10_switches 0 [some (.ref 78), some (iv p0), some (iv p1), some (iv p2), some (iv p3)] [] (cS Ls t μ) (.inl none) (cS Ls t r) := by
  unfold fX10_switches at h
  refine ev_aload_n (pc' := 1) dX10_switches_0 rfl rfl ?_
  refine ev_iconst (pc' := 2) dX10_switches_1 rfl ?_
  refine ev_iload_n (pc' := 3) dX10_switches_2 rfl rfl ?_
  refine ev_iload_n (pc' := 4) dX10_switches_3 rfl rfl ?_
  refine ev_iconst (pc' := 5) dX10_switches_4 rfl ?_
  replace h := qbd h; obtain ⟨y1, hy1, h⟩ := h
  refine ev_callg (pc' := 8) (st2 := []) dX10_switches_5 (qs_V tc_10_149 rfl rfl (cS_cls sh78) rfl) rfl rfl (eX10_adds (d := d + 0) hy1) rfl rfl ?_
  refine ev_aload_n (pc' := 9) dX10_switches_8 rfl rfl ?_
  refine ev_iconst (pc' := 10) dX10_switches_9 rfl ?_
  refine ev_iload_n (pc' := 11) dX10_switches_10 rfl rfl ?_
  refine ev_iload (pc' := 13) dX10_switches_11 rfl rfl ?_
  refine ev_iconst (pc' := 14) dX10_switches_13 rfl ?_
  replace h := qbd h; obtain ⟨y2, hy2, h⟩ := h
  refine ev_callg (pc' := 17) (st2 := []) dX10_switches_14 (qs_V tc_10_149 rfl rfl (cS_cls sh78) rfl) rfl rfl (eX10_adds (d := d + 0) hy2) rfl rfl ?_
  refine ev_aload_n (pc' := 18) dX10_switches_17 rfl rfl ?_
  refine ev_iconst (pc' := 19) dX10_switches_18 rfl ?_
  refine ev_iload_n (pc' := 20) dX10_switches_19 rfl rfl ?_
  refine ev_iload_n (pc' := 21) dX10_switches_20 rfl rfl ?_
  refine ev_iconst (pc' := 22) dX10_switches_21 rfl ?_
  replace h := qbd h; obtain ⟨y3, hy3, h⟩ := h
  refine ev_callg (pc' := 25) (st2 := []) dX10_switches_22 (qs_V tc_10_149 rfl rfl (cS_cls sh78) rfl) rfl rfl (eX10_adds (d := d + 0) hy3) rfl rfl ?_
  refine ev_aload_n (pc' := 26) dX10_switches_25 rfl rfl ?_
  refine ev_iconst (pc' := 27) dX10_switches_26 rfl ?_
  refine ev_iload_n (pc' := 28) dX10_switches_27 rfl rfl ?_
  refine ev_iload (pc' := 30) dX10_switches_28 rfl rfl ?_
  refine ev_iconst (pc' := 31) dX10_switches_30 rfl ?_
  replace h := qbd h; obtain ⟨y4, hy4, h⟩ := h
  refine ev_callg (pc' := 34) (st2 := []) dX10_switches_31 (qs_V tc_10_149 rfl rfl (cS_cls sh78) rfl) rfl rfl (eX10_adds (d := d + 0) hy4) rfl rfl ?_
  cases h
  exact ev_return dX10_switches_34 rfl
set_option maxRecDepth 100000 in
theorem eX10_takesBack {Ls t d : Nat} {p0 : Int} {p1 : Int} {p2 : Int} {p3 : Int} {μ : qMu} {r : qMu} (h : fX10_takesBack p0 p1 p2 p3 μ = some r) : Ev (d + 2) mX10_takesBack 0 [some (.ref 78), some (iv p0), some (iv p1), some (iv p2), some (iv p3)] [] (cS Ls t μ) (.inl none) (cS Ls t r) := by
  unfold fX10_takesBack at h
  refine ev_aload_n (pc' := 1) dX10_takesBack_0 rfl rfl ?_
  refine ev_iconst (pc' := 2) dX10_takesBack_1 rfl ?_
  refine ev_iload_n (pc' := 3) dX10_takesBack_2 rfl rfl ?_
  refine ev_iload_n (pc' := 4) dX10_takesBack_3 rfl rfl ?_
  refine ev_iconst (pc' := 5) dX10_takesBack_4 rfl ?_
  replace h := qbd h; obtain ⟨y1, hy1, h⟩ := h
  refine ev_callg (pc' := 8) (st2 := []) dX10_takesBack_5 (qs_V tc_10_149 rfl rfl (cS_cls sh78) rfl) rfl rfl (eX10_adds (d := d + 0) hy1) rfl rfl ?_
  refine ev_aload_n (pc' := 9) dX10_takesBack_8 rfl rfl ?_
  refine ev_iconst (pc' := 10) dX10_takesBack_9 rfl ?_
  refine ev_iload_n (pc' := 11) dX10_takesBack_10 rfl rfl ?_
  refine ev_iload (pc' := 13) dX10_takesBack_11 rfl rfl ?_
  refine ev_iconst (pc' := 14) dX10_takesBack_13 rfl ?_
  replace h := qbd h; obtain ⟨y2, hy2, h⟩ := h
  refine ev_callg (pc' := 17) (st2 := []) dX10_takesBack_14 (qs_V tc_10_149 rfl rfl (cS_cls sh78) rfl) rfl rfl (eX10_adds (d := d + 0) hy2) rfl rfl ?_
  refine ev_aload_n (pc' := 18) dX10_takesBack_17 rfl rfl ?_
  refine ev_iconst (pc' := 19) dX10_takesBack_18 rfl ?_
  refine ev_iload_n (pc' := 20) dX10_takesBack_19 rfl rfl ?_
  refine ev_iload_n (pc' := 21) dX10_takesBack_20 rfl rfl ?_
  refine ev_iconst (pc' := 22) dX10_takesBack_21 rfl ?_
  replace h := qbd h; obtain ⟨y3, hy3, h⟩ := h
  refine ev_callg (pc' := 25) (st2 := []) dX10_takesBack_22 (qs_V tc_10_149 rfl rfl (cS_cls sh78) rfl) rfl rfl (eX10_adds (d := d + 0) hy3) rfl rfl ?_
  refine ev_aload_n (pc' := 26) dX10_takesBack_25 rfl rfl ?_
  refine ev_iconst (pc' := 27) dX10_takesBack_26 rfl ?_
  refine ev_iload_n (pc' := 28) dX10_takesBack_27 rfl rfl ?_
  refine ev_iload (pc' := 30) dX10_takesBack_28 rfl rfl ?_
  refine ev_iconst (pc' := 31) dX10_takesBack_30 rfl ?_
  replace h := qbd h; obtain ⟨y4, hy4, h⟩ := h
  refine ev_callg (pc' := 34) (st2 := []) dX10_takesBack_31 (qs_V tc_10_149 rfl rfl (cS_cls sh78) rfl) rfl rfl (eX10_adds (d := d + 0) hy4) rfl rfl ?_
  cases h
  exact ev_return dX10_takesBack_34 rfl
set_option maxRecDepth 100000 in
theorem eX10_codeOf {Ls t d : Nat} {p0 : Int} {p1 : Int} {p2 : Int} {p3 : Int} {μ : qMu} {r : Int} (h : fX10_codeOf p0 p1 p2 p3 μ = some r) : Ev (d + 0) mX10_codeOf 0 [some (iv p0), some (iv p1), some (iv p2), some (iv p3)] [] (cS Ls t μ) (.inl (some (iv r))) (cS Ls t μ) := by
  unfold fX10_codeOf at h
  refine ev_iload_n (pc' := 1) dX10_codeOf_0 rfl rfl ?_
  refine ev_bipush (pc' := 3) dX10_codeOf_1 rfl bl_8 ?_
  refine ev_imul (pc' := 4) dX10_codeOf_3 rfl ?_
  refine ev_iload_n (pc' := 5) dX10_codeOf_4 rfl rfl ?_
  refine ev_iadd (pc' := 6) dX10_codeOf_5 rfl ?_
  refine ev_bipush (pc' := 8) dX10_codeOf_6 rfl bl_8 ?_
  refine ev_imul (pc' := 9) dX10_codeOf_8 rfl ?_
  refine ev_iload_n (pc' := 10) dX10_codeOf_9 rfl rfl ?_
  refine ev_iadd (pc' := 11) dX10_codeOf_10 rfl ?_
  refine ev_bipush (pc' := 13) dX10_codeOf_11 rfl bl_8 ?_
  refine ev_imul (pc' := 14) dX10_codeOf_13 rfl ?_
  refine ev_iload_n (pc' := 15) dX10_codeOf_14 rfl rfl ?_
  refine ev_iadd (pc' := 16) dX10_codeOf_15 rfl ?_
  cases h
  exact ev_ireturn dX10_codeOf_16 rfl rfl
set_option maxRecDepth 100000 in
theorem eX10_partOf {Ls t d : Nat} {p0 : Int} {p1 : Int} {μ : qMu} {r : Int} (h : fX10_partOf p0 p1 μ = some r) : Ev (d + 0) mX10_partOf 0 [some (iv p0), some (iv p1)] [] (cS Ls t μ) (.inl (some (iv r))) (cS Ls t μ) := by
  unfold fX10_partOf at h
  refine ev_iload_n (pc' := 1) dX10_partOf_0 rfl rfl ?_
  refine ev_bipush (pc' := 3) dX10_partOf_1 rfl bl_9 ?_
  refine ev_iconst (pc' := 4) dX10_partOf_3 rfl ?_
  refine ev_iload_n (pc' := 5) dX10_partOf_4 rfl rfl ?_
  refine ev_imul (pc' := 6) dX10_partOf_5 rfl ?_
  refine ev_isub (pc' := 7) dX10_partOf_6 rfl ?_
  refine ev_ishr (pc' := 8) dX10_partOf_7 rfl ?_
  refine ev_bipush (pc' := 10) dX10_partOf_8 rfl bl_7 ?_
  refine ev_iand (pc' := 11) dX10_partOf_10 rfl ?_
  cases h
  exact ev_ireturn dX10_partOf_11 rfl rfl
set_option maxRecDepth 100000 in
theorem eX10_switchesBy {Ls t d : Nat} {p0 : Int} {μ : qMu} {r : qMu} (h : fX10_switchesBy p0 μ = some r) : Ev (d + 3) mX10_switchesBy 0 [some (.ref 78), some (iv p0)] [] (cS Ls t μ) (.inl none) (cS Ls t r) := by
  unfold fX10_switchesBy at h
  refine ev_aload_n (pc' := 1) dX10_switchesBy_0 rfl rfl ?_
  refine ev_iload_n (pc' := 2) dX10_switchesBy_1 rfl rfl ?_
  refine ev_iconst (pc' := 3) dX10_switchesBy_2 rfl ?_
  replace h := qbd h; obtain ⟨y1, hy1, h⟩ := h
  refine ev_callg (pc' := 6) (st2 := [iv y1, .ref 78]) dX10_switchesBy_3 (qs_S tc_10_278 (by decide) rfl rfl) rfl rfl (eX10_partOf (d := d + 2) hy1) rfl rfl ?_
  refine ev_iload_n (pc' := 7) dX10_switchesBy_6 rfl rfl ?_
  refine ev_iconst (pc' := 8) dX10_switchesBy_7 rfl ?_
  replace h := qbd h; obtain ⟨y2, hy2, h⟩ := h
  refine ev_callg (pc' := 11) (st2 := [iv y2, iv y1, .ref 78]) dX10_switchesBy_8 (qs_S tc_10_278 (by decide) rfl rfl) rfl rfl (eX10_partOf (d := d + 2) hy2) rfl rfl ?_
  refine ev_iload_n (pc' := 12) dX10_switchesBy_11 rfl rfl ?_
  refine ev_iconst (pc' := 13) dX10_switchesBy_12 rfl ?_
  replace h := qbd h; obtain ⟨y3, hy3, h⟩ := h
  refine ev_callg (pc' := 16) (st2 := [iv y3, iv y2, iv y1, .ref 78]) dX10_switchesBy_13 (qs_S tc_10_278 (by decide) rfl rfl) rfl rfl (eX10_partOf (d := d + 2) hy3) rfl rfl ?_
  refine ev_iload_n (pc' := 17) dX10_switchesBy_16 rfl rfl ?_
  refine ev_iconst (pc' := 18) dX10_switchesBy_17 rfl ?_
  replace h := qbd h; obtain ⟨y4, hy4, h⟩ := h
  refine ev_callg (pc' := 21) (st2 := [iv y4, iv y3, iv y2, iv y1, .ref 78]) dX10_switchesBy_18 (qs_S tc_10_278 (by decide) rfl rfl) rfl rfl (eX10_partOf (d := d + 2) hy4) rfl rfl ?_
  replace h := qbd h; obtain ⟨y5, hy5, h⟩ := h
  refine ev_callg (pc' := 24) (st2 := []) dX10_switchesBy_21 (qs_V tc_10_281 rfl rfl (cS_cls sh78) rfl) rfl rfl (eX10_switches (d := d + 0) hy5) rfl rfl ?_
  cases h
  exact ev_return dX10_switchesBy_24 rfl
set_option maxRecDepth 100000 in
theorem eX10_takesBackBy {Ls t d : Nat} {p0 : Int} {μ : qMu} {r : qMu} (h : fX10_takesBackBy p0 μ = some r) : Ev (d + 3) mX10_takesBackBy 0 [some (.ref 78), some (iv p0)] [] (cS Ls t μ) (.inl none) (cS Ls t r) := by
  unfold fX10_takesBackBy at h
  refine ev_aload_n (pc' := 1) dX10_takesBackBy_0 rfl rfl ?_
  refine ev_iload_n (pc' := 2) dX10_takesBackBy_1 rfl rfl ?_
  refine ev_iconst (pc' := 3) dX10_takesBackBy_2 rfl ?_
  replace h := qbd h; obtain ⟨y1, hy1, h⟩ := h
  refine ev_callg (pc' := 6) (st2 := [iv y1, .ref 78]) dX10_takesBackBy_3 (qs_S tc_10_278 (by decide) rfl rfl) rfl rfl (eX10_partOf (d := d + 2) hy1) rfl rfl ?_
  refine ev_iload_n (pc' := 7) dX10_takesBackBy_6 rfl rfl ?_
  refine ev_iconst (pc' := 8) dX10_takesBackBy_7 rfl ?_
  replace h := qbd h; obtain ⟨y2, hy2, h⟩ := h
  refine ev_callg (pc' := 11) (st2 := [iv y2, iv y1, .ref 78]) dX10_takesBackBy_8 (qs_S tc_10_278 (by decide) rfl rfl) rfl rfl (eX10_partOf (d := d + 2) hy2) rfl rfl ?_
  refine ev_iload_n (pc' := 12) dX10_takesBackBy_11 rfl rfl ?_
  refine ev_iconst (pc' := 13) dX10_takesBackBy_12 rfl ?_
  replace h := qbd h; obtain ⟨y3, hy3, h⟩ := h
  refine ev_callg (pc' := 16) (st2 := [iv y3, iv y2, iv y1, .ref 78]) dX10_takesBackBy_13 (qs_S tc_10_278 (by decide) rfl rfl) rfl rfl (eX10_partOf (d := d + 2) hy3) rfl rfl ?_
  refine ev_iload_n (pc' := 17) dX10_takesBackBy_16 rfl rfl ?_
  refine ev_iconst (pc' := 18) dX10_takesBackBy_17 rfl ?_
  replace h := qbd h; obtain ⟨y4, hy4, h⟩ := h
  refine ev_callg (pc' := 21) (st2 := [iv y4, iv y3, iv y2, iv y1, .ref 78]) dX10_takesBackBy_18 (qs_S tc_10_278 (by decide) rfl rfl) rfl rfl (eX10_partOf (d := d + 2) hy4) rfl rfl ?_
  replace h := qbd h; obtain ⟨y5, hy5, h⟩ := h
  refine ev_callg (pc' := 24) (st2 := []) dX10_takesBackBy_21 (qs_V tc_10_284 rfl rfl (cS_cls sh78) rfl) rfl rfl (eX10_takesBack (d := d + 0) hy5) rfl rfl ?_
  cases h
  exact ev_return dX10_takesBackBy_24 rfl
set_option maxRecDepth 100000 in
theorem eX10_isFirstOf {Ls t d : Nat} {p0 : Int} {p1 : Int} {p2 : Int} {p3 : Int} {μ : qMu} {r : Int} (h : fX10_isFirstOf p0 p1 p2 p3 μ = some r) : Ev (d + 1) mX10_isFirstOf 0 [some (iv p0), some (iv p1), some (iv p2), some (iv p3), none] [] (cS Ls t μ) (.inl (some (iv r))) (cS Ls t μ) := by
  unfold fX10_isFirstOf at h
  refine ev_iload_n (pc' := 1) dX10_isFirstOf_0 rfl rfl ?_
  refine ev_iload_n (pc' := 2) dX10_isFirstOf_1 rfl rfl ?_
  refine ev_iload_n (pc' := 3) dX10_isFirstOf_2 rfl rfl ?_
  refine ev_iload_n (pc' := 4) dX10_isFirstOf_3 rfl rfl ?_
  replace h := qbd h; obtain ⟨y1, hy1, h⟩ := h
  refine ev_callg (pc' := 7) (st2 := [iv y1]) dX10_isFirstOf_4 (qs_S tc_10_287 (by decide) rfl rfl) rfl rfl (eX10_codeOf (d := d + 0) hy1) rfl rfl ?_
  refine ev_istore (pc' := 9) (L1 := [some (iv p0), some (iv p1), some (iv p2), some (iv p3), some (iv y1)]) dX10_isFirstOf_7 rfl rfl ?_
  refine ev_iload (pc' := 11) dX10_isFirstOf_9 rfl rfl ?_
  refine ev_iload_n (pc' := 12) dX10_isFirstOf_11 rfl rfl ?_
  refine ev_iload_n (pc' := 13) dX10_isFirstOf_12 rfl rfl ?_
  refine ev_iload_n (pc' := 14) dX10_isFirstOf_13 rfl rfl ?_
  refine ev_iload_n (pc' := 15) dX10_isFirstOf_14 rfl rfl ?_
  replace h := qbd h; obtain ⟨y2, hy2, h⟩ := h
  refine ev_callg (pc' := 18) (st2 := [iv y2, iv y1]) dX10_isFirstOf_15 (qs_S tc_10_287 (by decide) rfl rfl) rfl rfl (eX10_codeOf (d := d + 0) hy2) rfl rfl ?_
  refine ev_icmpgt (pc' := 21) (tgt := 49) dX10_isFirstOf_18 (by decide) rfl (x1 := wr y1) (y1 := wr y2) rfl rfl  (fun c3 => ?_) (fun c3 => ?_)
  · replace h := qit c3 h
    refine ev_iconst (pc' := 50) dX10_isFirstOf_49 rfl ?_
    cases h
    exact ev_ireturn dX10_isFirstOf_50 rfl rfl
  · replace h := qif' c3 h
    refine ev_iload (pc' := 23) dX10_isFirstOf_21 rfl rfl ?_
    refine ev_iload_n (pc' := 24) dX10_isFirstOf_23 rfl rfl ?_
    refine ev_iload_n (pc' := 25) dX10_isFirstOf_24 rfl rfl ?_
    refine ev_iload_n (pc' := 26) dX10_isFirstOf_25 rfl rfl ?_
    refine ev_iload_n (pc' := 27) dX10_isFirstOf_26 rfl rfl ?_
    replace h := qbd h; obtain ⟨y4, hy4, h⟩ := h
    refine ev_callg (pc' := 30) (st2 := [iv y4, iv y1]) dX10_isFirstOf_27 (qs_S tc_10_287 (by decide) rfl rfl) rfl rfl (eX10_codeOf (d := d + 0) hy4) rfl rfl ?_
    refine ev_icmpgt (pc' := 33) (tgt := 49) dX10_isFirstOf_30 (by decide) rfl (x1 := wr y1) (y1 := wr y4) rfl rfl  (fun c5 => ?_) (fun c5 => ?_)
    · replace h := qit c5 h
      refine ev_iconst (pc' := 50) dX10_isFirstOf_49 rfl ?_
      cases h
      exact ev_ireturn dX10_isFirstOf_50 rfl rfl
    · replace h := qif' c5 h
      refine ev_iload (pc' := 35) dX10_isFirstOf_33 rfl rfl ?_
      refine ev_iload_n (pc' := 36) dX10_isFirstOf_35 rfl rfl ?_
      refine ev_iload_n (pc' := 37) dX10_isFirstOf_36 rfl rfl ?_
      refine ev_iload_n (pc' := 38) dX10_isFirstOf_37 rfl rfl ?_
      refine ev_iload_n (pc' := 39) dX10_isFirstOf_38 rfl rfl ?_
      replace h := qbd h; obtain ⟨y6, hy6, h⟩ := h
      refine ev_callg (pc' := 42) (st2 := [iv y6, iv y1]) dX10_isFirstOf_39 (qs_S tc_10_287 (by decide) rfl rfl) rfl rfl (eX10_codeOf (d := d + 0) hy6) rfl rfl ?_
      refine ev_icmpgt (pc' := 45) (tgt := 49) dX10_isFirstOf_42 (by decide) rfl (x1 := wr y1) (y1 := wr y6) rfl rfl  (fun c7 => ?_) (fun c7 => ?_)
      · replace h := qit c7 h
        refine ev_iconst (pc' := 50) dX10_isFirstOf_49 rfl ?_
        cases h
        exact ev_ireturn dX10_isFirstOf_50 rfl rfl
      · replace h := qif' c7 h
        refine ev_iconst (pc' := 46) dX10_isFirstOf_45 rfl ?_
        refine ev_goto (pc' := 50) dX10_isFirstOf_46 (by decide) ?_
        cases h
        exact ev_ireturn dX10_isFirstOf_50 rfl rfl
