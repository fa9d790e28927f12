theorem bl_m100 : (Int8.ofInt (-100)).toInt32 = Int32.ofInt (-100) := by decide
theorem bl_m10 : (Int8.ofInt (-10)).toInt32 = Int32.ofInt (-10) := by decide
theorem bl_m9 : (Int8.ofInt (-9)).toInt32 = Int32.ofInt (-9) := by decide
theorem bl_m7 : (Int8.ofInt (-7)).toInt32 = Int32.ofInt (-7) := by decide
theorem bl_m3 : (Int8.ofInt (-3)).toInt32 = Int32.ofInt (-3) := by decide
theorem bl_m2 : (Int8.ofInt (-2)).toInt32 = Int32.ofInt (-2) := by decide
theorem bl_6 : (Int8.ofInt 6).toInt32 = Int32.ofInt 6 := by decide
theorem bl_8 : (Int8.ofInt 8).toInt32 = Int32.ofInt 8 := by decide
theorem bl_9 : (Int8.ofInt 9).toInt32 = Int32.ofInt 9 := by decide
theorem bl_10 : (Int8.ofInt 10).toInt32 = Int32.ofInt 10 := by decide
theorem bl_12 : (Int8.ofInt 12).toInt32 = Int32.ofInt 12 := by decide
theorem bl_16 : (Int8.ofInt 16).toInt32 = Int32.ofInt 16 := by decide
theorem bl_20 : (Int8.ofInt 20).toInt32 = Int32.ofInt 20 := by decide
theorem bl_24 : (Int8.ofInt 24).toInt32 = Int32.ofInt 24 := by decide
theorem bl_32 : (Int8.ofInt 32).toInt32 = Int32.ofInt 32 := by decide
theorem bl_45 : (Int8.ofInt 45).toInt32 = Int32.ofInt 45 := by decide
theorem bl_48 : (Int8.ofInt 48).toInt32 = Int32.ofInt 48 := by decide
theorem bl_57 : (Int8.ofInt 57).toInt32 = Int32.ofInt 57 := by decide
theorem bl_59 : (Int8.ofInt 59).toInt32 = Int32.ofInt 59 := by decide
theorem bl_97 : (Int8.ofInt 97).toInt32 = Int32.ofInt 97 := by decide
theorem bl_100 : (Int8.ofInt 100).toInt32 = Int32.ofInt 100 := by decide
theorem bl_122 : (Int8.ofInt 122).toInt32 = Int32.ofInt 122 := by decide
theorem sl_255 : (Int16.ofInt 255).toInt32 = Int32.ofInt 255 := by decide
theorem sl_400 : (Int16.ofInt 400).toInt32 = Int32.ofInt 400 := by decide
theorem sl_1000 : (Int16.ofInt 1000).toInt32 = Int32.ofInt 1000 := by decide
theorem sl_7919 : (Int16.ofInt 7919).toInt32 = Int32.ofInt 7919 := by decide
theorem zl_2 : Int32.ofInt 2 ≠ 0 := by decide
theorem zl_100 : Int32.ofInt 100 ≠ 0 := by decide
theorem zl_1000 : Int32.ofInt 1000 ≠ 0 := by decide
theorem wl_m100 : wr (-100) = (-100) := by decide
theorem wl_m9 : wr (-9) = (-9) := by decide
theorem wl_m7 : wr (-7) = (-7) := by decide
theorem wl_m1 : wr (-1) = (-1) := by decide
theorem wl_0 : wr 0 = 0 := by decide
theorem wl_1 : wr 1 = 1 := by decide
theorem wl_2 : wr 2 = 2 := by decide
theorem wl_3 : wr 3 = 3 := by decide
theorem wl_4 : wr 4 = 4 := by decide
theorem wl_8 : wr 8 = 8 := by decide
theorem wl_10 : wr 10 = 10 := by decide
theorem wl_12 : wr 12 = 12 := by decide
theorem wl_16 : wr 16 = 16 := by decide
theorem wl_32 : wr 32 = 32 := by decide
theorem wl_48 : wr 48 = 48 := by decide
theorem wl_57 : wr 57 = 57 := by decide
theorem wl_59 : wr 59 = 59 := by decide
theorem wl_64 : wr 64 = 64 := by decide
theorem wl_97 : wr 97 = 97 := by decide
theorem wl_122 : wr 122 = 122 := by decide
theorem wl_400 : wr 400 = 400 := by decide
theorem wl_2147483639 : wr 2147483639 = 2147483639 := by decide
theorem wl_2147483647 : wr 2147483647 = 2147483647 := by decide
theorem qw_0_1 (M : qM) : qwr M 0 1 = true := rfl
theorem qw_0_2 (M : qM) : qwr M 0 2 = true := rfl
theorem qw_1_3 (M : qM) : qwr M 1 3 = true := rfl
theorem qw_1_4 (M : qM) : qwr M 1 4 = true := rfl
theorem qw_3_2 (M : qM) : qwr M 3 2 = true := rfl
theorem qw_4_4 (M : qM) : qwr M 4 4 = true := rfl
theorem qw_4_5 (M : qM) : qwr M 4 5 = true := rfl
theorem qw_4_6 (M : qM) : qwr M 4 6 = true := rfl
theorem qw_4_7 (M : qM) : qwr M 4 7 = true := rfl
theorem qw_4_8 (M : qM) : qwr M 4 8 = true := rfl
theorem qw_4_9 (M : qM) : qwr M 4 9 = true := rfl
theorem qw_4_10 (M : qM) : qwr M 4 10 = true := rfl
theorem qw_4_11 (M : qM) : qwr M 4 11 = true := rfl
theorem qw_4_12 (M : qM) : qwr M 4 12 = true := rfl
theorem qw_5_3 (M : qM) : qwr M 5 3 = true := rfl
theorem qw_5_4 (M : qM) : qwr M 5 4 = true := rfl
theorem qw_8_11 (M : qM) : qwr M 8 11 = true := rfl
theorem qw_9_1 (M : qM) : qwr M 9 1 = true := rfl
theorem qw_9_2 (M : qM) : qwr M 9 2 = true := rfl
theorem qw_9_3 (M : qM) : qwr M 9 3 = true := rfl
theorem qh_L_isBad_2_1 : qhan mL_isBad 2 1 [(0, 15, 16, 192)] = some 16 := by decide +kernel
theorem qh_L_isNoEdge_13_2 : qhan mL_isNoEdge 13 2 [(0, 44, 45, 197)] = some 45 := by decide +kernel
theorem qh_L_isNoVertex_4_0 : qhan mL_isNoVertex 4 0 [(0, 17, 18, 187)] = some 18 := by decide +kernel
theorem ev_astore {d : Nat} {M : qM} {pc pc' : Nat} {L L1 : qLo} {st : List Value} {s s' : qSt} {o : qO} {k : Nat} {x : Nat} (hd : decode M.2.2.1 pc = .ok (.astore k, 2)) (hp : pc + 2 = pc') (hL : qs1 L k (.ref x) = some L1) (kk : Ev d M pc' L1 st s o s') : Ev d M pc L (.ref x :: st) s o s' := by
  subst hp
  refine ev_one hd (fun L' h => ?_) kk
  obtain ⟨L1', h1, h2⟩ := qLe_st1 h hL
  refine ⟨L1', ?_, h2⟩
  dsimp only [qStep]
  try dsimp only
  rw [h1]
  rfl
theorem gP80 {i : Int} {b : Nat} (h : qLa qR80 i = some b) : qShp[b]? = some (1, 0, 6, []) := by
  unfold qLa at h
  split at h
  · have hm : some b ∈ qR80 := by
      rw [List.getD_eq_getElem?_getD] at h
      cases hq : qR80[i.toNat]? with
      | none => rw [hq] at h; cases h
      | some q => rw [hq] at h; have h : q = some b := h; rw [← h]; exact List.mem_of_getElem? hq
    have ha : ∀ q ∈ qR80, ∃ g, q = some g ∧ qShp[g]? = some (1, 0, 6, []) := by
      unfold qR80
      simp only [List.forall_mem_cons]
      exact ⟨⟨_, rfl, sh81⟩, ⟨_, rfl, sh82⟩, ⟨_, rfl, sh83⟩, ⟨_, rfl, sh84⟩, ⟨_, rfl, sh85⟩, ⟨_, rfl, sh86⟩, fun _ h => absurd h List.not_mem_nil⟩
    obtain ⟨g, e, hg⟩ := ha _ hm
    cases e
    exact hg
  · cases h
theorem gP33 {i : Int} {b : Nat} (h : qLa qR33 i = some b) : gG b := by
  unfold qLa at h
  split at h
  · have hm : some b ∈ qR33 := by
      rw [List.getD_eq_getElem?_getD] at h
      cases hq : qR33[i.toNat]? with
      | none => rw [hq] at h; cases h
      | some q => rw [hq] at h; have h : q = some b := h; rw [← h]; exact List.mem_of_getElem? hq
    have ha : ∀ q ∈ qR33, ∃ g, q = some g ∧ gG g := by
      unfold qR33
      simp only [List.forall_mem_cons]
      exact ⟨⟨_, rfl, gG36⟩, ⟨_, rfl, gG40⟩, ⟨_, rfl, gG44⟩, ⟨_, rfl, gG48⟩, ⟨_, rfl, gG52⟩, ⟨_, rfl, gG56⟩, ⟨_, rfl, gG60⟩, ⟨_, rfl, gG64⟩, ⟨_, rfl, gG68⟩, ⟨_, rfl, gG72⟩, fun _ h => absurd h List.not_mem_nil⟩
    obtain ⟨g, e, hg⟩ := ha _ hm
    cases e
    exact hg
  · cases h
theorem gP34 {i : Int} {b : Nat} (h : qLa qR34 i = some b) : gG b := by
  unfold qLa at h
  split at h
  · have hm : some b ∈ qR34 := by
      rw [List.getD_eq_getElem?_getD] at h
      cases hq : qR34[i.toNat]? with
      | none => rw [hq] at h; cases h
      | some q => rw [hq] at h; have h : q = some b := h; rw [← h]; exact List.mem_of_getElem? hq
    have ha : ∀ q ∈ qR34, ∃ g, q = some g ∧ gG g := by
      unfold qR34
      simp only [List.forall_mem_cons]
      exact ⟨⟨_, rfl, gG38⟩, ⟨_, rfl, gG42⟩, ⟨_, rfl, gG46⟩, ⟨_, rfl, gG50⟩, ⟨_, rfl, gG54⟩, ⟨_, rfl, gG58⟩, ⟨_, rfl, gG62⟩, ⟨_, rfl, gG66⟩, ⟨_, rfl, gG70⟩, ⟨_, rfl, gG74⟩, fun _ h => absurd h List.not_mem_nil⟩
    obtain ⟨g, e, hg⟩ := ha _ hm
    cases e
    exact hg
  · cases h
set_option maxRecDepth 100000 in
theorem eX5_hasRoom {Ls t d : Nat} {μ : qMu} {r : Int} (h : fX5_hasRoom μ = some r) : Ev (d + 0) mX5_hasRoom 0 [some (.ref 1)] [] (cS Ls t μ) (.inl (some (iv r))) (cS Ls t μ) := by
  unfold fX5_hasRoom at h
  refine ev_aload_n (pc' := 1) dX5_hasRoom_0 rfl rfl ?_
  refine ev_geti (pc' := 4) (ki := 5) dX5_hasRoom_1 rfl tf_5_36 sh1 rfl rfl ?_
  refine ev_bipush (pc' := 6) dX5_hasRoom_4 rfl bl_20 ?_
  refine ev_iadd (pc' := 7) dX5_hasRoom_6 rfl ?_
  refine ev_sipush (pc' := 10) dX5_hasRoom_7 rfl sl_400 ?_
  refine ev_icmpgt (pc' := 13) (tgt := 17) dX5_hasRoom_10 (by decide) rfl (x1 := wr ((rd μ 1 5) + 20)) (y1 := 400) rfl wl_400  (fun c1 => ?_) (fun c1 => ?_)
  · replace h := qit c1 h
    refine ev_iconst (pc' := 18) dX5_hasRoom_17 rfl ?_
    cases h
    exact ev_ireturn dX5_hasRoom_18 rfl rfl
  · replace h := qif' c1 h
    refine ev_iconst (pc' := 14) dX5_hasRoom_13 rfl ?_
    refine ev_goto (pc' := 18) dX5_hasRoom_14 (by decide) ?_
    cases h
    exact ev_ireturn dX5_hasRoom_18 rfl rfl
set_option maxRecDepth 100000 in
theorem ebX5_append_3 {Ls t d n : Nat} {w1 : Int} : ∀ (k : Nat) (x : Int × qMu) (y : qMu), lp (fun x : Int × qMu => bX5_append_3 n w1 x.1 x.2) k x = some y → ∀ (o : qO) (s' : qSt), Ev (d + 0) mX5_append 46 [none, none, none] [] (cS Ls t y) o s' → Ev (d + 0) mX5_append 3 [some (.ref 1), some (iv w1), some (iv x.1)] [] (cS Ls t x.2) o s' := by
  intro k
  induction k with
  | zero => intro x y h; cases h
  | succ k ih =>
    intro x y h o s' kE
    rw [lp_s] at h
    replace h := qbd h; obtain ⟨zz, h0, h1⟩ := h
    have h : bX5_append_3 n w1 x.1 x.2 = some zz := h0
    clear h0
    unfold bX5_append_3 at h
    refine ev_iload_n (pc' := 4) dX5_append_3 rfl rfl ?_
    refine ev_iflt (pc' := 7) (tgt := 46) dX5_append_4 (by decide) rfl (x1 := wr x.1) rfl (fun c1 => ?_) (fun c1 => ?_)
    · replace h := qit c1 h
      cases h
      cases h1
      exact ev_wk (qLe_sk (qLe_sk (qLe_sk qLe_nil))) kE
    · replace h := qif' c1 h
      refine ev_aload_n (pc' := 8) dX5_append_7 rfl rfl ?_
      refine ev_geti (pc' := 11) (ki := 5) dX5_append_8 rfl tf_5_36 sh1 rfl rfl ?_
      refine ev_sipush (pc' := 14) dX5_append_11 rfl sl_400 ?_
      refine ev_icmpge (pc' := 17) (tgt := 46) dX5_append_14 (by decide) rfl (x1 := wr (rd x.2 1 5)) (y1 := 400) rfl wl_400  (fun c2 => ?_) (fun c2 => ?_)
      · replace h := qit c2 h
        refine ev_aload_n (pc' := 18) dX5_append_17 rfl rfl ?_
        refine ev_getr (pc' := 21) dX5_append_18 rfl tf_5_11 sh1 rfl ?_
        refine ev_aload_n (pc' := 22) dX5_append_21 rfl rfl ?_
        refine ev_geti (pc' := 25) (ki := 5) dX5_append_22 rfl tf_5_36 sh1 rfl rfl ?_
        refine ev_iload_n (pc' := 26) dX5_append_25 rfl rfl ?_
        refine ev_iload_n (pc' := 27) dX5_append_26 rfl rfl ?_
        refine ev_iushr (pc' := 28) dX5_append_27 rfl ?_
        refine ev_i2b (pc' := 29) dX5_append_28 rfl ?_
        replace h := qbd h; obtain ⟨μ3, hμ3, h⟩ := h
        refine ev_bast1 (pc' := 30) dX5_append_29 rfl sh2 hμ3 ?_
        refine ev_aload_n (pc' := 31) dX5_append_30 rfl rfl ?_
        refine ev_dup (pc' := 32) dX5_append_31 rfl rfl ?_
        refine ev_geti (pc' := 35) (ki := 5) dX5_append_32 rfl tf_5_36 sh1 rfl rfl ?_
        refine ev_iconst (pc' := 36) dX5_append_35 rfl ?_
        refine ev_iadd (pc' := 37) dX5_append_36 rfl ?_
        replace h := qbd h; obtain ⟨μ4, hμ4, h⟩ := h
        refine ev_puti (pc' := 40) dX5_append_37 rfl tf_5_36 sh1 rfl rfl (qw_4_5 _) rfl hμ4 ?_
        refine ev_iinc (pc' := 43) (x := x.1) (L1 := [some (.ref 1), some (iv w1), some (iv (x.1 + (-8)))]) dX5_append_40 rfl rfl rfl ?_
        refine ev_goto (pc' := 3) dX5_append_43 (by decide) ?_
        cases h
        exact ev_wk (qLe_eq (qLe_eq (qLe_eq qLe_nil))) (ih _ _ h1 _ _ kE)
      · replace h := qif' c2 h
        cases h
        cases h1
        exact ev_wk (qLe_sk (qLe_sk (qLe_sk qLe_nil))) kE
set_option maxRecDepth 100000 in
theorem eX5_append {Ls t d n : Nat} {p0 : Int} {μ : qMu} {r : qMu} (h : fX5_append n p0 μ = some r) : Ev (d + 0) mX5_append 0 [some (.ref 1), some (iv p0), none] [] (cS Ls t μ) (.inl none) (cS Ls t r) := by
  unfold fX5_append at h
  refine ev_bipush (pc' := 2) dX5_append_0 rfl bl_24 ?_
  refine ev_istore_n (pc' := 3) (L1 := [some (.ref 1), some (iv p0), some (iv 24)]) dX5_append_2 rfl rfl ?_
  replace h := qbd h; obtain ⟨y5, hy5, h⟩ := h
  refine ev_wk (qLe_eq (qLe_eq (qLe_eq qLe_nil))) (?_ : Ev _ _ _ [some (.ref 1), some (iv p0), some (iv 24)] _ _ _ _)
  refine ebX5_append_3 _ _ _ hy5 _ _ ?_
  cases h
  exact ev_return dX5_append_46 rfl
set_option maxRecDepth 100000 in
theorem eX5_fedBytes {Ls t d : Nat} {μ : qMu} {r : Int} (h : fX5_fedBytes μ = some r) : Ev (d + 0) mX5_fedBytes 0 [some (.ref 1)] [] (cS Ls t μ) (.inl (some (iv r))) (cS Ls t μ) := by
  unfold fX5_fedBytes at h
  refine ev_aload_n (pc' := 1) dX5_fedBytes_0 rfl rfl ?_
  refine ev_geti (pc' := 4) (ki := 5) dX5_fedBytes_1 rfl tf_5_36 sh1 rfl rfl ?_
  cases h
  exact ev_ireturn dX5_fedBytes_4 rfl rfl
set_option maxRecDepth 100000 in
theorem eX9_feed {Ls t d n : Nat} {p0 : Int} {p1 : Int} {p2 : Int} {p3 : Int} {p4 : Int} {μ : qMu} {r : Int × qMu} (h : fX9_feed n p0 p1 p2 p3 p4 μ = some r) : Ev (d + 1) mX9_feed 0 [some (.ref 0), some (iv p0), some (iv p1), some (iv p2), some (iv p3), some (iv p4)] [] (cS Ls t μ) (.inl (some (iv r.1))) (cS Ls t r.2) := by
  unfold fX9_feed at h
  refine ev_aload_n (pc' := 1) dX9_feed_0 rfl rfl ?_
  refine ev_getr (pc' := 4) dX9_feed_1 rfl tf_9_10 sh0 rfl ?_
  replace h := qbd h; obtain ⟨y1, hy1, h⟩ := h
  refine ev_callg (pc' := 7) (st2 := [iv y1]) dX9_feed_4 (qs_V tc_9_78 rfl rfl (cS_cls sh1) rfl) rfl rfl (eX5_hasRoom (d := d + 0) hy1) rfl rfl ?_
  refine ev_ifne (pc' := 10) (tgt := 13) dX9_feed_7 (by decide) rfl (x1 := wr y1) rfl (fun c2 => ?_) (fun c2 => ?_)
  · replace h := qit c2 h
    refine ev_bipush (pc' := 12) dX9_feed_10 rfl bl_m2 ?_
    cases h
    exact ev_ireturn dX9_feed_12 rfl rfl
  · replace h := qif' c2 h
    refine ev_aload_n (pc' := 14) dX9_feed_13 rfl rfl ?_
    refine ev_getr (pc' := 17) dX9_feed_14 rfl tf_9_10 sh0 rfl ?_
    refine ev_iload_n (pc' := 18) dX9_feed_17 rfl rfl ?_
    replace h := qbd h; obtain ⟨y3, hy3, h⟩ := h
    refine ev_callg (pc' := 21) (st2 := []) dX9_feed_18 (qs_V tc_9_82 rfl rfl (cS_cls sh1) rfl) rfl rfl (eX5_append (d := d + 0) hy3) rfl rfl ?_
    refine ev_aload_n (pc' := 22) dX9_feed_21 rfl rfl ?_
    refine ev_getr (pc' := 25) dX9_feed_22 rfl tf_9_10 sh0 rfl ?_
    refine ev_iload_n (pc' := 26) dX9_feed_25 rfl rfl ?_
    replace h := qbd h; obtain ⟨y4, hy4, h⟩ := h
    refine ev_callg (pc' := 29) (st2 := []) dX9_feed_26 (qs_V tc_9_82 rfl rfl (cS_cls sh1) rfl) rfl rfl (eX5_append (d := d + 0) hy4) rfl rfl ?_
    refine ev_aload_n (pc' := 30) dX9_feed_29 rfl rfl ?_
    refine ev_getr (pc' := 33) dX9_feed_30 rfl tf_9_10 sh0 rfl ?_
    refine ev_iload_n (pc' := 34) dX9_feed_33 rfl rfl ?_
    replace h := qbd h; obtain ⟨y5, hy5, h⟩ := h
    refine ev_callg (pc' := 37) (st2 := []) dX9_feed_34 (qs_V tc_9_82 rfl rfl (cS_cls sh1) rfl) rfl rfl (eX5_append (d := d + 0) hy5) rfl rfl ?_
    refine ev_aload_n (pc' := 38) dX9_feed_37 rfl rfl ?_
    refine ev_getr (pc' := 41) dX9_feed_38 rfl tf_9_10 sh0 rfl ?_
    refine ev_iload (pc' := 43) dX9_feed_41 rfl rfl ?_
    replace h := qbd h; obtain ⟨y6, hy6, h⟩ := h
    refine ev_callg (pc' := 46) (st2 := []) dX9_feed_43 (qs_V tc_9_82 rfl rfl (cS_cls sh1) rfl) rfl rfl (eX5_append (d := d + 0) hy6) rfl rfl ?_
    refine ev_aload_n (pc' := 47) dX9_feed_46 rfl rfl ?_
    refine ev_getr (pc' := 50) dX9_feed_47 rfl tf_9_10 sh0 rfl ?_
    refine ev_iload (pc' := 52) dX9_feed_50 rfl rfl ?_
    replace h := qbd h; obtain ⟨y7, hy7, h⟩ := h
    refine ev_callg (pc' := 55) (st2 := []) dX9_feed_52 (qs_V tc_9_82 rfl rfl (cS_cls sh1) rfl) rfl rfl (eX5_append (d := d + 0) hy7) rfl rfl ?_
    refine ev_aload_n (pc' := 56) dX9_feed_55 rfl rfl ?_
    refine ev_getr (pc' := 59) dX9_feed_56 rfl tf_9_10 sh0 rfl ?_
    replace h := qbd h; obtain ⟨y8, hy8, h⟩ := h
    refine ev_callg (pc' := 62) (st2 := [iv y8]) dX9_feed_59 (qs_V tc_9_86 rfl rfl (cS_cls sh1) rfl) rfl rfl (eX5_fedBytes (d := d + 0) hy8) rfl rfl ?_
    cases h
    exact ev_ireturn dX9_feed_62 rfl rfl
set_option maxRecDepth 100000 in
theorem eX5_byteAt {Ls t d : Nat} {p0 : Int} {μ : qMu} {r : Int} (h : fX5_byteAt p0 μ = some r) : Ev (d + 0) mX5_byteAt 0 [some (.ref 1), some (iv p0)] [] (cS Ls t μ) (.inl (some (iv r))) (cS Ls t μ) := by
  unfold fX5_byteAt at h
  refine ev_iload_n (pc' := 1) dX5_byteAt_0 rfl rfl ?_
  refine ev_iflt (pc' := 4) (tgt := 24) dX5_byteAt_1 (by decide) rfl (x1 := wr p0) rfl (fun c1 => ?_) (fun c1 => ?_)
  · replace h := qit c1 h
    refine ev_iconst (pc' := 25) dX5_byteAt_24 rfl ?_
    cases h
    exact ev_ireturn dX5_byteAt_25 rfl rfl
  · replace h := qif' c1 h
    refine ev_iload_n (pc' := 5) dX5_byteAt_4 rfl rfl ?_
    refine ev_sipush (pc' := 8) dX5_byteAt_5 rfl sl_400 ?_
    refine ev_icmpge (pc' := 11) (tgt := 24) dX5_byteAt_8 (by decide) rfl (x1 := wr p0) (y1 := 400) rfl wl_400  (fun c2 => ?_) (fun c2 => ?_)
    · replace h := qit c2 h
      refine ev_aload_n (pc' := 12) dX5_byteAt_11 rfl rfl ?_
      refine ev_getr (pc' := 15) dX5_byteAt_12 rfl tf_5_11 sh1 rfl ?_
      refine ev_iload_n (pc' := 16) dX5_byteAt_15 rfl rfl ?_
      replace h := qbd h; obtain ⟨x3, hx3, h⟩ := h
      refine ev_bald1 (pc' := 17) dX5_byteAt_16 rfl sh2 hx3 ?_
      refine ev_sipush (pc' := 20) dX5_byteAt_17 rfl sl_255 ?_
      refine ev_iand (pc' := 21) dX5_byteAt_20 rfl ?_
      refine ev_goto (pc' := 25) dX5_byteAt_21 (by decide) ?_
      cases h
      exact ev_ireturn dX5_byteAt_25 rfl rfl
    · replace h := qif' c2 h
      refine ev_iconst (pc' := 25) dX5_byteAt_24 rfl ?_
      cases h
      exact ev_ireturn dX5_byteAt_25 rfl rfl
set_option maxRecDepth 100000 in
theorem eX5_isBlank {Ls t d : Nat} {p0 : Int} {μ : qMu} {r : Int} (h : fX5_isBlank p0 μ = some r) : Ev (d + 0) mX5_isBlank 0 [some (iv p0)] [] (cS Ls t μ) (.inl (some (iv r))) (cS Ls t μ) := by
  unfold fX5_isBlank at h
  refine ev_iload_n (pc' := 1) dX5_isBlank_0 rfl rfl ?_
  refine ev_bipush (pc' := 3) dX5_isBlank_1 rfl bl_32 ?_
  refine ev_icmpeq (pc' := 6) (tgt := 12) dX5_isBlank_3 (by decide) rfl (x1 := wr p0) (y1 := 32) rfl wl_32  (fun c1 => ?_) (fun c1 => ?_)
  · replace h := qit c1 h
    refine ev_iconst (pc' := 13) dX5_isBlank_12 rfl ?_
    refine ev_goto (pc' := 17) dX5_isBlank_13 (by decide) ?_
    cases h
    exact ev_ireturn dX5_isBlank_17 rfl rfl
  · replace h := qif' c1 h
    refine ev_iload_n (pc' := 7) dX5_isBlank_6 rfl rfl ?_
    refine ev_bipush (pc' := 9) dX5_isBlank_7 rfl bl_10 ?_
    refine ev_icmpne (pc' := 12) (tgt := 16) dX5_isBlank_9 (by decide) rfl (x1 := wr p0) (y1 := 10) rfl wl_10  (fun c2 => ?_) (fun c2 => ?_)
    · replace h := qit c2 h
      refine ev_iconst (pc' := 13) dX5_isBlank_12 rfl ?_
      refine ev_goto (pc' := 17) dX5_isBlank_13 (by decide) ?_
      cases h
      exact ev_ireturn dX5_isBlank_17 rfl rfl
    · replace h := qif' c2 h
      refine ev_iconst (pc' := 17) dX5_isBlank_16 rfl ?_
      cases h
      exact ev_ireturn dX5_isBlank_17 rfl rfl
set_option maxRecDepth 100000 in
theorem eX5_isLetter {Ls t d : Nat} {p0 : Int} {μ : qMu} {r : Int} (h : fX5_isLetter p0 μ = some r) : Ev (d + 0) mX5_isLetter 0 [some (iv p0)] [] (cS Ls t μ) (.inl (some (iv r))) (cS Ls t μ) := by
  unfold fX5_isLetter at h
  refine ev_iload_n (pc' := 1) dX5_isLetter_0 rfl rfl ?_
  refine ev_bipush (pc' := 3) dX5_isLetter_1 rfl bl_97 ?_
  refine ev_icmplt (pc' := 6) (tgt := 16) dX5_isLetter_3 (by decide) rfl (x1 := wr p0) (y1 := 97) rfl wl_97  (fun c1 => ?_) (fun c1 => ?_)
  · replace h := qit c1 h
    refine ev_iconst (pc' := 17) dX5_isLetter_16 rfl ?_
    cases h
    exact ev_ireturn dX5_isLetter_17 rfl rfl
  · replace h := qif' c1 h
    refine ev_iload_n (pc' := 7) dX5_isLetter_6 rfl rfl ?_
    refine ev_bipush (pc' := 9) dX5_isLetter_7 rfl bl_122 ?_
    refine ev_icmpgt (pc' := 12) (tgt := 16) dX5_isLetter_9 (by decide) rfl (x1 := wr p0) (y1 := 122) rfl wl_122  (fun c2 => ?_) (fun c2 => ?_)
    · replace h := qit c2 h
      refine ev_iconst (pc' := 17) dX5_isLetter_16 rfl ?_
      cases h
      exact ev_ireturn dX5_isLetter_17 rfl rfl
    · replace h := qif' c2 h
      refine ev_iconst (pc' := 13) dX5_isLetter_12 rfl ?_
      refine ev_goto (pc' := 17) dX5_isLetter_13 (by decide) ?_
      cases h
      exact ev_ireturn dX5_isLetter_17 rfl rfl
set_option maxRecDepth 100000 in
theorem ebX5_takeWord_0 {Ls t d n : Nat} : ∀ (k : Nat) (x : qMu) (y : qMu), lp (fun x : qMu => bX5_takeWord_0 n x) k x = some y → ∀ (o : qO) (s' : qSt), Ev (d + 1) mX5_takeWord 38 [some (.ref 1)] [] (cS Ls t y) o s' → Ev (d + 1) mX5_takeWord 0 [some (.ref 1)] [] (cS Ls t x) o s' := by
  intro k
  induction k with
  | zero => intro x y h; cases h
  | succ k ih =>
    intro x y h o s' kE
    rw [lp_s] at h
    replace h := qbd h; obtain ⟨zz, h0, h1⟩ := h
    have h : bX5_takeWord_0 n x = some zz := h0
    clear h0
    unfold bX5_takeWord_0 at h
    refine ev_aload_n (pc' := 1) dX5_takeWord_0 rfl rfl ?_
    refine ev_geti (pc' := 4) (ki := 11) dX5_takeWord_1 rfl tf_5_54 sh1 rfl rfl ?_
    refine ev_aload_n (pc' := 5) dX5_takeWord_4 rfl rfl ?_
    refine ev_geti (pc' := 8) (ki := 6) dX5_takeWord_5 rfl tf_5_39 sh1 rfl rfl ?_
    refine ev_icmpge (pc' := 11) (tgt := 38) dX5_takeWord_8 (by decide) rfl (x1 := wr (rd x 1 11)) (y1 := wr (rd x 1 6)) rfl rfl  (fun c1 => ?_) (fun c1 => ?_)
    · replace h := qit c1 h
      refine ev_aload_n (pc' := 12) dX5_takeWord_11 rfl rfl ?_
      refine ev_aload_n (pc' := 13) dX5_takeWord_12 rfl rfl ?_
      refine ev_geti (pc' := 16) (ki := 11) dX5_takeWord_13 rfl tf_5_54 sh1 rfl rfl ?_
      replace h := qbd h; obtain ⟨y2, hy2, h⟩ := h
      refine ev_callg (pc' := 19) (st2 := [iv y2]) dX5_takeWord_16 (qs_V tc_5_150 rfl rfl (cS_cls sh1) rfl) rfl rfl (eX5_byteAt (d := d + 0) hy2) rfl rfl ?_
      replace h := qbd h; obtain ⟨y3, hy3, h⟩ := h
      refine ev_callg (pc' := 22) (st2 := [iv y3]) dX5_takeWord_19 (qs_S tc_5_161 (by decide) rfl rfl) rfl rfl (eX5_isLetter (d := d + 0) hy3) rfl rfl ?_
      refine ev_ifeq (pc' := 25) (tgt := 38) dX5_takeWord_22 (by decide) rfl (x1 := wr y3) rfl (fun c4 => ?_) (fun c4 => ?_)
      · replace h := qit c4 h
        cases h
        cases h1
        exact ev_wk (qLe_eq qLe_nil) kE
      · replace h := qif' c4 h
        refine ev_aload_n (pc' := 26) dX5_takeWord_25 rfl rfl ?_
        refine ev_dup (pc' := 27) dX5_takeWord_26 rfl rfl ?_
        refine ev_geti (pc' := 30) (ki := 11) dX5_takeWord_27 rfl tf_5_54 sh1 rfl rfl ?_
        refine ev_iconst (pc' := 31) dX5_takeWord_30 rfl ?_
        refine ev_iadd (pc' := 32) dX5_takeWord_31 rfl ?_
        replace h := qbd h; obtain ⟨μ5, hμ5, h⟩ := h
        refine ev_puti (pc' := 35) dX5_takeWord_32 rfl tf_5_54 sh1 rfl rfl (qw_4_11 _) rfl hμ5 ?_
        refine ev_goto (pc' := 0) dX5_takeWord_35 (by decide) ?_
        cases h
        exact ev_wk (qLe_eq qLe_nil) (ih _ _ h1 _ _ kE)
    · replace h := qif' c1 h
      cases h
      cases h1
      exact ev_wk (qLe_eq qLe_nil) kE
set_option maxRecDepth 100000 in
theorem eX5_takeWord {Ls t d n : Nat} {μ : qMu} {r : qMu} (h : fX5_takeWord n μ = some r) : Ev (d + 1) mX5_takeWord 0 [some (.ref 1)] [] (cS Ls t μ) (.inl none) (cS Ls t r) := by
  unfold fX5_takeWord at h
  replace h := qbd h; obtain ⟨y6, hy6, h⟩ := h
  refine ev_wk (qLe_eq qLe_nil) (?_ : Ev _ _ _ [some (.ref 1)] _ _ _ _)
  refine ebX5_takeWord_0 _ _ _ hy6 _ _ ?_
  refine ev_aload_n (pc' := 39) dX5_takeWord_38 rfl rfl ?_
  refine ev_aload_n (pc' := 40) dX5_takeWord_39 rfl rfl ?_
  refine ev_geti (pc' := 43) (ki := 11) dX5_takeWord_40 rfl tf_5_54 sh1 rfl rfl ?_
  refine ev_aload_n (pc' := 44) dX5_takeWord_43 rfl rfl ?_
  refine ev_geti (pc' := 47) (ki := 10) dX5_takeWord_44 rfl tf_5_51 sh1 rfl rfl ?_
  refine ev_isub (pc' := 48) dX5_takeWord_47 rfl ?_
  refine ev_bipush (pc' := 50) dX5_takeWord_48 rfl bl_8 ?_
  have k8 : ∀ j9 : Int, j9 = (if 8 < wr ((rd y6 1 11) - (rd y6 1 10)) then 4 else 1) → Ev (d + 1) mX5_takeWord 58 [none] [iv j9, .ref 1] (cS Ls t y6) (.inl none) (cS Ls t r) := by
    intro j9 ej9
    subst ej9
    replace h := qbd h; obtain ⟨μ10, hμ10, h⟩ := h
    refine ev_puti (pc' := 61) dX5_takeWord_58 rfl tf_5_48 sh1 rfl rfl (qw_4_9 _) rfl hμ10 ?_
    cases h
    exact ev_return dX5_takeWord_61 rfl
  refine ev_icmpgt (pc' := 53) (tgt := 57) dX5_takeWord_50 (by decide) rfl (x1 := wr ((rd y6 1 11) - (rd y6 1 10))) (y1 := 8) rfl wl_8  (fun c7 => ?_) (fun c7 => ?_)
  · skip
    refine ev_iconst (pc' := 58) dX5_takeWord_57 rfl ?_
    exact ev_wk (qLe_sk qLe_nil) (k8 _ (qet c7 rfl))
  · skip
    refine ev_iconst (pc' := 54) dX5_takeWord_53 rfl ?_
    refine ev_goto (pc' := 58) dX5_takeWord_54 (by decide) ?_
    exact ev_wk (qLe_sk qLe_nil) (k8 _ (qef c7 rfl))
set_option maxRecDepth 100000 in
theorem eX5_isDigit {Ls t d : Nat} {p0 : Int} {μ : qMu} {r : Int} (h : fX5_isDigit p0 μ = some r) : Ev (d + 0) mX5_isDigit 0 [some (iv p0)] [] (cS Ls t μ) (.inl (some (iv r))) (cS Ls t μ) := by
  unfold fX5_isDigit at h
  refine ev_iload_n (pc' := 1) dX5_isDigit_0 rfl rfl ?_
  refine ev_bipush (pc' := 3) dX5_isDigit_1 rfl bl_48 ?_
  refine ev_icmplt (pc' := 6) (tgt := 16) dX5_isDigit_3 (by decide) rfl (x1 := wr p0) (y1 := 48) rfl wl_48  (fun c1 => ?_) (fun c1 => ?_)
  · replace h := qit c1 h
    refine ev_iconst (pc' := 17) dX5_isDigit_16 rfl ?_
    cases h
    exact ev_ireturn dX5_isDigit_17 rfl rfl
  · replace h := qif' c1 h
    refine ev_iload_n (pc' := 7) dX5_isDigit_6 rfl rfl ?_
    refine ev_bipush (pc' := 9) dX5_isDigit_7 rfl bl_57 ?_
    refine ev_icmpgt (pc' := 12) (tgt := 16) dX5_isDigit_9 (by decide) rfl (x1 := wr p0) (y1 := 57) rfl wl_57  (fun c2 => ?_) (fun c2 => ?_)
    · replace h := qit c2 h
      refine ev_iconst (pc' := 17) dX5_isDigit_16 rfl ?_
      cases h
      exact ev_ireturn dX5_isDigit_17 rfl rfl
    · replace h := qif' c2 h
      refine ev_iconst (pc' := 13) dX5_isDigit_12 rfl ?_
      refine ev_goto (pc' := 17) dX5_isDigit_13 (by decide) ?_
      cases h
      exact ev_ireturn dX5_isDigit_17 rfl rfl
set_option maxRecDepth 100000 in
theorem ebX5_takeNumber_5 {Ls t d n : Nat} : ∀ (k : Nat) (x : qMu) (y : qMu), lp (fun x : qMu => bX5_takeNumber_5 n x) k x = some y → ∀ (o : qO) (s' : qSt), Ev (d + 1) mX5_takeNumber 66 [some (.ref 1)] [] (cS Ls t y) o s' → Ev (d + 1) mX5_takeNumber 5 [some (.ref 1)] [] (cS Ls t x) o s' := by
  intro k
  induction k with
  | zero => intro x y h; cases h
  | succ k ih =>
    intro x y h o s' kE
    rw [lp_s] at h
    replace h := qbd h; obtain ⟨zz, h0, h1⟩ := h
    have h : bX5_takeNumber_5 n x = some zz := h0
    clear h0
    unfold bX5_takeNumber_5 at h
    refine ev_aload_n (pc' := 6) dX5_takeNumber_5 rfl rfl ?_
    refine ev_geti (pc' := 9) (ki := 11) dX5_takeNumber_6 rfl tf_5_54 sh1 rfl rfl ?_
    refine ev_aload_n (pc' := 10) dX5_takeNumber_9 rfl rfl ?_
    refine ev_geti (pc' := 13) (ki := 6) dX5_takeNumber_10 rfl tf_5_39 sh1 rfl rfl ?_
    refine ev_icmpge (pc' := 16) (tgt := 66) dX5_takeNumber_13 (by decide) rfl (x1 := wr (rd x 1 11)) (y1 := wr (rd x 1 6)) rfl rfl  (fun c2 => ?_) (fun c2 => ?_)
    · replace h := qit c2 h
      refine ev_aload_n (pc' := 17) dX5_takeNumber_16 rfl rfl ?_
      refine ev_aload_n (pc' := 18) dX5_takeNumber_17 rfl rfl ?_
      refine ev_geti (pc' := 21) (ki := 11) dX5_takeNumber_18 rfl tf_5_54 sh1 rfl rfl ?_
      replace h := qbd h; obtain ⟨y3, hy3, h⟩ := h
      refine ev_callg (pc' := 24) (st2 := [iv y3]) dX5_takeNumber_21 (qs_V tc_5_150 rfl rfl (cS_cls sh1) rfl) rfl rfl (eX5_byteAt (d := d + 0) hy3) rfl rfl ?_
      replace h := qbd h; obtain ⟨y4, hy4, h⟩ := h
      refine ev_callg (pc' := 27) (st2 := [iv y4]) dX5_takeNumber_24 (qs_S tc_5_167 (by decide) rfl rfl) rfl rfl (eX5_isDigit (d := d + 0) hy4) rfl rfl ?_
      refine ev_ifeq (pc' := 30) (tgt := 66) dX5_takeNumber_27 (by decide) rfl (x1 := wr y4) rfl (fun c5 => ?_) (fun c5 => ?_)
      · replace h := qit c5 h
        cases h
        cases h1
        exact ev_wk (qLe_eq qLe_nil) kE
      · replace h := qif' c5 h
        refine ev_aload_n (pc' := 31) dX5_takeNumber_30 rfl rfl ?_
        refine ev_aload_n (pc' := 32) dX5_takeNumber_31 rfl rfl ?_
        refine ev_geti (pc' := 35) (ki := 12) dX5_takeNumber_32 rfl tf_5_57 sh1 rfl rfl ?_
        refine ev_bipush (pc' := 37) dX5_takeNumber_35 rfl bl_10 ?_
        refine ev_imul (pc' := 38) dX5_takeNumber_37 rfl ?_
        refine ev_aload_n (pc' := 39) dX5_takeNumber_38 rfl rfl ?_
        refine ev_aload_n (pc' := 40) dX5_takeNumber_39 rfl rfl ?_
        refine ev_geti (pc' := 43) (ki := 11) dX5_takeNumber_40 rfl tf_5_54 sh1 rfl rfl ?_
        replace h := qbd h; obtain ⟨y6, hy6, h⟩ := h
        refine ev_callg (pc' := 46) (st2 := [iv y6, iv ((rd x 1 12) * 10), .ref 1]) dX5_takeNumber_43 (qs_V tc_5_150 rfl rfl (cS_cls sh1) rfl) rfl rfl (eX5_byteAt (d := d + 0) hy6) rfl rfl ?_
        refine ev_iadd (pc' := 47) dX5_takeNumber_46 rfl ?_
        refine ev_bipush (pc' := 49) dX5_takeNumber_47 rfl bl_48 ?_
        refine ev_isub (pc' := 50) dX5_takeNumber_49 rfl ?_
        replace h := qbd h; obtain ⟨μ7, hμ7, h⟩ := h
        refine ev_puti (pc' := 53) dX5_takeNumber_50 rfl tf_5_57 sh1 rfl rfl (qw_4_12 _) rfl hμ7 ?_
        refine ev_aload_n (pc' := 54) dX5_takeNumber_53 rfl rfl ?_
        refine ev_dup (pc' := 55) dX5_takeNumber_54 rfl rfl ?_
        refine ev_geti (pc' := 58) (ki := 11) dX5_takeNumber_55 rfl tf_5_54 sh1 rfl rfl ?_
        refine ev_iconst (pc' := 59) dX5_takeNumber_58 rfl ?_
        refine ev_iadd (pc' := 60) dX5_takeNumber_59 rfl ?_
        replace h := qbd h; obtain ⟨μ8, hμ8, h⟩ := h
        refine ev_puti (pc' := 63) dX5_takeNumber_60 rfl tf_5_54 sh1 rfl rfl (qw_4_11 _) rfl hμ8 ?_
        refine ev_goto (pc' := 5) dX5_takeNumber_63 (by decide) ?_
        cases h
        exact ev_wk (qLe_eq qLe_nil) (ih _ _ h1 _ _ kE)
    · replace h := qif' c2 h
      cases h
      cases h1
      exact ev_wk (qLe_eq qLe_nil) kE
set_option maxRecDepth 100000 in
theorem eX5_takeNumber {Ls t d n : Nat} {μ : qMu} {r : qMu} (h : fX5_takeNumber n μ = some r) : Ev (d + 1) mX5_takeNumber 0 [some (.ref 1)] [] (cS Ls t μ) (.inl none) (cS Ls t r) := by
  unfold fX5_takeNumber at h
  refine ev_aload_n (pc' := 1) dX5_takeNumber_0 rfl rfl ?_
  refine ev_iconst (pc' := 2) dX5_takeNumber_1 rfl ?_
  replace h := qbd h; obtain ⟨μ1, hμ1, h⟩ := h
  refine ev_puti (pc' := 5) dX5_takeNumber_2 rfl tf_5_57 sh1 rfl rfl (qw_4_12 _) rfl hμ1 ?_
  replace h := qbd h; obtain ⟨y9, hy9, h⟩ := h
  refine ev_wk (qLe_eq qLe_nil) (?_ : Ev _ _ _ [some (.ref 1)] _ _ _ _)
  refine ebX5_takeNumber_5 _ _ _ hy9 _ _ ?_
  refine ev_aload_n (pc' := 67) dX5_takeNumber_66 rfl rfl ?_
  refine ev_aload_n (pc' := 68) dX5_takeNumber_67 rfl rfl ?_
  refine ev_geti (pc' := 71) (ki := 11) dX5_takeNumber_68 rfl tf_5_54 sh1 rfl rfl ?_
  refine ev_aload_n (pc' := 72) dX5_takeNumber_71 rfl rfl ?_
  refine ev_geti (pc' := 75) (ki := 10) dX5_takeNumber_72 rfl tf_5_51 sh1 rfl rfl ?_
  refine ev_isub (pc' := 76) dX5_takeNumber_75 rfl ?_
  refine ev_iconst (pc' := 77) dX5_takeNumber_76 rfl ?_
  have k11 : ∀ j12 : Int, j12 = (if 2 < wr ((rd y9 1 11) - (rd y9 1 10)) then 4 else 2) → Ev (d + 1) mX5_takeNumber 85 [none] [iv j12, .ref 1] (cS Ls t y9) (.inl none) (cS Ls t r) := by
    intro j12 ej12
    subst ej12
    replace h := qbd h; obtain ⟨μ13, hμ13, h⟩ := h
    refine ev_puti (pc' := 88) dX5_takeNumber_85 rfl tf_5_48 sh1 rfl rfl (qw_4_9 _) rfl hμ13 ?_
    cases h
    exact ev_return dX5_takeNumber_88 rfl
  refine ev_icmpgt (pc' := 80) (tgt := 84) dX5_takeNumber_77 (by decide) rfl (x1 := wr ((rd y9 1 11) - (rd y9 1 10))) (y1 := 2) rfl wl_2  (fun c10 => ?_) (fun c10 => ?_)
  · skip
    refine ev_iconst (pc' := 85) dX5_takeNumber_84 rfl ?_
    exact ev_wk (qLe_sk qLe_nil) (k11 _ (qet c10 rfl))
  · skip
    refine ev_iconst (pc' := 81) dX5_takeNumber_80 rfl ?_
    refine ev_goto (pc' := 85) dX5_takeNumber_81 (by decide) ?_
    exact ev_wk (qLe_sk qLe_nil) (k11 _ (qef c10 rfl))
set_option maxRecDepth 100000 in
theorem ebX5_advance_0 {Ls t d n : Nat} : ∀ (k : Nat) (x : qMu) (y : qMu), lp (fun x : qMu => bX5_advance_0 n x) k x = some y → ∀ (o : qO) (s' : qSt), Ev (d + 2) mX5_advance 38 [some (.ref 1)] [] (cS Ls t y) o s' → Ev (d + 2) mX5_advance 0 [some (.ref 1)] [] (cS Ls t x) o s' := by
  intro k
  induction k with
  | zero => intro x y h; cases h
  | succ k ih =>
    intro x y h o s' kE
    rw [lp_s] at h
    replace h := qbd h; obtain ⟨zz, h0, h1⟩ := h
    have h : bX5_advance_0 n x = some zz := h0
    clear h0
    unfold bX5_advance_0 at h
    refine ev_aload_n (pc' := 1) dX5_advance_0 rfl rfl ?_
    refine ev_geti (pc' := 4) (ki := 11) dX5_advance_1 rfl tf_5_54 sh1 rfl rfl ?_
    refine ev_aload_n (pc' := 5) dX5_advance_4 rfl rfl ?_
    refine ev_geti (pc' := 8) (ki := 6) dX5_advance_5 rfl tf_5_39 sh1 rfl rfl ?_
    refine ev_icmpge (pc' := 11) (tgt := 38) dX5_advance_8 (by decide) rfl (x1 := wr (rd x 1 11)) (y1 := wr (rd x 1 6)) rfl rfl  (fun c1 => ?_) (fun c1 => ?_)
    · replace h := qit c1 h
      refine ev_aload_n (pc' := 12) dX5_advance_11 rfl rfl ?_
      refine ev_aload_n (pc' := 13) dX5_advance_12 rfl rfl ?_
      refine ev_geti (pc' := 16) (ki := 11) dX5_advance_13 rfl tf_5_54 sh1 rfl rfl ?_
      replace h := qbd h; obtain ⟨y2, hy2, h⟩ := h
      refine ev_callg (pc' := 19) (st2 := [iv y2]) dX5_advance_16 (qs_V tc_5_150 rfl rfl (cS_cls sh1) rfl) rfl rfl (eX5_byteAt (d := d + 1) hy2) rfl rfl ?_
      replace h := qbd h; obtain ⟨y3, hy3, h⟩ := h
      refine ev_callg (pc' := 22) (st2 := [iv y3]) dX5_advance_19 (qs_S tc_5_158 (by decide) rfl rfl) rfl rfl (eX5_isBlank (d := d + 1) hy3) rfl rfl ?_
      refine ev_ifeq (pc' := 25) (tgt := 38) dX5_advance_22 (by decide) rfl (x1 := wr y3) rfl (fun c4 => ?_) (fun c4 => ?_)
      · replace h := qit c4 h
        cases h
        cases h1
        exact ev_wk (qLe_eq qLe_nil) kE
      · replace h := qif' c4 h
        refine ev_aload_n (pc' := 26) dX5_advance_25 rfl rfl ?_
        refine ev_dup (pc' := 27) dX5_advance_26 rfl rfl ?_
        refine ev_geti (pc' := 30) (ki := 11) dX5_advance_27 rfl tf_5_54 sh1 rfl rfl ?_
        refine ev_iconst (pc' := 31) dX5_advance_30 rfl ?_
        refine ev_iadd (pc' := 32) dX5_advance_31 rfl ?_
        replace h := qbd h; obtain ⟨μ5, hμ5, h⟩ := h
        refine ev_puti (pc' := 35) dX5_advance_32 rfl tf_5_54 sh1 rfl rfl (qw_4_11 _) rfl hμ5 ?_
        refine ev_goto (pc' := 0) dX5_advance_35 (by decide) ?_
        cases h
        exact ev_wk (qLe_eq qLe_nil) (ih _ _ h1 _ _ kE)
    · replace h := qif' c1 h
      cases h
      cases h1
      exact ev_wk (qLe_eq qLe_nil) kE
set_option maxRecDepth 100000 in
theorem eX5_advance {Ls t d n : Nat} {μ : qMu} {r : qMu} (h : fX5_advance n μ = some r) : Ev (d + 2) mX5_advance 0 [some (.ref 1)] [] (cS Ls t μ) (.inl none) (cS Ls t r) := by
  unfold fX5_advance at h
  replace h := qbd h; obtain ⟨y6, hy6, h⟩ := h
  refine ev_wk (qLe_eq qLe_nil) (?_ : Ev _ _ _ [some (.ref 1)] _ _ _ _)
  refine ebX5_advance_0 _ _ _ hy6 _ _ ?_
  refine ev_aload_n (pc' := 39) dX5_advance_38 rfl rfl ?_
  refine ev_aload_n (pc' := 40) dX5_advance_39 rfl rfl ?_
  refine ev_geti (pc' := 43) (ki := 11) dX5_advance_40 rfl tf_5_54 sh1 rfl rfl ?_
  replace h := qbd h; obtain ⟨μ7, hμ7, h⟩ := h
  refine ev_puti (pc' := 46) dX5_advance_43 rfl tf_5_51 sh1 rfl rfl (qw_4_10 _) rfl hμ7 ?_
  refine ev_aload_n (pc' := 47) dX5_advance_46 rfl rfl ?_
  refine ev_geti (pc' := 50) (ki := 10) dX5_advance_47 rfl tf_5_51 sh1 rfl rfl ?_
  refine ev_aload_n (pc' := 51) dX5_advance_50 rfl rfl ?_
  refine ev_geti (pc' := 54) (ki := 6) dX5_advance_51 rfl tf_5_39 sh1 rfl rfl ?_
  refine ev_icmplt (pc' := 57) (tgt := 65) dX5_advance_54 (by decide) rfl (x1 := wr (rd μ7 1 10)) (y1 := wr (rd μ7 1 6)) rfl rfl  (fun c8 => ?_) (fun c8 => ?_)
  · replace h := qit c8 h
    refine ev_aload_n (pc' := 66) dX5_advance_65 rfl rfl ?_
    refine ev_aload_n (pc' := 67) dX5_advance_66 rfl rfl ?_
    refine ev_geti (pc' := 70) (ki := 10) dX5_advance_67 rfl tf_5_51 sh1 rfl rfl ?_
    replace h := qbd h; obtain ⟨y9, hy9, h⟩ := h
    refine ev_callg (pc' := 73) (st2 := [iv y9]) dX5_advance_70 (qs_V tc_5_150 rfl rfl (cS_cls sh1) rfl) rfl rfl (eX5_byteAt (d := d + 1) hy9) rfl rfl ?_
    replace h := qbd h; obtain ⟨y10, hy10, h⟩ := h
    refine ev_callg (pc' := 76) (st2 := [iv y10]) dX5_advance_73 (qs_S tc_5_161 (by decide) rfl rfl) rfl rfl (eX5_isLetter (d := d + 1) hy10) rfl rfl ?_
    refine ev_ifeq (pc' := 79) (tgt := 86) dX5_advance_76 (by decide) rfl (x1 := wr y10) rfl (fun c11 => ?_) (fun c11 => ?_)
    · replace h := qit c11 h
      refine ev_aload_n (pc' := 87) dX5_advance_86 rfl rfl ?_
      refine ev_aload_n (pc' := 88) dX5_advance_87 rfl rfl ?_
      refine ev_geti (pc' := 91) (ki := 10) dX5_advance_88 rfl tf_5_51 sh1 rfl rfl ?_
      replace h := qbd h; obtain ⟨y12, hy12, h⟩ := h
      refine ev_callg (pc' := 94) (st2 := [iv y12]) dX5_advance_91 (qs_V tc_5_150 rfl rfl (cS_cls sh1) rfl) rfl rfl (eX5_byteAt (d := d + 1) hy12) rfl rfl ?_
      replace h := qbd h; obtain ⟨y13, hy13, h⟩ := h
      refine ev_callg (pc' := 97) (st2 := [iv y13]) dX5_advance_94 (qs_S tc_5_167 (by decide) rfl rfl) rfl rfl (eX5_isDigit (d := d + 1) hy13) rfl rfl ?_
      refine ev_ifeq (pc' := 100) (tgt := 107) dX5_advance_97 (by decide) rfl (x1 := wr y13) rfl (fun c14 => ?_) (fun c14 => ?_)
      · replace h := qit c14 h
        refine ev_aload_n (pc' := 108) dX5_advance_107 rfl rfl ?_
        refine ev_aload_n (pc' := 109) dX5_advance_108 rfl rfl ?_
        refine ev_aload_n (pc' := 110) dX5_advance_109 rfl rfl ?_
        refine ev_geti (pc' := 113) (ki := 10) dX5_advance_110 rfl tf_5_51 sh1 rfl rfl ?_
        replace h := qbd h; obtain ⟨y15, hy15, h⟩ := h
        refine ev_callg (pc' := 116) (st2 := [iv y15, .ref 1]) dX5_advance_113 (qs_V tc_5_150 rfl rfl (cS_cls sh1) rfl) rfl rfl (eX5_byteAt (d := d + 1) hy15) rfl rfl ?_
        refine ev_bipush (pc' := 118) dX5_advance_116 rfl bl_59 ?_
        have k17 : ∀ j18 : Int, j18 = (if wr y15 = 59 then 3 else 4) → Ev (d + 2) mX5_advance 126 [some (.ref 1)] [iv j18, .ref 1] (cS Ls t μ7) (.inl none) (cS Ls t r) := by
          intro j18 ej18
          subst ej18
          replace h := qbd h; obtain ⟨μ19, hμ19, h⟩ := h
          refine ev_puti (pc' := 129) dX5_advance_126 rfl tf_5_48 sh1 rfl rfl (qw_4_9 _) rfl hμ19 ?_
          refine ev_aload_n (pc' := 130) dX5_advance_129 rfl rfl ?_
          refine ev_dup (pc' := 131) dX5_advance_130 rfl rfl ?_
          refine ev_geti (pc' := 134) (ki := 11) dX5_advance_131 rfl tf_5_54 sh1 rfl rfl ?_
          refine ev_iconst (pc' := 135) dX5_advance_134 rfl ?_
          refine ev_iadd (pc' := 136) dX5_advance_135 rfl ?_
          replace h := qbd h; obtain ⟨μ20, hμ20, h⟩ := h
          refine ev_puti (pc' := 139) dX5_advance_136 rfl tf_5_54 sh1 rfl rfl (qw_4_11 _) rfl hμ20 ?_
          cases h
          exact ev_return dX5_advance_139 rfl
        refine ev_icmpne (pc' := 121) (tgt := 125) dX5_advance_118 (by decide) rfl (x1 := wr y15) (y1 := 59) rfl wl_59  (fun c16 => ?_) (fun c16 => ?_)
        · skip
          refine ev_iconst (pc' := 122) dX5_advance_121 rfl ?_
          refine ev_goto (pc' := 126) dX5_advance_122 (by decide) ?_
          exact ev_wk (qLe_eq qLe_nil) (k17 _ (qet c16 rfl))
        · skip
          refine ev_iconst (pc' := 126) dX5_advance_125 rfl ?_
          exact ev_wk (qLe_eq qLe_nil) (k17 _ (qef c16 rfl))
      · replace h := qif' c14 h
        refine ev_aload_n (pc' := 101) dX5_advance_100 rfl rfl ?_
        replace h := qbd h; obtain ⟨y21, hy21, h⟩ := h
        refine ev_callg (pc' := 104) (st2 := []) dX5_advance_101 (qs_V tc_5_170 rfl rfl (cS_cls sh1) rfl) rfl rfl (eX5_takeNumber (d := d + 0) hy21) rfl rfl ?_
        refine ev_goto (pc' := 139) dX5_advance_104 (by decide) ?_
        cases h
        exact ev_return dX5_advance_139 rfl
    · replace h := qif' c11 h
      refine ev_aload_n (pc' := 80) dX5_advance_79 rfl rfl ?_
      replace h := qbd h; obtain ⟨y22, hy22, h⟩ := h
      refine ev_callg (pc' := 83) (st2 := []) dX5_advance_80 (qs_V tc_5_164 rfl rfl (cS_cls sh1) rfl) rfl rfl (eX5_takeWord (d := d + 0) hy22) rfl rfl ?_
      refine ev_goto (pc' := 139) dX5_advance_83 (by decide) ?_
      cases h
      exact ev_return dX5_advance_139 rfl
  · replace h := qif' c8 h
    refine ev_aload_n (pc' := 58) dX5_advance_57 rfl rfl ?_
    refine ev_iconst (pc' := 59) dX5_advance_58 rfl ?_
    replace h := qbd h; obtain ⟨μ23, hμ23, h⟩ := h
    refine ev_puti (pc' := 62) dX5_advance_59 rfl tf_5_48 sh1 rfl rfl (qw_4_9 _) rfl hμ23 ?_
    refine ev_goto (pc' := 139) dX5_advance_62 (by decide) ?_
    cases h
    exact ev_return dX5_advance_139 rfl
set_option maxRecDepth 100000 in
theorem ebX1_clear_2 {Ls t d n : Nat} {w0 : Nat} {w1 : Int} (hw0 : gG w0) : ∀ (k : Nat) (x : Int × qMu) (y : qMu), lp (fun x : Int × qMu => bX1_clear_2 n w0 w1 x.1 x.2) k x = some y → ∀ (o : qO) (s' : qSt), Ev (d + 0) mX1_clear 24 [some (.ref w0), some (iv w1), none] [] (cS Ls t y) o s' → Ev (d + 0) mX1_clear 2 [some (.ref w0), some (iv w1), some (iv x.1)] [] (cS Ls t x.2) o s' := by
  intro k
  induction k with
  | zero => intro x y h; cases h
  | succ k ih =>
    intro x y h o s' kE
    rw [lp_s] at h
    replace h := qbd h; obtain ⟨zz, h0, h1⟩ := h
    have h : bX1_clear_2 n w0 w1 x.1 x.2 = some zz := h0
    clear h0
    unfold bX1_clear_2 at h
    refine ev_iload_n (pc' := 3) dX1_clear_2 rfl rfl ?_
    refine ev_aload_n (pc' := 4) dX1_clear_3 rfl rfl ?_
    refine ev_getr (pc' := 7) dX1_clear_4 rfl tf_1_9 hw0.1 rfl ?_
    refine ev_alen (pc' := 8) dX1_clear_7 rfl hw0.2 (Or.inl rfl) ?_
    refine ev_icmpge (pc' := 11) (tgt := 24) dX1_clear_8 (by decide) rfl (x1 := wr x.1) (y1 := 64) rfl wl_64  (fun c1 => ?_) (fun c1 => ?_)
    · replace h := qit c1 h
      refine ev_aload_n (pc' := 12) dX1_clear_11 rfl rfl ?_
      refine ev_getr (pc' := 15) dX1_clear_12 rfl tf_1_9 hw0.1 rfl ?_
      refine ev_iload_n (pc' := 16) dX1_clear_15 rfl rfl ?_
      refine ev_iconst (pc' := 17) dX1_clear_16 rfl ?_
      replace h := qbd h; obtain ⟨μ2, hμ2, h⟩ := h
      refine ev_iast (pc' := 18) dX1_clear_17 rfl hw0.2 hμ2 ?_
      refine ev_iinc (pc' := 21) (x := x.1) (L1 := [some (.ref w0), some (iv w1), some (iv (x.1 + 1))]) dX1_clear_18 rfl rfl rfl ?_
      refine ev_goto (pc' := 2) dX1_clear_21 (by decide) ?_
      cases h
      exact ev_wk (qLe_eq (qLe_eq (qLe_eq qLe_nil))) (ih _ _ h1 _ _ kE)
    · replace h := qif' c1 h
      cases h
      cases h1
      exact ev_wk (qLe_eq (qLe_eq (qLe_sk qLe_nil))) kE
set_option maxRecDepth 100000 in
theorem eX1_clear {Ls t d n : Nat} {g : Nat} {p0 : Int} {μ : qMu} {r : qMu} (hg : gG g) (h : fX1_clear n g p0 μ = some r) : Ev (d + 0) mX1_clear 0 [some (.ref g), some (iv p0), none] [] (cS Ls t μ) (.inl none) (cS Ls t r) := by
  unfold fX1_clear at h
  refine ev_iconst (pc' := 1) dX1_clear_0 rfl ?_
  refine ev_istore_n (pc' := 2) (L1 := [some (.ref g), some (iv p0), some (iv 0)]) dX1_clear_1 rfl rfl ?_
  replace h := qbd h; obtain ⟨y3, hy3, h⟩ := h
  refine ev_wk (qLe_eq (qLe_eq (qLe_eq qLe_nil))) (?_ : Ev _ _ _ [some (.ref g), some (iv p0), some (iv 0)] _ _ _ _)
  refine ebX1_clear_2 hg _ _ _ hy3 _ _ ?_
  refine ev_aload_n (pc' := 25) dX1_clear_24 rfl rfl ?_
  refine ev_iload_n (pc' := 26) dX1_clear_25 rfl rfl ?_
  replace h := qbd h; obtain ⟨μ4, hμ4, h⟩ := h
  refine ev_puti (pc' := 29) dX1_clear_26 rfl tf_1_15 hg.1 rfl rfl (qw_0_1 _) rfl hμ4 ?_
  refine ev_aload_n (pc' := 30) dX1_clear_29 rfl rfl ?_
  refine ev_iconst (pc' := 31) dX1_clear_30 rfl ?_
  replace h := qbd h; obtain ⟨μ5, hμ5, h⟩ := h
  refine ev_puti (pc' := 34) dX1_clear_31 rfl tf_1_19 hg.1 rfl rfl (qw_0_2 _) rfl hμ5 ?_
  cases h
  exact ev_return dX1_clear_34 rfl
set_option maxRecDepth 100000 in
theorem eX5_begin {Ls t d n : Nat} {p0 : Int} {μ : qMu} {r : qMu} (h : fX5_begin n p0 μ = some r) : Ev (d + 1) mX5_begin 0 [some (.ref 1), some (iv p0)] [] (cS Ls t μ) (.inl none) (cS Ls t r) := by
  unfold fX5_begin at h
  refine ev_aload_n (pc' := 1) dX5_begin_0 rfl rfl ?_
  refine ev_getr (pc' := 4) dX5_begin_1 rfl tf_5_18 sh1 rfl ?_
  refine ev_iload_n (pc' := 5) dX5_begin_4 rfl rfl ?_
  replace h := qbd h; obtain ⟨y1, hy1, h⟩ := h
  refine ev_callg (pc' := 8) (st2 := []) dX5_begin_5 (qs_V tc_5_145 rfl rfl (cS_cls sh3) rfl) rfl rfl (eX1_clear (d := d + 0) gG3 hy1) rfl rfl ?_
  refine ev_aload_n (pc' := 9) dX5_begin_8 rfl rfl ?_
  refine ev_getr (pc' := 12) dX5_begin_9 rfl tf_5_22 sh1 rfl ?_
  refine ev_iload_n (pc' := 13) dX5_begin_12 rfl rfl ?_
  replace h := qbd h; obtain ⟨y2, hy2, h⟩ := h
  refine ev_callg (pc' := 16) (st2 := []) dX5_begin_13 (qs_V tc_5_145 rfl rfl (cS_cls sh5) rfl) rfl rfl (eX1_clear (d := d + 0) gG5 hy2) rfl rfl ?_
  cases h
  exact ev_return dX5_begin_16 rfl
set_option maxRecDepth 100000 in
theorem ebX5_isWord_28 {Ls t d n : Nat} {w1 : Nat} (hw1 : 1000000 ≤ w1 ∧ w1 < 1000010) {μ : qMu} : ∀ (k : Nat) (x : Int) (y : (Unit) ⊕ (Int)), lp (fun x : Int => bX5_isWord_28 n w1 x μ) k x = some y → ∀ (o : qO) (s' : qSt), (∀ b : Unit, y = .inl b → Ev (d + 1) mX5_isWord 62 [none, none, none] [] (cS Ls t μ) o s') → (∀ r : Int, y = .inr r → o = (.inl (some (iv r))) ∧ s' = (cS Ls t μ)) → Ev (d + 1) mX5_isWord 28 [some (.ref 1), some (.ref w1), some (iv x)] [] (cS Ls t μ) o s' := by
  intro k
  induction k with
  | zero => intro x y h; cases h
  | succ k ih =>
    intro x y h o s' kE kR
    rw [lp_s] at h
    replace h := qbd h; obtain ⟨zz, h0, h1⟩ := h
    have h : bX5_isWord_28 n w1 x μ = some zz := h0
    clear h0
    unfold bX5_isWord_28 at h
    refine ev_iload_n (pc' := 29) dX5_isWord_28 rfl rfl ?_
    refine ev_aload_n (pc' := 30) dX5_isWord_29 rfl rfl ?_
    refine ev_slen (pc' := 33) dX5_isWord_30 rfl tc_5_147 rfl hw1 ?_
    refine ev_icmpge (pc' := 36) (tgt := 62) dX5_isWord_33 (by decide) rfl (x1 := wr x) (y1 := wr (qsl w1)) rfl rfl  (fun c3 => ?_) (fun c3 => ?_)
    · replace h := qit c3 h
      refine ev_aload_n (pc' := 37) dX5_isWord_36 rfl rfl ?_
      refine ev_aload_n (pc' := 38) dX5_isWord_37 rfl rfl ?_
      refine ev_geti (pc' := 41) (ki := 10) dX5_isWord_38 rfl tf_5_51 sh1 rfl rfl ?_
      refine ev_iload_n (pc' := 42) dX5_isWord_41 rfl rfl ?_
      refine ev_iadd (pc' := 43) dX5_isWord_42 rfl ?_
      replace h := qbd h; obtain ⟨y4, hy4, h⟩ := h
      refine ev_callg (pc' := 46) (st2 := [iv y4]) dX5_isWord_43 (qs_V tc_5_150 rfl rfl (cS_cls sh1) rfl) rfl rfl (eX5_byteAt (d := d + 0) hy4) rfl rfl ?_
      refine ev_aload_n (pc' := 47) dX5_isWord_46 rfl rfl ?_
      refine ev_iload_n (pc' := 48) dX5_isWord_47 rfl rfl ?_
      replace h := qbd h; obtain ⟨x5, hx5, h⟩ := h
      refine ev_charAt (pc' := 51) dX5_isWord_48 rfl tc_5_154 rfl hw1 hx5 ?_
      refine ev_icmpeq (pc' := 54) (tgt := 56) dX5_isWord_51 (by decide) rfl (x1 := wr y4) (y1 := wr x5) rfl rfl  (fun c6 => ?_) (fun c6 => ?_)
      · replace h := qit c6 h
        refine ev_iinc (pc' := 59) (x := x) (L1 := [some (.ref 1), some (.ref w1), some (iv (x + 1))]) dX5_isWord_56 rfl rfl rfl ?_
        refine ev_goto (pc' := 28) dX5_isWord_59 (by decide) ?_
        cases h
        exact ev_wk (qLe_eq (qLe_eq (qLe_eq qLe_nil))) (ih _ _ h1 _ _ kE kR)
      · replace h := qif' c6 h
        refine ev_iconst (pc' := 55) dX5_isWord_54 rfl ?_
        cases h
        cases h1
        obtain ⟨rfl, rfl⟩ := kR _ rfl
        exact ev_ireturn dX5_isWord_55 rfl rfl
    · replace h := qif' c3 h
      cases h
      cases h1
      exact ev_wk (qLe_sk (qLe_sk (qLe_sk qLe_nil))) (kE _ rfl)
set_option maxRecDepth 100000 in
theorem eX5_isWord {Ls t d n : Nat} {p0 : Nat} {μ : qMu} {r : Int} (hp0 : 1000000 ≤ p0 ∧ p0 < 1000010) (h : fX5_isWord n p0 μ = some r) : Ev (d + 1) mX5_isWord 0 [some (.ref 1), some (.ref p0), none] [] (cS Ls t μ) (.inl (some (iv r))) (cS Ls t μ) := by
  unfold fX5_isWord at h
  refine ev_aload_n (pc' := 1) dX5_isWord_0 rfl rfl ?_
  refine ev_geti (pc' := 4) (ki := 9) dX5_isWord_1 rfl tf_5_48 sh1 rfl rfl ?_
  refine ev_iconst (pc' := 5) dX5_isWord_4 rfl ?_
  refine ev_icmpne (pc' := 8) (tgt := 24) dX5_isWord_5 (by decide) rfl (x1 := wr (rd μ 1 9)) (y1 := 1) rfl wl_1  (fun c1 => ?_) (fun c1 => ?_)
  · replace h := qit c1 h
    refine ev_aload_n (pc' := 9) dX5_isWord_8 rfl rfl ?_
    refine ev_geti (pc' := 12) (ki := 11) dX5_isWord_9 rfl tf_5_54 sh1 rfl rfl ?_
    refine ev_aload_n (pc' := 13) dX5_isWord_12 rfl rfl ?_
    refine ev_geti (pc' := 16) (ki := 10) dX5_isWord_13 rfl tf_5_51 sh1 rfl rfl ?_
    refine ev_isub (pc' := 17) dX5_isWord_16 rfl ?_
    refine ev_aload_n (pc' := 18) dX5_isWord_17 rfl rfl ?_
    refine ev_slen (pc' := 21) dX5_isWord_18 rfl tc_5_147 rfl hp0 ?_
    refine ev_icmpeq (pc' := 24) (tgt := 26) dX5_isWord_21 (by decide) rfl (x1 := wr ((rd μ 1 11) - (rd μ 1 10))) (y1 := wr (qsl p0)) rfl rfl  (fun c2 => ?_) (fun c2 => ?_)
    · replace h := qit c2 h
      refine ev_iconst (pc' := 27) dX5_isWord_26 rfl ?_
      refine ev_istore_n (pc' := 28) (L1 := [some (.ref 1), some (.ref p0), some (iv 0)]) dX5_isWord_27 rfl rfl ?_
      replace h := qbd h; obtain ⟨y7, hy7, h⟩ := h
      refine ev_wk (qLe_eq (qLe_eq (qLe_eq qLe_nil))) (?_ : Ev _ _ _ [some (.ref 1), some (.ref p0), some (iv 0)] _ _ _ _)
      refine ebX5_isWord_28 hp0 _ _ _ hy7 _ _ ?_ ?_
      · intro b8 eb8
        subst eb8
        replace h := qel h
        refine ev_iconst (pc' := 63) dX5_isWord_62 rfl ?_
        cases h
        exact ev_ireturn dX5_isWord_63 rfl rfl
      · intro r9 er9
        subst er9
        replace h := qer h
        cases h
        exact ⟨rfl, rfl⟩
    · replace h := qif' c2 h
      refine ev_iconst (pc' := 25) dX5_isWord_24 rfl ?_
      cases h
      exact ev_ireturn dX5_isWord_25 rfl rfl
  · replace h := qif' c1 h
    refine ev_iconst (pc' := 25) dX5_isWord_24 rfl ?_
    cases h
    exact ev_ireturn dX5_isWord_25 rfl rfl
set_option maxRecDepth 100000 in
theorem eX5_fail {Ls t d : Nat} {p0 : Int} {μ : qMu} {r : Int × qMu} (h : fX5_fail p0 μ = some r) : Ev (d + 0) mX5_fail 0 [some (.ref 1), some (iv p0)] [] (cS Ls t μ) (.inl (some (iv r.1))) (cS Ls t r.2) := by
  unfold fX5_fail at h
  refine ev_aload_n (pc' := 1) dX5_fail_0 rfl rfl ?_
  refine ev_aload_n (pc' := 2) dX5_fail_1 rfl rfl ?_
  refine ev_geti (pc' := 5) (ki := 9) dX5_fail_2 rfl tf_5_48 sh1 rfl rfl ?_
  refine ev_iconst (pc' := 6) dX5_fail_5 rfl ?_
  have k2 : ∀ j3 : Int, j3 = (if wr (rd μ 1 9) = 4 then 1 else p0) → Ev (d + 0) mX5_fail 14 [some (.ref 1), none] [iv j3, .ref 1] (cS Ls t μ) (.inl (some (iv r.1))) (cS Ls t r.2) := by
    intro j3 ej3
    subst ej3
    replace h := qbd h; obtain ⟨μ4, hμ4, h⟩ := h
    refine ev_puti (pc' := 17) dX5_fail_14 rfl tf_5_42 sh1 rfl rfl (qw_4_7 _) rfl hμ4 ?_
    refine ev_aload_n (pc' := 18) dX5_fail_17 rfl rfl ?_
    refine ev_aload_n (pc' := 19) dX5_fail_18 rfl rfl ?_
    refine ev_geti (pc' := 22) (ki := 10) dX5_fail_19 rfl tf_5_51 sh1 rfl rfl ?_
    replace h := qbd h; obtain ⟨μ5, hμ5, h⟩ := h
    refine ev_puti (pc' := 25) dX5_fail_22 rfl tf_5_45 sh1 rfl rfl (qw_4_8 _) rfl hμ5 ?_
    refine ev_iconst (pc' := 26) dX5_fail_25 rfl ?_
    cases h
    exact ev_ireturn dX5_fail_26 rfl rfl
  refine ev_icmpne (pc' := 9) (tgt := 13) dX5_fail_6 (by decide) rfl (x1 := wr (rd μ 1 9)) (y1 := 4) rfl wl_4  (fun c1 => ?_) (fun c1 => ?_)
  · skip
    refine ev_iconst (pc' := 10) dX5_fail_9 rfl ?_
    refine ev_goto (pc' := 14) dX5_fail_10 (by decide) ?_
    exact ev_wk (qLe_eq (qLe_sk qLe_nil)) (k2 _ (qet c1 rfl))
  · skip
    refine ev_iload_n (pc' := 14) dX5_fail_13 rfl rfl ?_
    exact ev_wk (qLe_eq (qLe_sk qLe_nil)) (k2 _ (qef c1 rfl))
set_option maxRecDepth 100000 in
theorem eX5_expectNumber {Ls t d : Nat} {p0 : Int} {p1 : Int} {μ : qMu} {r : Int × qMu} (h : fX5_expectNumber p0 p1 μ = some r) : Ev (d + 1) mX5_expectNumber 0 [some (.ref 1), some (iv p0), some (iv p1)] [] (cS Ls t μ) (.inl (some (iv r.1))) (cS Ls t r.2) := by
  unfold fX5_expectNumber at h
  refine ev_aload_n (pc' := 1) dX5_expectNumber_0 rfl rfl ?_
  refine ev_geti (pc' := 4) (ki := 9) dX5_expectNumber_1 rfl tf_5_48 sh1 rfl rfl ?_
  refine ev_iconst (pc' := 5) dX5_expectNumber_4 rfl ?_
  refine ev_icmpeq (pc' := 8) (tgt := 14) dX5_expectNumber_5 (by decide) rfl (x1 := wr (rd μ 1 9)) (y1 := 2) rfl wl_2  (fun c1 => ?_) (fun c1 => ?_)
  · replace h := qit c1 h
    refine ev_aload_n (pc' := 15) dX5_expectNumber_14 rfl rfl ?_
    refine ev_geti (pc' := 18) (ki := 12) dX5_expectNumber_15 rfl tf_5_57 sh1 rfl rfl ?_
    refine ev_iload_n (pc' := 19) dX5_expectNumber_18 rfl rfl ?_
    refine ev_icmplt (pc' := 22) (tgt := 30) dX5_expectNumber_19 (by decide) rfl (x1 := wr (rd μ 1 12)) (y1 := wr p0) rfl rfl  (fun c2 => ?_) (fun c2 => ?_)
    · replace h := qit c2 h
      refine ev_aload_n (pc' := 31) dX5_expectNumber_30 rfl rfl ?_
      refine ev_iconst (pc' := 32) dX5_expectNumber_31 rfl ?_
      replace h := qbd h; obtain ⟨y3, hy3, h⟩ := h
      refine ev_callg (pc' := 35) (st2 := [iv y3.1]) dX5_expectNumber_32 (qs_V tc_5_94 rfl rfl (cS_cls sh1) rfl) rfl rfl (eX5_fail (d := d + 0) hy3) rfl rfl ?_
      refine ev_ifeq (pc' := 38) (tgt := 42) dX5_expectNumber_35 (by decide) rfl (x1 := wr y3.1) rfl (fun c4 => ?_) (fun c4 => ?_)
      · replace h := qit c4 h
        refine ev_iconst (pc' := 43) dX5_expectNumber_42 rfl ?_
        cases h
        exact ev_ireturn dX5_expectNumber_43 rfl rfl
      · replace h := qif' c4 h
        refine ev_iconst (pc' := 39) dX5_expectNumber_38 rfl ?_
        refine ev_goto (pc' := 43) dX5_expectNumber_39 (by decide) ?_
        cases h
        exact ev_ireturn dX5_expectNumber_43 rfl rfl
    · replace h := qif' c2 h
      refine ev_aload_n (pc' := 23) dX5_expectNumber_22 rfl rfl ?_
      refine ev_geti (pc' := 26) (ki := 12) dX5_expectNumber_23 rfl tf_5_57 sh1 rfl rfl ?_
      refine ev_iload_n (pc' := 27) dX5_expectNumber_26 rfl rfl ?_
      refine ev_icmple (pc' := 30) (tgt := 38) dX5_expectNumber_27 (by decide) rfl (x1 := wr (rd μ 1 12)) (y1 := wr p1) rfl rfl  (fun c5 => ?_) (fun c5 => ?_)
      · replace h := qit c5 h
        refine ev_aload_n (pc' := 31) dX5_expectNumber_30 rfl rfl ?_
        refine ev_iconst (pc' := 32) dX5_expectNumber_31 rfl ?_
        replace h := qbd h; obtain ⟨y6, hy6, h⟩ := h
        refine ev_callg (pc' := 35) (st2 := [iv y6.1]) dX5_expectNumber_32 (qs_V tc_5_94 rfl rfl (cS_cls sh1) rfl) rfl rfl (eX5_fail (d := d + 0) hy6) rfl rfl ?_
        refine ev_ifeq (pc' := 38) (tgt := 42) dX5_expectNumber_35 (by decide) rfl (x1 := wr y6.1) rfl (fun c7 => ?_) (fun c7 => ?_)
        · replace h := qit c7 h
          refine ev_iconst (pc' := 43) dX5_expectNumber_42 rfl ?_
          cases h
          exact ev_ireturn dX5_expectNumber_43 rfl rfl
        · replace h := qif' c7 h
          refine ev_iconst (pc' := 39) dX5_expectNumber_38 rfl ?_
          refine ev_goto (pc' := 43) dX5_expectNumber_39 (by decide) ?_
          cases h
          exact ev_ireturn dX5_expectNumber_43 rfl rfl
      · replace h := qif' c5 h
        refine ev_iconst (pc' := 39) dX5_expectNumber_38 rfl ?_
        refine ev_goto (pc' := 43) dX5_expectNumber_39 (by decide) ?_
        cases h
        exact ev_ireturn dX5_expectNumber_43 rfl rfl
  · replace h := qif' c1 h
    refine ev_aload_n (pc' := 9) dX5_expectNumber_8 rfl rfl ?_
    refine ev_iconst (pc' := 10) dX5_expectNumber_9 rfl ?_
    replace h := qbd h; obtain ⟨y8, hy8, h⟩ := h
    refine ev_callg (pc' := 13) (st2 := [iv y8.1]) dX5_expectNumber_10 (qs_V tc_5_94 rfl rfl (cS_cls sh1) rfl) rfl rfl (eX5_fail (d := d + 0) hy8) rfl rfl ?_
    replace h := qbd h; obtain ⟨x9, hx9, h⟩ := h
    obtain ⟨ex9, nx9⟩ := qbl_n hx9
    subst ex9
    cases h
    exact ev_ireturn dX5_expectNumber_13 rfl nx9
set_option maxRecDepth 100000 in
theorem eX5_expectSemicolon {Ls t d : Nat} {μ : qMu} {r : Int × qMu} (h : fX5_expectSemicolon μ = some r) : Ev (d + 1) mX5_expectSemicolon 0 [some (.ref 1)] [] (cS Ls t μ) (.inl (some (iv r.1))) (cS Ls t r.2) := by
  unfold fX5_expectSemicolon at h
  refine ev_aload_n (pc' := 1) dX5_expectSemicolon_0 rfl rfl ?_
  refine ev_geti (pc' := 4) (ki := 9) dX5_expectSemicolon_1 rfl tf_5_48 sh1 rfl rfl ?_
  refine ev_iconst (pc' := 5) dX5_expectSemicolon_4 rfl ?_
  refine ev_icmpeq (pc' := 8) (tgt := 16) dX5_expectSemicolon_5 (by decide) rfl (x1 := wr (rd μ 1 9)) (y1 := 3) rfl wl_3  (fun c1 => ?_) (fun c1 => ?_)
  · replace h := qit c1 h
    refine ev_iconst (pc' := 17) dX5_expectSemicolon_16 rfl ?_
    refine ev_goto (pc' := 21) dX5_expectSemicolon_17 (by decide) ?_
    cases h
    exact ev_ireturn dX5_expectSemicolon_21 rfl rfl
  · replace h := qif' c1 h
    refine ev_aload_n (pc' := 9) dX5_expectSemicolon_8 rfl rfl ?_
    refine ev_iconst (pc' := 10) dX5_expectSemicolon_9 rfl ?_
    replace h := qbd h; obtain ⟨y2, hy2, h⟩ := h
    refine ev_callg (pc' := 13) (st2 := [iv y2.1]) dX5_expectSemicolon_10 (qs_V tc_5_94 rfl rfl (cS_cls sh1) rfl) rfl rfl (eX5_fail (d := d + 0) hy2) rfl rfl ?_
    refine ev_ifeq (pc' := 16) (tgt := 20) dX5_expectSemicolon_13 (by decide) rfl (x1 := wr y2.1) rfl (fun c3 => ?_) (fun c3 => ?_)
    · replace h := qit c3 h
      refine ev_iconst (pc' := 21) dX5_expectSemicolon_20 rfl ?_
      cases h
      exact ev_ireturn dX5_expectSemicolon_21 rfl rfl
    · replace h := qif' c3 h
      refine ev_iconst (pc' := 17) dX5_expectSemicolon_16 rfl ?_
      refine ev_goto (pc' := 21) dX5_expectSemicolon_17 (by decide) ?_
      cases h
      exact ev_ireturn dX5_expectSemicolon_21 rfl rfl
set_option maxRecDepth 100000 in
theorem eX5_readVertices {Ls t d n : Nat} {μ : qMu} {r : Int × qMu} (h : fX5_readVertices n μ = some r) : Ev (d + 3) mX5_readVertices 0 [some (.ref 1)] [] (cS Ls t μ) (.inl (some (iv r.1))) (cS Ls t r.2) := by
  unfold fX5_readVertices at h
  refine ev_aload_n (pc' := 1) dX5_readVertices_0 rfl rfl ?_
  replace h := qbd h; obtain ⟨y1, hy1, h⟩ := h
  refine ev_callg (pc' := 4) (st2 := []) dX5_readVertices_1 (qs_V tc_5_66 rfl rfl (cS_cls sh1) rfl) rfl rfl (eX5_advance (d := d + 0) hy1) rfl rfl ?_
  refine ev_aload_n (pc' := 5) dX5_readVertices_4 rfl rfl ?_
  refine ev_iconst (pc' := 6) dX5_readVertices_5 rfl ?_
  refine ev_bipush (pc' := 8) dX5_readVertices_6 rfl bl_8 ?_
  replace h := qbd h; obtain ⟨y2, hy2, h⟩ := h
  refine ev_callg (pc' := 11) (st2 := [iv y2.1]) dX5_readVertices_8 (qs_V tc_5_109 rfl rfl (cS_cls sh1) rfl) rfl rfl (eX5_expectNumber (d := d + 1) hy2) rfl rfl ?_
  refine ev_ifne (pc' := 14) (tgt := 16) dX5_readVertices_11 (by decide) rfl (x1 := wr y2.1) rfl (fun c3 => ?_) (fun c3 => ?_)
  · replace h := qit c3 h
    refine ev_iconst (pc' := 15) dX5_readVertices_14 rfl ?_
    cases h
    exact ev_ireturn dX5_readVertices_15 rfl rfl
  · replace h := qif' c3 h
    refine ev_aload_n (pc' := 17) dX5_readVertices_16 rfl rfl ?_
    refine ev_aload_n (pc' := 18) dX5_readVertices_17 rfl rfl ?_
    refine ev_geti (pc' := 21) (ki := 12) dX5_readVertices_18 rfl tf_5_57 sh1 rfl rfl ?_
    replace h := qbd h; obtain ⟨y4, hy4, h⟩ := h
    refine ev_callg (pc' := 24) (st2 := []) dX5_readVertices_21 (qs_V tc_5_76 rfl rfl (cS_cls sh1) rfl) rfl rfl (eX5_begin (d := d + 1) hy4) rfl rfl ?_
    refine ev_aload_n (pc' := 25) dX5_readVertices_24 rfl rfl ?_
    replace h := qbd h; obtain ⟨y5, hy5, h⟩ := h
    refine ev_callg (pc' := 28) (st2 := []) dX5_readVertices_25 (qs_V tc_5_66 rfl rfl (cS_cls sh1) rfl) rfl rfl (eX5_advance (d := d + 0) hy5) rfl rfl ?_
    refine ev_aload_n (pc' := 29) dX5_readVertices_28 rfl rfl ?_
    replace h := qbd h; obtain ⟨y6, hy6, h⟩ := h
    refine ev_callg (pc' := 32) (st2 := [iv y6.1]) dX5_readVertices_29 (qs_V tc_5_113 rfl rfl (cS_cls sh1) rfl) rfl rfl (eX5_expectSemicolon (d := d + 1) hy6) rfl rfl ?_
    replace h := qbd h; obtain ⟨x7, hx7, h⟩ := h
    obtain ⟨ex7, nx7⟩ := qbl_n hx7
    subst ex7
    cases h
    exact ev_ireturn dX5_readVertices_32 rfl nx7
set_option maxRecDepth 100000 in
theorem eX6_clear {Ls t d : Nat} {q : Nat} {μ : qMu} {r : qMu} (hq : gS q) (h : fX6_clear q μ = some r) : Ev (d + 0) mX6_clear 0 [some (.ref q)] [] (cS Ls t μ) (.inl none) (cS Ls t r) := by
  unfold fX6_clear at h
  refine ev_aload_n (pc' := 1) dX6_clear_0 rfl rfl ?_
  refine ev_iconst (pc' := 2) dX6_clear_1 rfl ?_
  replace h := qbd h; obtain ⟨μ1, hμ1, h⟩ := h
  refine ev_puti (pc' := 5) dX6_clear_2 rfl tf_6_21 hq.1 rfl rfl (qw_5_3 _) rfl hμ1 ?_
  refine ev_aload_n (pc' := 6) dX6_clear_5 rfl rfl ?_
  refine ev_iconst (pc' := 7) dX6_clear_6 rfl ?_
  replace h := qbd h; obtain ⟨μ2, hμ2, h⟩ := h
  refine ev_puti (pc' := 10) dX6_clear_7 rfl tf_6_25 hq.1 rfl rfl (qw_5_4 _) rfl hμ2 ?_
  cases h
  exact ev_return dX6_clear_10 rfl
set_option maxRecDepth 100000 in
theorem eX6_isFull {Ls t d : Nat} {q : Nat} {μ : qMu} {r : Int} (hq : gS q) (h : fX6_isFull q μ = some r) : Ev (d + 0) mX6_isFull 0 [some (.ref q)] [] (cS Ls t μ) (.inl (some (iv r))) (cS Ls t μ) := by
  unfold fX6_isFull at h
  refine ev_aload_n (pc' := 1) dX6_isFull_0 rfl rfl ?_
  refine ev_geti (pc' := 4) (ki := 3) dX6_isFull_1 rfl tf_6_21 hq.1 rfl rfl ?_
  refine ev_aload_n (pc' := 5) dX6_isFull_4 rfl rfl ?_
  refine ev_getr (pc' := 8) dX6_isFull_5 rfl tf_6_9 hq.1 rfl ?_
  refine ev_alen (pc' := 9) dX6_isFull_8 rfl hq.2.1 (Or.inl rfl) ?_
  refine ev_icmplt (pc' := 12) (tgt := 16) dX6_isFull_9 (by decide) rfl (x1 := wr (rd μ q 3)) (y1 := 8) rfl wl_8  (fun c1 => ?_) (fun c1 => ?_)
  · replace h := qit c1 h
    refine ev_iconst (pc' := 17) dX6_isFull_16 rfl ?_
    cases h
    exact ev_ireturn dX6_isFull_17 rfl rfl
  · replace h := qif' c1 h
    refine ev_iconst (pc' := 13) dX6_isFull_12 rfl ?_
    refine ev_goto (pc' := 17) dX6_isFull_13 (by decide) ?_
    cases h
    exact ev_ireturn dX6_isFull_17 rfl rfl
set_option maxRecDepth 100000 in
theorem ebX6_insertFalling_5 {Ls t d n : Nat} {w0 : Nat} {w1 : Int} (hw0 : gS w0) : ∀ (k : Nat) (x : Int × qMu) (y : Int × qMu), lp (fun x : Int × qMu => bX6_insertFalling_5 n w0 w1 x.1 x.2) k x = some y → ∀ (o : qO) (s' : qSt), Ev (d + 0) mX6_insertFalling 41 [some (.ref w0), some (iv w1), some (iv y.1)] [] (cS Ls t y.2) o s' → Ev (d + 0) mX6_insertFalling 5 [some (.ref w0), some (iv w1), some (iv x.1)] [] (cS Ls t x.2) o s' := by
  intro k
  induction k with
  | zero => intro x y h; cases h
  | succ k ih =>
    intro x y h o s' kE
    rw [lp_s] at h
    replace h := qbd h; obtain ⟨zz, h0, h1⟩ := h
    have h : bX6_insertFalling_5 n w0 w1 x.1 x.2 = some zz := h0
    clear h0
    unfold bX6_insertFalling_5 at h
    refine ev_iload_n (pc' := 6) dX6_insertFalling_5 rfl rfl ?_
    refine ev_ifle (pc' := 9) (tgt := 41) dX6_insertFalling_6 (by decide) rfl (x1 := wr x.1) rfl (fun c1 => ?_) (fun c1 => ?_)
    · replace h := qit c1 h
      refine ev_aload_n (pc' := 10) dX6_insertFalling_9 rfl rfl ?_
      refine ev_getr (pc' := 13) dX6_insertFalling_10 rfl tf_6_15 hw0.1 rfl ?_
      refine ev_iload_n (pc' := 14) dX6_insertFalling_13 rfl rfl ?_
      refine ev_iconst (pc' := 15) dX6_insertFalling_14 rfl ?_
      refine ev_isub (pc' := 16) dX6_insertFalling_15 rfl ?_
      replace h := qbd h; obtain ⟨x2, hx2, h⟩ := h
      refine ev_iald (pc' := 17) dX6_insertFalling_16 rfl hw0.2.2.1 hx2 ?_
      refine ev_iload_n (pc' := 18) dX6_insertFalling_17 rfl rfl ?_
      refine ev_icmpge (pc' := 21) (tgt := 41) dX6_insertFalling_18 (by decide) rfl (x1 := wr x2) (y1 := wr w1) rfl rfl  (fun c3 => ?_) (fun c3 => ?_)
      · replace h := qit c3 h
        refine ev_aload_n (pc' := 22) dX6_insertFalling_21 rfl rfl ?_
        refine ev_getr (pc' := 25) dX6_insertFalling_22 rfl tf_6_15 hw0.1 rfl ?_
        refine ev_iload_n (pc' := 26) dX6_insertFalling_25 rfl rfl ?_
        refine ev_aload_n (pc' := 27) dX6_insertFalling_26 rfl rfl ?_
        refine ev_getr (pc' := 30) dX6_insertFalling_27 rfl tf_6_15 hw0.1 rfl ?_
        refine ev_iload_n (pc' := 31) dX6_insertFalling_30 rfl rfl ?_
        refine ev_iconst (pc' := 32) dX6_insertFalling_31 rfl ?_
        refine ev_isub (pc' := 33) dX6_insertFalling_32 rfl ?_
        replace h := qbd h; obtain ⟨x4, hx4, h⟩ := h
        refine ev_iald (pc' := 34) dX6_insertFalling_33 rfl hw0.2.2.1 hx4 ?_
        replace h := qbd h; obtain ⟨μ5, hμ5, h⟩ := h
        refine ev_iast (pc' := 35) dX6_insertFalling_34 rfl hw0.2.2.1 hμ5 ?_
        refine ev_iinc (pc' := 38) (x := x.1) (L1 := [some (.ref w0), some (iv w1), some (iv (x.1 + (-1)))]) dX6_insertFalling_35 rfl rfl rfl ?_
        refine ev_goto (pc' := 5) dX6_insertFalling_38 (by decide) ?_
        cases h
        exact ev_wk (qLe_eq (qLe_eq (qLe_eq qLe_nil))) (ih _ _ h1 _ _ kE)
      · replace h := qif' c3 h
        cases h
        cases h1
        exact ev_wk (qLe_eq (qLe_eq (qLe_eq qLe_nil))) kE
    · replace h := qif' c1 h
      cases h
      cases h1
      exact ev_wk (qLe_eq (qLe_eq (qLe_eq qLe_nil))) kE
set_option maxRecDepth 100000 in
theorem eX6_insertFalling {Ls t d n : Nat} {q : Nat} {p0 : Int} {μ : qMu} {r : qMu} (hq : gS q) (h : fX6_insertFalling n q p0 μ = some r) : Ev (d + 0) mX6_insertFalling 0 [some (.ref q), some (iv p0), none] [] (cS Ls t μ) (.inl none) (cS Ls t r) := by
  unfold fX6_insertFalling at h
  refine ev_aload_n (pc' := 1) dX6_insertFalling_0 rfl rfl ?_
  refine ev_geti (pc' := 4) (ki := 3) dX6_insertFalling_1 rfl tf_6_21 hq.1 rfl rfl ?_
  refine ev_istore_n (pc' := 5) (L1 := [some (.ref q), some (iv p0), some (iv (rd μ q 3))]) dX6_insertFalling_4 rfl rfl ?_
  replace h := qbd h; obtain ⟨y6, hy6, h⟩ := h
  refine ev_wk (qLe_eq (qLe_eq (qLe_eq qLe_nil))) (?_ : Ev _ _ _ [some (.ref q), some (iv p0), some (iv (rd μ q 3))] _ _ _ _)
  refine ebX6_insertFalling_5 hq _ _ _ hy6 _ _ ?_
  refine ev_aload_n (pc' := 42) dX6_insertFalling_41 rfl rfl ?_
  refine ev_getr (pc' := 45) dX6_insertFalling_42 rfl tf_6_15 hq.1 rfl ?_
  refine ev_iload_n (pc' := 46) dX6_insertFalling_45 rfl rfl ?_
  refine ev_iload_n (pc' := 47) dX6_insertFalling_46 rfl rfl ?_
  replace h := qbd h; obtain ⟨μ7, hμ7, h⟩ := h
  refine ev_iast (pc' := 48) dX6_insertFalling_47 rfl hq.2.2.1 hμ7 ?_
  cases h
  exact ev_return dX6_insertFalling_48 rfl
set_option maxRecDepth 100000 in
theorem eX6_append {Ls t d n : Nat} {q : Nat} {p0 : Int} {μ : qMu} {r : qMu} (hq : gS q) (h : fX6_append n q p0 μ = some r) : Ev (d + 1) mX6_append 0 [some (.ref q), some (iv p0)] [] (cS Ls t μ) (.inl none) (cS Ls t r) := by
  unfold fX6_append at h
  refine ev_aload_n (pc' := 1) dX6_append_0 rfl rfl ?_
  replace h := qbd h; obtain ⟨y1, hy1, h⟩ := h
  refine ev_callg (pc' := 4) (st2 := [iv y1]) dX6_append_1 (qs_V tc_6_28 rfl rfl (cS_cls hq.1) rfl) rfl rfl (eX6_isFull (d := d + 0) hq hy1) rfl rfl ?_
  refine ev_ifeq (pc' := 7) (tgt := 8) dX6_append_4 (by decide) rfl (x1 := wr y1) rfl (fun c2 => ?_) (fun c2 => ?_)
  · replace h := qit c2 h
    refine ev_aload_n (pc' := 9) dX6_append_8 rfl rfl ?_
    refine ev_getr (pc' := 12) dX6_append_9 rfl tf_6_9 hq.1 rfl ?_
    refine ev_aload_n (pc' := 13) dX6_append_12 rfl rfl ?_
    refine ev_geti (pc' := 16) (ki := 3) dX6_append_13 rfl tf_6_21 hq.1 rfl rfl ?_
    refine ev_iload_n (pc' := 17) dX6_append_16 rfl rfl ?_
    replace h := qbd h; obtain ⟨μ3, hμ3, h⟩ := h
    refine ev_iast (pc' := 18) dX6_append_17 rfl hq.2.1 hμ3 ?_
    refine ev_aload_n (pc' := 19) dX6_append_18 rfl rfl ?_
    refine ev_iload_n (pc' := 20) dX6_append_19 rfl rfl ?_
    replace h := qbd h; obtain ⟨y4, hy4, h⟩ := h
    refine ev_callg (pc' := 23) (st2 := []) dX6_append_20 (qs_V tc_6_32 rfl rfl (cS_cls hq.1) rfl) rfl rfl (eX6_insertFalling (d := d + 0) hq hy4) rfl rfl ?_
    refine ev_aload_n (pc' := 24) dX6_append_23 rfl rfl ?_
    refine ev_dup (pc' := 25) dX6_append_24 rfl rfl ?_
    refine ev_geti (pc' := 28) (ki := 3) dX6_append_25 rfl tf_6_21 hq.1 rfl rfl ?_
    refine ev_iconst (pc' := 29) dX6_append_28 rfl ?_
    refine ev_iadd (pc' := 30) dX6_append_29 rfl ?_
    replace h := qbd h; obtain ⟨μ5, hμ5, h⟩ := h
    refine ev_puti (pc' := 33) dX6_append_30 rfl tf_6_21 hq.1 rfl rfl (qw_5_3 _) rfl hμ5 ?_
    refine ev_aload_n (pc' := 34) dX6_append_33 rfl rfl ?_
    refine ev_dup (pc' := 35) dX6_append_34 rfl rfl ?_
    refine ev_geti (pc' := 38) (ki := 4) dX6_append_35 rfl tf_6_25 hq.1 rfl rfl ?_
    refine ev_iload_n (pc' := 39) dX6_append_38 rfl rfl ?_
    refine ev_iadd (pc' := 40) dX6_append_39 rfl ?_
    replace h := qbd h; obtain ⟨μ6, hμ6, h⟩ := h
    refine ev_puti (pc' := 43) dX6_append_40 rfl tf_6_25 hq.1 rfl rfl (qw_5_4 _) rfl hμ6 ?_
    cases h
    exact ev_return dX6_append_43 rfl
  · replace h := qif' c2 h
    cases h
    exact ev_return dX6_append_7 rfl
set_option maxRecDepth 100000 in
theorem eX6_total {Ls t d : Nat} {q : Nat} {μ : qMu} {r : Int} (hq : gS q) (h : fX6_total q μ = some r) : Ev (d + 0) mX6_total 0 [some (.ref q)] [] (cS Ls t μ) (.inl (some (iv r))) (cS Ls t μ) := by
  unfold fX6_total at h
  refine ev_aload_n (pc' := 1) dX6_total_0 rfl rfl ?_
  refine ev_geti (pc' := 4) (ki := 4) dX6_total_1 rfl tf_6_25 hq.1 rfl rfl ?_
  cases h
  exact ev_ireturn dX6_total_4 rfl rfl
set_option maxRecDepth 100000 in
theorem eX6_length {Ls t d : Nat} {q : Nat} {μ : qMu} {r : Int} (hq : gS q) (h : fX6_length q μ = some r) : Ev (d + 0) mX6_length 0 [some (.ref q)] [] (cS Ls t μ) (.inl (some (iv r))) (cS Ls t μ) := by
  unfold fX6_length at h
  refine ev_aload_n (pc' := 1) dX6_length_0 rfl rfl ?_
  refine ev_geti (pc' := 4) (ki := 3) dX6_length_1 rfl tf_6_21 hq.1 rfl rfl ?_
  cases h
  exact ev_ireturn dX6_length_4 rfl rfl
set_option maxRecDepth 100000 in
theorem eX1_put {Ls t d : Nat} {g : Nat} {p0 : Int} {p1 : Int} {p2 : Int} {μ : qMu} {r : qMu} (hg : gG g) (h : fX1_put g p0 p1 p2 μ = some r) : Ev (d + 0) mX1_put 0 [some (.ref g), some (iv p0), some (iv p1), some (iv p2)] [] (cS Ls t μ) (.inl none) (cS Ls t r) := by
  unfold fX1_put at h
  refine ev_aload_n (pc' := 1) dX1_put_0 rfl rfl ?_
  refine ev_getr (pc' := 4) dX1_put_1 rfl tf_1_9 hg.1 rfl ?_
  refine ev_iload_n (pc' := 5) dX1_put_4 rfl rfl ?_
  refine ev_bipush (pc' := 7) dX1_put_5 rfl bl_8 ?_
  refine ev_imul (pc' := 8) dX1_put_7 rfl ?_
  refine ev_iload_n (pc' := 9) dX1_put_8 rfl rfl ?_
  refine ev_iadd (pc' := 10) dX1_put_9 rfl ?_
  refine ev_dup2 (pc' := 11) dX1_put_10 rfl ⟨rfl, rfl⟩ ?_
  replace h := qbd h; obtain ⟨x1, hx1, h⟩ := h
  refine ev_iald (pc' := 12) dX1_put_11 rfl hg.2 hx1 ?_
  refine ev_iload_n (pc' := 13) dX1_put_12 rfl rfl ?_
  refine ev_iadd (pc' := 14) dX1_put_13 rfl ?_
  replace h := qbd h; obtain ⟨μ2, hμ2, h⟩ := h
  refine ev_iast (pc' := 15) dX1_put_14 rfl hg.2 hμ2 ?_
  refine ev_iload_n (pc' := 16) dX1_put_15 rfl rfl ?_
  refine ev_iload_n (pc' := 17) dX1_put_16 rfl rfl ?_
  replace h := qbd h; obtain ⟨y4, hy4, h⟩ := h
  have kJ : Ev (d + 0) mX1_put 35 [some (.ref g), none, none, some (iv p2)] [] (cS Ls t y4) (.inl none) (cS Ls t r) := by
    refine ev_aload_n (pc' := 36) dX1_put_35 rfl rfl ?_
    refine ev_dup (pc' := 37) dX1_put_36 rfl rfl ?_
    refine ev_geti (pc' := 40) (ki := 2) dX1_put_37 rfl tf_1_19 hg.1 rfl rfl ?_
    refine ev_iload_n (pc' := 41) dX1_put_40 rfl rfl ?_
    refine ev_iadd (pc' := 42) dX1_put_41 rfl ?_
    replace h := qbd h; obtain ⟨μ7, hμ7, h⟩ := h
    refine ev_puti (pc' := 45) dX1_put_42 rfl tf_1_19 hg.1 rfl rfl (qw_0_2 _) rfl hμ7 ?_
    cases h
    exact ev_return dX1_put_45 rfl
  replace h := hy4
  clear hy4
  refine ev_icmpeq (pc' := 20) (tgt := 35) dX1_put_17 (by decide) rfl (x1 := wr p0) (y1 := wr p1) rfl rfl  (fun c3 => ?_) (fun c3 => ?_)
  · replace h := qit c3 h
    cases h
    exact ev_wk (qLe_eq (qLe_sk (qLe_sk (qLe_eq qLe_nil)))) kJ
  · replace h := qif' c3 h
    refine ev_aload_n (pc' := 21) dX1_put_20 rfl rfl ?_
    refine ev_getr (pc' := 24) dX1_put_21 rfl tf_1_9 hg.1 rfl ?_
    refine ev_iload_n (pc' := 25) dX1_put_24 rfl rfl ?_
    refine ev_bipush (pc' := 27) dX1_put_25 rfl bl_8 ?_
    refine ev_imul (pc' := 28) dX1_put_27 rfl ?_
    refine ev_iload_n (pc' := 29) dX1_put_28 rfl rfl ?_
    refine ev_iadd (pc' := 30) dX1_put_29 rfl ?_
    refine ev_dup2 (pc' := 31) dX1_put_30 rfl ⟨rfl, rfl⟩ ?_
    replace h := qbd h; obtain ⟨x5, hx5, h⟩ := h
    refine ev_iald (pc' := 32) dX1_put_31 rfl hg.2 hx5 ?_
    refine ev_iload_n (pc' := 33) dX1_put_32 rfl rfl ?_
    refine ev_iadd (pc' := 34) dX1_put_33 rfl ?_
    replace h := qbd h; obtain ⟨μ6, hμ6, h⟩ := h
    refine ev_iast (pc' := 35) dX1_put_34 rfl hg.2 hμ6 ?_
    cases h
    exact ev_wk (qLe_eq (qLe_sk (qLe_sk (qLe_eq qLe_nil)))) kJ
set_option maxRecDepth 100000 in
theorem ebX6_buildWithLoops_4 {Ls t d n : Nat} {w0 : Nat} {w1 : Nat} (hw0 : gS w0) (hw1 : gG w1) : ∀ (k : Nat) (x : Int × Int × qMu) (y : qMu), lp (fun x : Int × Int × qMu => bX6_buildWithLoops_4 n w0 w1 x.1 x.2.1 x.2.2) k x = some y → ∀ (o : qO) (s' : qSt), Ev (d + 1) mX6_buildWithLoops 73 [none, none, none, none] [] (cS Ls t y) o s' → Ev (d + 1) mX6_buildWithLoops 4 [some (.ref w0), some (.ref w1), some (iv x.1), some (iv x.2.1)] [] (cS Ls t x.2.2) o s' := by
  intro k
  induction k with
  | zero => intro x y h; cases h
  | succ k ih =>
    intro x y h o s' kE
    rw [lp_s] at h
    replace h := qbd h; obtain ⟨zz, h0, h1⟩ := h
    have h : bX6_buildWithLoops_4 n w0 w1 x.1 x.2.1 x.2.2 = some zz := h0
    clear h0
    unfold bX6_buildWithLoops_4 at h
    refine ev_iload_n (pc' := 5) dX6_buildWithLoops_4 rfl rfl ?_
    refine ev_aload_n (pc' := 6) dX6_buildWithLoops_5 rfl rfl ?_
    refine ev_geti (pc' := 9) (ki := 3) dX6_buildWithLoops_6 rfl tf_6_21 hw0.1 rfl rfl ?_
    refine ev_icmpge (pc' := 12) (tgt := 73) dX6_buildWithLoops_9 (by decide) rfl (x1 := wr x.2.1) (y1 := wr (rd x.2.2 w0 3)) rfl rfl  (fun c1 => ?_) (fun c1 => ?_)
    · replace h := qit c1 h
      refine ev_aload_n (pc' := 13) dX6_buildWithLoops_12 rfl rfl ?_
      refine ev_iload_n (pc' := 14) dX6_buildWithLoops_13 rfl rfl ?_
      refine ev_iload_n (pc' := 15) dX6_buildWithLoops_14 rfl rfl ?_
      refine ev_aload_n (pc' := 16) dX6_buildWithLoops_15 rfl rfl ?_
      refine ev_getr (pc' := 19) dX6_buildWithLoops_16 rfl tf_6_18 hw0.1 rfl ?_
      refine ev_iload_n (pc' := 20) dX6_buildWithLoops_19 rfl rfl ?_
      replace h := qbd h; obtain ⟨x2, hx2, h⟩ := h
      refine ev_iald (pc' := 21) dX6_buildWithLoops_20 rfl hw0.2.2.2 hx2 ?_
      refine ev_iconst (pc' := 22) dX6_buildWithLoops_21 rfl ?_
      refine ev_idiv (pc' := 23) dX6_buildWithLoops_22 rfl zl_2 ?_
      replace h := qbd h; obtain ⟨y3, hy3, h⟩ := h
      refine ev_callg (pc' := 26) (st2 := []) dX6_buildWithLoops_23 (qs_V tc_6_76 rfl rfl (cS_cls hw1.1) rfl) rfl rfl (eX1_put (d := d + 0) hw1 hy3) rfl rfl ?_
      refine ev_aload_n (pc' := 27) dX6_buildWithLoops_26 rfl rfl ?_
      refine ev_getr (pc' := 30) dX6_buildWithLoops_27 rfl tf_6_18 hw0.1 rfl ?_
      refine ev_iload_n (pc' := 31) dX6_buildWithLoops_30 rfl rfl ?_
      replace h := qbd h; obtain ⟨x4, hx4, h⟩ := h
      refine ev_iald (pc' := 32) dX6_buildWithLoops_31 rfl hw0.2.2.2 hx4 ?_
      refine ev_iconst (pc' := 33) dX6_buildWithLoops_32 rfl ?_
      refine ev_irem (pc' := 34) dX6_buildWithLoops_33 rfl zl_2 ?_
      replace h := qbd h; obtain ⟨y6, hy6, h⟩ := h
      have kJ : Ev (d + 1) mX6_buildWithLoops 67 [some (.ref w0), some (.ref w1), some (iv y6.1), some (iv x.2.1)] [] (cS Ls t y6.2) o s' := by
        refine ev_iinc (pc' := 70) (x := x.2.1) (L1 := [some (.ref w0), some (.ref w1), some (iv y6.1), some (iv (x.2.1 + 1))]) dX6_buildWithLoops_67 rfl rfl rfl ?_
        refine ev_goto (pc' := 4) dX6_buildWithLoops_70 (by decide) ?_
        cases h
        exact ev_wk (qLe_eq (qLe_eq (qLe_eq (qLe_eq qLe_nil)))) (ih _ _ h1 _ _ kE)
      replace h := hy6
      clear hy6
      refine ev_ifeq (pc' := 37) (tgt := 47) dX6_buildWithLoops_34 (by decide) rfl (x1 := wr (irm x4 2)) rfl (fun c5 => ?_) (fun c5 => ?_)
      · replace h := qit c5 h
        refine ev_aload_n (pc' := 48) dX6_buildWithLoops_47 rfl rfl ?_
        refine ev_getr (pc' := 51) dX6_buildWithLoops_48 rfl tf_6_18 hw0.1 rfl ?_
        refine ev_iload_n (pc' := 52) dX6_buildWithLoops_51 rfl rfl ?_
        replace h := qbd h; obtain ⟨x7, hx7, h⟩ := h
        refine ev_iald (pc' := 53) dX6_buildWithLoops_52 rfl hw0.2.2.2 hx7 ?_
        refine ev_iconst (pc' := 54) dX6_buildWithLoops_53 rfl ?_
        refine ev_irem (pc' := 55) dX6_buildWithLoops_54 rfl zl_2 ?_
        refine ev_ifeq (pc' := 58) (tgt := 67) dX6_buildWithLoops_55 (by decide) rfl (x1 := wr (irm x7 2)) rfl (fun c8 => ?_) (fun c8 => ?_)
        · replace h := qit c8 h
          cases h
          exact ev_wk (qLe_eq (qLe_eq (qLe_eq (qLe_eq qLe_nil)))) kJ
        · replace h := qif' c8 h
          refine ev_aload_n (pc' := 59) dX6_buildWithLoops_58 rfl rfl ?_
          refine ev_iload_n (pc' := 60) dX6_buildWithLoops_59 rfl rfl ?_
          refine ev_iload_n (pc' := 61) dX6_buildWithLoops_60 rfl rfl ?_
          refine ev_iconst (pc' := 62) dX6_buildWithLoops_61 rfl ?_
          replace h := qbd h; obtain ⟨y9, hy9, h⟩ := h
          refine ev_callg (pc' := 65) (st2 := []) dX6_buildWithLoops_62 (qs_V tc_6_76 rfl rfl (cS_cls hw1.1) rfl) rfl rfl (eX1_put (d := d + 0) hw1 hy9) rfl rfl ?_
          refine ev_iconst (pc' := 66) dX6_buildWithLoops_65 rfl ?_
          refine ev_istore_n (pc' := 67) (L1 := [some (.ref w0), some (.ref w1), some (iv (-1)), some (iv x.2.1)]) dX6_buildWithLoops_66 rfl rfl ?_
          cases h
          exact ev_wk (qLe_eq (qLe_eq (qLe_eq (qLe_eq qLe_nil)))) kJ
      · replace h := qif' c5 h
        refine ev_iload_n (pc' := 38) dX6_buildWithLoops_37 rfl rfl ?_
        refine ev_iconst (pc' := 39) dX6_buildWithLoops_38 rfl ?_
        refine ev_icmpne (pc' := 42) (tgt := 47) dX6_buildWithLoops_39 (by decide) rfl (x1 := wr x.1) (y1 := (-1)) rfl wl_m1  (fun c10 => ?_) (fun c10 => ?_)
        · replace h := qit c10 h
          refine ev_iload_n (pc' := 43) dX6_buildWithLoops_42 rfl rfl ?_
          refine ev_istore_n (pc' := 44) (L1 := [some (.ref w0), some (.ref w1), some (iv x.2.1), some (iv x.2.1)]) dX6_buildWithLoops_43 rfl rfl ?_
          refine ev_goto (pc' := 67) dX6_buildWithLoops_44 (by decide) ?_
          cases h
          exact ev_wk (qLe_eq (qLe_eq (qLe_eq (qLe_eq qLe_nil)))) kJ
        · replace h := qif' c10 h
          refine ev_aload_n (pc' := 48) dX6_buildWithLoops_47 rfl rfl ?_
          refine ev_getr (pc' := 51) dX6_buildWithLoops_48 rfl tf_6_18 hw0.1 rfl ?_
          refine ev_iload_n (pc' := 52) dX6_buildWithLoops_51 rfl rfl ?_
          replace h := qbd h; obtain ⟨x11, hx11, h⟩ := h
          refine ev_iald (pc' := 53) dX6_buildWithLoops_52 rfl hw0.2.2.2 hx11 ?_
          refine ev_iconst (pc' := 54) dX6_buildWithLoops_53 rfl ?_
          refine ev_irem (pc' := 55) dX6_buildWithLoops_54 rfl zl_2 ?_
          refine ev_ifeq (pc' := 58) (tgt := 67) dX6_buildWithLoops_55 (by decide) rfl (x1 := wr (irm x11 2)) rfl (fun c12 => ?_) (fun c12 => ?_)
          · replace h := qit c12 h
            cases h
            exact ev_wk (qLe_eq (qLe_eq (qLe_eq (qLe_eq qLe_nil)))) kJ
          · replace h := qif' c12 h
            refine ev_aload_n (pc' := 59) dX6_buildWithLoops_58 rfl rfl ?_
            refine ev_iload_n (pc' := 60) dX6_buildWithLoops_59 rfl rfl ?_
            refine ev_iload_n (pc' := 61) dX6_buildWithLoops_60 rfl rfl ?_
            refine ev_iconst (pc' := 62) dX6_buildWithLoops_61 rfl ?_
            replace h := qbd h; obtain ⟨y13, hy13, h⟩ := h
            refine ev_callg (pc' := 65) (st2 := []) dX6_buildWithLoops_62 (qs_V tc_6_76 rfl rfl (cS_cls hw1.1) rfl) rfl rfl (eX1_put (d := d + 0) hw1 hy13) rfl rfl ?_
            refine ev_iconst (pc' := 66) dX6_buildWithLoops_65 rfl ?_
            refine ev_istore_n (pc' := 67) (L1 := [some (.ref w0), some (.ref w1), some (iv (-1)), some (iv x.2.1)]) dX6_buildWithLoops_66 rfl rfl ?_
            cases h
            exact ev_wk (qLe_eq (qLe_eq (qLe_eq (qLe_eq qLe_nil)))) kJ
    · replace h := qif' c1 h
      cases h
      cases h1
      exact ev_wk (qLe_sk (qLe_sk (qLe_sk (qLe_sk qLe_nil)))) kE
set_option maxRecDepth 100000 in
theorem eX6_buildWithLoops {Ls t d n : Nat} {q : Nat} {p0 : Nat} {μ : qMu} {r : qMu} (hq : gS q) (hp0 : gG p0) (h : fX6_buildWithLoops n q p0 μ = some r) : Ev (d + 1) mX6_buildWithLoops 0 [some (.ref q), some (.ref p0), none, none] [] (cS Ls t μ) (.inl none) (cS Ls t r) := by
  unfold fX6_buildWithLoops at h
  refine ev_iconst (pc' := 1) dX6_buildWithLoops_0 rfl ?_
  refine ev_istore_n (pc' := 2) (L1 := [some (.ref q), some (.ref p0), some (iv (-1)), none]) dX6_buildWithLoops_1 rfl rfl ?_
  refine ev_iconst (pc' := 3) dX6_buildWithLoops_2 rfl ?_
  refine ev_istore_n (pc' := 4) (L1 := [some (.ref q), some (.ref p0), some (iv (-1)), some (iv 0)]) dX6_buildWithLoops_3 rfl rfl ?_
  replace h := qbd h; obtain ⟨y14, hy14, h⟩ := h
  refine ev_wk (qLe_eq (qLe_eq (qLe_eq (qLe_eq qLe_nil)))) (?_ : Ev _ _ _ [some (.ref q), some (.ref p0), some (iv (-1)), some (iv 0)] _ _ _ _)
  refine ebX6_buildWithLoops_4 hq hp0 _ _ _ hy14 _ _ ?_
  cases h
  exact ev_return dX6_buildWithLoops_73 rfl
set_option maxRecDepth 100000 in
theorem ebX6_neediestBut_7 {Ls t d n : Nat} {w0 : Nat} {w1 : Int} (hw0 : gS w0) {μ : qMu} : ∀ (k : Nat) (x : Int × Int × Int) (y : Int), lp (fun x : Int × Int × Int => bX6_neediestBut_7 n w0 w1 x.1 x.2.1 x.2.2 μ) k x = some y → ∀ (o : qO) (s' : qSt), Ev (d + 0) mX6_neediestBut 53 [none, none, some (iv y), none, none] [] (cS Ls t μ) o s' → Ev (d + 0) mX6_neediestBut 7 [some (.ref w0), some (iv w1), some (iv x.1), some (iv x.2.1), some (iv x.2.2)] [] (cS Ls t μ) o s' := by
  intro k
  induction k with
  | zero => intro x y h; cases h
  | succ k ih =>
    intro x y h o s' kE
    rw [lp_s] at h
    replace h := qbd h; obtain ⟨zz, h0, h1⟩ := h
    have h : bX6_neediestBut_7 n w0 w1 x.1 x.2.1 x.2.2 μ = some zz := h0
    clear h0
    unfold bX6_neediestBut_7 at h
    refine ev_iload (pc' := 9) dX6_neediestBut_7 rfl rfl ?_
    refine ev_aload_n (pc' := 10) dX6_neediestBut_9 rfl rfl ?_
    refine ev_geti (pc' := 13) (ki := 3) dX6_neediestBut_10 rfl tf_6_21 hw0.1 rfl rfl ?_
    refine ev_icmpge (pc' := 16) (tgt := 53) dX6_neediestBut_13 (by decide) rfl (x1 := wr x.2.2) (y1 := wr (rd μ w0 3)) rfl rfl  (fun c1 => ?_) (fun c1 => ?_)
    · replace h := qit c1 h
      refine ev_aload_n (pc' := 17) dX6_neediestBut_16 rfl rfl ?_
      refine ev_getr (pc' := 20) dX6_neediestBut_17 rfl tf_6_18 hw0.1 rfl ?_
      refine ev_iload (pc' := 22) dX6_neediestBut_20 rfl rfl ?_
      replace h := qbd h; obtain ⟨x2, hx2, h⟩ := h
      refine ev_iald (pc' := 23) dX6_neediestBut_22 rfl hw0.2.2.2 hx2 ?_
      refine ev_iload_n (pc' := 24) dX6_neediestBut_23 rfl rfl ?_
      replace h := qbd h; obtain ⟨y4, hy4, h⟩ := h
      have kJ : Ev (d + 0) mX6_neediestBut 47 [some (.ref w0), some (iv w1), some (iv y4.1), some (iv y4.2), some (iv x.2.2)] [] (cS Ls t μ) o s' := by
        refine ev_iinc (pc' := 50) (x := x.2.2) (L1 := [some (.ref w0), some (iv w1), some (iv y4.1), some (iv y4.2), some (iv (x.2.2 + 1))]) dX6_neediestBut_47 rfl rfl rfl ?_
        refine ev_goto (pc' := 7) dX6_neediestBut_50 (by decide) ?_
        cases h
        exact ev_wk (qLe_eq (qLe_eq (qLe_eq (qLe_eq (qLe_eq qLe_nil))))) (ih _ _ h1 _ _ kE)
      replace h := hy4
      clear hy4
      refine ev_icmple (pc' := 27) (tgt := 47) dX6_neediestBut_24 (by decide) rfl (x1 := wr x2) (y1 := wr x.2.1) rfl rfl  (fun c3 => ?_) (fun c3 => ?_)
      · replace h := qit c3 h
        refine ev_iload_n (pc' := 28) dX6_neediestBut_27 rfl rfl ?_
        refine ev_iload (pc' := 30) dX6_neediestBut_28 rfl rfl ?_
        refine ev_ishr (pc' := 31) dX6_neediestBut_30 rfl ?_
        refine ev_iconst (pc' := 32) dX6_neediestBut_31 rfl ?_
        refine ev_iand (pc' := 33) dX6_neediestBut_32 rfl ?_
        refine ev_ifne (pc' := 36) (tgt := 47) dX6_neediestBut_33 (by decide) rfl (x1 := wr (ian (ishr w1 x.2.2) 1)) rfl (fun c5 => ?_) (fun c5 => ?_)
        · replace h := qit c5 h
          refine ev_aload_n (pc' := 37) dX6_neediestBut_36 rfl rfl ?_
          refine ev_getr (pc' := 40) dX6_neediestBut_37 rfl tf_6_18 hw0.1 rfl ?_
          refine ev_iload (pc' := 42) dX6_neediestBut_40 rfl rfl ?_
          replace h := qbd h; obtain ⟨x6, hx6, h⟩ := h
          refine ev_iald (pc' := 43) dX6_neediestBut_42 rfl hw0.2.2.2 hx6 ?_
          refine ev_istore_n (pc' := 44) (L1 := [some (.ref w0), some (iv w1), some (iv x.1), some (iv x6), some (iv x.2.2)]) dX6_neediestBut_43 rfl rfl ?_
          refine ev_iload (pc' := 46) dX6_neediestBut_44 rfl rfl ?_
          refine ev_istore_n (pc' := 47) (L1 := [some (.ref w0), some (iv w1), some (iv x.2.2), some (iv x6), some (iv x.2.2)]) dX6_neediestBut_46 rfl rfl ?_
          cases h
          exact ev_wk (qLe_eq (qLe_eq (qLe_eq (qLe_eq (qLe_eq qLe_nil))))) kJ
        · replace h := qif' c5 h
          cases h
          exact ev_wk (qLe_eq (qLe_eq (qLe_eq (qLe_eq (qLe_eq qLe_nil))))) kJ
      · replace h := qif' c3 h
        cases h
        exact ev_wk (qLe_eq (qLe_eq (qLe_eq (qLe_eq (qLe_eq qLe_nil))))) kJ
    · replace h := qif' c1 h
      cases h
      cases h1
      exact ev_wk (qLe_sk (qLe_sk (qLe_eq (qLe_sk (qLe_sk qLe_nil))))) kE
set_option maxRecDepth 100000 in
theorem eX6_neediestBut {Ls t d n : Nat} {q : Nat} {p0 : Int} {μ : qMu} {r : Int} (hq : gS q) (h : fX6_neediestBut n q p0 μ = some r) : Ev (d + 0) mX6_neediestBut 0 [some (.ref q), some (iv p0), none, none, none] [] (cS Ls t μ) (.inl (some (iv r))) (cS Ls t μ) := by
  unfold fX6_neediestBut at h
  refine ev_iconst (pc' := 1) dX6_neediestBut_0 rfl ?_
  refine ev_istore_n (pc' := 2) (L1 := [some (.ref q), some (iv p0), some (iv (-1)), none, none]) dX6_neediestBut_1 rfl rfl ?_
  refine ev_iconst (pc' := 3) dX6_neediestBut_2 rfl ?_
  refine ev_istore_n (pc' := 4) (L1 := [some (.ref q), some (iv p0), some (iv (-1)), some (iv 0), none]) dX6_neediestBut_3 rfl rfl ?_
  refine ev_iconst (pc' := 5) dX6_neediestBut_4 rfl ?_
  refine ev_istore (pc' := 7) (L1 := [some (.ref q), some (iv p0), some (iv (-1)), some (iv 0), some (iv 0)]) dX6_neediestBut_5 rfl rfl ?_
  replace h := qbd h; obtain ⟨y7, hy7, h⟩ := h
  refine ev_wk (qLe_eq (qLe_eq (qLe_eq (qLe_eq (qLe_eq qLe_nil))))) (?_ : Ev _ _ _ [some (.ref q), some (iv p0), some (iv (-1)), some (iv 0), some (iv 0)] _ _ _ _)
  refine ebX6_neediestBut_7 hq _ _ _ hy7 _ _ ?_
  refine ev_iload_n (pc' := 54) dX6_neediestBut_53 rfl rfl ?_
  cases h
  exact ev_ireturn dX6_neediestBut_54 rfl rfl
set_option maxRecDepth 100000 in
theorem eX6_join {Ls t d : Nat} {q : Nat} {p0 : Nat} {p1 : Int} {p2 : Int} {μ : qMu} {r : qMu} (hq : gS q) (hp0 : gG p0) (h : fX6_join q p0 p1 p2 μ = some r) : Ev (d + 1) mX6_join 0 [some (.ref q), some (.ref p0), some (iv p1), some (iv p2)] [] (cS Ls t μ) (.inl none) (cS Ls t r) := by
  unfold fX6_join at h
  refine ev_iload_n (pc' := 1) dX6_join_0 rfl rfl ?_
  refine ev_iconst (pc' := 2) dX6_join_1 rfl ?_
  refine ev_icmpne (pc' := 5) (tgt := 6) dX6_join_2 (by decide) rfl (x1 := wr p2) (y1 := (-1)) rfl wl_m1  (fun c1 => ?_) (fun c1 => ?_)
  · replace h := qit c1 h
    cases h
    exact ev_return dX6_join_5 rfl
  · replace h := qif' c1 h
    refine ev_aload_n (pc' := 7) dX6_join_6 rfl rfl ?_
    refine ev_iload_n (pc' := 8) dX6_join_7 rfl rfl ?_
    refine ev_iload_n (pc' := 9) dX6_join_8 rfl rfl ?_
    refine ev_iconst (pc' := 10) dX6_join_9 rfl ?_
    replace h := qbd h; obtain ⟨y2, hy2, h⟩ := h
    refine ev_callg (pc' := 13) (st2 := []) dX6_join_10 (qs_V tc_6_76 rfl rfl (cS_cls hp0.1) rfl) rfl rfl (eX1_put (d := d + 0) hp0 hy2) rfl rfl ?_
    refine ev_aload_n (pc' := 14) dX6_join_13 rfl rfl ?_
    refine ev_getr (pc' := 17) dX6_join_14 rfl tf_6_18 hq.1 rfl ?_
    refine ev_iload_n (pc' := 18) dX6_join_17 rfl rfl ?_
    refine ev_dup2 (pc' := 19) dX6_join_18 rfl ⟨rfl, rfl⟩ ?_
    replace h := qbd h; obtain ⟨x3, hx3, h⟩ := h
    refine ev_iald (pc' := 20) dX6_join_19 rfl hq.2.2.2 hx3 ?_
    refine ev_iconst (pc' := 21) dX6_join_20 rfl ?_
    refine ev_isub (pc' := 22) dX6_join_21 rfl ?_
    replace h := qbd h; obtain ⟨μ4, hμ4, h⟩ := h
    refine ev_iast (pc' := 23) dX6_join_22 rfl hq.2.2.2 hμ4 ?_
    refine ev_aload_n (pc' := 24) dX6_join_23 rfl rfl ?_
    refine ev_getr (pc' := 27) dX6_join_24 rfl tf_6_18 hq.1 rfl ?_
    refine ev_iload_n (pc' := 28) dX6_join_27 rfl rfl ?_
    refine ev_dup2 (pc' := 29) dX6_join_28 rfl ⟨rfl, rfl⟩ ?_
    replace h := qbd h; obtain ⟨x5, hx5, h⟩ := h
    refine ev_iald (pc' := 30) dX6_join_29 rfl hq.2.2.2 hx5 ?_
    refine ev_iconst (pc' := 31) dX6_join_30 rfl ?_
    refine ev_isub (pc' := 32) dX6_join_31 rfl ?_
    replace h := qbd h; obtain ⟨μ6, hμ6, h⟩ := h
    refine ev_iast (pc' := 33) dX6_join_32 rfl hq.2.2.2 hμ6 ?_
    cases h
    exact ev_return dX6_join_33 rfl
set_option maxRecDepth 100000 in
theorem ebX6_buildWithoutLoops_2 {Ls t d n : Nat} {w0 : Nat} {w1 : Nat} (hw0 : gS w0) (hw1 : gG w1) : ∀ (k : Nat) (x : Int × qMu) (y : (qMu) ⊕ (qMu)), lp (fun x : Int × qMu => bX6_buildWithoutLoops_2 n w0 w1 x.1 x.2) k x = some y → ∀ (o : qO) (s' : qSt), (∀ b : qMu, y = .inl b → Ev (d + 2) mX6_buildWithoutLoops 39 [none, none, none, none] [] (cS Ls t b) o s') → (∀ r : qMu, y = .inr r → o = (.inl none) ∧ s' = (cS Ls t r)) → Ev (d + 2) mX6_buildWithoutLoops 2 [some (.ref w0), some (.ref w1), some (iv x.1), none] [] (cS Ls t x.2) o s' := by
  intro k
  induction k with
  | zero => intro x y h; cases h
  | succ k ih =>
    intro x y h o s' kE kR
    rw [lp_s] at h
    replace h := qbd h; obtain ⟨zz, h0, h1⟩ := h
    have h : bX6_buildWithoutLoops_2 n w0 w1 x.1 x.2 = some zz := h0
    clear h0
    unfold bX6_buildWithoutLoops_2 at h
    refine ev_iload_n (pc' := 3) dX6_buildWithoutLoops_2 rfl rfl ?_
    refine ev_bipush (pc' := 5) dX6_buildWithoutLoops_3 rfl bl_16 ?_
    refine ev_icmpge (pc' := 8) (tgt := 39) dX6_buildWithoutLoops_5 (by decide) rfl (x1 := wr x.1) (y1 := 16) rfl wl_16  (fun c1 => ?_) (fun c1 => ?_)
    · replace h := qit c1 h
      refine ev_aload_n (pc' := 9) dX6_buildWithoutLoops_8 rfl rfl ?_
      refine ev_iconst (pc' := 10) dX6_buildWithoutLoops_9 rfl ?_
      replace h := qbd h; obtain ⟨y2, hy2, h⟩ := h
      refine ev_callg (pc' := 13) (st2 := [iv y2]) dX6_buildWithoutLoops_10 (qs_V tc_6_80 rfl rfl (cS_cls hw0.1) rfl) rfl rfl (eX6_neediestBut (d := d + 1) hw0 hy2) rfl rfl ?_
      refine ev_istore_n (pc' := 14) (L1 := [some (.ref w0), some (.ref w1), some (iv x.1), some (iv y2)]) dX6_buildWithoutLoops_13 rfl rfl ?_
      refine ev_iload_n (pc' := 15) dX6_buildWithoutLoops_14 rfl rfl ?_
      refine ev_iconst (pc' := 16) dX6_buildWithoutLoops_15 rfl ?_
      refine ev_icmpne (pc' := 19) (tgt := 20) dX6_buildWithoutLoops_16 (by decide) rfl (x1 := wr y2) (y1 := (-1)) rfl wl_m1  (fun c3 => ?_) (fun c3 => ?_)
      · replace h := qit c3 h
        cases h
        cases h1
        obtain ⟨rfl, rfl⟩ := kR _ rfl
        exact ev_return dX6_buildWithoutLoops_19 rfl
      · replace h := qif' c3 h
        refine ev_aload_n (pc' := 21) dX6_buildWithoutLoops_20 rfl rfl ?_
        refine ev_aload_n (pc' := 22) dX6_buildWithoutLoops_21 rfl rfl ?_
        refine ev_iload_n (pc' := 23) dX6_buildWithoutLoops_22 rfl rfl ?_
        refine ev_aload_n (pc' := 24) dX6_buildWithoutLoops_23 rfl rfl ?_
        refine ev_iconst (pc' := 25) dX6_buildWithoutLoops_24 rfl ?_
        refine ev_iload_n (pc' := 26) dX6_buildWithoutLoops_25 rfl rfl ?_
        refine ev_ishl (pc' := 27) dX6_buildWithoutLoops_26 rfl ?_
        replace h := qbd h; obtain ⟨y4, hy4, h⟩ := h
        refine ev_callg (pc' := 30) (st2 := [iv y4, iv y2, .ref w1, .ref w0]) dX6_buildWithoutLoops_27 (qs_V tc_6_80 rfl rfl (cS_cls hw0.1) rfl) rfl rfl (eX6_neediestBut (d := d + 1) hw0 hy4) rfl rfl ?_
        replace h := qbd h; obtain ⟨y5, hy5, h⟩ := h
        refine ev_callg (pc' := 33) (st2 := []) dX6_buildWithoutLoops_30 (qs_V tc_6_83 rfl rfl (cS_cls hw0.1) rfl) rfl rfl (eX6_join (d := d + 0) hw0 hw1 hy5) rfl rfl ?_
        refine ev_iinc (pc' := 36) (x := x.1) (L1 := [some (.ref w0), some (.ref w1), some (iv (x.1 + 1)), some (iv y2)]) dX6_buildWithoutLoops_33 rfl rfl rfl ?_
        refine ev_goto (pc' := 2) dX6_buildWithoutLoops_36 (by decide) ?_
        cases h
        exact ev_wk (qLe_eq (qLe_eq (qLe_eq (qLe_sk qLe_nil)))) (ih _ _ h1 _ _ kE kR)
    · replace h := qif' c1 h
      cases h
      cases h1
      exact ev_wk (qLe_sk (qLe_sk (qLe_sk (qLe_eq qLe_nil)))) (kE _ rfl)
set_option maxRecDepth 100000 in
theorem eX6_buildWithoutLoops {Ls t d n : Nat} {q : Nat} {p0 : Nat} {μ : qMu} {r : qMu} (hq : gS q) (hp0 : gG p0) (h : fX6_buildWithoutLoops n q p0 μ = some r) : Ev (d + 2) mX6_buildWithoutLoops 0 [some (.ref q), some (.ref p0), none, none] [] (cS Ls t μ) (.inl none) (cS Ls t r) := by
  unfold fX6_buildWithoutLoops at h
  refine ev_iconst (pc' := 1) dX6_buildWithoutLoops_0 rfl ?_
  refine ev_istore_n (pc' := 2) (L1 := [some (.ref q), some (.ref p0), some (iv 0), none]) dX6_buildWithoutLoops_1 rfl rfl ?_
  replace h := qbd h; obtain ⟨y6, hy6, h⟩ := h
  refine ev_wk (qLe_eq (qLe_eq (qLe_eq (qLe_eq qLe_nil)))) (?_ : Ev _ _ _ [some (.ref q), some (.ref p0), some (iv 0), none] _ _ _ _)
  refine ebX6_buildWithoutLoops_2 hq hp0 _ _ _ hy6 _ _ ?_ ?_
  · intro b7 eb7
    subst eb7
    replace h := qel h
    cases h
    exact ev_return dX6_buildWithoutLoops_39 rfl
  · intro r8 er8
    subst er8
    replace h := qer h
    cases h
    exact ⟨rfl, rfl⟩
set_option maxRecDepth 100000 in
theorem ebX6_buildSimple_40 {Ls t d n : Nat} {w0 : Nat} {w1 : Nat} {w2 : Int} {w3 : Int} (hw0 : gS w0) (hw1 : gG w1) : ∀ (k : Nat) (x : Int × Int × qMu) (y : qMu), lp (fun x : Int × Int × qMu => bX6_buildSimple_40 n w0 w1 w2 w3 x.1 x.2.1 x.2.2) k x = some y → ∀ (o : qO) (s' : qSt), Ev (d + 2) mX6_buildSimple 86 [some (.ref w0), some (.ref w1), some (iv w2), none, none, none, none] [] (cS Ls t y) o s' → Ev (d + 2) mX6_buildSimple 40 [some (.ref w0), some (.ref w1), some (iv w2), some (iv w3), some (iv x.1), some (iv x.2.1), none] [] (cS Ls t x.2.2) o s' := by
  intro k
  induction k with
  | zero => intro x y h; cases h
  | succ k ih =>
    intro x y h o s' kE
    rw [lp_s] at h
    replace h := qbd h; obtain ⟨zz, h0, h1⟩ := h
    have h : bX6_buildSimple_40 n w0 w1 w2 w3 x.1 x.2.1 x.2.2 = some zz := h0
    clear h0
    unfold bX6_buildSimple_40 at h
    refine ev_iload (pc' := 42) dX6_buildSimple_40 rfl rfl ?_
    refine ev_ifle (pc' := 45) (tgt := 86) dX6_buildSimple_42 (by decide) rfl (x1 := wr x.2.1) rfl (fun c5 => ?_) (fun c5 => ?_)
    · replace h := qit c5 h
      refine ev_aload_n (pc' := 46) dX6_buildSimple_45 rfl rfl ?_
      refine ev_iload (pc' := 48) dX6_buildSimple_46 rfl rfl ?_
      replace h := qbd h; obtain ⟨y6, hy6, h⟩ := h
      refine ev_callg (pc' := 51) (st2 := [iv y6]) dX6_buildSimple_48 (qs_V tc_6_80 rfl rfl (cS_cls hw0.1) rfl) rfl rfl (eX6_neediestBut (d := d + 1) hw0 hy6) rfl rfl ?_
      refine ev_istore (pc' := 53) (L1 := [some (.ref w0), some (.ref w1), some (iv w2), some (iv w3), some (iv x.1), some (iv x.2.1), some (iv y6)]) dX6_buildSimple_51 rfl rfl ?_
      refine ev_aload_n (pc' := 54) dX6_buildSimple_53 rfl rfl ?_
      refine ev_aload_n (pc' := 55) dX6_buildSimple_54 rfl rfl ?_
      refine ev_iload_n (pc' := 56) dX6_buildSimple_55 rfl rfl ?_
      refine ev_iload (pc' := 58) dX6_buildSimple_56 rfl rfl ?_
      replace h := qbd h; obtain ⟨y7, hy7, h⟩ := h
      refine ev_callg (pc' := 61) (st2 := []) dX6_buildSimple_58 (qs_V tc_6_83 rfl rfl (cS_cls hw0.1) rfl) rfl rfl (eX6_join (d := d + 0) hw0 hw1 hy7) rfl rfl ?_
      refine ev_iload (pc' := 63) dX6_buildSimple_61 rfl rfl ?_
      refine ev_iload (pc' := 65) dX6_buildSimple_63 rfl rfl ?_
      refine ev_iconst (pc' := 66) dX6_buildSimple_65 rfl ?_
      have k9 : ∀ j10 : Int, j10 = (if wr y6 = (-1) then 0 else (ishl 1 y6)) → Ev (d + 2) mX6_buildSimple 77 [some (.ref w0), some (.ref w1), some (iv w2), some (iv w3), none, some (iv x.2.1), none] [iv j10, iv x.1] (cS Ls t y7) o s' := by
        intro j10 ej10
        subst ej10
        refine ev_ior (pc' := 78) dX6_buildSimple_77 rfl ?_
        refine ev_istore (pc' := 80) (L1 := [some (.ref w0), some (.ref w1), some (iv w2), some (iv w3), some (iv (io x.1 (if wr y6 = (-1) then 0 else (ishl 1 y6)))), some (iv x.2.1), none]) dX6_buildSimple_78 rfl rfl ?_
        refine ev_iinc (pc' := 83) (x := x.2.1) (L1 := [some (.ref w0), some (.ref w1), some (iv w2), some (iv w3), some (iv (io x.1 (if wr y6 = (-1) then 0 else (ishl 1 y6)))), some (iv (x.2.1 + (-1))), none]) dX6_buildSimple_80 rfl rfl rfl ?_
        refine ev_goto (pc' := 40) dX6_buildSimple_83 (by decide) ?_
        cases h
        exact ev_wk (qLe_eq (qLe_eq (qLe_eq (qLe_eq (qLe_eq (qLe_eq (qLe_eq qLe_nil))))))) (ih _ _ h1 _ _ kE)
      refine ev_icmpne (pc' := 69) (tgt := 73) dX6_buildSimple_66 (by decide) rfl (x1 := wr y6) (y1 := (-1)) rfl wl_m1  (fun c8 => ?_) (fun c8 => ?_)
      · skip
        refine ev_iconst (pc' := 70) dX6_buildSimple_69 rfl ?_
        refine ev_goto (pc' := 77) dX6_buildSimple_70 (by decide) ?_
        exact ev_wk (qLe_eq (qLe_eq (qLe_eq (qLe_eq (qLe_sk (qLe_eq (qLe_sk qLe_nil))))))) (k9 _ (qet c8 rfl))
      · skip
        refine ev_iconst (pc' := 74) dX6_buildSimple_73 rfl ?_
        refine ev_iload (pc' := 76) dX6_buildSimple_74 rfl rfl ?_
        refine ev_ishl (pc' := 77) dX6_buildSimple_76 rfl ?_
        exact ev_wk (qLe_eq (qLe_eq (qLe_eq (qLe_eq (qLe_sk (qLe_eq (qLe_sk qLe_nil))))))) (k9 _ (qef c8 rfl))
    · replace h := qif' c5 h
      cases h
      cases h1
      exact ev_wk (qLe_eq (qLe_eq (qLe_eq (qLe_sk (qLe_sk (qLe_sk (qLe_eq qLe_nil))))))) kE
set_option maxRecDepth 100000 in
theorem ebX6_buildSimple_2 {Ls t d n : Nat} {w0 : Nat} {w1 : Nat} (hw0 : gS w0) (hw1 : gG w1) : ∀ (k : Nat) (x : Int × qMu) (y : (qMu) ⊕ (qMu)), lp (fun x : Int × qMu => bX6_buildSimple_2 n w0 w1 x.1 x.2) k x = some y → ∀ (o : qO) (s' : qSt), (∀ b : qMu, y = .inl b → Ev (d + 2) mX6_buildSimple 92 [none, none, none, none, none, none, none] [] (cS Ls t b) o s') → (∀ r : qMu, y = .inr r → o = (.inl none) ∧ s' = (cS Ls t r)) → Ev (d + 2) mX6_buildSimple 2 [some (.ref w0), some (.ref w1), some (iv x.1), none, none, none, none] [] (cS Ls t x.2) o s' := by
  intro k
  induction k with
  | zero => intro x y h; cases h
  | succ k ih =>
    intro x y h o s' kE kR
    rw [lp_s] at h
    replace h := qbd h; obtain ⟨zz, h0, h1⟩ := h
    have h : bX6_buildSimple_2 n w0 w1 x.1 x.2 = some zz := h0
    clear h0
    unfold bX6_buildSimple_2 at h
    refine ev_iload_n (pc' := 3) dX6_buildSimple_2 rfl rfl ?_
    refine ev_bipush (pc' := 5) dX6_buildSimple_3 rfl bl_8 ?_
    refine ev_icmpge (pc' := 8) (tgt := 92) dX6_buildSimple_5 (by decide) rfl (x1 := wr x.1) (y1 := 8) rfl wl_8  (fun c1 => ?_) (fun c1 => ?_)
    · replace h := qit c1 h
      refine ev_aload_n (pc' := 9) dX6_buildSimple_8 rfl rfl ?_
      refine ev_iconst (pc' := 10) dX6_buildSimple_9 rfl ?_
      replace h := qbd h; obtain ⟨y2, hy2, h⟩ := h
      refine ev_callg (pc' := 13) (st2 := [iv y2]) dX6_buildSimple_10 (qs_V tc_6_80 rfl rfl (cS_cls hw0.1) rfl) rfl rfl (eX6_neediestBut (d := d + 1) hw0 hy2) rfl rfl ?_
      refine ev_istore_n (pc' := 14) (L1 := [some (.ref w0), some (.ref w1), some (iv x.1), some (iv y2), none, none, none]) dX6_buildSimple_13 rfl rfl ?_
      refine ev_iload_n (pc' := 15) dX6_buildSimple_14 rfl rfl ?_
      refine ev_iconst (pc' := 16) dX6_buildSimple_15 rfl ?_
      refine ev_icmpne (pc' := 19) (tgt := 20) dX6_buildSimple_16 (by decide) rfl (x1 := wr y2) (y1 := (-1)) rfl wl_m1  (fun c3 => ?_) (fun c3 => ?_)
      · replace h := qit c3 h
        cases h
        cases h1
        obtain ⟨rfl, rfl⟩ := kR _ rfl
        exact ev_return dX6_buildSimple_19 rfl
      · replace h := qif' c3 h
        refine ev_iconst (pc' := 21) dX6_buildSimple_20 rfl ?_
        refine ev_iload_n (pc' := 22) dX6_buildSimple_21 rfl rfl ?_
        refine ev_ishl (pc' := 23) dX6_buildSimple_22 rfl ?_
        refine ev_istore (pc' := 25) (L1 := [some (.ref w0), some (.ref w1), some (iv x.1), some (iv y2), some (iv (ishl 1 y2)), none, none]) dX6_buildSimple_23 rfl rfl ?_
        refine ev_aload_n (pc' := 26) dX6_buildSimple_25 rfl rfl ?_
        refine ev_getr (pc' := 29) dX6_buildSimple_26 rfl tf_6_18 hw0.1 rfl ?_
        refine ev_iload_n (pc' := 30) dX6_buildSimple_29 rfl rfl ?_
        replace h := qbd h; obtain ⟨x4, hx4, h⟩ := h
        refine ev_iald (pc' := 31) dX6_buildSimple_30 rfl hw0.2.2.2 hx4 ?_
        refine ev_aload_n (pc' := 32) dX6_buildSimple_31 rfl rfl ?_
        refine ev_geti (pc' := 35) (ki := 3) dX6_buildSimple_32 rfl tf_6_21 hw0.1 rfl rfl ?_
        refine ev_min (pc' := 38) dX6_buildSimple_35 rfl tc_6_52 rfl ?_
        refine ev_istore (pc' := 40) (L1 := [some (.ref w0), some (.ref w1), some (iv x.1), some (iv y2), some (iv (ishl 1 y2)), some (iv (mn x4 (rd x.2 w0 3))), none]) dX6_buildSimple_38 rfl rfl ?_
        replace h := qbd h; obtain ⟨y11, hy11, h⟩ := h
        refine ev_wk (qLe_eq (qLe_eq (qLe_eq (qLe_eq (qLe_eq (qLe_eq (qLe_eq qLe_nil))))))) (?_ : Ev _ _ _ [some (.ref w0), some (.ref w1), some (iv x.1), some (iv y2), some (iv (ishl 1 y2)), some (iv (mn x4 (rd x.2 w0 3))), none] _ _ _ _)
        refine ebX6_buildSimple_40 hw0 hw1 _ _ _ hy11 _ _ ?_
        refine ev_iinc (pc' := 89) (x := x.1) (L1 := [some (.ref w0), some (.ref w1), some (iv (x.1 + 1)), none, none, none, none]) dX6_buildSimple_86 rfl rfl rfl ?_
        refine ev_goto (pc' := 2) dX6_buildSimple_89 (by decide) ?_
        cases h
        exact ev_wk (qLe_eq (qLe_eq (qLe_eq (qLe_eq (qLe_eq (qLe_eq (qLe_eq qLe_nil))))))) (ih _ _ h1 _ _ kE kR)
    · replace h := qif' c1 h
      cases h
      cases h1
      exact ev_wk (qLe_sk (qLe_sk (qLe_sk (qLe_eq (qLe_eq (qLe_eq (qLe_eq qLe_nil))))))) (kE _ rfl)
set_option maxRecDepth 100000 in
theorem eX6_buildSimple {Ls t d n : Nat} {q : Nat} {p0 : Nat} {μ : qMu} {r : qMu} (hq : gS q) (hp0 : gG p0) (h : fX6_buildSimple n q p0 μ = some r) : Ev (d + 2) mX6_buildSimple 0 [some (.ref q), some (.ref p0), none, none, none, none, none] [] (cS Ls t μ) (.inl none) (cS Ls t r) := by
  unfold fX6_buildSimple at h
  refine ev_iconst (pc' := 1) dX6_buildSimple_0 rfl ?_
  refine ev_istore_n (pc' := 2) (L1 := [some (.ref q), some (.ref p0), some (iv 0), none, none, none, none]) dX6_buildSimple_1 rfl rfl ?_
  replace h := qbd h; obtain ⟨y12, hy12, h⟩ := h
  refine ev_wk (qLe_eq (qLe_eq (qLe_eq (qLe_eq (qLe_eq (qLe_eq (qLe_eq qLe_nil))))))) (?_ : Ev _ _ _ [some (.ref q), some (.ref p0), some (iv 0), none, none, none, none] _ _ _ _)
  refine ebX6_buildSimple_2 hq hp0 _ _ _ hy12 _ _ ?_ ?_
  · intro b13 eb13
    subst eb13
    replace h := qel h
    cases h
    exact ev_return dX6_buildSimple_92 rfl
  · intro r14 er14
    subst er14
    replace h := qer h
    cases h
    exact ⟨rfl, rfl⟩
set_option maxRecDepth 100000 in
theorem ebX6_build_10 {Ls t d n : Nat} {w0 : Nat} {w1 : Nat} {w2 : Int} (hw0 : gS w0) (hw1 : gG w1) : ∀ (k : Nat) (x : Int × qMu) (y : qMu), lp (fun x : Int × qMu => bX6_build_10 n w0 w1 w2 x.1 x.2) k x = some y → ∀ (o : qO) (s' : qSt), Ev (d + 3) mX6_build 36 [some (.ref w0), some (.ref w1), some (iv w2), none] [] (cS Ls t y) o s' → Ev (d + 3) mX6_build 10 [some (.ref w0), some (.ref w1), some (iv w2), some (iv x.1)] [] (cS Ls t x.2) o s' := by
  intro k
  induction k with
  | zero => intro x y h; cases h
  | succ k ih =>
    intro x y h o s' kE
    rw [lp_s] at h
    replace h := qbd h; obtain ⟨zz, h0, h1⟩ := h
    have h : bX6_build_10 n w0 w1 w2 x.1 x.2 = some zz := h0
    clear h0
    unfold bX6_build_10 at h
    refine ev_iload_n (pc' := 11) dX6_build_10 rfl rfl ?_
    refine ev_aload_n (pc' := 12) dX6_build_11 rfl rfl ?_
    refine ev_geti (pc' := 15) (ki := 3) dX6_build_12 rfl tf_6_21 hw0.1 rfl rfl ?_
    refine ev_icmpge (pc' := 18) (tgt := 36) dX6_build_15 (by decide) rfl (x1 := wr x.1) (y1 := wr (rd x.2 w0 3)) rfl rfl  (fun c2 => ?_) (fun c2 => ?_)
    · replace h := qit c2 h
      refine ev_aload_n (pc' := 19) dX6_build_18 rfl rfl ?_
      refine ev_getr (pc' := 22) dX6_build_19 rfl tf_6_18 hw0.1 rfl ?_
      refine ev_iload_n (pc' := 23) dX6_build_22 rfl rfl ?_
      refine ev_aload_n (pc' := 24) dX6_build_23 rfl rfl ?_
      refine ev_getr (pc' := 27) dX6_build_24 rfl tf_6_9 hw0.1 rfl ?_
      refine ev_iload_n (pc' := 28) dX6_build_27 rfl rfl ?_
      replace h := qbd h; obtain ⟨x3, hx3, h⟩ := h
      refine ev_iald (pc' := 29) dX6_build_28 rfl hw0.2.1 hx3 ?_
      replace h := qbd h; obtain ⟨μ4, hμ4, h⟩ := h
      refine ev_iast (pc' := 30) dX6_build_29 rfl hw0.2.2.2 hμ4 ?_
      refine ev_iinc (pc' := 33) (x := x.1) (L1 := [some (.ref w0), some (.ref w1), some (iv w2), some (iv (x.1 + 1))]) dX6_build_30 rfl rfl rfl ?_
      refine ev_goto (pc' := 10) dX6_build_33 (by decide) ?_
      cases h
      exact ev_wk (qLe_eq (qLe_eq (qLe_eq (qLe_eq qLe_nil)))) (ih _ _ h1 _ _ kE)
    · replace h := qif' c2 h
      cases h
      cases h1
      exact ev_wk (qLe_eq (qLe_eq (qLe_eq (qLe_sk qLe_nil)))) kE
set_option maxRecDepth 100000 in
theorem eX6_build {Ls t d n : Nat} {q : Nat} {p0 : Nat} {p1 : Int} {μ : qMu} {r : qMu} (hq : gS q) (hp0 : gG p0) (h : fX6_build n q p0 p1 μ = some r) : Ev (d + 3) mX6_build 0 [some (.ref q), some (.ref p0), some (iv p1), none] [] (cS Ls t μ) (.inl none) (cS Ls t r) := by
  unfold fX6_build at h
  refine ev_aload_n (pc' := 1) dX6_build_0 rfl rfl ?_
  refine ev_aload_n (pc' := 2) dX6_build_1 rfl rfl ?_
  refine ev_geti (pc' := 5) (ki := 3) dX6_build_2 rfl tf_6_21 hq.1 rfl rfl ?_
  replace h := qbd h; obtain ⟨y1, hy1, h⟩ := h
  refine ev_callg (pc' := 8) (st2 := []) dX6_build_5 (qs_V tc_6_64 rfl rfl (cS_cls hp0.1) rfl) rfl rfl (eX1_clear (d := d + 2) hp0 hy1) rfl rfl ?_
  refine ev_iconst (pc' := 9) dX6_build_8 rfl ?_
  refine ev_istore_n (pc' := 10) (L1 := [some (.ref q), some (.ref p0), some (iv p1), some (iv 0)]) dX6_build_9 rfl rfl ?_
  replace h := qbd h; obtain ⟨y5, hy5, h⟩ := h
  refine ev_wk (qLe_eq (qLe_eq (qLe_eq (qLe_eq qLe_nil)))) (?_ : Ev _ _ _ [some (.ref q), some (.ref p0), some (iv p1), some (iv 0)] _ _ _ _)
  refine ebX6_build_10 hq hp0 _ _ _ hy5 _ _ ?_
  refine ev_iload_n (pc' := 37) dX6_build_36 rfl rfl ?_
  refine ev_ifne (pc' := 40) (tgt := 48) dX6_build_37 (by decide) rfl (x1 := wr p1) rfl (fun c6 => ?_) (fun c6 => ?_)
  · replace h := qit c6 h
    refine ev_aload_n (pc' := 41) dX6_build_40 rfl rfl ?_
    refine ev_aload_n (pc' := 42) dX6_build_41 rfl rfl ?_
    replace h := qbd h; obtain ⟨y7, hy7, h⟩ := h
    refine ev_callg (pc' := 45) (st2 := []) dX6_build_42 (qs_V tc_6_66 rfl rfl (cS_cls hq.1) rfl) rfl rfl (eX6_buildWithLoops (d := d + 1) hq hp0 hy7) rfl rfl ?_
    refine ev_goto (pc' := 66) dX6_build_45 (by decide) ?_
    cases h
    exact ev_return dX6_build_66 rfl
  · replace h := qif' c6 h
    refine ev_iload_n (pc' := 49) dX6_build_48 rfl rfl ?_
    refine ev_iconst (pc' := 50) dX6_build_49 rfl ?_
    refine ev_icmpne (pc' := 53) (tgt := 61) dX6_build_50 (by decide) rfl (x1 := wr p1) (y1 := 1) rfl wl_1  (fun c8 => ?_) (fun c8 => ?_)
    · replace h := qit c8 h
      refine ev_aload_n (pc' := 54) dX6_build_53 rfl rfl ?_
      refine ev_aload_n (pc' := 55) dX6_build_54 rfl rfl ?_
      replace h := qbd h; obtain ⟨y9, hy9, h⟩ := h
      refine ev_callg (pc' := 58) (st2 := []) dX6_build_55 (qs_V tc_6_70 rfl rfl (cS_cls hq.1) rfl) rfl rfl (eX6_buildWithoutLoops (d := d + 0) hq hp0 hy9) rfl rfl ?_
      refine ev_goto (pc' := 66) dX6_build_58 (by decide) ?_
      cases h
      exact ev_return dX6_build_66 rfl
    · replace h := qif' c8 h
      refine ev_aload_n (pc' := 62) dX6_build_61 rfl rfl ?_
      refine ev_aload_n (pc' := 63) dX6_build_62 rfl rfl ?_
      replace h := qbd h; obtain ⟨y10, hy10, h⟩ := h
      refine ev_callg (pc' := 66) (st2 := []) dX6_build_63 (qs_V tc_6_73 rfl rfl (cS_cls hq.1) rfl) rfl rfl (eX6_buildSimple (d := d + 0) hq hp0 hy10) rfl rfl ?_
      cases h
      exact ev_return dX6_build_66 rfl
set_option maxRecDepth 100000 in
theorem ebX5_readDegrees_13 {Ls t d n : Nat} : ∀ (k : Nat) (x : Int × qMu) (y : (qMu) ⊕ (Int × qMu)), lp (fun x : Int × qMu => bX5_readDegrees_13 n x.1 x.2) k x = some y → ∀ (o : qO) (s' : qSt), (∀ b : qMu, y = .inl b → Ev (d + 4) mX5_readDegrees 80 [some (.ref 1), none] [] (cS Ls t b) o s') → (∀ r : Int × qMu, y = .inr r → o = (.inl (some (iv r.1))) ∧ s' = (cS Ls t r.2)) → Ev (d + 4) mX5_readDegrees 13 [some (.ref 1), some (iv x.1)] [] (cS Ls t x.2) o s' := by
  intro k
  induction k with
  | zero => intro x y h; cases h
  | succ k ih =>
    intro x y h o s' kE kR
    rw [lp_s] at h
    replace h := qbd h; obtain ⟨zz, h0, h1⟩ := h
    have h : bX5_readDegrees_13 n x.1 x.2 = some zz := h0
    clear h0
    unfold bX5_readDegrees_13 at h
    refine ev_iload_n (pc' := 14) dX5_readDegrees_13 rfl rfl ?_
    refine ev_bipush (pc' := 16) dX5_readDegrees_14 rfl bl_8 ?_
    refine ev_icmpgt (pc' := 19) (tgt := 80) dX5_readDegrees_16 (by decide) rfl (x1 := wr x.1) (y1 := 8) rfl wl_8  (fun c3 => ?_) (fun c3 => ?_)
    · replace h := qit c3 h
      cases h
      cases h1
      exact ev_wk (qLe_eq (qLe_sk qLe_nil)) (kE _ rfl)
    · replace h := qif' c3 h
      refine ev_iload_n (pc' := 20) dX5_readDegrees_19 rfl rfl ?_
      refine ev_ifeq (pc' := 23) (tgt := 31) dX5_readDegrees_20 (by decide) rfl (x1 := wr x.1) rfl (fun c4 => ?_) (fun c4 => ?_)
      · replace h := qit c4 h
        refine ev_aload_n (pc' := 32) dX5_readDegrees_31 rfl rfl ?_
        refine ev_iconst (pc' := 33) dX5_readDegrees_32 rfl ?_
        refine ev_bipush (pc' := 35) dX5_readDegrees_33 rfl bl_32 ?_
        replace h := qbd h; obtain ⟨y5, hy5, h⟩ := h
        refine ev_callg (pc' := 38) (st2 := [iv y5.1]) dX5_readDegrees_35 (qs_V tc_5_109 rfl rfl (cS_cls sh1) rfl) rfl rfl (eX5_expectNumber (d := d + 2) hy5) rfl rfl ?_
        refine ev_ifne (pc' := 41) (tgt := 43) dX5_readDegrees_38 (by decide) rfl (x1 := wr y5.1) rfl (fun c6 => ?_) (fun c6 => ?_)
        · replace h := qit c6 h
          refine ev_iconst (pc' := 42) dX5_readDegrees_41 rfl ?_
          cases h
          cases h1
          obtain ⟨rfl, rfl⟩ := kR _ rfl
          exact ev_ireturn dX5_readDegrees_42 rfl rfl
        · replace h := qif' c6 h
          refine ev_aload_n (pc' := 44) dX5_readDegrees_43 rfl rfl ?_
          refine ev_getr (pc' := 47) dX5_readDegrees_44 rfl tf_5_28 sh1 rfl ?_
          replace h := qbd h; obtain ⟨y7, hy7, h⟩ := h
          refine ev_callg (pc' := 50) (st2 := [iv y7]) dX5_readDegrees_47 (qs_V tc_5_119 rfl rfl (cS_cls sh7) rfl) rfl rfl (eX6_isFull (d := d + 3) gS7 hy7) rfl rfl ?_
          refine ev_ifeq (pc' := 53) (tgt := 59) dX5_readDegrees_50 (by decide) rfl (x1 := wr y7) rfl (fun c8 => ?_) (fun c8 => ?_)
          · replace h := qit c8 h
            refine ev_aload_n (pc' := 60) dX5_readDegrees_59 rfl rfl ?_
            refine ev_getr (pc' := 63) dX5_readDegrees_60 rfl tf_5_28 sh1 rfl ?_
            refine ev_aload_n (pc' := 64) dX5_readDegrees_63 rfl rfl ?_
            refine ev_geti (pc' := 67) (ki := 12) dX5_readDegrees_64 rfl tf_5_57 sh1 rfl rfl ?_
            replace h := qbd h; obtain ⟨y9, hy9, h⟩ := h
            refine ev_callg (pc' := 70) (st2 := []) dX5_readDegrees_67 (qs_V tc_5_122 rfl rfl (cS_cls sh7) rfl) rfl rfl (eX6_append (d := d + 2) gS7 hy9) rfl rfl ?_
            refine ev_aload_n (pc' := 71) dX5_readDegrees_70 rfl rfl ?_
            replace h := qbd h; obtain ⟨y10, hy10, h⟩ := h
            refine ev_callg (pc' := 74) (st2 := []) dX5_readDegrees_71 (qs_V tc_5_66 rfl rfl (cS_cls sh1) rfl) rfl rfl (eX5_advance (d := d + 1) hy10) rfl rfl ?_
            refine ev_iinc (pc' := 77) (x := x.1) (L1 := [some (.ref 1), some (iv (x.1 + 1))]) dX5_readDegrees_74 rfl rfl rfl ?_
            refine ev_goto (pc' := 13) dX5_readDegrees_77 (by decide) ?_
            cases h
            exact ev_wk (qLe_eq (qLe_eq qLe_nil)) (ih _ _ h1 _ _ kE kR)
          · replace h := qif' c8 h
            refine ev_aload_n (pc' := 54) dX5_readDegrees_53 rfl rfl ?_
            refine ev_iconst (pc' := 55) dX5_readDegrees_54 rfl ?_
            replace h := qbd h; obtain ⟨y11, hy11, h⟩ := h
            refine ev_callg (pc' := 58) (st2 := [iv y11.1]) dX5_readDegrees_55 (qs_V tc_5_94 rfl rfl (cS_cls sh1) rfl) rfl rfl (eX5_fail (d := d + 3) hy11) rfl rfl ?_
            replace h := qbd h; obtain ⟨x12, hx12, h⟩ := h
            obtain ⟨ex12, nx12⟩ := qbl_n hx12
            subst ex12
            cases h
            cases h1
            obtain ⟨rfl, rfl⟩ := kR _ rfl
            exact ev_ireturn dX5_readDegrees_58 rfl nx12
      · replace h := qif' c4 h
        refine ev_aload_n (pc' := 24) dX5_readDegrees_23 rfl rfl ?_
        refine ev_geti (pc' := 27) (ki := 9) dX5_readDegrees_24 rfl tf_5_48 sh1 rfl rfl ?_
        refine ev_iconst (pc' := 28) dX5_readDegrees_27 rfl ?_
        refine ev_icmpne (pc' := 31) (tgt := 80) dX5_readDegrees_28 (by decide) rfl (x1 := wr (rd x.2 1 9)) (y1 := 2) rfl wl_2  (fun c13 => ?_) (fun c13 => ?_)
        · replace h := qit c13 h
          refine ev_aload_n (pc' := 32) dX5_readDegrees_31 rfl rfl ?_
          refine ev_iconst (pc' := 33) dX5_readDegrees_32 rfl ?_
          refine ev_bipush (pc' := 35) dX5_readDegrees_33 rfl bl_32 ?_
          replace h := qbd h; obtain ⟨y14, hy14, h⟩ := h
          refine ev_callg (pc' := 38) (st2 := [iv y14.1]) dX5_readDegrees_35 (qs_V tc_5_109 rfl rfl (cS_cls sh1) rfl) rfl rfl (eX5_expectNumber (d := d + 2) hy14) rfl rfl ?_
          refine ev_ifne (pc' := 41) (tgt := 43) dX5_readDegrees_38 (by decide) rfl (x1 := wr y14.1) rfl (fun c15 => ?_) (fun c15 => ?_)
          · replace h := qit c15 h
            refine ev_iconst (pc' := 42) dX5_readDegrees_41 rfl ?_
            cases h
            cases h1
            obtain ⟨rfl, rfl⟩ := kR _ rfl
            exact ev_ireturn dX5_readDegrees_42 rfl rfl
          · replace h := qif' c15 h
            refine ev_aload_n (pc' := 44) dX5_readDegrees_43 rfl rfl ?_
            refine ev_getr (pc' := 47) dX5_readDegrees_44 rfl tf_5_28 sh1 rfl ?_
            replace h := qbd h; obtain ⟨y16, hy16, h⟩ := h
            refine ev_callg (pc' := 50) (st2 := [iv y16]) dX5_readDegrees_47 (qs_V tc_5_119 rfl rfl (cS_cls sh7) rfl) rfl rfl (eX6_isFull (d := d + 3) gS7 hy16) rfl rfl ?_
            refine ev_ifeq (pc' := 53) (tgt := 59) dX5_readDegrees_50 (by decide) rfl (x1 := wr y16) rfl (fun c17 => ?_) (fun c17 => ?_)
            · replace h := qit c17 h
              refine ev_aload_n (pc' := 60) dX5_readDegrees_59 rfl rfl ?_
              refine ev_getr (pc' := 63) dX5_readDegrees_60 rfl tf_5_28 sh1 rfl ?_
              refine ev_aload_n (pc' := 64) dX5_readDegrees_63 rfl rfl ?_
              refine ev_geti (pc' := 67) (ki := 12) dX5_readDegrees_64 rfl tf_5_57 sh1 rfl rfl ?_
              replace h := qbd h; obtain ⟨y18, hy18, h⟩ := h
              refine ev_callg (pc' := 70) (st2 := []) dX5_readDegrees_67 (qs_V tc_5_122 rfl rfl (cS_cls sh7) rfl) rfl rfl (eX6_append (d := d + 2) gS7 hy18) rfl rfl ?_
              refine ev_aload_n (pc' := 71) dX5_readDegrees_70 rfl rfl ?_
              replace h := qbd h; obtain ⟨y19, hy19, h⟩ := h
              refine ev_callg (pc' := 74) (st2 := []) dX5_readDegrees_71 (qs_V tc_5_66 rfl rfl (cS_cls sh1) rfl) rfl rfl (eX5_advance (d := d + 1) hy19) rfl rfl ?_
              refine ev_iinc (pc' := 77) (x := x.1) (L1 := [some (.ref 1), some (iv (x.1 + 1))]) dX5_readDegrees_74 rfl rfl rfl ?_
              refine ev_goto (pc' := 13) dX5_readDegrees_77 (by decide) ?_
              cases h
              exact ev_wk (qLe_eq (qLe_eq qLe_nil)) (ih _ _ h1 _ _ kE kR)
            · replace h := qif' c17 h
              refine ev_aload_n (pc' := 54) dX5_readDegrees_53 rfl rfl ?_
              refine ev_iconst (pc' := 55) dX5_readDegrees_54 rfl ?_
              replace h := qbd h; obtain ⟨y20, hy20, h⟩ := h
              refine ev_callg (pc' := 58) (st2 := [iv y20.1]) dX5_readDegrees_55 (qs_V tc_5_94 rfl rfl (cS_cls sh1) rfl) rfl rfl (eX5_fail (d := d + 3) hy20) rfl rfl ?_
              replace h := qbd h; obtain ⟨x21, hx21, h⟩ := h
              obtain ⟨ex21, nx21⟩ := qbl_n hx21
              subst ex21
              cases h
              cases h1
              obtain ⟨rfl, rfl⟩ := kR _ rfl
              exact ev_ireturn dX5_readDegrees_58 rfl nx21
        · replace h := qif' c13 h
          cases h
          cases h1
          exact ev_wk (qLe_eq (qLe_sk qLe_nil)) (kE _ rfl)
set_option maxRecDepth 100000 in
theorem eX5_readDegrees {Ls t d n : Nat} {μ : qMu} {r : Int × qMu} (h : fX5_readDegrees n μ = some r) : Ev (d + 4) mX5_readDegrees 0 [some (.ref 1), none] [] (cS Ls t μ) (.inl (some (iv r.1))) (cS Ls t r.2) := by
  unfold fX5_readDegrees at h
  refine ev_aload_n (pc' := 1) dX5_readDegrees_0 rfl rfl ?_
  replace h := qbd h; obtain ⟨y1, hy1, h⟩ := h
  refine ev_callg (pc' := 4) (st2 := []) dX5_readDegrees_1 (qs_V tc_5_66 rfl rfl (cS_cls sh1) rfl) rfl rfl (eX5_advance (d := d + 1) hy1) rfl rfl ?_
  refine ev_aload_n (pc' := 5) dX5_readDegrees_4 rfl rfl ?_
  refine ev_getr (pc' := 8) dX5_readDegrees_5 rfl tf_5_28 sh1 rfl ?_
  replace h := qbd h; obtain ⟨y2, hy2, h⟩ := h
  refine ev_callg (pc' := 11) (st2 := []) dX5_readDegrees_8 (qs_V tc_5_116 rfl rfl (cS_cls sh7) rfl) rfl rfl (eX6_clear (d := d + 3) gS7 hy2) rfl rfl ?_
  refine ev_iconst (pc' := 12) dX5_readDegrees_11 rfl ?_
  refine ev_istore_n (pc' := 13) (L1 := [some (.ref 1), some (iv 0)]) dX5_readDegrees_12 rfl rfl ?_
  replace h := qbd h; obtain ⟨y22, hy22, h⟩ := h
  refine ev_wk (qLe_eq (qLe_eq qLe_nil)) (?_ : Ev _ _ _ [some (.ref 1), some (iv 0)] _ _ _ _)
  refine ebX5_readDegrees_13 _ _ _ hy22 _ _ ?_ ?_
  · intro b23 eb23
    subst eb23
    replace h := qel h
    refine ev_aload_n (pc' := 81) dX5_readDegrees_80 rfl rfl ?_
    replace h := qbd h; obtain ⟨y24, hy24, h⟩ := h
    refine ev_callg (pc' := 84) (st2 := [iv y24.1]) dX5_readDegrees_81 (qs_V tc_5_113 rfl rfl (cS_cls sh1) rfl) rfl rfl (eX5_expectSemicolon (d := d + 2) hy24) rfl rfl ?_
    refine ev_ifne (pc' := 87) (tgt := 89) dX5_readDegrees_84 (by decide) rfl (x1 := wr y24.1) rfl (fun c25 => ?_) (fun c25 => ?_)
    · replace h := qit c25 h
      refine ev_iconst (pc' := 88) dX5_readDegrees_87 rfl ?_
      cases h
      exact ev_ireturn dX5_readDegrees_88 rfl rfl
    · replace h := qif' c25 h
      refine ev_aload_n (pc' := 90) dX5_readDegrees_89 rfl rfl ?_
      refine ev_getr (pc' := 93) dX5_readDegrees_90 rfl tf_5_28 sh1 rfl ?_
      replace h := qbd h; obtain ⟨y26, hy26, h⟩ := h
      refine ev_callg (pc' := 96) (st2 := [iv y26]) dX5_readDegrees_93 (qs_V tc_5_125 rfl rfl (cS_cls sh7) rfl) rfl rfl (eX6_total (d := d + 3) gS7 hy26) rfl rfl ?_
      refine ev_iconst (pc' := 97) dX5_readDegrees_96 rfl ?_
      refine ev_irem (pc' := 98) dX5_readDegrees_97 rfl zl_2 ?_
      refine ev_ifne (pc' := 101) (tgt := 113) dX5_readDegrees_98 (by decide) rfl (x1 := wr (irm y26 2)) rfl (fun c27 => ?_) (fun c27 => ?_)
      · replace h := qit c27 h
        refine ev_aload_n (pc' := 102) dX5_readDegrees_101 rfl rfl ?_
        refine ev_getr (pc' := 105) dX5_readDegrees_102 rfl tf_5_28 sh1 rfl ?_
        replace h := qbd h; obtain ⟨y28, hy28, h⟩ := h
        refine ev_callg (pc' := 108) (st2 := [iv y28]) dX5_readDegrees_105 (qs_V tc_5_125 rfl rfl (cS_cls sh7) rfl) rfl rfl (eX6_total (d := d + 3) gS7 hy28) rfl rfl ?_
        refine ev_bipush (pc' := 110) dX5_readDegrees_108 rfl bl_32 ?_
        refine ev_icmple (pc' := 113) (tgt := 119) dX5_readDegrees_110 (by decide) rfl (x1 := wr y28) (y1 := 32) rfl wl_32  (fun c29 => ?_) (fun c29 => ?_)
        · replace h := qit c29 h
          refine ev_aload_n (pc' := 114) dX5_readDegrees_113 rfl rfl ?_
          refine ev_iconst (pc' := 115) dX5_readDegrees_114 rfl ?_
          replace h := qbd h; obtain ⟨y30, hy30, h⟩ := h
          refine ev_callg (pc' := 118) (st2 := [iv y30.1]) dX5_readDegrees_115 (qs_V tc_5_94 rfl rfl (cS_cls sh1) rfl) rfl rfl (eX5_fail (d := d + 3) hy30) rfl rfl ?_
          replace h := qbd h; obtain ⟨x31, hx31, h⟩ := h
          obtain ⟨ex31, nx31⟩ := qbl_n hx31
          subst ex31
          cases h
          exact ev_ireturn dX5_readDegrees_118 rfl nx31
        · replace h := qif' c29 h
          refine ev_aload_n (pc' := 120) dX5_readDegrees_119 rfl rfl ?_
          refine ev_aload_n (pc' := 121) dX5_readDegrees_120 rfl rfl ?_
          refine ev_getr (pc' := 124) dX5_readDegrees_121 rfl tf_5_28 sh1 rfl ?_
          replace h := qbd h; obtain ⟨y32, hy32, h⟩ := h
          refine ev_callg (pc' := 127) (st2 := [iv y32, .ref 1]) dX5_readDegrees_124 (qs_V tc_5_129 rfl rfl (cS_cls sh7) rfl) rfl rfl (eX6_length (d := d + 3) gS7 hy32) rfl rfl ?_
          replace h := qbd h; obtain ⟨y33, hy33, h⟩ := h
          refine ev_callg (pc' := 130) (st2 := []) dX5_readDegrees_127 (qs_V tc_5_76 rfl rfl (cS_cls sh1) rfl) rfl rfl (eX5_begin (d := d + 2) hy33) rfl rfl ?_
          refine ev_aload_n (pc' := 131) dX5_readDegrees_130 rfl rfl ?_
          refine ev_getr (pc' := 134) dX5_readDegrees_131 rfl tf_5_28 sh1 rfl ?_
          refine ev_aload_n (pc' := 135) dX5_readDegrees_134 rfl rfl ?_
          refine ev_getr (pc' := 138) dX5_readDegrees_135 rfl tf_5_18 sh1 rfl ?_
          refine ev_iconst (pc' := 139) dX5_readDegrees_138 rfl ?_
          replace h := qbd h; obtain ⟨y34, hy34, h⟩ := h
          refine ev_callg (pc' := 142) (st2 := []) dX5_readDegrees_139 (qs_V tc_5_131 rfl rfl (cS_cls sh7) rfl) rfl rfl (eX6_build (d := d + 0) gS7 gG3 hy34) rfl rfl ?_
          refine ev_iconst (pc' := 143) dX5_readDegrees_142 rfl ?_
          cases h
          exact ev_ireturn dX5_readDegrees_143 rfl rfl
      · replace h := qif' c27 h
        refine ev_aload_n (pc' := 114) dX5_readDegrees_113 rfl rfl ?_
        refine ev_iconst (pc' := 115) dX5_readDegrees_114 rfl ?_
        replace h := qbd h; obtain ⟨y35, hy35, h⟩ := h
        refine ev_callg (pc' := 118) (st2 := [iv y35.1]) dX5_readDegrees_115 (qs_V tc_5_94 rfl rfl (cS_cls sh1) rfl) rfl rfl (eX5_fail (d := d + 3) hy35) rfl rfl ?_
        replace h := qbd h; obtain ⟨x36, hx36, h⟩ := h
        obtain ⟨ex36, nx36⟩ := qbl_n hx36
        subst ex36
        cases h
        exact ev_ireturn dX5_readDegrees_118 rfl nx36
  · intro r37 er37
    subst er37
    replace h := qer h
    cases h
    exact ⟨rfl, rfl⟩
set_option maxRecDepth 100000 in
theorem eX5_readFirst {Ls t d n : Nat} {μ : qMu} {r : Int × qMu} (h : fX5_readFirst n μ = some r) : Ev (d + 5) mX5_readFirst 0 [some (.ref 1)] [] (cS Ls t μ) (.inl (some (iv r.1))) (cS Ls t r.2) := by
  unfold fX5_readFirst at h
  refine ev_aload_n (pc' := 1) dX5_readFirst_0 rfl rfl ?_
  refine ev_geti (pc' := 4) (ki := 9) dX5_readFirst_1 rfl tf_5_48 sh1 rfl rfl ?_
  refine ev_ifne (pc' := 7) (tgt := 14) dX5_readFirst_4 (by decide) rfl (x1 := wr (rd μ 1 9)) rfl (fun c1 => ?_) (fun c1 => ?_)
  · replace h := qit c1 h
    refine ev_aload_n (pc' := 8) dX5_readFirst_7 rfl rfl ?_
    refine ev_iconst (pc' := 9) dX5_readFirst_8 rfl ?_
    replace h := qbd h; obtain ⟨y2, hy2, h⟩ := h
    refine ev_callg (pc' := 12) (st2 := []) dX5_readFirst_9 (qs_V tc_5_76 rfl rfl (cS_cls sh1) rfl) rfl rfl (eX5_begin (d := d + 3) hy2) rfl rfl ?_
    refine ev_iconst (pc' := 13) dX5_readFirst_12 rfl ?_
    cases h
    exact ev_ireturn dX5_readFirst_13 rfl rfl
  · replace h := qif' c1 h
    refine ev_aload_n (pc' := 15) dX5_readFirst_14 rfl rfl ?_
    refine ev_ldc (pc' := 17) dX5_readFirst_15 rfl ts_5_80 ?_
    replace h := qbd h; obtain ⟨y3, hy3, h⟩ := h
    refine ev_callg (pc' := 20) (st2 := [iv y3]) dX5_readFirst_17 (qs_V tc_5_82 rfl rfl (cS_cls sh1) rfl) rfl rfl (eX5_isWord (d := d + 3) ⟨by decide, by decide⟩ hy3) rfl rfl ?_
    refine ev_ifeq (pc' := 23) (tgt := 28) dX5_readFirst_20 (by decide) rfl (x1 := wr y3) rfl (fun c4 => ?_) (fun c4 => ?_)
    · replace h := qit c4 h
      refine ev_aload_n (pc' := 29) dX5_readFirst_28 rfl rfl ?_
      refine ev_ldc (pc' := 31) dX5_readFirst_29 rfl ts_5_89 ?_
      replace h := qbd h; obtain ⟨y5, hy5, h⟩ := h
      refine ev_callg (pc' := 34) (st2 := [iv y5]) dX5_readFirst_31 (qs_V tc_5_82 rfl rfl (cS_cls sh1) rfl) rfl rfl (eX5_isWord (d := d + 3) ⟨by decide, by decide⟩ hy5) rfl rfl ?_
      refine ev_ifeq (pc' := 37) (tgt := 44) dX5_readFirst_34 (by decide) rfl (x1 := wr y5) rfl (fun c6 => ?_) (fun c6 => ?_)
      · replace h := qit c6 h
        refine ev_aload_n (pc' := 45) dX5_readFirst_44 rfl rfl ?_
        refine ev_iconst (pc' := 46) dX5_readFirst_45 rfl ?_
        replace h := qbd h; obtain ⟨y7, hy7, h⟩ := h
        refine ev_callg (pc' := 49) (st2 := [iv y7.1]) dX5_readFirst_46 (qs_V tc_5_94 rfl rfl (cS_cls sh1) rfl) rfl rfl (eX5_fail (d := d + 4) hy7) rfl rfl ?_
        replace h := qbd h; obtain ⟨x8, hx8, h⟩ := h
        obtain ⟨ex8, nx8⟩ := qbl_n hx8
        subst ex8
        cases h
        exact ev_ireturn dX5_readFirst_49 rfl nx8
      · replace h := qif' c6 h
        refine ev_aload_n (pc' := 38) dX5_readFirst_37 rfl rfl ?_
        replace h := qbd h; obtain ⟨y9, hy9, h⟩ := h
        refine ev_callg (pc' := 41) (st2 := [iv y9.1]) dX5_readFirst_38 (qs_V tc_5_91 rfl rfl (cS_cls sh1) rfl) rfl rfl (eX5_readDegrees (d := d + 0) hy9) rfl rfl ?_
        refine ev_goto (pc' := 49) dX5_readFirst_41 (by decide) ?_
        replace h := qbd h; obtain ⟨x10, hx10, h⟩ := h
        obtain ⟨ex10, nx10⟩ := qbl_n hx10
        subst ex10
        cases h
        exact ev_ireturn dX5_readFirst_49 rfl nx10
    · replace h := qif' c4 h
      refine ev_aload_n (pc' := 24) dX5_readFirst_23 rfl rfl ?_
      replace h := qbd h; obtain ⟨y11, hy11, h⟩ := h
      refine ev_callg (pc' := 27) (st2 := [iv y11.1]) dX5_readFirst_24 (qs_V tc_5_86 rfl rfl (cS_cls sh1) rfl) rfl rfl (eX5_readVertices (d := d + 1) hy11) rfl rfl ?_
      replace h := qbd h; obtain ⟨x12, hx12, h⟩ := h
      obtain ⟨ex12, nx12⟩ := qbl_n hx12
      subst ex12
      cases h
      exact ev_ireturn dX5_readFirst_27 rfl nx12
set_option maxRecDepth 100000 in
theorem eX1_vertexCount {Ls t d : Nat} {g : Nat} {μ : qMu} {r : Int} (hg : gG g) (h : fX1_vertexCount g μ = some r) : Ev (d + 0) mX1_vertexCount 0 [some (.ref g)] [] (cS Ls t μ) (.inl (some (iv r))) (cS Ls t μ) := by
  unfold fX1_vertexCount at h
  refine ev_aload_n (pc' := 1) dX1_vertexCount_0 rfl rfl ?_
  refine ev_geti (pc' := 4) (ki := 1) dX1_vertexCount_1 rfl tf_1_15 hg.1 rfl rfl ?_
  cases h
  exact ev_ireturn dX1_vertexCount_4 rfl rfl
set_option maxRecDepth 100000 in
theorem eX1_edgeCount {Ls t d : Nat} {g : Nat} {μ : qMu} {r : Int} (hg : gG g) (h : fX1_edgeCount g μ = some r) : Ev (d + 0) mX1_edgeCount 0 [some (.ref g)] [] (cS Ls t μ) (.inl (some (iv r))) (cS Ls t μ) := by
  unfold fX1_edgeCount at h
  refine ev_aload_n (pc' := 1) dX1_edgeCount_0 rfl rfl ?_
  refine ev_geti (pc' := 4) (ki := 2) dX1_edgeCount_1 rfl tf_1_19 hg.1 rfl rfl ?_
  cases h
  exact ev_ireturn dX1_edgeCount_4 rfl rfl
set_option maxRecDepth 100000 in
theorem eX5_readEdge {Ls t d n : Nat} {p0 : Nat} {μ : qMu} {r : Int × qMu} (hp0 : gG p0) (h : fX5_readEdge n p0 μ = some r) : Ev (d + 3) mX5_readEdge 0 [some (.ref 1), some (.ref p0), none, none, none, none] [] (cS Ls t μ) (.inl (some (iv r.1))) (cS Ls t r.2) := by
  unfold fX5_readEdge at h
  refine ev_aload_n (pc' := 1) dX5_readEdge_0 rfl rfl ?_
  replace h := qbd h; obtain ⟨y1, hy1, h⟩ := h
  refine ev_callg (pc' := 4) (st2 := []) dX5_readEdge_1 (qs_V tc_5_66 rfl rfl (cS_cls sh1) rfl) rfl rfl (eX5_advance (d := d + 0) hy1) rfl rfl ?_
  refine ev_aload_n (pc' := 5) dX5_readEdge_4 rfl rfl ?_
  refine ev_iconst (pc' := 6) dX5_readEdge_5 rfl ?_
  refine ev_aload_n (pc' := 7) dX5_readEdge_6 rfl rfl ?_
  refine ev_getr (pc' := 10) dX5_readEdge_7 rfl tf_5_18 sh1 rfl ?_
  replace h := qbd h; obtain ⟨y2, hy2, h⟩ := h
  refine ev_callg (pc' := 13) (st2 := [iv y2, iv 0, .ref 1]) dX5_readEdge_10 (qs_V tc_5_135 rfl rfl (cS_cls sh3) rfl) rfl rfl (eX1_vertexCount (d := d + 2) gG3 hy2) rfl rfl ?_
  refine ev_iconst (pc' := 14) dX5_readEdge_13 rfl ?_
  refine ev_isub (pc' := 15) dX5_readEdge_14 rfl ?_
  replace h := qbd h; obtain ⟨y3, hy3, h⟩ := h
  refine ev_callg (pc' := 18) (st2 := [iv y3.1]) dX5_readEdge_15 (qs_V tc_5_109 rfl rfl (cS_cls sh1) rfl) rfl rfl (eX5_expectNumber (d := d + 1) hy3) rfl rfl ?_
  refine ev_ifne (pc' := 21) (tgt := 23) dX5_readEdge_18 (by decide) rfl (x1 := wr y3.1) rfl (fun c4 => ?_) (fun c4 => ?_)
  · replace h := qit c4 h
    refine ev_iconst (pc' := 22) dX5_readEdge_21 rfl ?_
    cases h
    exact ev_ireturn dX5_readEdge_22 rfl rfl
  · replace h := qif' c4 h
    refine ev_aload_n (pc' := 24) dX5_readEdge_23 rfl rfl ?_
    refine ev_geti (pc' := 27) (ki := 12) dX5_readEdge_24 rfl tf_5_57 sh1 rfl rfl ?_
    refine ev_istore_n (pc' := 28) (L1 := [some (.ref 1), some (.ref p0), some (iv (rd y3.2 1 12)), none, none, none]) dX5_readEdge_27 rfl rfl ?_
    refine ev_aload_n (pc' := 29) dX5_readEdge_28 rfl rfl ?_
    replace h := qbd h; obtain ⟨y5, hy5, h⟩ := h
    refine ev_callg (pc' := 32) (st2 := []) dX5_readEdge_29 (qs_V tc_5_66 rfl rfl (cS_cls sh1) rfl) rfl rfl (eX5_advance (d := d + 0) hy5) rfl rfl ?_
    refine ev_aload_n (pc' := 33) dX5_readEdge_32 rfl rfl ?_
    refine ev_iconst (pc' := 34) dX5_readEdge_33 rfl ?_
    refine ev_aload_n (pc' := 35) dX5_readEdge_34 rfl rfl ?_
    refine ev_getr (pc' := 38) dX5_readEdge_35 rfl tf_5_18 sh1 rfl ?_
    replace h := qbd h; obtain ⟨y6, hy6, h⟩ := h
    refine ev_callg (pc' := 41) (st2 := [iv y6, iv 0, .ref 1]) dX5_readEdge_38 (qs_V tc_5_135 rfl rfl (cS_cls sh3) rfl) rfl rfl (eX1_vertexCount (d := d + 2) gG3 hy6) rfl rfl ?_
    refine ev_iconst (pc' := 42) dX5_readEdge_41 rfl ?_
    refine ev_isub (pc' := 43) dX5_readEdge_42 rfl ?_
    replace h := qbd h; obtain ⟨y7, hy7, h⟩ := h
    refine ev_callg (pc' := 46) (st2 := [iv y7.1]) dX5_readEdge_43 (qs_V tc_5_109 rfl rfl (cS_cls sh1) rfl) rfl rfl (eX5_expectNumber (d := d + 1) hy7) rfl rfl ?_
    refine ev_ifne (pc' := 49) (tgt := 51) dX5_readEdge_46 (by decide) rfl (x1 := wr y7.1) rfl (fun c8 => ?_) (fun c8 => ?_)
    · replace h := qit c8 h
      refine ev_iconst (pc' := 50) dX5_readEdge_49 rfl ?_
      cases h
      exact ev_ireturn dX5_readEdge_50 rfl rfl
    · replace h := qif' c8 h
      refine ev_aload_n (pc' := 52) dX5_readEdge_51 rfl rfl ?_
      refine ev_geti (pc' := 55) (ki := 12) dX5_readEdge_52 rfl tf_5_57 sh1 rfl rfl ?_
      refine ev_istore_n (pc' := 56) (L1 := [some (.ref 1), some (.ref p0), some (iv (rd y3.2 1 12)), some (iv (rd y7.2 1 12)), none, none]) dX5_readEdge_55 rfl rfl ?_
      refine ev_aload_n (pc' := 57) dX5_readEdge_56 rfl rfl ?_
      replace h := qbd h; obtain ⟨y9, hy9, h⟩ := h
      refine ev_callg (pc' := 60) (st2 := []) dX5_readEdge_57 (qs_V tc_5_66 rfl rfl (cS_cls sh1) rfl) rfl rfl (eX5_advance (d := d + 0) hy9) rfl rfl ?_
      refine ev_aload_n (pc' := 61) dX5_readEdge_60 rfl rfl ?_
      refine ev_geti (pc' := 64) (ki := 9) dX5_readEdge_61 rfl tf_5_48 sh1 rfl rfl ?_
      refine ev_iconst (pc' := 65) dX5_readEdge_64 rfl ?_
      have k11 : ∀ j12 : Int, j12 = (if wr (rd y9 1 9) = 2 then 1 else 0) → Ev (d + 3) mX5_readEdge 73 [some (.ref 1), some (.ref p0), some (iv (rd y3.2 1 12)), some (iv (rd y7.2 1 12)), none, none] [iv j12] (cS Ls t y9) (.inl (some (iv r.1))) (cS Ls t r.2) := by
        intro j12 ej12
        subst ej12
        refine ev_istore (pc' := 75) (L1 := [some (.ref 1), some (.ref p0), some (iv (rd y3.2 1 12)), some (iv (rd y7.2 1 12)), some (iv (if wr (rd y9 1 9) = 2 then 1 else 0)), none]) dX5_readEdge_73 rfl rfl ?_
        refine ev_iload (pc' := 77) dX5_readEdge_75 rfl rfl ?_
        refine ev_ifeq (pc' := 80) (tgt := 93) dX5_readEdge_77 (by decide) rfl (x1 := wr (if wr (rd y9 1 9) = 2 then 1 else 0)) rfl (fun c13 => ?_) (fun c13 => ?_)
        · replace h := qit c13 h
          refine ev_aload_n (pc' := 94) dX5_readEdge_93 rfl rfl ?_
          replace h := qbd h; obtain ⟨y14, hy14, h⟩ := h
          refine ev_callg (pc' := 97) (st2 := [iv y14.1]) dX5_readEdge_94 (qs_V tc_5_113 rfl rfl (cS_cls sh1) rfl) rfl rfl (eX5_expectSemicolon (d := d + 1) hy14) rfl rfl ?_
          refine ev_ifne (pc' := 100) (tgt := 102) dX5_readEdge_97 (by decide) rfl (x1 := wr y14.1) rfl (fun c15 => ?_) (fun c15 => ?_)
          · replace h := qit c15 h
            refine ev_iconst (pc' := 101) dX5_readEdge_100 rfl ?_
            cases h
            exact ev_ireturn dX5_readEdge_101 rfl rfl
          · replace h := qif' c15 h
            refine ev_iload (pc' := 104) dX5_readEdge_102 rfl rfl ?_
            have k17 : ∀ j18 : Int, j18 = (if wr (if wr (rd y9 1 9) = 2 then 1 else 0) = 0 then 1 else (rd y14.2 1 12)) → Ev (d + 3) mX5_readEdge 115 [some (.ref 1), some (.ref p0), some (iv (rd y3.2 1 12)), some (iv (rd y7.2 1 12)), some (iv (if wr (rd y9 1 9) = 2 then 1 else 0)), none] [iv j18] (cS Ls t y14.2) (.inl (some (iv r.1))) (cS Ls t r.2) := by
              intro j18 ej18
              subst ej18
              refine ev_istore (pc' := 117) (L1 := [some (.ref 1), some (.ref p0), some (iv (rd y3.2 1 12)), some (iv (rd y7.2 1 12)), some (iv (if wr (rd y9 1 9) = 2 then 1 else 0)), some (iv (if wr (if wr (rd y9 1 9) = 2 then 1 else 0) = 0 then 1 else (rd y14.2 1 12)))]) dX5_readEdge_115 rfl rfl ?_
              refine ev_aload_n (pc' := 118) dX5_readEdge_117 rfl rfl ?_
              replace h := qbd h; obtain ⟨y19, hy19, h⟩ := h
              refine ev_callg (pc' := 121) (st2 := [iv y19]) dX5_readEdge_118 (qs_V tc_5_138 rfl rfl (cS_cls hp0.1) rfl) rfl rfl (eX1_edgeCount (d := d + 2) hp0 hy19) rfl rfl ?_
              refine ev_iload (pc' := 123) dX5_readEdge_121 rfl rfl ?_
              refine ev_iadd (pc' := 124) dX5_readEdge_123 rfl ?_
              refine ev_bipush (pc' := 126) dX5_readEdge_124 rfl bl_16 ?_
              refine ev_icmple (pc' := 129) (tgt := 135) dX5_readEdge_126 (by decide) rfl (x1 := wr (y19 + (if wr (if wr (rd y9 1 9) = 2 then 1 else 0) = 0 then 1 else (rd y14.2 1 12)))) (y1 := 16) rfl wl_16  (fun c20 => ?_) (fun c20 => ?_)
              · replace h := qit c20 h
                refine ev_aload_n (pc' := 130) dX5_readEdge_129 rfl rfl ?_
                refine ev_iconst (pc' := 131) dX5_readEdge_130 rfl ?_
                replace h := qbd h; obtain ⟨y21, hy21, h⟩ := h
                refine ev_callg (pc' := 134) (st2 := [iv y21.1]) dX5_readEdge_131 (qs_V tc_5_94 rfl rfl (cS_cls sh1) rfl) rfl rfl (eX5_fail (d := d + 2) hy21) rfl rfl ?_
                replace h := qbd h; obtain ⟨x22, hx22, h⟩ := h
                obtain ⟨ex22, nx22⟩ := qbl_n hx22
                subst ex22
                cases h
                exact ev_ireturn dX5_readEdge_134 rfl nx22
              · replace h := qif' c20 h
                refine ev_aload_n (pc' := 136) dX5_readEdge_135 rfl rfl ?_
                refine ev_iload_n (pc' := 137) dX5_readEdge_136 rfl rfl ?_
                refine ev_iload_n (pc' := 138) dX5_readEdge_137 rfl rfl ?_
                refine ev_iload (pc' := 140) dX5_readEdge_138 rfl rfl ?_
                replace h := qbd h; obtain ⟨y23, hy23, h⟩ := h
                refine ev_callg (pc' := 143) (st2 := []) dX5_readEdge_140 (qs_V tc_5_141 rfl rfl (cS_cls hp0.1) rfl) rfl rfl (eX1_put (d := d + 2) hp0 hy23) rfl rfl ?_
                refine ev_iload (pc' := 145) dX5_readEdge_143 rfl rfl ?_
                replace h := qbd h; obtain ⟨y25, hy25, h⟩ := h
                have kJ : Ev (d + 3) mX5_readEdge 152 [some (.ref 1), none, none, none, none, none] [] (cS Ls t y25) (.inl (some (iv r.1))) (cS Ls t r.2) := by
                  refine ev_aload_n (pc' := 153) dX5_readEdge_152 rfl rfl ?_
                  replace h := qbd h; obtain ⟨y27, hy27, h⟩ := h
                  refine ev_callg (pc' := 156) (st2 := [iv y27.1]) dX5_readEdge_153 (qs_V tc_5_113 rfl rfl (cS_cls sh1) rfl) rfl rfl (eX5_expectSemicolon (d := d + 1) hy27) rfl rfl ?_
                  replace h := qbd h; obtain ⟨x28, hx28, h⟩ := h
                  obtain ⟨ex28, nx28⟩ := qbl_n hx28
                  subst ex28
                  cases h
                  exact ev_ireturn dX5_readEdge_156 rfl nx28
                replace h := hy25
                clear hy25
                refine ev_ifeq (pc' := 148) (tgt := 152) dX5_readEdge_145 (by decide) rfl (x1 := wr (if wr (rd y9 1 9) = 2 then 1 else 0)) rfl (fun c24 => ?_) (fun c24 => ?_)
                · replace h := qit c24 h
                  cases h
                  exact ev_wk (qLe_eq (qLe_sk (qLe_sk (qLe_sk (qLe_sk (qLe_sk qLe_nil)))))) kJ
                · replace h := qif' c24 h
                  refine ev_aload_n (pc' := 149) dX5_readEdge_148 rfl rfl ?_
                  replace h := qbd h; obtain ⟨y26, hy26, h⟩ := h
                  refine ev_callg (pc' := 152) (st2 := []) dX5_readEdge_149 (qs_V tc_5_66 rfl rfl (cS_cls sh1) rfl) rfl rfl (eX5_advance (d := d + 0) hy26) rfl rfl ?_
                  cases h
                  exact ev_wk (qLe_eq (qLe_sk (qLe_sk (qLe_sk (qLe_sk (qLe_sk qLe_nil)))))) kJ
            refine ev_ifeq (pc' := 107) (tgt := 114) dX5_readEdge_104 (by decide) rfl (x1 := wr (if wr (rd y9 1 9) = 2 then 1 else 0)) rfl (fun c16 => ?_) (fun c16 => ?_)
            · skip
              refine ev_iconst (pc' := 115) dX5_readEdge_114 rfl ?_
              exact ev_wk (qLe_eq (qLe_eq (qLe_eq (qLe_eq (qLe_eq (qLe_eq qLe_nil)))))) (k17 _ (qet c16 rfl))
            · skip
              refine ev_aload_n (pc' := 108) dX5_readEdge_107 rfl rfl ?_
              refine ev_geti (pc' := 111) (ki := 12) dX5_readEdge_108 rfl tf_5_57 sh1 rfl rfl ?_
              refine ev_goto (pc' := 115) dX5_readEdge_111 (by decide) ?_
              exact ev_wk (qLe_eq (qLe_eq (qLe_eq (qLe_eq (qLe_eq (qLe_eq qLe_nil)))))) (k17 _ (qef c16 rfl))
        · replace h := qif' c13 h
          refine ev_aload_n (pc' := 81) dX5_readEdge_80 rfl rfl ?_
          refine ev_iconst (pc' := 82) dX5_readEdge_81 rfl ?_
          refine ev_bipush (pc' := 84) dX5_readEdge_82 rfl bl_9 ?_
          replace h := qbd h; obtain ⟨y29, hy29, h⟩ := h
          refine ev_callg (pc' := 87) (st2 := [iv y29.1]) dX5_readEdge_84 (qs_V tc_5_109 rfl rfl (cS_cls sh1) rfl) rfl rfl (eX5_expectNumber (d := d + 1) hy29) rfl rfl ?_
          refine ev_ifne (pc' := 90) (tgt := 102) dX5_readEdge_87 (by decide) rfl (x1 := wr y29.1) rfl (fun c30 => ?_) (fun c30 => ?_)
          · replace h := qit c30 h
            refine ev_goto (pc' := 100) dX5_readEdge_90 (by decide) ?_
            refine ev_iconst (pc' := 101) dX5_readEdge_100 rfl ?_
            cases h
            exact ev_ireturn dX5_readEdge_101 rfl rfl
          · replace h := qif' c30 h
            refine ev_iload (pc' := 104) dX5_readEdge_102 rfl rfl ?_
            have k32 : ∀ j33 : Int, j33 = (if wr (if wr (rd y9 1 9) = 2 then 1 else 0) = 0 then 1 else (rd y29.2 1 12)) → Ev (d + 3) mX5_readEdge 115 [some (.ref 1), some (.ref p0), some (iv (rd y3.2 1 12)), some (iv (rd y7.2 1 12)), some (iv (if wr (rd y9 1 9) = 2 then 1 else 0)), none] [iv j33] (cS Ls t y29.2) (.inl (some (iv r.1))) (cS Ls t r.2) := by
              intro j33 ej33
              subst ej33
              refine ev_istore (pc' := 117) (L1 := [some (.ref 1), some (.ref p0), some (iv (rd y3.2 1 12)), some (iv (rd y7.2 1 12)), some (iv (if wr (rd y9 1 9) = 2 then 1 else 0)), some (iv (if wr (if wr (rd y9 1 9) = 2 then 1 else 0) = 0 then 1 else (rd y29.2 1 12)))]) dX5_readEdge_115 rfl rfl ?_
              refine ev_aload_n (pc' := 118) dX5_readEdge_117 rfl rfl ?_
              replace h := qbd h; obtain ⟨y34, hy34, h⟩ := h
              refine ev_callg (pc' := 121) (st2 := [iv y34]) dX5_readEdge_118 (qs_V tc_5_138 rfl rfl (cS_cls hp0.1) rfl) rfl rfl (eX1_edgeCount (d := d + 2) hp0 hy34) rfl rfl ?_
              refine ev_iload (pc' := 123) dX5_readEdge_121 rfl rfl ?_
              refine ev_iadd (pc' := 124) dX5_readEdge_123 rfl ?_
              refine ev_bipush (pc' := 126) dX5_readEdge_124 rfl bl_16 ?_
              refine ev_icmple (pc' := 129) (tgt := 135) dX5_readEdge_126 (by decide) rfl (x1 := wr (y34 + (if wr (if wr (rd y9 1 9) = 2 then 1 else 0) = 0 then 1 else (rd y29.2 1 12)))) (y1 := 16) rfl wl_16  (fun c35 => ?_) (fun c35 => ?_)
              · replace h := qit c35 h
                refine ev_aload_n (pc' := 130) dX5_readEdge_129 rfl rfl ?_
                refine ev_iconst (pc' := 131) dX5_readEdge_130 rfl ?_
                replace h := qbd h; obtain ⟨y36, hy36, h⟩ := h
                refine ev_callg (pc' := 134) (st2 := [iv y36.1]) dX5_readEdge_131 (qs_V tc_5_94 rfl rfl (cS_cls sh1) rfl) rfl rfl (eX5_fail (d := d + 2) hy36) rfl rfl ?_
                replace h := qbd h; obtain ⟨x37, hx37, h⟩ := h
                obtain ⟨ex37, nx37⟩ := qbl_n hx37
                subst ex37
                cases h
                exact ev_ireturn dX5_readEdge_134 rfl nx37
              · replace h := qif' c35 h
                refine ev_aload_n (pc' := 136) dX5_readEdge_135 rfl rfl ?_
                refine ev_iload_n (pc' := 137) dX5_readEdge_136 rfl rfl ?_
                refine ev_iload_n (pc' := 138) dX5_readEdge_137 rfl rfl ?_
                refine ev_iload (pc' := 140) dX5_readEdge_138 rfl rfl ?_
                replace h := qbd h; obtain ⟨y38, hy38, h⟩ := h
                refine ev_callg (pc' := 143) (st2 := []) dX5_readEdge_140 (qs_V tc_5_141 rfl rfl (cS_cls hp0.1) rfl) rfl rfl (eX1_put (d := d + 2) hp0 hy38) rfl rfl ?_
                refine ev_iload (pc' := 145) dX5_readEdge_143 rfl rfl ?_
                replace h := qbd h; obtain ⟨y40, hy40, h⟩ := h
                have kJ : Ev (d + 3) mX5_readEdge 152 [some (.ref 1), none, none, none, none, none] [] (cS Ls t y40) (.inl (some (iv r.1))) (cS Ls t r.2) := by
                  refine ev_aload_n (pc' := 153) dX5_readEdge_152 rfl rfl ?_
                  replace h := qbd h; obtain ⟨y42, hy42, h⟩ := h
                  refine ev_callg (pc' := 156) (st2 := [iv y42.1]) dX5_readEdge_153 (qs_V tc_5_113 rfl rfl (cS_cls sh1) rfl) rfl rfl (eX5_expectSemicolon (d := d + 1) hy42) rfl rfl ?_
                  replace h := qbd h; obtain ⟨x43, hx43, h⟩ := h
                  obtain ⟨ex43, nx43⟩ := qbl_n hx43
                  subst ex43
                  cases h
                  exact ev_ireturn dX5_readEdge_156 rfl nx43
                replace h := hy40
                clear hy40
                refine ev_ifeq (pc' := 148) (tgt := 152) dX5_readEdge_145 (by decide) rfl (x1 := wr (if wr (rd y9 1 9) = 2 then 1 else 0)) rfl (fun c39 => ?_) (fun c39 => ?_)
                · replace h := qit c39 h
                  cases h
                  exact ev_wk (qLe_eq (qLe_sk (qLe_sk (qLe_sk (qLe_sk (qLe_sk qLe_nil)))))) kJ
                · replace h := qif' c39 h
                  refine ev_aload_n (pc' := 149) dX5_readEdge_148 rfl rfl ?_
                  replace h := qbd h; obtain ⟨y41, hy41, h⟩ := h
                  refine ev_callg (pc' := 152) (st2 := []) dX5_readEdge_149 (qs_V tc_5_66 rfl rfl (cS_cls sh1) rfl) rfl rfl (eX5_advance (d := d + 0) hy41) rfl rfl ?_
                  cases h
                  exact ev_wk (qLe_eq (qLe_sk (qLe_sk (qLe_sk (qLe_sk (qLe_sk qLe_nil)))))) kJ
            refine ev_ifeq (pc' := 107) (tgt := 114) dX5_readEdge_104 (by decide) rfl (x1 := wr (if wr (rd y9 1 9) = 2 then 1 else 0)) rfl (fun c31 => ?_) (fun c31 => ?_)
            · skip
              refine ev_iconst (pc' := 115) dX5_readEdge_114 rfl ?_
              exact ev_wk (qLe_eq (qLe_eq (qLe_eq (qLe_eq (qLe_eq (qLe_eq qLe_nil)))))) (k32 _ (qet c31 rfl))
            · skip
              refine ev_aload_n (pc' := 108) dX5_readEdge_107 rfl rfl ?_
              refine ev_geti (pc' := 111) (ki := 12) dX5_readEdge_108 rfl tf_5_57 sh1 rfl rfl ?_
              refine ev_goto (pc' := 115) dX5_readEdge_111 (by decide) ?_
              exact ev_wk (qLe_eq (qLe_eq (qLe_eq (qLe_eq (qLe_eq (qLe_eq qLe_nil)))))) (k32 _ (qef c31 rfl))
      refine ev_icmpne (pc' := 68) (tgt := 72) dX5_readEdge_65 (by decide) rfl (x1 := wr (rd y9 1 9)) (y1 := 2) rfl wl_2  (fun c10 => ?_) (fun c10 => ?_)
      · skip
        refine ev_iconst (pc' := 69) dX5_readEdge_68 rfl ?_
        refine ev_goto (pc' := 73) dX5_readEdge_69 (by decide) ?_
        exact ev_wk (qLe_eq (qLe_eq (qLe_eq (qLe_eq (qLe_eq (qLe_eq qLe_nil)))))) (k11 _ (qet c10 rfl))
      · skip
        refine ev_iconst (pc' := 73) dX5_readEdge_72 rfl ?_
        exact ev_wk (qLe_eq (qLe_eq (qLe_eq (qLe_eq (qLe_eq (qLe_eq qLe_nil)))))) (k11 _ (qef c10 rfl))
set_option maxRecDepth 100000 in
theorem eX5_readModeNumber {Ls t d n : Nat} {μ : qMu} {r : Int × qMu} (h : fX5_readModeNumber n μ = some r) : Ev (d + 3) mX5_readModeNumber 0 [some (.ref 1)] [] (cS Ls t μ) (.inl (some (iv r.1))) (cS Ls t r.2) := by
  unfold fX5_readModeNumber at h
  refine ev_aload_n (pc' := 1) dX5_readModeNumber_0 rfl rfl ?_
  replace h := qbd h; obtain ⟨y1, hy1, h⟩ := h
  refine ev_callg (pc' := 4) (st2 := []) dX5_readModeNumber_1 (qs_V tc_5_66 rfl rfl (cS_cls sh1) rfl) rfl rfl (eX5_advance (d := d + 0) hy1) rfl rfl ?_
  refine ev_aload_n (pc' := 5) dX5_readModeNumber_4 rfl rfl ?_
  refine ev_iconst (pc' := 6) dX5_readModeNumber_5 rfl ?_
  refine ev_iconst (pc' := 7) dX5_readModeNumber_6 rfl ?_
  replace h := qbd h; obtain ⟨y2, hy2, h⟩ := h
  refine ev_callg (pc' := 10) (st2 := [iv y2.1]) dX5_readModeNumber_7 (qs_V tc_5_109 rfl rfl (cS_cls sh1) rfl) rfl rfl (eX5_expectNumber (d := d + 1) hy2) rfl rfl ?_
  refine ev_ifne (pc' := 13) (tgt := 15) dX5_readModeNumber_10 (by decide) rfl (x1 := wr y2.1) rfl (fun c3 => ?_) (fun c3 => ?_)
  · replace h := qit c3 h
    refine ev_iconst (pc' := 14) dX5_readModeNumber_13 rfl ?_
    cases h
    exact ev_ireturn dX5_readModeNumber_14 rfl rfl
  · replace h := qif' c3 h
    refine ev_aload_n (pc' := 16) dX5_readModeNumber_15 rfl rfl ?_
    refine ev_aload_n (pc' := 17) dX5_readModeNumber_16 rfl rfl ?_
    refine ev_geti (pc' := 20) (ki := 12) dX5_readModeNumber_17 rfl tf_5_57 sh1 rfl rfl ?_
    replace h := qbd h; obtain ⟨μ4, hμ4, h⟩ := h
    refine ev_puti (pc' := 23) dX5_readModeNumber_20 rfl tf_5_32 sh1 rfl rfl (qw_4_4 _) rfl hμ4 ?_
    refine ev_aload_n (pc' := 24) dX5_readModeNumber_23 rfl rfl ?_
    replace h := qbd h; obtain ⟨y5, hy5, h⟩ := h
    refine ev_callg (pc' := 27) (st2 := []) dX5_readModeNumber_24 (qs_V tc_5_66 rfl rfl (cS_cls sh1) rfl) rfl rfl (eX5_advance (d := d + 0) hy5) rfl rfl ?_
    refine ev_aload_n (pc' := 28) dX5_readModeNumber_27 rfl rfl ?_
    replace h := qbd h; obtain ⟨y6, hy6, h⟩ := h
    refine ev_callg (pc' := 31) (st2 := [iv y6.1]) dX5_readModeNumber_28 (qs_V tc_5_113 rfl rfl (cS_cls sh1) rfl) rfl rfl (eX5_expectSemicolon (d := d + 1) hy6) rfl rfl ?_
    replace h := qbd h; obtain ⟨x7, hx7, h⟩ := h
    obtain ⟨ex7, nx7⟩ := qbl_n hx7
    subst ex7
    cases h
    exact ev_ireturn dX5_readModeNumber_31 rfl nx7
set_option maxRecDepth 100000 in
theorem eX5_readOther {Ls t d n : Nat} {μ : qMu} {r : Int × qMu} (h : fX5_readOther n μ = some r) : Ev (d + 4) mX5_readOther 0 [some (.ref 1)] [] (cS Ls t μ) (.inl (some (iv r.1))) (cS Ls t r.2) := by
  unfold fX5_readOther at h
  refine ev_aload_n (pc' := 1) dX5_readOther_0 rfl rfl ?_
  refine ev_ldc (pc' := 3) dX5_readOther_1 rfl ts_5_98 ?_
  replace h := qbd h; obtain ⟨y1, hy1, h⟩ := h
  refine ev_callg (pc' := 6) (st2 := [iv y1]) dX5_readOther_3 (qs_V tc_5_82 rfl rfl (cS_cls sh1) rfl) rfl rfl (eX5_isWord (d := d + 2) ⟨by decide, by decide⟩ hy1) rfl rfl ?_
  refine ev_ifeq (pc' := 9) (tgt := 18) dX5_readOther_6 (by decide) rfl (x1 := wr y1) rfl (fun c2 => ?_) (fun c2 => ?_)
  · replace h := qit c2 h
    refine ev_aload_n (pc' := 19) dX5_readOther_18 rfl rfl ?_
    refine ev_ldc (pc' := 21) dX5_readOther_19 rfl ts_5_104 ?_
    replace h := qbd h; obtain ⟨y3, hy3, h⟩ := h
    refine ev_callg (pc' := 24) (st2 := [iv y3]) dX5_readOther_21 (qs_V tc_5_82 rfl rfl (cS_cls sh1) rfl) rfl rfl (eX5_isWord (d := d + 2) ⟨by decide, by decide⟩ hy3) rfl rfl ?_
    refine ev_ifeq (pc' := 27) (tgt := 36) dX5_readOther_24 (by decide) rfl (x1 := wr y3) rfl (fun c4 => ?_) (fun c4 => ?_)
    · replace h := qit c4 h
      refine ev_aload_n (pc' := 37) dX5_readOther_36 rfl rfl ?_
      refine ev_ldc (pc' := 39) dX5_readOther_37 rfl ts_5_105 ?_
      replace h := qbd h; obtain ⟨y5, hy5, h⟩ := h
      refine ev_callg (pc' := 42) (st2 := [iv y5]) dX5_readOther_39 (qs_V tc_5_82 rfl rfl (cS_cls sh1) rfl) rfl rfl (eX5_isWord (d := d + 2) ⟨by decide, by decide⟩ hy5) rfl rfl ?_
      refine ev_ifeq (pc' := 45) (tgt := 52) dX5_readOther_42 (by decide) rfl (x1 := wr y5) rfl (fun c6 => ?_) (fun c6 => ?_)
      · replace h := qit c6 h
        refine ev_aload_n (pc' := 53) dX5_readOther_52 rfl rfl ?_
        refine ev_iconst (pc' := 54) dX5_readOther_53 rfl ?_
        replace h := qbd h; obtain ⟨y7, hy7, h⟩ := h
        refine ev_callg (pc' := 57) (st2 := [iv y7.1]) dX5_readOther_54 (qs_V tc_5_94 rfl rfl (cS_cls sh1) rfl) rfl rfl (eX5_fail (d := d + 3) hy7) rfl rfl ?_
        replace h := qbd h; obtain ⟨x8, hx8, h⟩ := h
        obtain ⟨ex8, nx8⟩ := qbl_n hx8
        subst ex8
        cases h
        exact ev_ireturn dX5_readOther_57 rfl nx8
      · replace h := qif' c6 h
        refine ev_aload_n (pc' := 46) dX5_readOther_45 rfl rfl ?_
        replace h := qbd h; obtain ⟨y9, hy9, h⟩ := h
        refine ev_callg (pc' := 49) (st2 := [iv y9.1]) dX5_readOther_46 (qs_V tc_5_106 rfl rfl (cS_cls sh1) rfl) rfl rfl (eX5_readModeNumber (d := d + 0) hy9) rfl rfl ?_
        refine ev_goto (pc' := 57) dX5_readOther_49 (by decide) ?_
        replace h := qbd h; obtain ⟨x10, hx10, h⟩ := h
        obtain ⟨ex10, nx10⟩ := qbl_n hx10
        subst ex10
        cases h
        exact ev_ireturn dX5_readOther_57 rfl nx10
    · replace h := qif' c4 h
      refine ev_aload_n (pc' := 28) dX5_readOther_27 rfl rfl ?_
      refine ev_aload_n (pc' := 29) dX5_readOther_28 rfl rfl ?_
      refine ev_getr (pc' := 32) dX5_readOther_29 rfl tf_5_22 sh1 rfl ?_
      replace h := qbd h; obtain ⟨y11, hy11, h⟩ := h
      refine ev_callg (pc' := 35) (st2 := [iv y11.1]) dX5_readOther_32 (qs_V tc_5_100 rfl rfl (cS_cls sh1) rfl) rfl rfl (eX5_readEdge (d := d + 0) gG5 hy11) rfl rfl ?_
      replace h := qbd h; obtain ⟨x12, hx12, h⟩ := h
      obtain ⟨ex12, nx12⟩ := qbl_n hx12
      subst ex12
      cases h
      exact ev_ireturn dX5_readOther_35 rfl nx12
  · replace h := qif' c2 h
    refine ev_aload_n (pc' := 10) dX5_readOther_9 rfl rfl ?_
    refine ev_aload_n (pc' := 11) dX5_readOther_10 rfl rfl ?_
    refine ev_getr (pc' := 14) dX5_readOther_11 rfl tf_5_18 sh1 rfl ?_
    replace h := qbd h; obtain ⟨y13, hy13, h⟩ := h
    refine ev_callg (pc' := 17) (st2 := [iv y13.1]) dX5_readOther_14 (qs_V tc_5_100 rfl rfl (cS_cls sh1) rfl) rfl rfl (eX5_readEdge (d := d + 0) gG3 hy13) rfl rfl ?_
    replace h := qbd h; obtain ⟨x14, hx14, h⟩ := h
    obtain ⟨ex14, nx14⟩ := qbl_n hx14
    subst ex14
    cases h
    exact ev_ireturn dX5_readOther_17 rfl nx14
set_option maxRecDepth 100000 in
theorem ebX5_readText_48 {Ls t d n : Nat} : ∀ (k : Nat) (x : Int × Int × qMu) (y : Int × qMu), lp (fun x : Int × Int × qMu => bX5_readText_48 n x.1 x.2.1 x.2.2) k x = some y → ∀ (o : qO) (s' : qSt), Ev (d + 6) mX5_readText 96 [none, none, some (iv y.1), none] [] (cS Ls t y.2) o s' → Ev (d + 6) mX5_readText 48 [some (.ref 1), none, some (iv x.1), some (iv x.2.1)] [] (cS Ls t x.2.2) o s' := by
  intro k
  induction k with
  | zero => intro x y h; cases h
  | succ k ih =>
    intro x y h o s' kE
    rw [lp_s] at h
    replace h := qbd h; obtain ⟨zz, h0, h1⟩ := h
    have h : bX5_readText_48 n x.1 x.2.1 x.2.2 = some zz := h0
    clear h0
    unfold bX5_readText_48 at h
    refine ev_iload_n (pc' := 49) dX5_readText_48 rfl rfl ?_
    refine ev_sipush (pc' := 52) dX5_readText_49 rfl sl_400 ?_
    refine ev_icmpge (pc' := 55) (tgt := 96) dX5_readText_52 (by decide) rfl (x1 := wr x.2.1) (y1 := 400) rfl wl_400  (fun c9 => ?_) (fun c9 => ?_)
    · replace h := qit c9 h
      refine ev_iload_n (pc' := 56) dX5_readText_55 rfl rfl ?_
      refine ev_ifeq (pc' := 59) (tgt := 96) dX5_readText_56 (by decide) rfl (x1 := wr x.1) rfl (fun c10 => ?_) (fun c10 => ?_)
      · replace h := qit c10 h
        cases h
        cases h1
        exact ev_wk (qLe_sk (qLe_eq (qLe_eq (qLe_sk qLe_nil)))) kE
      · replace h := qif' c10 h
        refine ev_aload_n (pc' := 60) dX5_readText_59 rfl rfl ?_
        refine ev_geti (pc' := 63) (ki := 9) dX5_readText_60 rfl tf_5_48 sh1 rfl rfl ?_
        refine ev_ifeq (pc' := 66) (tgt := 96) dX5_readText_63 (by decide) rfl (x1 := wr (rd x.2.2 1 9)) rfl (fun c11 => ?_) (fun c11 => ?_)
        · replace h := qit c11 h
          cases h
          cases h1
          exact ev_wk (qLe_sk (qLe_eq (qLe_eq (qLe_sk qLe_nil)))) kE
        · replace h := qif' c11 h
          refine ev_aload_n (pc' := 67) dX5_readText_66 rfl rfl ?_
          replace h := qbd h; obtain ⟨y12, hy12, h⟩ := h
          refine ev_callg (pc' := 70) (st2 := []) dX5_readText_67 (qs_V tc_5_66 rfl rfl (cS_cls sh1) rfl) rfl rfl (eX5_advance (d := d + 3) hy12) rfl rfl ?_
          refine ev_aload_n (pc' := 71) dX5_readText_70 rfl rfl ?_
          refine ev_geti (pc' := 74) (ki := 9) dX5_readText_71 rfl tf_5_48 sh1 rfl rfl ?_
          replace h := qbd h; obtain ⟨y14, hy14, h⟩ := h
          have kJ : Ev (d + 6) mX5_readText 89 [some (.ref 1), none, none, some (iv x.2.1)] [iv y14.1] (cS Ls t y14.2) o s' := by
            refine ev_istore_n (pc' := 90) (L1 := [some (.ref 1), none, some (iv y14.1), some (iv x.2.1)]) dX5_readText_89 rfl rfl ?_
            refine ev_iinc (pc' := 93) (x := x.2.1) (L1 := [some (.ref 1), none, some (iv y14.1), some (iv (x.2.1 + 1))]) dX5_readText_90 rfl rfl rfl ?_
            refine ev_goto (pc' := 48) dX5_readText_93 (by decide) ?_
            cases h
            exact ev_wk (qLe_eq (qLe_eq (qLe_eq (qLe_eq qLe_nil)))) (ih _ _ h1 _ _ kE)
          replace h := hy14
          clear hy14
          refine ev_ifeq (pc' := 77) (tgt := 84) dX5_readText_74 (by decide) rfl (x1 := wr (rd y12 1 9)) rfl (fun c13 => ?_) (fun c13 => ?_)
          · replace h := qit c13 h
            refine ev_iconst (pc' := 85) dX5_readText_84 rfl ?_
            refine ev_goto (pc' := 89) dX5_readText_85 (by decide) ?_
            cases h
            exact ev_wk (qLe_eq (qLe_eq (qLe_sk (qLe_eq qLe_nil)))) kJ
          · replace h := qif' c13 h
            refine ev_aload_n (pc' := 78) dX5_readText_77 rfl rfl ?_
            replace h := qbd h; obtain ⟨y15, hy15, h⟩ := h
            refine ev_callg (pc' := 81) (st2 := [iv y15.1]) dX5_readText_78 (qs_V tc_5_73 rfl rfl (cS_cls sh1) rfl) rfl rfl (eX5_readOther (d := d + 1) hy15) rfl rfl ?_
            refine ev_ifeq (pc' := 84) (tgt := 88) dX5_readText_81 (by decide) rfl (x1 := wr y15.1) rfl (fun c16 => ?_) (fun c16 => ?_)
            · replace h := qit c16 h
              refine ev_iconst (pc' := 89) dX5_readText_88 rfl ?_
              cases h
              exact ev_wk (qLe_eq (qLe_eq (qLe_sk (qLe_eq qLe_nil)))) kJ
            · replace h := qif' c16 h
              refine ev_iconst (pc' := 85) dX5_readText_84 rfl ?_
              refine ev_goto (pc' := 89) dX5_readText_85 (by decide) ?_
              cases h
              exact ev_wk (qLe_eq (qLe_eq (qLe_sk (qLe_eq qLe_nil)))) kJ
    · replace h := qif' c9 h
      cases h
      cases h1
      exact ev_wk (qLe_sk (qLe_eq (qLe_eq (qLe_sk qLe_nil)))) kE
set_option maxRecDepth 100000 in
theorem eX5_readText {Ls t d n : Nat} {p0 : Int} {μ : qMu} {r : Int × qMu} (h : fX5_readText n p0 μ = some r) : Ev (d + 6) mX5_readText 0 [some (.ref 1), some (iv p0), none, none] [] (cS Ls t μ) (.inl (some (iv r.1))) (cS Ls t r.2) := by
  unfold fX5_readText at h
  refine ev_aload_n (pc' := 1) dX5_readText_0 rfl rfl ?_
  refine ev_iload_n (pc' := 2) dX5_readText_1 rfl rfl ?_
  refine ev_aload_n (pc' := 3) dX5_readText_2 rfl rfl ?_
  refine ev_geti (pc' := 6) (ki := 5) dX5_readText_3 rfl tf_5_36 sh1 rfl rfl ?_
  refine ev_min (pc' := 9) dX5_readText_6 rfl tc_5_60 rfl ?_
  replace h := qbd h; obtain ⟨μ1, hμ1, h⟩ := h
  refine ev_puti (pc' := 12) dX5_readText_9 rfl tf_5_39 sh1 rfl rfl (qw_4_6 _) rfl hμ1 ?_
  refine ev_aload_n (pc' := 13) dX5_readText_12 rfl rfl ?_
  refine ev_iconst (pc' := 14) dX5_readText_13 rfl ?_
  replace h := qbd h; obtain ⟨μ2, hμ2, h⟩ := h
  refine ev_puti (pc' := 17) dX5_readText_14 rfl tf_5_36 sh1 rfl rfl (qw_4_5 _) rfl hμ2 ?_
  refine ev_aload_n (pc' := 18) dX5_readText_17 rfl rfl ?_
  refine ev_iconst (pc' := 19) dX5_readText_18 rfl ?_
  replace h := qbd h; obtain ⟨μ3, hμ3, h⟩ := h
  refine ev_puti (pc' := 22) dX5_readText_19 rfl tf_5_54 sh1 rfl rfl (qw_4_11 _) rfl hμ3 ?_
  refine ev_aload_n (pc' := 23) dX5_readText_22 rfl rfl ?_
  refine ev_iconst (pc' := 24) dX5_readText_23 rfl ?_
  replace h := qbd h; obtain ⟨μ4, hμ4, h⟩ := h
  refine ev_puti (pc' := 27) dX5_readText_24 rfl tf_5_32 sh1 rfl rfl (qw_4_4 _) rfl hμ4 ?_
  refine ev_aload_n (pc' := 28) dX5_readText_27 rfl rfl ?_
  refine ev_iconst (pc' := 29) dX5_readText_28 rfl ?_
  replace h := qbd h; obtain ⟨μ5, hμ5, h⟩ := h
  refine ev_puti (pc' := 32) dX5_readText_29 rfl tf_5_42 sh1 rfl rfl (qw_4_7 _) rfl hμ5 ?_
  refine ev_aload_n (pc' := 33) dX5_readText_32 rfl rfl ?_
  refine ev_iconst (pc' := 34) dX5_readText_33 rfl ?_
  replace h := qbd h; obtain ⟨μ6, hμ6, h⟩ := h
  refine ev_puti (pc' := 37) dX5_readText_34 rfl tf_5_45 sh1 rfl rfl (qw_4_8 _) rfl hμ6 ?_
  refine ev_aload_n (pc' := 38) dX5_readText_37 rfl rfl ?_
  replace h := qbd h; obtain ⟨y7, hy7, h⟩ := h
  refine ev_callg (pc' := 41) (st2 := []) dX5_readText_38 (qs_V tc_5_66 rfl rfl (cS_cls sh1) rfl) rfl rfl (eX5_advance (d := d + 3) hy7) rfl rfl ?_
  refine ev_aload_n (pc' := 42) dX5_readText_41 rfl rfl ?_
  replace h := qbd h; obtain ⟨y8, hy8, h⟩ := h
  refine ev_callg (pc' := 45) (st2 := [iv y8.1]) dX5_readText_42 (qs_V tc_5_69 rfl rfl (cS_cls sh1) rfl) rfl rfl (eX5_readFirst (d := d + 0) hy8) rfl rfl ?_
  refine ev_istore_n (pc' := 46) (L1 := [some (.ref 1), some (iv p0), some (iv y8.1), none]) dX5_readText_45 rfl rfl ?_
  refine ev_iconst (pc' := 47) dX5_readText_46 rfl ?_
  refine ev_istore_n (pc' := 48) (L1 := [some (.ref 1), some (iv p0), some (iv y8.1), some (iv 0)]) dX5_readText_47 rfl rfl ?_
  replace h := qbd h; obtain ⟨y17, hy17, h⟩ := h
  refine ev_wk (qLe_eq (qLe_sk (qLe_eq (qLe_eq qLe_nil)))) (?_ : Ev _ _ _ [some (.ref 1), none, some (iv y8.1), some (iv 0)] _ _ _ _)
  refine ebX5_readText_48 _ _ _ hy17 _ _ ?_
  refine ev_iload_n (pc' := 97) dX5_readText_96 rfl rfl ?_
  replace h := qbd h; obtain ⟨x18, hx18, h⟩ := h
  obtain ⟨ex18, nx18⟩ := qbl_n hx18
  subst ex18
  cases h
  exact ev_ireturn dX5_readText_97 rfl nx18
set_option maxRecDepth 100000 in
theorem eX5_readGraph {Ls t d : Nat} {μ : qMu} {r : Nat} (h : fX5_readGraph μ = some r) : Ev (d + 0) mX5_readGraph 0 [some (.ref 1)] [] (cS Ls t μ) (.inl (some (.ref r))) (cS Ls t μ) := by
  unfold fX5_readGraph at h
  refine ev_aload_n (pc' := 1) dX5_readGraph_0 rfl rfl ?_
  refine ev_getr (pc' := 4) dX5_readGraph_1 rfl tf_5_18 sh1 rfl ?_
  cases h
  exact ev_areturn dX5_readGraph_4 rfl
theorem gP_X5_readGraph {μ : qMu} {y : Nat} (h : fX5_readGraph μ = some y) : gG y := by
  cases h
  exact gG3
set_option maxRecDepth 100000 in
theorem ebX1_become_2 {Ls t d n : Nat} {w0 : Nat} {w1 : Nat} (hw0 : gG w0) (hw1 : gG w1) : ∀ (k : Nat) (x : Int × qMu) (y : qMu), lp (fun x : Int × qMu => bX1_become_2 n w0 w1 x.1 x.2) k x = some y → ∀ (o : qO) (s' : qSt), Ev (d + 0) mX1_become 29 [some (.ref w0), some (.ref w1), none] [] (cS Ls t y) o s' → Ev (d + 0) mX1_become 2 [some (.ref w0), some (.ref w1), some (iv x.1)] [] (cS Ls t x.2) o s' := by
  intro k
  induction k with
  | zero => intro x y h; cases h
  | succ k ih =>
    intro x y h o s' kE
    rw [lp_s] at h
    replace h := qbd h; obtain ⟨zz, h0, h1⟩ := h
    have h : bX1_become_2 n w0 w1 x.1 x.2 = some zz := h0
    clear h0
    unfold bX1_become_2 at h
    refine ev_iload_n (pc' := 3) dX1_become_2 rfl rfl ?_
    refine ev_aload_n (pc' := 4) dX1_become_3 rfl rfl ?_
    refine ev_getr (pc' := 7) dX1_become_4 rfl tf_1_9 hw0.1 rfl ?_
    refine ev_alen (pc' := 8) dX1_become_7 rfl hw0.2 (Or.inl rfl) ?_
    refine ev_icmpge (pc' := 11) (tgt := 29) dX1_become_8 (by decide) rfl (x1 := wr x.1) (y1 := 64) rfl wl_64  (fun c1 => ?_) (fun c1 => ?_)
    · replace h := qit c1 h
      refine ev_aload_n (pc' := 12) dX1_become_11 rfl rfl ?_
      refine ev_getr (pc' := 15) dX1_become_12 rfl tf_1_9 hw0.1 rfl ?_
      refine ev_iload_n (pc' := 16) dX1_become_15 rfl rfl ?_
      refine ev_aload_n (pc' := 17) dX1_become_16 rfl rfl ?_
      refine ev_getr (pc' := 20) dX1_become_17 rfl tf_1_9 hw1.1 rfl ?_
      refine ev_iload_n (pc' := 21) dX1_become_20 rfl rfl ?_
      replace h := qbd h; obtain ⟨x2, hx2, h⟩ := h
      refine ev_iald (pc' := 22) dX1_become_21 rfl hw1.2 hx2 ?_
      replace h := qbd h; obtain ⟨μ3, hμ3, h⟩ := h
      refine ev_iast (pc' := 23) dX1_become_22 rfl hw0.2 hμ3 ?_
      refine ev_iinc (pc' := 26) (x := x.1) (L1 := [some (.ref w0), some (.ref w1), some (iv (x.1 + 1))]) dX1_become_23 rfl rfl rfl ?_
      refine ev_goto (pc' := 2) dX1_become_26 (by decide) ?_
      cases h
      exact ev_wk (qLe_eq (qLe_eq (qLe_eq qLe_nil))) (ih _ _ h1 _ _ kE)
    · replace h := qif' c1 h
      cases h
      cases h1
      exact ev_wk (qLe_eq (qLe_eq (qLe_sk qLe_nil))) kE
set_option maxRecDepth 100000 in
theorem eX1_become {Ls t d n : Nat} {g : Nat} {p0 : Nat} {μ : qMu} {r : qMu} (hg : gG g) (hp0 : gG p0) (h : fX1_become n g p0 μ = some r) : Ev (d + 0) mX1_become 0 [some (.ref g), some (.ref p0), none] [] (cS Ls t μ) (.inl none) (cS Ls t r) := by
  unfold fX1_become at h
  refine ev_iconst (pc' := 1) dX1_become_0 rfl ?_
  refine ev_istore_n (pc' := 2) (L1 := [some (.ref g), some (.ref p0), some (iv 0)]) dX1_become_1 rfl rfl ?_
  replace h := qbd h; obtain ⟨y4, hy4, h⟩ := h
  refine ev_wk (qLe_eq (qLe_eq (qLe_eq qLe_nil))) (?_ : Ev _ _ _ [some (.ref g), some (.ref p0), some (iv 0)] _ _ _ _)
  refine ebX1_become_2 hg hp0 _ _ _ hy4 _ _ ?_
  refine ev_aload_n (pc' := 30) dX1_become_29 rfl rfl ?_
  refine ev_aload_n (pc' := 31) dX1_become_30 rfl rfl ?_
  refine ev_geti (pc' := 34) (ki := 1) dX1_become_31 rfl tf_1_15 hp0.1 rfl rfl ?_
  replace h := qbd h; obtain ⟨μ5, hμ5, h⟩ := h
  refine ev_puti (pc' := 37) dX1_become_34 rfl tf_1_15 hg.1 rfl rfl (qw_0_1 _) rfl hμ5 ?_
  refine ev_aload_n (pc' := 38) dX1_become_37 rfl rfl ?_
  refine ev_aload_n (pc' := 39) dX1_become_38 rfl rfl ?_
  refine ev_geti (pc' := 42) (ki := 2) dX1_become_39 rfl tf_1_19 hp0.1 rfl rfl ?_
  replace h := qbd h; obtain ⟨μ6, hμ6, h⟩ := h
  refine ev_puti (pc' := 45) dX1_become_42 rfl tf_1_19 hg.1 rfl rfl (qw_0_2 _) rfl hμ6 ?_
  cases h
  exact ev_return dX1_become_45 rfl
set_option maxRecDepth 100000 in
theorem eX5_readTarget {Ls t d : Nat} {μ : qMu} {r : Nat} (h : fX5_readTarget μ = some r) : Ev (d + 0) mX5_readTarget 0 [some (.ref 1)] [] (cS Ls t μ) (.inl (some (.ref r))) (cS Ls t μ) := by
  unfold fX5_readTarget at h
  refine ev_aload_n (pc' := 1) dX5_readTarget_0 rfl rfl ?_
  refine ev_getr (pc' := 4) dX5_readTarget_1 rfl tf_5_22 sh1 rfl ?_
  cases h
  exact ev_areturn dX5_readTarget_4 rfl
theorem gP_X5_readTarget {μ : qMu} {y : Nat} (h : fX5_readTarget μ = some y) : gG y := by
  cases h
  exact gG5
set_option maxRecDepth 100000 in
theorem eX5_readMode {Ls t d : Nat} {μ : qMu} {r : Int} (h : fX5_readMode μ = some r) : Ev (d + 0) mX5_readMode 0 [some (.ref 1)] [] (cS Ls t μ) (.inl (some (iv r))) (cS Ls t μ) := by
  unfold fX5_readMode at h
  refine ev_aload_n (pc' := 1) dX5_readMode_0 rfl rfl ?_
  refine ev_geti (pc' := 4) (ki := 4) dX5_readMode_1 rfl tf_5_32 sh1 rfl rfl ?_
  cases h
  exact ev_ireturn dX5_readMode_4 rfl rfl
set_option maxRecDepth 100000 in
theorem eX2_forget {Ls t d : Nat} {μ : qMu} {r : qMu} (h : fX2_forget μ = some r) : Ev (d + 0) mX2_forget 0 [some (.ref 32)] [] (cS Ls t μ) (.inl none) (cS Ls t r) := by
  unfold fX2_forget at h
  refine ev_aload_n (pc' := 1) dX2_forget_0 rfl rfl ?_
  refine ev_iconst (pc' := 2) dX2_forget_1 rfl ?_
  replace h := qbd h; obtain ⟨μ1, hμ1, h⟩ := h
  refine ev_puti (pc' := 5) dX2_forget_2 rfl tf_2_22 sh32 rfl rfl (qw_1_3 _) rfl hμ1 ?_
  refine ev_aload_n (pc' := 6) dX2_forget_5 rfl rfl ?_
  refine ev_iconst (pc' := 7) dX2_forget_6 rfl ?_
  replace h := qbd h; obtain ⟨μ2, hμ2, h⟩ := h
  refine ev_puti (pc' := 10) dX2_forget_7 rfl tf_2_26 sh32 rfl rfl (qw_1_4 _) rfl hμ2 ?_
  cases h
  exact ev_return dX2_forget_10 rfl
set_option maxRecDepth 100000 in
theorem eX9_load {Ls t d n : Nat} {p0 : Int} {μ : qMu} {r : (Int ⊕ Nat) × qMu} (h : fX9_load n p0 μ = some r) : Ev (d + 7) mX9_load 0 [some (.ref 0), some (iv p0)] [] (cS Ls t μ) (qRi r.1) (cS Ls (qTt t r.1) r.2) := by
  unfold fX9_load at h
  refine ev_iload_n (pc' := 1) dX9_load_0 rfl rfl ?_
  refine ev_iflt (pc' := 4) (tgt := 15) dX9_load_1 (by decide) rfl (x1 := wr p0) rfl (fun c1 => ?_) (fun c1 => ?_)
  · replace h := qit c1 h
    cases h
    exact ev_throw dX9_load_15 tn_9_90 dX9_load_18 dX9_load_19 dX9_load_21 dX9_load_24 tx_9_90_92 rfl rfl
  · replace h := qif' c1 h
    refine ev_iload_n (pc' := 5) dX9_load_4 rfl rfl ?_
    refine ev_aload_n (pc' := 6) dX9_load_5 rfl rfl ?_
    refine ev_getr (pc' := 9) dX9_load_6 rfl tf_9_10 sh0 rfl ?_
    replace h := qbd h; obtain ⟨y2, hy2, h⟩ := h
    refine ev_callg (pc' := 12) (st2 := [iv y2, iv p0]) dX9_load_9 (qs_V tc_9_86 rfl rfl (cS_cls sh1) rfl) rfl rfl (eX5_fedBytes (d := d + 6) hy2) rfl rfl ?_
    refine ev_icmple (pc' := 15) (tgt := 25) dX9_load_12 (by decide) rfl (x1 := wr p0) (y1 := wr y2) rfl rfl  (fun c3 => ?_) (fun c3 => ?_)
    · replace h := qit c3 h
      cases h
      exact ev_throw dX9_load_15 tn_9_90 dX9_load_18 dX9_load_19 dX9_load_21 dX9_load_24 tx_9_90_92 rfl rfl
    · replace h := qif' c3 h
      refine ev_aload_n (pc' := 26) dX9_load_25 rfl rfl ?_
      refine ev_getr (pc' := 29) dX9_load_26 rfl tf_9_10 sh0 rfl ?_
      refine ev_iload_n (pc' := 30) dX9_load_29 rfl rfl ?_
      replace h := qbd h; obtain ⟨y4, hy4, h⟩ := h
      refine ev_callg (pc' := 33) (st2 := [iv y4.1]) dX9_load_30 (qs_V tc_9_97 rfl rfl (cS_cls sh1) rfl) rfl rfl (eX5_readText (d := d + 0) hy4) rfl rfl ?_
      refine ev_ifne (pc' := 36) (tgt := 39) dX9_load_33 (by decide) rfl (x1 := wr y4.1) rfl (fun c5 => ?_) (fun c5 => ?_)
      · replace h := qit c5 h
        refine ev_bipush (pc' := 38) dX9_load_36 rfl bl_m3 ?_
        cases h
        exact ev_ireturn dX9_load_38 rfl rfl
      · replace h := qif' c5 h
        refine ev_aload_n (pc' := 40) dX9_load_39 rfl rfl ?_
        refine ev_getr (pc' := 43) dX9_load_40 rfl tf_9_19 sh0 rfl ?_
        refine ev_aload_n (pc' := 44) dX9_load_43 rfl rfl ?_
        refine ev_getr (pc' := 47) dX9_load_44 rfl tf_9_10 sh0 rfl ?_
        replace h := qbd h; obtain ⟨y6, hy6, h⟩ := h
        refine ev_callg (pc' := 50) (st2 := [.ref y6, .ref 11]) dX9_load_47 (qs_V tc_9_101 rfl rfl (cS_cls sh1) rfl) rfl rfl (eX5_readGraph (d := d + 6) hy6) rfl rfl ?_
        replace h := qbd h; obtain ⟨y7, hy7, h⟩ := h
        refine ev_callg (pc' := 53) (st2 := []) dX9_load_50 (qs_V tc_9_105 rfl rfl (cS_cls sh11) rfl) rfl rfl (eX1_become (d := d + 6) gG11 (gP_X5_readGraph hy6) hy7) rfl rfl ?_
        refine ev_aload_n (pc' := 54) dX9_load_53 rfl rfl ?_
        refine ev_getr (pc' := 57) dX9_load_54 rfl tf_9_23 sh0 rfl ?_
        refine ev_aload_n (pc' := 58) dX9_load_57 rfl rfl ?_
        refine ev_getr (pc' := 61) dX9_load_58 rfl tf_9_10 sh0 rfl ?_
        replace h := qbd h; obtain ⟨y8, hy8, h⟩ := h
        refine ev_callg (pc' := 64) (st2 := [.ref y8, .ref 13]) dX9_load_61 (qs_V tc_9_109 rfl rfl (cS_cls sh1) rfl) rfl rfl (eX5_readTarget (d := d + 6) hy8) rfl rfl ?_
        replace h := qbd h; obtain ⟨y9, hy9, h⟩ := h
        refine ev_callg (pc' := 67) (st2 := []) dX9_load_64 (qs_V tc_9_105 rfl rfl (cS_cls sh13) rfl) rfl rfl (eX1_become (d := d + 6) gG13 (gP_X5_readTarget hy8) hy9) rfl rfl ?_
        refine ev_aload_n (pc' := 68) dX9_load_67 rfl rfl ?_
        refine ev_aload_n (pc' := 69) dX9_load_68 rfl rfl ?_
        refine ev_getr (pc' := 72) dX9_load_69 rfl tf_9_10 sh0 rfl ?_
        replace h := qbd h; obtain ⟨y10, hy10, h⟩ := h
        refine ev_callg (pc' := 75) (st2 := [iv y10, .ref 0]) dX9_load_72 (qs_V tc_9_112 rfl rfl (cS_cls sh1) rfl) rfl rfl (eX5_readMode (d := d + 6) hy10) rfl rfl ?_
        replace h := qbd h; obtain ⟨μ11, hμ11, h⟩ := h
        refine ev_puti (pc' := 78) dX9_load_75 rfl tf_9_74 sh0 rfl rfl (qw_8_11 _) rfl hμ11 ?_
        refine ev_aload_n (pc' := 79) dX9_load_78 rfl rfl ?_
        refine ev_getr (pc' := 82) dX9_load_79 rfl tf_9_63 sh0 rfl ?_
        replace h := qbd h; obtain ⟨y12, hy12, h⟩ := h
        refine ev_callg (pc' := 85) (st2 := []) dX9_load_82 (qs_V tc_9_115 rfl rfl (cS_cls sh32) rfl) rfl rfl (eX2_forget (d := d + 6) hy12) rfl rfl ?_
        refine ev_aload_n (pc' := 86) dX9_load_85 rfl rfl ?_
        refine ev_getr (pc' := 89) dX9_load_86 rfl tf_9_19 sh0 rfl ?_
        replace h := qbd h; obtain ⟨y13, hy13, h⟩ := h
        refine ev_callg (pc' := 92) (st2 := [iv y13]) dX9_load_89 (qs_V tc_9_118 rfl rfl (cS_cls sh11) rfl) rfl rfl (eX1_edgeCount (d := d + 6) gG11 hy13) rfl rfl ?_
        cases h
        exact ev_ireturn dX9_load_92 rfl rfl
set_option maxRecDepth 100000 in
theorem eX5_kindOfError {Ls t d : Nat} {μ : qMu} {r : Int} (h : fX5_kindOfError μ = some r) : Ev (d + 0) mX5_kindOfError 0 [some (.ref 1)] [] (cS Ls t μ) (.inl (some (iv r))) (cS Ls t μ) := by
  unfold fX5_kindOfError at h
  refine ev_aload_n (pc' := 1) dX5_kindOfError_0 rfl rfl ?_
  refine ev_geti (pc' := 4) (ki := 7) dX5_kindOfError_1 rfl tf_5_42 sh1 rfl rfl ?_
  cases h
  exact ev_ireturn dX5_kindOfError_4 rfl rfl
set_option maxRecDepth 100000 in
theorem eX9_errorKind {Ls t d : Nat} {μ : qMu} {r : Int} (h : fX9_errorKind μ = some r) : Ev (d + 1) mX9_errorKind 0 [some (.ref 0)] [] (cS Ls t μ) (.inl (some (iv r))) (cS Ls t μ) := by
  unfold fX9_errorKind at h
  refine ev_aload_n (pc' := 1) dX9_errorKind_0 rfl rfl ?_
  refine ev_getr (pc' := 4) dX9_errorKind_1 rfl tf_9_10 sh0 rfl ?_
  replace h := qbd h; obtain ⟨y1, hy1, h⟩ := h
  refine ev_callg (pc' := 7) (st2 := [iv y1]) dX9_errorKind_4 (qs_V tc_9_121 rfl rfl (cS_cls sh1) rfl) rfl rfl (eX5_kindOfError (d := d + 0) hy1) rfl rfl ?_
  cases h
  exact ev_ireturn dX9_errorKind_7 rfl rfl
set_option maxRecDepth 100000 in
theorem eX9_vertices {Ls t d : Nat} {μ : qMu} {r : Int} (h : fX9_vertices μ = some r) : Ev (d + 1) mX9_vertices 0 [some (.ref 0)] [] (cS Ls t μ) (.inl (some (iv r))) (cS Ls t μ) := by
  unfold fX9_vertices at h
  refine ev_aload_n (pc' := 1) dX9_vertices_0 rfl rfl ?_
  refine ev_getr (pc' := 4) dX9_vertices_1 rfl tf_9_19 sh0 rfl ?_
  replace h := qbd h; obtain ⟨y1, hy1, h⟩ := h
  refine ev_callg (pc' := 7) (st2 := [iv y1]) dX9_vertices_4 (qs_V tc_9_127 rfl rfl (cS_cls sh11) rfl) rfl rfl (eX1_vertexCount (d := d + 0) gG11 hy1) rfl rfl ?_
  cases h
  exact ev_ireturn dX9_vertices_7 rfl rfl
set_option maxRecDepth 100000 in
theorem eX9_checkVertex {Ls t d : Nat} {p0 : Int} {μ : qMu} {r : (Int ⊕ Nat)} (h : fX9_checkVertex p0 μ = some r) : Ev (d + 1) mX9_checkVertex 0 [some (.ref 0), some (iv p0)] [] (cS Ls t μ) (qRv r) (cS Ls (qTt t r) μ) := by
  unfold fX9_checkVertex at h
  refine ev_iload_n (pc' := 1) dX9_checkVertex_0 rfl rfl ?_
  refine ev_iflt (pc' := 4) (tgt := 15) dX9_checkVertex_1 (by decide) rfl (x1 := wr p0) rfl (fun c1 => ?_) (fun c1 => ?_)
  · replace h := qit c1 h
    cases h
    exact ev_throww dX9_checkVertex_15 tn_9_188 dX9_checkVertex_18 dX9_checkVertex_19 dX9_checkVertex_22 dX9_checkVertex_25 tx_9_188_316 rfl rfl
  · replace h := qif' c1 h
    refine ev_iload_n (pc' := 5) dX9_checkVertex_4 rfl rfl ?_
    refine ev_aload_n (pc' := 6) dX9_checkVertex_5 rfl rfl ?_
    refine ev_getr (pc' := 9) dX9_checkVertex_6 rfl tf_9_19 sh0 rfl ?_
    replace h := qbd h; obtain ⟨y2, hy2, h⟩ := h
    refine ev_callg (pc' := 12) (st2 := [iv y2, iv p0]) dX9_checkVertex_9 (qs_V tc_9_127 rfl rfl (cS_cls sh11) rfl) rfl rfl (eX1_vertexCount (d := d + 0) gG11 hy2) rfl rfl ?_
    refine ev_icmplt (pc' := 15) (tgt := 26) dX9_checkVertex_12 (by decide) rfl (x1 := wr p0) (y1 := wr y2) rfl rfl  (fun c3 => ?_) (fun c3 => ?_)
    · replace h := qit c3 h
      cases h
      exact ev_return dX9_checkVertex_26 rfl
    · replace h := qif' c3 h
      cases h
      exact ev_throww dX9_checkVertex_15 tn_9_188 dX9_checkVertex_18 dX9_checkVertex_19 dX9_checkVertex_22 dX9_checkVertex_25 tx_9_188_316 rfl rfl
set_option maxRecDepth 100000 in
theorem eX9_choose {Ls t d : Nat} {p0 : Int} {μ : qMu} {r : Nat} (h : fX9_choose p0 μ = some r) : Ev (d + 0) mX9_choose 0 [some (.ref 0), some (iv p0)] [] (cS Ls t μ) (.inl (some (.ref r))) (cS Ls t μ) := by
  unfold fX9_choose at h
  refine ev_iload_n (pc' := 1) dX9_choose_0 rfl rfl ?_
  have k2 : ∀ j3 : Nat, j3 = (if wr p0 = 0 then 11 else 13) → Ev (d + 0) mX9_choose 15 [none, none] [.ref j3] (cS Ls t μ) (.inl (some (.ref r))) (cS Ls t μ) := by
    intro j3 ej3
    subst ej3
    cases h
    exact ev_areturn dX9_choose_15 rfl
  refine ev_ifeq (pc' := 4) (tgt := 11) dX9_choose_1 (by decide) rfl (x1 := wr p0) rfl (fun c1 => ?_) (fun c1 => ?_)
  · skip
    refine ev_aload_n (pc' := 12) dX9_choose_11 rfl rfl ?_
    refine ev_getr (pc' := 15) dX9_choose_12 rfl tf_9_19 sh0 rfl ?_
    exact ev_wk (qLe_sk (qLe_sk qLe_nil)) (k2 _ (qet c1 rfl))
  · skip
    refine ev_aload_n (pc' := 5) dX9_choose_4 rfl rfl ?_
    refine ev_getr (pc' := 8) dX9_choose_5 rfl tf_9_23 sh0 rfl ?_
    refine ev_goto (pc' := 15) dX9_choose_8 (by decide) ?_
    exact ev_wk (qLe_sk (qLe_sk qLe_nil)) (k2 _ (qef c1 rfl))
theorem gP_X9_choose {p0 : Int} {μ : qMu} {y : Nat} (h : fX9_choose p0 μ = some y) : gG y := by
  unfold fX9_choose at h
  cases h
  split
  · exact gG11
  · exact gG13
set_option maxRecDepth 100000 in
theorem eX1_between {Ls t d : Nat} {g : Nat} {p0 : Int} {p1 : Int} {μ : qMu} {r : Int} (hg : gG g) (h : fX1_between g p0 p1 μ = some r) : Ev (d + 0) mX1_between 0 [some (.ref g), some (iv p0), some (iv p1)] [] (cS Ls t μ) (.inl (some (iv r))) (cS Ls t μ) := by
  unfold fX1_between at h
  refine ev_aload_n (pc' := 1) dX1_between_0 rfl rfl ?_
  refine ev_getr (pc' := 4) dX1_between_1 rfl tf_1_9 hg.1 rfl ?_
  refine ev_iload_n (pc' := 5) dX1_between_4 rfl rfl ?_
  refine ev_bipush (pc' := 7) dX1_between_5 rfl bl_8 ?_
  refine ev_imul (pc' := 8) dX1_between_7 rfl ?_
  refine ev_iload_n (pc' := 9) dX1_between_8 rfl rfl ?_
  refine ev_iadd (pc' := 10) dX1_between_9 rfl ?_
  replace h := qbd h; obtain ⟨x1, hx1, h⟩ := h
  refine ev_iald (pc' := 11) dX1_between_10 rfl hg.2 hx1 ?_
  cases h
  exact ev_ireturn dX1_between_11 rfl rfl
set_option maxRecDepth 100000 in
theorem eX9_times {Ls t d : Nat} {p0 : Int} {p1 : Int} {p2 : Int} {μ : qMu} {r : (Int ⊕ Nat)} (h : fX9_times p0 p1 p2 μ = some r) : Ev (d + 2) mX9_times 0 [some (.ref 0), some (iv p0), some (iv p1), some (iv p2)] [] (cS Ls t μ) (qRi r) (cS Ls (qTt t r) μ) := by
  unfold fX9_times at h
  refine ev_aload_n (pc' := 1) dX9_times_0 rfl rfl ?_
  refine ev_iload_n (pc' := 2) dX9_times_1 rfl rfl ?_
  replace h := qbd h; obtain ⟨y1, hy1, h⟩ := h
  have hcy1 := eX9_checkVertex (d := d + 0) (Ls := Ls) (t := t) hy1
  rcases y1 with v3 | E4
  · refine ev_callg (pc' := 5) (st2 := []) (s1 := cS Ls t μ) dX9_times_2 (qs_V tc_9_134 rfl rfl (cS_cls sh0) rfl) rfl rfl hcy1 rfl rfl ?_
    replace h := qel h
    refine ev_aload_n (pc' := 6) dX9_times_5 rfl rfl ?_
    refine ev_iload_n (pc' := 7) dX9_times_6 rfl rfl ?_
    replace h := qbd h; obtain ⟨y5, hy5, h⟩ := h
    have hcy5 := eX9_checkVertex (d := d + 0) (Ls := Ls) (t := t) hy5
    rcases y5 with v7 | E8
    · refine ev_callg (pc' := 10) (st2 := []) (s1 := cS Ls t μ) dX9_times_7 (qs_V tc_9_134 rfl rfl (cS_cls sh0) rfl) rfl rfl hcy5 rfl rfl ?_
      replace h := qel h
      refine ev_aload_n (pc' := 11) dX9_times_10 rfl rfl ?_
      refine ev_iload_n (pc' := 12) dX9_times_11 rfl rfl ?_
      replace h := qbd h; obtain ⟨y9, hy9, h⟩ := h
      refine ev_callg (pc' := 15) (st2 := [.ref y9]) dX9_times_12 (qs_V tc_9_130 rfl rfl (cS_cls sh0) rfl) rfl rfl (eX9_choose (d := d + 1) hy9) rfl rfl ?_
      refine ev_iload_n (pc' := 16) dX9_times_15 rfl rfl ?_
      refine ev_iload_n (pc' := 17) dX9_times_16 rfl rfl ?_
      replace h := qbd h; obtain ⟨y10, hy10, h⟩ := h
      refine ev_callg (pc' := 20) (st2 := [iv y10]) dX9_times_17 (qs_V tc_9_137 rfl rfl (cS_cls ((gP_X9_choose hy9)).1) rfl) rfl rfl (eX1_between (d := d + 1) (gP_X9_choose hy9) hy10) rfl rfl ?_
      cases h
      exact ev_ireturn dX9_times_20 rfl rfl
    · replace h := qer h
      cases h
      exact ev_callx dX9_times_7 (qs_V tc_9_134 rfl rfl (cS_cls sh0) rfl) rfl hcy5 rfl rfl
  · replace h := qer h
    cases h
    exact ev_callx dX9_times_2 (qs_V tc_9_134 rfl rfl (cS_cls sh0) rfl) rfl hcy1 rfl rfl
set_option maxRecDepth 100000 in
theorem ebX1_degreeOf_9 {Ls t d n : Nat} {w0 : Nat} {w1 : Int} (hw0 : gG w0) {μ : qMu} : ∀ (k : Nat) (x : Int × Int) (y : Int), lp (fun x : Int × Int => bX1_degreeOf_9 n w0 w1 x.1 x.2 μ) k x = some y → ∀ (o : qO) (s' : qSt), Ev (d + 1) mX1_degreeOf 32 [none, none, some (iv y), none] [] (cS Ls t μ) o s' → Ev (d + 1) mX1_degreeOf 9 [some (.ref w0), some (iv w1), some (iv x.1), some (iv x.2)] [] (cS Ls t μ) o s' := by
  intro k
  induction k with
  | zero => intro x y h; cases h
  | succ k ih =>
    intro x y h o s' kE
    rw [lp_s] at h
    replace h := qbd h; obtain ⟨zz, h0, h1⟩ := h
    have h : bX1_degreeOf_9 n w0 w1 x.1 x.2 μ = some zz := h0
    clear h0
    unfold bX1_degreeOf_9 at h
    refine ev_iload_n (pc' := 10) dX1_degreeOf_9 rfl rfl ?_
    refine ev_aload_n (pc' := 11) dX1_degreeOf_10 rfl rfl ?_
    refine ev_geti (pc' := 14) (ki := 1) dX1_degreeOf_11 rfl tf_1_15 hw0.1 rfl rfl ?_
    refine ev_icmpge (pc' := 17) (tgt := 32) dX1_degreeOf_14 (by decide) rfl (x1 := wr x.2) (y1 := wr (rd μ w0 1)) rfl rfl  (fun c2 => ?_) (fun c2 => ?_)
    · replace h := qit c2 h
      refine ev_iload_n (pc' := 18) dX1_degreeOf_17 rfl rfl ?_
      refine ev_aload_n (pc' := 19) dX1_degreeOf_18 rfl rfl ?_
      refine ev_iload_n (pc' := 20) dX1_degreeOf_19 rfl rfl ?_
      refine ev_iload_n (pc' := 21) dX1_degreeOf_20 rfl rfl ?_
      replace h := qbd h; obtain ⟨y3, hy3, h⟩ := h
      refine ev_callg (pc' := 24) (st2 := [iv y3, iv x.1]) dX1_degreeOf_21 (qs_V tc_1_32 rfl rfl (cS_cls hw0.1) rfl) rfl rfl (eX1_between (d := d + 0) hw0 hy3) rfl rfl ?_
      refine ev_iadd (pc' := 25) dX1_degreeOf_24 rfl ?_
      refine ev_istore_n (pc' := 26) (L1 := [some (.ref w0), some (iv w1), some (iv (x.1 + y3)), some (iv x.2)]) dX1_degreeOf_25 rfl rfl ?_
      refine ev_iinc (pc' := 29) (x := x.2) (L1 := [some (.ref w0), some (iv w1), some (iv (x.1 + y3)), some (iv (x.2 + 1))]) dX1_degreeOf_26 rfl rfl rfl ?_
      refine ev_goto (pc' := 9) dX1_degreeOf_29 (by decide) ?_
      cases h
      exact ev_wk (qLe_eq (qLe_eq (qLe_eq (qLe_eq qLe_nil)))) (ih _ _ h1 _ _ kE)
    · replace h := qif' c2 h
      cases h
      cases h1
      exact ev_wk (qLe_sk (qLe_sk (qLe_eq (qLe_sk qLe_nil)))) kE
set_option maxRecDepth 100000 in
theorem eX1_degreeOf {Ls t d n : Nat} {g : Nat} {p0 : Int} {μ : qMu} {r : Int} (hg : gG g) (h : fX1_degreeOf n g p0 μ = some r) : Ev (d + 1) mX1_degreeOf 0 [some (.ref g), some (iv p0), none, none] [] (cS Ls t μ) (.inl (some (iv r))) (cS Ls t μ) := by
  unfold fX1_degreeOf at h
  refine ev_aload_n (pc' := 1) dX1_degreeOf_0 rfl rfl ?_
  refine ev_iload_n (pc' := 2) dX1_degreeOf_1 rfl rfl ?_
  refine ev_iload_n (pc' := 3) dX1_degreeOf_2 rfl rfl ?_
  replace h := qbd h; obtain ⟨y1, hy1, h⟩ := h
  refine ev_callg (pc' := 6) (st2 := [iv y1]) dX1_degreeOf_3 (qs_V tc_1_32 rfl rfl (cS_cls hg.1) rfl) rfl rfl (eX1_between (d := d + 0) hg hy1) rfl rfl ?_
  refine ev_istore_n (pc' := 7) (L1 := [some (.ref g), some (iv p0), some (iv y1), none]) dX1_degreeOf_6 rfl rfl ?_
  refine ev_iconst (pc' := 8) dX1_degreeOf_7 rfl ?_
  refine ev_istore_n (pc' := 9) (L1 := [some (.ref g), some (iv p0), some (iv y1), some (iv 0)]) dX1_degreeOf_8 rfl rfl ?_
  replace h := qbd h; obtain ⟨y4, hy4, h⟩ := h
  refine ev_wk (qLe_eq (qLe_eq (qLe_eq (qLe_eq qLe_nil)))) (?_ : Ev _ _ _ [some (.ref g), some (iv p0), some (iv y1), some (iv 0)] _ _ _ _)
  refine ebX1_degreeOf_9 hg _ _ _ hy4 _ _ ?_
  refine ev_iload_n (pc' := 33) dX1_degreeOf_32 rfl rfl ?_
  cases h
  exact ev_ireturn dX1_degreeOf_33 rfl rfl
set_option maxRecDepth 100000 in
theorem eX9_degree {Ls t d n : Nat} {p0 : Int} {p1 : Int} {μ : qMu} {r : (Int ⊕ Nat)} (h : fX9_degree n p0 p1 μ = some r) : Ev (d + 2) mX9_degree 0 [some (.ref 0), some (iv p0), some (iv p1)] [] (cS Ls t μ) (qRi r) (cS Ls (qTt t r) μ) := by
  unfold fX9_degree at h
  refine ev_aload_n (pc' := 1) dX9_degree_0 rfl rfl ?_
  refine ev_iload_n (pc' := 2) dX9_degree_1 rfl rfl ?_
  replace h := qbd h; obtain ⟨y1, hy1, h⟩ := h
  have hcy1 := eX9_checkVertex (d := d + 0) (Ls := Ls) (t := t) hy1
  rcases y1 with v3 | E4
  · refine ev_callg (pc' := 5) (st2 := []) (s1 := cS Ls t μ) dX9_degree_2 (qs_V tc_9_134 rfl rfl (cS_cls sh0) rfl) rfl rfl hcy1 rfl rfl ?_
    replace h := qel h
    refine ev_aload_n (pc' := 6) dX9_degree_5 rfl rfl ?_
    refine ev_iload_n (pc' := 7) dX9_degree_6 rfl rfl ?_
    replace h := qbd h; obtain ⟨y5, hy5, h⟩ := h
    refine ev_callg (pc' := 10) (st2 := [.ref y5]) dX9_degree_7 (qs_V tc_9_130 rfl rfl (cS_cls sh0) rfl) rfl rfl (eX9_choose (d := d + 1) hy5) rfl rfl ?_
    refine ev_iload_n (pc' := 11) dX9_degree_10 rfl rfl ?_
    replace h := qbd h; obtain ⟨y6, hy6, h⟩ := h
    refine ev_callg (pc' := 14) (st2 := [iv y6]) dX9_degree_11 (qs_V tc_9_141 rfl rfl (cS_cls ((gP_X9_choose hy5)).1) rfl) rfl rfl (eX1_degreeOf (d := d + 0) (gP_X9_choose hy5) hy6) rfl rfl ?_
    cases h
    exact ev_ireturn dX9_degree_14 rfl rfl
  · replace h := qer h
    cases h
    exact ev_callx dX9_degree_2 (qs_V tc_9_134 rfl rfl (cS_cls sh0) rfl) rfl hcy1 rfl rfl
set_option maxRecDepth 100000 in
theorem ebX1_loopCount_4 {Ls t d n : Nat} {w0 : Nat} (hw0 : gG w0) {μ : qMu} : ∀ (k : Nat) (x : Int × Int) (y : Int), lp (fun x : Int × Int => bX1_loopCount_4 n w0 x.1 x.2 μ) k x = some y → ∀ (o : qO) (s' : qSt), Ev (d + 1) mX1_loopCount 27 [none, some (iv y), none] [] (cS Ls t μ) o s' → Ev (d + 1) mX1_loopCount 4 [some (.ref w0), some (iv x.1), some (iv x.2)] [] (cS Ls t μ) o s' := by
  intro k
  induction k with
  | zero => intro x y h; cases h
  | succ k ih =>
    intro x y h o s' kE
    rw [lp_s] at h
    replace h := qbd h; obtain ⟨zz, h0, h1⟩ := h
    have h : bX1_loopCount_4 n w0 x.1 x.2 μ = some zz := h0
    clear h0
    unfold bX1_loopCount_4 at h
    refine ev_iload_n (pc' := 5) dX1_loopCount_4 rfl rfl ?_
    refine ev_aload_n (pc' := 6) dX1_loopCount_5 rfl rfl ?_
    refine ev_geti (pc' := 9) (ki := 1) dX1_loopCount_6 rfl tf_1_15 hw0.1 rfl rfl ?_
    refine ev_icmpge (pc' := 12) (tgt := 27) dX1_loopCount_9 (by decide) rfl (x1 := wr x.2) (y1 := wr (rd μ w0 1)) rfl rfl  (fun c1 => ?_) (fun c1 => ?_)
    · replace h := qit c1 h
      refine ev_iload_n (pc' := 13) dX1_loopCount_12 rfl rfl ?_
      refine ev_aload_n (pc' := 14) dX1_loopCount_13 rfl rfl ?_
      refine ev_iload_n (pc' := 15) dX1_loopCount_14 rfl rfl ?_
      refine ev_iload_n (pc' := 16) dX1_loopCount_15 rfl rfl ?_
      replace h := qbd h; obtain ⟨y2, hy2, h⟩ := h
      refine ev_callg (pc' := 19) (st2 := [iv y2, iv x.1]) dX1_loopCount_16 (qs_V tc_1_32 rfl rfl (cS_cls hw0.1) rfl) rfl rfl (eX1_between (d := d + 0) hw0 hy2) rfl rfl ?_
      refine ev_iadd (pc' := 20) dX1_loopCount_19 rfl ?_
      refine ev_istore_n (pc' := 21) (L1 := [some (.ref w0), some (iv (x.1 + y2)), some (iv x.2)]) dX1_loopCount_20 rfl rfl ?_
      refine ev_iinc (pc' := 24) (x := x.2) (L1 := [some (.ref w0), some (iv (x.1 + y2)), some (iv (x.2 + 1))]) dX1_loopCount_21 rfl rfl rfl ?_
      refine ev_goto (pc' := 4) dX1_loopCount_24 (by decide) ?_
      cases h
      exact ev_wk (qLe_eq (qLe_eq (qLe_eq qLe_nil))) (ih _ _ h1 _ _ kE)
    · replace h := qif' c1 h
      cases h
      cases h1
      exact ev_wk (qLe_sk (qLe_eq (qLe_sk qLe_nil))) kE
set_option maxRecDepth 100000 in
theorem eX1_loopCount {Ls t d n : Nat} {g : Nat} {μ : qMu} {r : Int} (hg : gG g) (h : fX1_loopCount n g μ = some r) : Ev (d + 1) mX1_loopCount 0 [some (.ref g), none, none] [] (cS Ls t μ) (.inl (some (iv r))) (cS Ls t μ) := by
  unfold fX1_loopCount at h
  refine ev_iconst (pc' := 1) dX1_loopCount_0 rfl ?_
  refine ev_istore_n (pc' := 2) (L1 := [some (.ref g), some (iv 0), none]) dX1_loopCount_1 rfl rfl ?_
  refine ev_iconst (pc' := 3) dX1_loopCount_2 rfl ?_
  refine ev_istore_n (pc' := 4) (L1 := [some (.ref g), some (iv 0), some (iv 0)]) dX1_loopCount_3 rfl rfl ?_
  replace h := qbd h; obtain ⟨y3, hy3, h⟩ := h
  refine ev_wk (qLe_eq (qLe_eq (qLe_eq qLe_nil))) (?_ : Ev _ _ _ [some (.ref g), some (iv 0), some (iv 0)] _ _ _ _)
  refine ebX1_loopCount_4 hg _ _ _ hy3 _ _ ?_
  refine ev_iload_n (pc' := 28) dX1_loopCount_27 rfl rfl ?_
  cases h
  exact ev_ireturn dX1_loopCount_28 rfl rfl
set_option maxRecDepth 100000 in
theorem eX9_loops {Ls t d n : Nat} {μ : qMu} {r : Int} (h : fX9_loops n μ = some r) : Ev (d + 2) mX9_loops 0 [some (.ref 0)] [] (cS Ls t μ) (.inl (some (iv r))) (cS Ls t μ) := by
  unfold fX9_loops at h
  refine ev_aload_n (pc' := 1) dX9_loops_0 rfl rfl ?_
  refine ev_getr (pc' := 4) dX9_loops_1 rfl tf_9_19 sh0 rfl ?_
  replace h := qbd h; obtain ⟨y1, hy1, h⟩ := h
  refine ev_callg (pc' := 7) (st2 := [iv y1]) dX9_loops_4 (qs_V tc_9_145 rfl rfl (cS_cls sh11) rfl) rfl rfl (eX1_loopCount (d := d + 0) gG11 hy1) rfl rfl ?_
  cases h
  exact ev_ireturn dX9_loops_7 rfl rfl
set_option maxRecDepth 100000 in
theorem ebX1_defectCount_19 {Ls t d n : Nat} {w0 : Nat} {w2 : Int} (hw0 : gG w0) {μ : qMu} : ∀ (k : Nat) (x : Int × Int) (y : Int), lp (fun x : Int × Int => bX1_defectCount_19 n w0 w2 x.1 x.2 μ) k x = some y → ∀ (o : qO) (s' : qSt), Ev (d + 2) mX1_defectCount 48 [some (.ref w0), some (iv y), some (iv w2), none] [] (cS Ls t μ) o s' → Ev (d + 2) mX1_defectCount 19 [some (.ref w0), some (iv x.1), some (iv w2), some (iv x.2)] [] (cS Ls t μ) o s' := by
  intro k
  induction k with
  | zero => intro x y h; cases h
  | succ k ih =>
    intro x y h o s' kE
    rw [lp_s] at h
    replace h := qbd h; obtain ⟨zz, h0, h1⟩ := h
    have h : bX1_defectCount_19 n w0 w2 x.1 x.2 μ = some zz := h0
    clear h0
    unfold bX1_defectCount_19 at h
    refine ev_iload_n (pc' := 20) dX1_defectCount_19 rfl rfl ?_
    refine ev_aload_n (pc' := 21) dX1_defectCount_20 rfl rfl ?_
    refine ev_geti (pc' := 24) (ki := 1) dX1_defectCount_21 rfl tf_1_15 hw0.1 rfl rfl ?_
    refine ev_icmpge (pc' := 27) (tgt := 48) dX1_defectCount_24 (by decide) rfl (x1 := wr x.2) (y1 := wr (rd μ w0 1)) rfl rfl  (fun c3 => ?_) (fun c3 => ?_)
    · replace h := qit c3 h
      refine ev_iload_n (pc' := 28) dX1_defectCount_27 rfl rfl ?_
      refine ev_iconst (pc' := 29) dX1_defectCount_28 rfl ?_
      refine ev_aload_n (pc' := 30) dX1_defectCount_29 rfl rfl ?_
      refine ev_iload_n (pc' := 31) dX1_defectCount_30 rfl rfl ?_
      refine ev_iload_n (pc' := 32) dX1_defectCount_31 rfl rfl ?_
      replace h := qbd h; obtain ⟨y4, hy4, h⟩ := h
      refine ev_callg (pc' := 35) (st2 := [iv y4, iv 0, iv x.1]) dX1_defectCount_32 (qs_V tc_1_32 rfl rfl (cS_cls hw0.1) rfl) rfl rfl (eX1_between (d := d + 1) hw0 hy4) rfl rfl ?_
      refine ev_iconst (pc' := 36) dX1_defectCount_35 rfl ?_
      refine ev_isub (pc' := 37) dX1_defectCount_36 rfl ?_
      refine ev_max (pc' := 40) dX1_defectCount_37 rfl tc_1_39 rfl ?_
      refine ev_iadd (pc' := 41) dX1_defectCount_40 rfl ?_
      refine ev_istore_n (pc' := 42) (L1 := [some (.ref w0), some (iv (x.1 + (mx 0 (y4 - 1)))), some (iv w2), some (iv x.2)]) dX1_defectCount_41 rfl rfl ?_
      refine ev_iinc (pc' := 45) (x := x.2) (L1 := [some (.ref w0), some (iv (x.1 + (mx 0 (y4 - 1)))), some (iv w2), some (iv (x.2 + 1))]) dX1_defectCount_42 rfl rfl rfl ?_
      refine ev_goto (pc' := 19) dX1_defectCount_45 (by decide) ?_
      cases h
      exact ev_wk (qLe_eq (qLe_eq (qLe_eq (qLe_eq qLe_nil)))) (ih _ _ h1 _ _ kE)
    · replace h := qif' c3 h
      cases h
      cases h1
      exact ev_wk (qLe_eq (qLe_eq (qLe_eq (qLe_sk qLe_nil)))) kE
set_option maxRecDepth 100000 in
theorem ebX1_defectCount_7 {Ls t d n : Nat} {w0 : Nat} (hw0 : gG w0) {μ : qMu} : ∀ (k : Nat) (x : Int × Int) (y : Int), lp (fun x : Int × Int => bX1_defectCount_7 n w0 x.1 x.2 μ) k x = some y → ∀ (o : qO) (s' : qSt), Ev (d + 2) mX1_defectCount 54 [none, some (iv y), none, none] [] (cS Ls t μ) o s' → Ev (d + 2) mX1_defectCount 7 [some (.ref w0), some (iv x.1), some (iv x.2), none] [] (cS Ls t μ) o s' := by
  intro k
  induction k with
  | zero => intro x y h; cases h
  | succ k ih =>
    intro x y h o s' kE
    rw [lp_s] at h
    replace h := qbd h; obtain ⟨zz, h0, h1⟩ := h
    have h : bX1_defectCount_7 n w0 x.1 x.2 μ = some zz := h0
    clear h0
    unfold bX1_defectCount_7 at h
    refine ev_iload_n (pc' := 8) dX1_defectCount_7 rfl rfl ?_
    refine ev_aload_n (pc' := 9) dX1_defectCount_8 rfl rfl ?_
    refine ev_geti (pc' := 12) (ki := 1) dX1_defectCount_9 rfl tf_1_15 hw0.1 rfl rfl ?_
    refine ev_icmpge (pc' := 15) (tgt := 54) dX1_defectCount_12 (by decide) rfl (x1 := wr x.2) (y1 := wr (rd μ w0 1)) rfl rfl  (fun c2 => ?_) (fun c2 => ?_)
    · replace h := qit c2 h
      refine ev_iload_n (pc' := 16) dX1_defectCount_15 rfl rfl ?_
      refine ev_iconst (pc' := 17) dX1_defectCount_16 rfl ?_
      refine ev_iadd (pc' := 18) dX1_defectCount_17 rfl ?_
      refine ev_istore_n (pc' := 19) (L1 := [some (.ref w0), some (iv x.1), some (iv x.2), some (iv (x.2 + 1))]) dX1_defectCount_18 rfl rfl ?_
      replace h := qbd h; obtain ⟨y5, hy5, h⟩ := h
      refine ev_wk (qLe_eq (qLe_eq (qLe_eq (qLe_eq qLe_nil)))) (?_ : Ev _ _ _ [some (.ref w0), some (iv x.1), some (iv x.2), some (iv (x.2 + 1))] _ _ _ _)
      refine ebX1_defectCount_19 hw0 _ _ _ hy5 _ _ ?_
      refine ev_iinc (pc' := 51) (x := x.2) (L1 := [some (.ref w0), some (iv y5), some (iv (x.2 + 1)), none]) dX1_defectCount_48 rfl rfl rfl ?_
      refine ev_goto (pc' := 7) dX1_defectCount_51 (by decide) ?_
      cases h
      exact ev_wk (qLe_eq (qLe_eq (qLe_eq (qLe_eq qLe_nil)))) (ih _ _ h1 _ _ kE)
    · replace h := qif' c2 h
      cases h
      cases h1
      exact ev_wk (qLe_sk (qLe_eq (qLe_sk (qLe_eq qLe_nil)))) kE
set_option maxRecDepth 100000 in
theorem eX1_defectCount {Ls t d n : Nat} {g : Nat} {μ : qMu} {r : Int} (hg : gG g) (h : fX1_defectCount n g μ = some r) : Ev (d + 2) mX1_defectCount 0 [some (.ref g), none, none, none] [] (cS Ls t μ) (.inl (some (iv r))) (cS Ls t μ) := by
  unfold fX1_defectCount at h
  refine ev_aload_n (pc' := 1) dX1_defectCount_0 rfl rfl ?_
  replace h := qbd h; obtain ⟨y1, hy1, h⟩ := h
  refine ev_callg (pc' := 4) (st2 := [iv y1]) dX1_defectCount_1 (qs_V tc_1_35 rfl rfl (cS_cls hg.1) rfl) rfl rfl (eX1_loopCount (d := d + 0) hg hy1) rfl rfl ?_
  refine ev_istore_n (pc' := 5) (L1 := [some (.ref g), some (iv y1), none, none]) dX1_defectCount_4 rfl rfl ?_
  refine ev_iconst (pc' := 6) dX1_defectCount_5 rfl ?_
  refine ev_istore_n (pc' := 7) (L1 := [some (.ref g), some (iv y1), some (iv 0), none]) dX1_defectCount_6 rfl rfl ?_
  replace h := qbd h; obtain ⟨y6, hy6, h⟩ := h
  refine ev_wk (qLe_eq (qLe_eq (qLe_eq (qLe_eq qLe_nil)))) (?_ : Ev _ _ _ [some (.ref g), some (iv y1), some (iv 0), none] _ _ _ _)
  refine ebX1_defectCount_7 hg _ _ _ hy6 _ _ ?_
  refine ev_iload_n (pc' := 55) dX1_defectCount_54 rfl rfl ?_
  cases h
  exact ev_ireturn dX1_defectCount_55 rfl rfl
set_option maxRecDepth 100000 in
theorem eX9_defects {Ls t d n : Nat} {μ : qMu} {r : Int} (h : fX9_defects n μ = some r) : Ev (d + 3) mX9_defects 0 [some (.ref 0)] [] (cS Ls t μ) (.inl (some (iv r))) (cS Ls t μ) := by
  unfold fX9_defects at h
  refine ev_aload_n (pc' := 1) dX9_defects_0 rfl rfl ?_
  refine ev_getr (pc' := 4) dX9_defects_1 rfl tf_9_19 sh0 rfl ?_
  replace h := qbd h; obtain ⟨y1, hy1, h⟩ := h
  refine ev_callg (pc' := 7) (st2 := [iv y1]) dX9_defects_4 (qs_V tc_9_148 rfl rfl (cS_cls sh11) rfl) rfl rfl (eX1_defectCount (d := d + 0) gG11 hy1) rfl rfl ?_
  cases h
  exact ev_ireturn dX9_defects_7 rfl rfl
set_option maxRecDepth 100000 in
theorem eX9_isSimple {Ls t d n : Nat} {μ : qMu} {r : Int} (h : fX9_isSimple n μ = some r) : Ev (d + 3) mX9_isSimple 0 [some (.ref 0)] [] (cS Ls t μ) (.inl (some (iv r))) (cS Ls t μ) := by
  unfold fX9_isSimple at h
  refine ev_aload_n (pc' := 1) dX9_isSimple_0 rfl rfl ?_
  refine ev_getr (pc' := 4) dX9_isSimple_1 rfl tf_9_19 sh0 rfl ?_
  replace h := qbd h; obtain ⟨y1, hy1, h⟩ := h
  refine ev_callg (pc' := 7) (st2 := [iv y1]) dX9_isSimple_4 (qs_V tc_9_148 rfl rfl (cS_cls sh11) rfl) rfl rfl (eX1_defectCount (d := d + 0) gG11 hy1) rfl rfl ?_
  refine ev_ifne (pc' := 10) (tgt := 14) dX9_isSimple_7 (by decide) rfl (x1 := wr y1) rfl (fun c2 => ?_) (fun c2 => ?_)
  · replace h := qit c2 h
    refine ev_iconst (pc' := 11) dX9_isSimple_10 rfl ?_
    refine ev_goto (pc' := 15) dX9_isSimple_11 (by decide) ?_
    cases h
    exact ev_ireturn dX9_isSimple_15 rfl rfl
  · replace h := qif' c2 h
    refine ev_iconst (pc' := 15) dX9_isSimple_14 rfl ?_
    cases h
    exact ev_ireturn dX9_isSimple_15 rfl rfl
set_option maxRecDepth 100000 in
theorem ebX1_commonNeighboursBehind_7 {Ls t d n : Nat} {w0 : Nat} {w1 : Int} {w2 : Int} (hw0 : gG w0) {μ : qMu} : ∀ (k : Nat) (x : Int × Int) (y : Int), lp (fun x : Int × Int => bX1_commonNeighboursBehind_7 n w0 w1 w2 x.1 x.2 μ) k x = some y → ∀ (o : qO) (s' : qSt), Ev (d + 1) mX1_commonNeighboursBehind 45 [none, none, none, some (iv y), none] [] (cS Ls t μ) o s' → Ev (d + 1) mX1_commonNeighboursBehind 7 [some (.ref w0), some (iv w1), some (iv w2), some (iv x.1), some (iv x.2)] [] (cS Ls t μ) o s' := by
  intro k
  induction k with
  | zero => intro x y h; cases h
  | succ k ih =>
    intro x y h o s' kE
    rw [lp_s] at h
    replace h := qbd h; obtain ⟨zz, h0, h1⟩ := h
    have h : bX1_commonNeighboursBehind_7 n w0 w1 w2 x.1 x.2 μ = some zz := h0
    clear h0
    unfold bX1_commonNeighboursBehind_7 at h
    refine ev_iload (pc' := 9) dX1_commonNeighboursBehind_7 rfl rfl ?_
    refine ev_aload_n (pc' := 10) dX1_commonNeighboursBehind_9 rfl rfl ?_
    refine ev_geti (pc' := 13) (ki := 1) dX1_commonNeighboursBehind_10 rfl tf_1_15 hw0.1 rfl rfl ?_
    refine ev_icmpge (pc' := 16) (tgt := 45) dX1_commonNeighboursBehind_13 (by decide) rfl (x1 := wr x.2) (y1 := wr (rd μ w0 1)) rfl rfl  (fun c1 => ?_) (fun c1 => ?_)
    · replace h := qit c1 h
      refine ev_aload_n (pc' := 17) dX1_commonNeighboursBehind_16 rfl rfl ?_
      refine ev_iload_n (pc' := 18) dX1_commonNeighboursBehind_17 rfl rfl ?_
      refine ev_iload (pc' := 20) dX1_commonNeighboursBehind_18 rfl rfl ?_
      replace h := qbd h; obtain ⟨y2, hy2, h⟩ := h
      refine ev_callg (pc' := 23) (st2 := [iv y2]) dX1_commonNeighboursBehind_20 (qs_V tc_1_32 rfl rfl (cS_cls hw0.1) rfl) rfl rfl (eX1_between (d := d + 0) hw0 hy2) rfl rfl ?_
      replace h := qbd h; obtain ⟨y4, hy4, h⟩ := h
      have kJ : Ev (d + 1) mX1_commonNeighboursBehind 39 [some (.ref w0), some (iv w1), some (iv w2), some (iv y4), some (iv x.2)] [] (cS Ls t μ) o s' := by
        refine ev_iinc (pc' := 42) (x := x.2) (L1 := [some (.ref w0), some (iv w1), some (iv w2), some (iv y4), some (iv (x.2 + 1))]) dX1_commonNeighboursBehind_39 rfl rfl rfl ?_
        refine ev_goto (pc' := 7) dX1_commonNeighboursBehind_42 (by decide) ?_
        cases h
        exact ev_wk (qLe_eq (qLe_eq (qLe_eq (qLe_eq (qLe_eq qLe_nil))))) (ih _ _ h1 _ _ kE)
      replace h := hy4
      clear hy4
      refine ev_ifle (pc' := 26) (tgt := 39) dX1_commonNeighboursBehind_23 (by decide) rfl (x1 := wr y2) rfl (fun c3 => ?_) (fun c3 => ?_)
      · replace h := qit c3 h
        refine ev_aload_n (pc' := 27) dX1_commonNeighboursBehind_26 rfl rfl ?_
        refine ev_iload_n (pc' := 28) dX1_commonNeighboursBehind_27 rfl rfl ?_
        refine ev_iload (pc' := 30) dX1_commonNeighboursBehind_28 rfl rfl ?_
        replace h := qbd h; obtain ⟨y5, hy5, h⟩ := h
        refine ev_callg (pc' := 33) (st2 := [iv y5]) dX1_commonNeighboursBehind_30 (qs_V tc_1_32 rfl rfl (cS_cls hw0.1) rfl) rfl rfl (eX1_between (d := d + 0) hw0 hy5) rfl rfl ?_
        refine ev_ifle (pc' := 36) (tgt := 39) dX1_commonNeighboursBehind_33 (by decide) rfl (x1 := wr y5) rfl (fun c6 => ?_) (fun c6 => ?_)
        · replace h := qit c6 h
          refine ev_iinc (pc' := 39) (x := x.1) (L1 := [some (.ref w0), some (iv w1), some (iv w2), some (iv (x.1 + 1)), some (iv x.2)]) dX1_commonNeighboursBehind_36 rfl rfl rfl ?_
          cases h
          exact ev_wk (qLe_eq (qLe_eq (qLe_eq (qLe_eq (qLe_eq qLe_nil))))) kJ
        · replace h := qif' c6 h
          cases h
          exact ev_wk (qLe_eq (qLe_eq (qLe_eq (qLe_eq (qLe_eq qLe_nil))))) kJ
      · replace h := qif' c3 h
        cases h
        exact ev_wk (qLe_eq (qLe_eq (qLe_eq (qLe_eq (qLe_eq qLe_nil))))) kJ
    · replace h := qif' c1 h
      cases h
      cases h1
      exact ev_wk (qLe_sk (qLe_sk (qLe_sk (qLe_eq (qLe_sk qLe_nil))))) kE
set_option maxRecDepth 100000 in
theorem eX1_commonNeighboursBehind {Ls t d n : Nat} {g : Nat} {p0 : Int} {p1 : Int} {μ : qMu} {r : Int} (hg : gG g) (h : fX1_commonNeighboursBehind n g p0 p1 μ = some r) : Ev (d + 1) mX1_commonNeighboursBehind 0 [some (.ref g), some (iv p0), some (iv p1), none, none] [] (cS Ls t μ) (.inl (some (iv r))) (cS Ls t μ) := by
  unfold fX1_commonNeighboursBehind at h
  refine ev_iconst (pc' := 1) dX1_commonNeighboursBehind_0 rfl ?_
  refine ev_istore_n (pc' := 2) (L1 := [some (.ref g), some (iv p0), some (iv p1), some (iv 0), none]) dX1_commonNeighboursBehind_1 rfl rfl ?_
  refine ev_iload_n (pc' := 3) dX1_commonNeighboursBehind_2 rfl rfl ?_
  refine ev_iconst (pc' := 4) dX1_commonNeighboursBehind_3 rfl ?_
  refine ev_iadd (pc' := 5) dX1_commonNeighboursBehind_4 rfl ?_
  refine ev_istore (pc' := 7) (L1 := [some (.ref g), some (iv p0), some (iv p1), some (iv 0), some (iv (p1 + 1))]) dX1_commonNeighboursBehind_5 rfl rfl ?_
  replace h := qbd h; obtain ⟨y7, hy7, h⟩ := h
  refine ev_wk (qLe_eq (qLe_eq (qLe_eq (qLe_eq (qLe_eq qLe_nil))))) (?_ : Ev _ _ _ [some (.ref g), some (iv p0), some (iv p1), some (iv 0), some (iv (p1 + 1))] _ _ _ _)
  refine ebX1_commonNeighboursBehind_7 hg _ _ _ hy7 _ _ ?_
  refine ev_iload_n (pc' := 46) dX1_commonNeighboursBehind_45 rfl rfl ?_
  cases h
  exact ev_ireturn dX1_commonNeighboursBehind_46 rfl rfl
set_option maxRecDepth 100000 in
theorem ebX1_triangleCount_16 {Ls t d n : Nat} {w0 : Nat} {w2 : Int} (hw0 : gG w0) {μ : qMu} : ∀ (k : Nat) (x : Int × Int) (y : Int), lp (fun x : Int × Int => bX1_triangleCount_16 n w0 w2 x.1 x.2 μ) k x = some y → ∀ (o : qO) (s' : qSt), Ev (d + 2) mX1_triangleCount 48 [some (.ref w0), some (iv y), some (iv w2), none] [] (cS Ls t μ) o s' → Ev (d + 2) mX1_triangleCount 16 [some (.ref w0), some (iv x.1), some (iv w2), some (iv x.2)] [] (cS Ls t μ) o s' := by
  intro k
  induction k with
  | zero => intro x y h; cases h
  | succ k ih =>
    intro x y h o s' kE
    rw [lp_s] at h
    replace h := qbd h; obtain ⟨zz, h0, h1⟩ := h
    have h : bX1_triangleCount_16 n w0 w2 x.1 x.2 μ = some zz := h0
    clear h0
    unfold bX1_triangleCount_16 at h
    refine ev_iload_n (pc' := 17) dX1_triangleCount_16 rfl rfl ?_
    refine ev_aload_n (pc' := 18) dX1_triangleCount_17 rfl rfl ?_
    refine ev_geti (pc' := 21) (ki := 1) dX1_triangleCount_18 rfl tf_1_15 hw0.1 rfl rfl ?_
    refine ev_icmpge (pc' := 24) (tgt := 48) dX1_triangleCount_21 (by decide) rfl (x1 := wr x.2) (y1 := wr (rd μ w0 1)) rfl rfl  (fun c2 => ?_) (fun c2 => ?_)
    · replace h := qit c2 h
      refine ev_aload_n (pc' := 25) dX1_triangleCount_24 rfl rfl ?_
      refine ev_iload_n (pc' := 26) dX1_triangleCount_25 rfl rfl ?_
      refine ev_iload_n (pc' := 27) dX1_triangleCount_26 rfl rfl ?_
      replace h := qbd h; obtain ⟨y3, hy3, h⟩ := h
      refine ev_callg (pc' := 30) (st2 := [iv y3]) dX1_triangleCount_27 (qs_V tc_1_32 rfl rfl (cS_cls hw0.1) rfl) rfl rfl (eX1_between (d := d + 1) hw0 hy3) rfl rfl ?_
      replace h := qbd h; obtain ⟨y5, hy5, h⟩ := h
      have kJ : Ev (d + 2) mX1_triangleCount 42 [some (.ref w0), some (iv y5), some (iv w2), some (iv x.2)] [] (cS Ls t μ) o s' := by
        refine ev_iinc (pc' := 45) (x := x.2) (L1 := [some (.ref w0), some (iv y5), some (iv w2), some (iv (x.2 + 1))]) dX1_triangleCount_42 rfl rfl rfl ?_
        refine ev_goto (pc' := 16) dX1_triangleCount_45 (by decide) ?_
        cases h
        exact ev_wk (qLe_eq (qLe_eq (qLe_eq (qLe_eq qLe_nil)))) (ih _ _ h1 _ _ kE)
      replace h := hy5
      clear hy5
      refine ev_ifle (pc' := 33) (tgt := 42) dX1_triangleCount_30 (by decide) rfl (x1 := wr y3) rfl (fun c4 => ?_) (fun c4 => ?_)
      · replace h := qit c4 h
        refine ev_iload_n (pc' := 34) dX1_triangleCount_33 rfl rfl ?_
        refine ev_aload_n (pc' := 35) dX1_triangleCount_34 rfl rfl ?_
        refine ev_iload_n (pc' := 36) dX1_triangleCount_35 rfl rfl ?_
        refine ev_iload_n (pc' := 37) dX1_triangleCount_36 rfl rfl ?_
        replace h := qbd h; obtain ⟨y6, hy6, h⟩ := h
        refine ev_callg (pc' := 40) (st2 := [iv y6, iv x.1]) dX1_triangleCount_37 (qs_V tc_1_44 rfl rfl (cS_cls hw0.1) rfl) rfl rfl (eX1_commonNeighboursBehind (d := d + 0) hw0 hy6) rfl rfl ?_
        refine ev_iadd (pc' := 41) dX1_triangleCount_40 rfl ?_
        refine ev_istore_n (pc' := 42) (L1 := [some (.ref w0), some (iv (x.1 + y6)), some (iv w2), some (iv x.2)]) dX1_triangleCount_41 rfl rfl ?_
        cases h
        exact ev_wk (qLe_eq (qLe_eq (qLe_eq (qLe_eq qLe_nil)))) kJ
      · replace h := qif' c4 h
        cases h
        exact ev_wk (qLe_eq (qLe_eq (qLe_eq (qLe_eq qLe_nil)))) kJ
    · replace h := qif' c2 h
      cases h
      cases h1
      exact ev_wk (qLe_eq (qLe_eq (qLe_eq (qLe_sk qLe_nil)))) kE
set_option maxRecDepth 100000 in
theorem ebX1_triangleCount_4 {Ls t d n : Nat} {w0 : Nat} (hw0 : gG w0) {μ : qMu} : ∀ (k : Nat) (x : Int × Int) (y : Int), lp (fun x : Int × Int => bX1_triangleCount_4 n w0 x.1 x.2 μ) k x = some y → ∀ (o : qO) (s' : qSt), Ev (d + 2) mX1_triangleCount 54 [none, some (iv y), none, none] [] (cS Ls t μ) o s' → Ev (d + 2) mX1_triangleCount 4 [some (.ref w0), some (iv x.1), some (iv x.2), none] [] (cS Ls t μ) o s' := by
  intro k
  induction k with
  | zero => intro x y h; cases h
  | succ k ih =>
    intro x y h o s' kE
    rw [lp_s] at h
    replace h := qbd h; obtain ⟨zz, h0, h1⟩ := h
    have h : bX1_triangleCount_4 n w0 x.1 x.2 μ = some zz := h0
    clear h0
    unfold bX1_triangleCount_4 at h
    refine ev_iload_n (pc' := 5) dX1_triangleCount_4 rfl rfl ?_
    refine ev_aload_n (pc' := 6) dX1_triangleCount_5 rfl rfl ?_
    refine ev_geti (pc' := 9) (ki := 1) dX1_triangleCount_6 rfl tf_1_15 hw0.1 rfl rfl ?_
    refine ev_icmpge (pc' := 12) (tgt := 54) dX1_triangleCount_9 (by decide) rfl (x1 := wr x.2) (y1 := wr (rd μ w0 1)) rfl rfl  (fun c1 => ?_) (fun c1 => ?_)
    · replace h := qit c1 h
      refine ev_iload_n (pc' := 13) dX1_triangleCount_12 rfl rfl ?_
      refine ev_iconst (pc' := 14) dX1_triangleCount_13 rfl ?_
      refine ev_iadd (pc' := 15) dX1_triangleCount_14 rfl ?_
      refine ev_istore_n (pc' := 16) (L1 := [some (.ref w0), some (iv x.1), some (iv x.2), some (iv (x.2 + 1))]) dX1_triangleCount_15 rfl rfl ?_
      replace h := qbd h; obtain ⟨y7, hy7, h⟩ := h
      refine ev_wk (qLe_eq (qLe_eq (qLe_eq (qLe_eq qLe_nil)))) (?_ : Ev _ _ _ [some (.ref w0), some (iv x.1), some (iv x.2), some (iv (x.2 + 1))] _ _ _ _)
      refine ebX1_triangleCount_16 hw0 _ _ _ hy7 _ _ ?_
      refine ev_iinc (pc' := 51) (x := x.2) (L1 := [some (.ref w0), some (iv y7), some (iv (x.2 + 1)), none]) dX1_triangleCount_48 rfl rfl rfl ?_
      refine ev_goto (pc' := 4) dX1_triangleCount_51 (by decide) ?_
      cases h
      exact ev_wk (qLe_eq (qLe_eq (qLe_eq (qLe_eq qLe_nil)))) (ih _ _ h1 _ _ kE)
    · replace h := qif' c1 h
      cases h
      cases h1
      exact ev_wk (qLe_sk (qLe_eq (qLe_sk (qLe_eq qLe_nil)))) kE
set_option maxRecDepth 100000 in
theorem eX1_triangleCount {Ls t d n : Nat} {g : Nat} {μ : qMu} {r : Int} (hg : gG g) (h : fX1_triangleCount n g μ = some r) : Ev (d + 2) mX1_triangleCount 0 [some (.ref g), none, none, none] [] (cS Ls t μ) (.inl (some (iv r))) (cS Ls t μ) := by
  unfold fX1_triangleCount at h
  refine ev_iconst (pc' := 1) dX1_triangleCount_0 rfl ?_
  refine ev_istore_n (pc' := 2) (L1 := [some (.ref g), some (iv 0), none, none]) dX1_triangleCount_1 rfl rfl ?_
  refine ev_iconst (pc' := 3) dX1_triangleCount_2 rfl ?_
  refine ev_istore_n (pc' := 4) (L1 := [some (.ref g), some (iv 0), some (iv 0), none]) dX1_triangleCount_3 rfl rfl ?_
  replace h := qbd h; obtain ⟨y8, hy8, h⟩ := h
  refine ev_wk (qLe_eq (qLe_eq (qLe_eq (qLe_eq qLe_nil)))) (?_ : Ev _ _ _ [some (.ref g), some (iv 0), some (iv 0), none] _ _ _ _)
  refine ebX1_triangleCount_4 hg _ _ _ hy8 _ _ ?_
  refine ev_iload_n (pc' := 55) dX1_triangleCount_54 rfl rfl ?_
  cases h
  exact ev_ireturn dX1_triangleCount_55 rfl rfl
set_option maxRecDepth 100000 in
theorem eX9_triangles {Ls t d n : Nat} {μ : qMu} {r : Int} (h : fX9_triangles n μ = some r) : Ev (d + 3) mX9_triangles 0 [some (.ref 0)] [] (cS Ls t μ) (.inl (some (iv r))) (cS Ls t μ) := by
  unfold fX9_triangles at h
  refine ev_aload_n (pc' := 1) dX9_triangles_0 rfl rfl ?_
  refine ev_getr (pc' := 4) dX9_triangles_1 rfl tf_9_19 sh0 rfl ?_
  replace h := qbd h; obtain ⟨y1, hy1, h⟩ := h
  refine ev_callg (pc' := 7) (st2 := [iv y1]) dX9_triangles_4 (qs_V tc_9_154 rfl rfl (cS_cls sh11) rfl) rfl rfl (eX1_triangleCount (d := d + 0) gG11 hy1) rfl rfl ?_
  cases h
  exact ev_ireturn dX9_triangles_7 rfl rfl
set_option maxRecDepth 100000 in
theorem ebX4_merge_16 {Ls t d n : Nat} {w3 : Int} {w4 : Int} : ∀ (k : Nat) (x : Int × qMu) (y : qMu), lp (fun x : Int × qMu => bX4_merge_16 n w3 w4 x.1 x.2) k x = some y → ∀ (o : qO) (s' : qSt), Ev (d + 0) mX4_merge 57 [none, none, none, none, none, none] [] (cS Ls t y) o s' → Ev (d + 0) mX4_merge 16 [some (.ref 19), none, none, some (iv w3), some (iv w4), some (iv x.1)] [] (cS Ls t x.2) o s' := by
  intro k
  induction k with
  | zero => intro x y h; cases h
  | succ k ih =>
    intro x y h o s' kE
    rw [lp_s] at h
    replace h := qbd h; obtain ⟨zz, h0, h1⟩ := h
    have h : bX4_merge_16 n w3 w4 x.1 x.2 = some zz := h0
    clear h0
    unfold bX4_merge_16 at h
    refine ev_iload (pc' := 18) dX4_merge_16 rfl rfl ?_
    refine ev_aload_n (pc' := 19) dX4_merge_18 rfl rfl ?_
    refine ev_geti (pc' := 22) (ki := 2) dX4_merge_19 rfl tf_4_18 sh19 rfl rfl ?_
    refine ev_icmpge (pc' := 25) (tgt := 57) dX4_merge_22 (by decide) rfl (x1 := wr x.1) (y1 := wr (rd x.2 19 2)) rfl rfl  (fun c1 => ?_) (fun c1 => ?_)
    · replace h := qit c1 h
      refine ev_iload_n (pc' := 26) dX4_merge_25 rfl rfl ?_
      refine ev_iload (pc' := 28) dX4_merge_26 rfl rfl ?_
      refine ev_icmpeq (pc' := 31) (tgt := 57) dX4_merge_28 (by decide) rfl (x1 := wr w3) (y1 := wr w4) rfl rfl  (fun c2 => ?_) (fun c2 => ?_)
      · replace h := qit c2 h
        cases h
        cases h1
        exact ev_wk (qLe_sk (qLe_eq (qLe_eq (qLe_sk (qLe_sk (qLe_sk qLe_nil)))))) kE
      · replace h := qif' c2 h
        refine ev_aload_n (pc' := 32) dX4_merge_31 rfl rfl ?_
        refine ev_getr (pc' := 35) dX4_merge_32 rfl tf_4_9 sh19 rfl ?_
        refine ev_iload (pc' := 37) dX4_merge_35 rfl rfl ?_
        replace h := qbd h; obtain ⟨x3, hx3, h⟩ := h
        refine ev_iald (pc' := 38) dX4_merge_37 rfl sh20 hx3 ?_
        refine ev_iload_n (pc' := 39) dX4_merge_38 rfl rfl ?_
        replace h := qbd h; obtain ⟨y5, hy5, h⟩ := h
        have kJ : Ev (d + 0) mX4_merge 51 [some (.ref 19), none, none, some (iv w3), some (iv w4), some (iv x.1)] [] (cS Ls t y5) o s' := by
          refine ev_iinc (pc' := 54) (x := x.1) (L1 := [some (.ref 19), none, none, some (iv w3), some (iv w4), some (iv (x.1 + 1))]) dX4_merge_51 rfl rfl rfl ?_
          refine ev_goto (pc' := 16) dX4_merge_54 (by decide) ?_
          cases h
          exact ev_wk (qLe_eq (qLe_eq (qLe_eq (qLe_eq (qLe_eq (qLe_eq qLe_nil)))))) (ih _ _ h1 _ _ kE)
        replace h := hy5
        clear hy5
        refine ev_icmpne (pc' := 42) (tgt := 51) dX4_merge_39 (by decide) rfl (x1 := wr x3) (y1 := wr w3) rfl rfl  (fun c4 => ?_) (fun c4 => ?_)
        · replace h := qit c4 h
          refine ev_aload_n (pc' := 43) dX4_merge_42 rfl rfl ?_
          refine ev_getr (pc' := 46) dX4_merge_43 rfl tf_4_9 sh19 rfl ?_
          refine ev_iload (pc' := 48) dX4_merge_46 rfl rfl ?_
          refine ev_iload (pc' := 50) dX4_merge_48 rfl rfl ?_
          replace h := qbd h; obtain ⟨μ6, hμ6, h⟩ := h
          refine ev_iast (pc' := 51) dX4_merge_50 rfl sh20 hμ6 ?_
          cases h
          exact ev_wk (qLe_eq (qLe_eq (qLe_eq (qLe_eq (qLe_eq (qLe_eq qLe_nil)))))) kJ
        · replace h := qif' c4 h
          cases h
          exact ev_wk (qLe_eq (qLe_eq (qLe_eq (qLe_eq (qLe_eq (qLe_eq qLe_nil)))))) kJ
    · replace h := qif' c1 h
      cases h
      cases h1
      exact ev_wk (qLe_sk (qLe_eq (qLe_eq (qLe_sk (qLe_sk (qLe_sk qLe_nil)))))) kE
set_option maxRecDepth 100000 in
theorem eX4_merge {Ls t d n : Nat} {p0 : Int} {p1 : Int} {μ : qMu} {r : qMu} (h : fX4_merge n p0 p1 μ = some r) : Ev (d + 0) mX4_merge 0 [some (.ref 19), some (iv p0), some (iv p1), none, none, none] [] (cS Ls t μ) (.inl none) (cS Ls t r) := by
  unfold fX4_merge at h
  refine ev_iload_n (pc' := 1) dX4_merge_0 rfl rfl ?_
  refine ev_iload_n (pc' := 2) dX4_merge_1 rfl rfl ?_
  refine ev_max (pc' := 5) dX4_merge_2 rfl tc_4_36 rfl ?_
  refine ev_istore_n (pc' := 6) (L1 := [some (.ref 19), some (iv p0), some (iv p1), some (iv (mx p0 p1)), none, none]) dX4_merge_5 rfl rfl ?_
  refine ev_iload_n (pc' := 7) dX4_merge_6 rfl rfl ?_
  refine ev_iload_n (pc' := 8) dX4_merge_7 rfl rfl ?_
  refine ev_min (pc' := 11) dX4_merge_8 rfl tc_4_41 rfl ?_
  refine ev_istore (pc' := 13) (L1 := [some (.ref 19), some (iv p0), some (iv p1), some (iv (mx p0 p1)), some (iv (mn p0 p1)), none]) dX4_merge_11 rfl rfl ?_
  refine ev_iload_n (pc' := 14) dX4_merge_13 rfl rfl ?_
  refine ev_istore (pc' := 16) (L1 := [some (.ref 19), some (iv p0), some (iv p1), some (iv (mx p0 p1)), some (iv (mn p0 p1)), some (iv (mx p0 p1))]) dX4_merge_14 rfl rfl ?_
  replace h := qbd h; obtain ⟨y7, hy7, h⟩ := h
  refine ev_wk (qLe_eq (qLe_sk (qLe_sk (qLe_eq (qLe_eq (qLe_eq qLe_nil)))))) (?_ : Ev _ _ _ [some (.ref 19), none, none, some (iv (mx p0 p1)), some (iv (mn p0 p1)), some (iv (mx p0 p1))] _ _ _ _)
  refine ebX4_merge_16 _ _ _ hy7 _ _ ?_
  cases h
  exact ev_return dX4_merge_57 rfl
set_option maxRecDepth 100000 in
theorem ebX4_find_10 {Ls t d n : Nat} {w1 : Nat} (hw1 : gG w1) : ∀ (k : Nat) (x : Int × qMu) (y : qMu), lp (fun x : Int × qMu => bX4_find_10 n w1 x.1 x.2) k x = some y → ∀ (o : qO) (s' : qSt), Ev (d + 1) mX4_find 31 [some (.ref 19), some (.ref w1), none, none] [] (cS Ls t y) o s' → Ev (d + 1) mX4_find 10 [some (.ref 19), some (.ref w1), some (iv x.1), none] [] (cS Ls t x.2) o s' := by
  intro k
  induction k with
  | zero => intro x y h; cases h
  | succ k ih =>
    intro x y h o s' kE
    rw [lp_s] at h
    replace h := qbd h; obtain ⟨zz, h0, h1⟩ := h
    have h : bX4_find_10 n w1 x.1 x.2 = some zz := h0
    clear h0
    unfold bX4_find_10 at h
    refine ev_iload_n (pc' := 11) dX4_find_10 rfl rfl ?_
    refine ev_aload_n (pc' := 12) dX4_find_11 rfl rfl ?_
    refine ev_geti (pc' := 15) (ki := 2) dX4_find_12 rfl tf_4_18 sh19 rfl rfl ?_
    refine ev_icmpge (pc' := 18) (tgt := 31) dX4_find_15 (by decide) rfl (x1 := wr x.1) (y1 := wr (rd x.2 19 2)) rfl rfl  (fun c3 => ?_) (fun c3 => ?_)
    · replace h := qit c3 h
      refine ev_aload_n (pc' := 19) dX4_find_18 rfl rfl ?_
      refine ev_getr (pc' := 22) dX4_find_19 rfl tf_4_9 sh19 rfl ?_
      refine ev_iload_n (pc' := 23) dX4_find_22 rfl rfl ?_
      refine ev_iload_n (pc' := 24) dX4_find_23 rfl rfl ?_
      replace h := qbd h; obtain ⟨μ4, hμ4, h⟩ := h
      refine ev_iast (pc' := 25) dX4_find_24 rfl sh20 hμ4 ?_
      refine ev_iinc (pc' := 28) (x := x.1) (L1 := [some (.ref 19), some (.ref w1), some (iv (x.1 + 1)), none]) dX4_find_25 rfl rfl rfl ?_
      refine ev_goto (pc' := 10) dX4_find_28 (by decide) ?_
      cases h
      exact ev_wk (qLe_eq (qLe_eq (qLe_eq (qLe_eq qLe_nil)))) (ih _ _ h1 _ _ kE)
    · replace h := qif' c3 h
      cases h
      cases h1
      exact ev_wk (qLe_eq (qLe_eq (qLe_sk (qLe_eq qLe_nil)))) kE
set_option maxRecDepth 100000 in
theorem ebX4_find_45 {Ls t d n : Nat} {w1 : Nat} {w2 : Int} (hw1 : gG w1) : ∀ (k : Nat) (x : Int × qMu) (y : qMu), lp (fun x : Int × qMu => bX4_find_45 n w1 w2 x.1 x.2) k x = some y → ∀ (o : qO) (s' : qSt), Ev (d + 1) mX4_find 84 [some (.ref 19), some (.ref w1), some (iv w2), none] [] (cS Ls t y) o s' → Ev (d + 1) mX4_find 45 [some (.ref 19), some (.ref w1), some (iv w2), some (iv x.1)] [] (cS Ls t x.2) o s' := by
  intro k
  induction k with
  | zero => intro x y h; cases h
  | succ k ih =>
    intro x y h o s' kE
    rw [lp_s] at h
    replace h := qbd h; obtain ⟨zz, h0, h1⟩ := h
    have h : bX4_find_45 n w1 w2 x.1 x.2 = some zz := h0
    clear h0
    unfold bX4_find_45 at h
    refine ev_iload_n (pc' := 46) dX4_find_45 rfl rfl ?_
    refine ev_aload_n (pc' := 47) dX4_find_46 rfl rfl ?_
    refine ev_geti (pc' := 50) (ki := 2) dX4_find_47 rfl tf_4_18 sh19 rfl rfl ?_
    refine ev_icmpge (pc' := 53) (tgt := 84) dX4_find_50 (by decide) rfl (x1 := wr x.1) (y1 := wr (rd x.2 19 2)) rfl rfl  (fun c7 => ?_) (fun c7 => ?_)
    · replace h := qit c7 h
      refine ev_aload_n (pc' := 54) dX4_find_53 rfl rfl ?_
      refine ev_iload_n (pc' := 55) dX4_find_54 rfl rfl ?_
      refine ev_iload_n (pc' := 56) dX4_find_55 rfl rfl ?_
      replace h := qbd h; obtain ⟨y8, hy8, h⟩ := h
      refine ev_callg (pc' := 59) (st2 := [iv y8]) dX4_find_56 (qs_V tc_4_28 rfl rfl (cS_cls hw1.1) rfl) rfl rfl (eX1_between (d := d + 0) hw1 hy8) rfl rfl ?_
      replace h := qbd h; obtain ⟨y10, hy10, h⟩ := h
      have kJ : Ev (d + 1) mX4_find 78 [some (.ref 19), some (.ref w1), some (iv w2), some (iv x.1)] [] (cS Ls t y10) o s' := by
        refine ev_iinc (pc' := 81) (x := x.1) (L1 := [some (.ref 19), some (.ref w1), some (iv w2), some (iv (x.1 + 1))]) dX4_find_78 rfl rfl rfl ?_
        refine ev_goto (pc' := 45) dX4_find_81 (by decide) ?_
        cases h
        exact ev_wk (qLe_eq (qLe_eq (qLe_eq (qLe_eq qLe_nil)))) (ih _ _ h1 _ _ kE)
      replace h := hy10
      clear hy10
      refine ev_ifle (pc' := 62) (tgt := 78) dX4_find_59 (by decide) rfl (x1 := wr y8) rfl (fun c9 => ?_) (fun c9 => ?_)
      · replace h := qit c9 h
        refine ev_aload_n (pc' := 63) dX4_find_62 rfl rfl ?_
        refine ev_aload_n (pc' := 64) dX4_find_63 rfl rfl ?_
        refine ev_getr (pc' := 67) dX4_find_64 rfl tf_4_9 sh19 rfl ?_
        refine ev_iload_n (pc' := 68) dX4_find_67 rfl rfl ?_
        replace h := qbd h; obtain ⟨x11, hx11, h⟩ := h
        refine ev_iald (pc' := 69) dX4_find_68 rfl sh20 hx11 ?_
        refine ev_aload_n (pc' := 70) dX4_find_69 rfl rfl ?_
        refine ev_getr (pc' := 73) dX4_find_70 rfl tf_4_9 sh19 rfl ?_
        refine ev_iload_n (pc' := 74) dX4_find_73 rfl rfl ?_
        replace h := qbd h; obtain ⟨x12, hx12, h⟩ := h
        refine ev_iald (pc' := 75) dX4_find_74 rfl sh20 hx12 ?_
        replace h := qbd h; obtain ⟨y13, hy13, h⟩ := h
        refine ev_callg (pc' := 78) (st2 := []) dX4_find_75 (qs_V tc_4_32 rfl rfl (cS_cls sh19) rfl) rfl rfl (eX4_merge (d := d + 0) hy13) rfl rfl ?_
        cases h
        exact ev_wk (qLe_eq (qLe_eq (qLe_eq (qLe_eq qLe_nil)))) kJ
      · replace h := qif' c9 h
        cases h
        exact ev_wk (qLe_eq (qLe_eq (qLe_eq (qLe_eq qLe_nil)))) kJ
    · replace h := qif' c7 h
      cases h
      cases h1
      exact ev_wk (qLe_eq (qLe_eq (qLe_eq (qLe_sk qLe_nil)))) kE
set_option maxRecDepth 100000 in
theorem ebX4_find_33 {Ls t d n : Nat} {w1 : Nat} (hw1 : gG w1) : ∀ (k : Nat) (x : Int × qMu) (y : qMu), lp (fun x : Int × qMu => bX4_find_33 n w1 x.1 x.2) k x = some y → ∀ (o : qO) (s' : qSt), Ev (d + 1) mX4_find 90 [none, none, none, none] [] (cS Ls t y) o s' → Ev (d + 1) mX4_find 33 [some (.ref 19), some (.ref w1), some (iv x.1), none] [] (cS Ls t x.2) o s' := by
  intro k
  induction k with
  | zero => intro x y h; cases h
  | succ k ih =>
    intro x y h o s' kE
    rw [lp_s] at h
    replace h := qbd h; obtain ⟨zz, h0, h1⟩ := h
    have h : bX4_find_33 n w1 x.1 x.2 = some zz := h0
    clear h0
    unfold bX4_find_33 at h
    refine ev_iload_n (pc' := 34) dX4_find_33 rfl rfl ?_
    refine ev_aload_n (pc' := 35) dX4_find_34 rfl rfl ?_
    refine ev_geti (pc' := 38) (ki := 2) dX4_find_35 rfl tf_4_18 sh19 rfl rfl ?_
    refine ev_icmpge (pc' := 41) (tgt := 90) dX4_find_38 (by decide) rfl (x1 := wr x.1) (y1 := wr (rd x.2 19 2)) rfl rfl  (fun c6 => ?_) (fun c6 => ?_)
    · replace h := qit c6 h
      refine ev_iload_n (pc' := 42) dX4_find_41 rfl rfl ?_
      refine ev_iconst (pc' := 43) dX4_find_42 rfl ?_
      refine ev_iadd (pc' := 44) dX4_find_43 rfl ?_
      refine ev_istore_n (pc' := 45) (L1 := [some (.ref 19), some (.ref w1), some (iv x.1), some (iv (x.1 + 1))]) dX4_find_44 rfl rfl ?_
      replace h := qbd h; obtain ⟨y14, hy14, h⟩ := h
      refine ev_wk (qLe_eq (qLe_eq (qLe_eq (qLe_eq qLe_nil)))) (?_ : Ev _ _ _ [some (.ref 19), some (.ref w1), some (iv x.1), some (iv (x.1 + 1))] _ _ _ _)
      refine ebX4_find_45 hw1 _ _ _ hy14 _ _ ?_
      refine ev_iinc (pc' := 87) (x := x.1) (L1 := [some (.ref 19), some (.ref w1), some (iv (x.1 + 1)), none]) dX4_find_84 rfl rfl rfl ?_
      refine ev_goto (pc' := 33) dX4_find_87 (by decide) ?_
      cases h
      exact ev_wk (qLe_eq (qLe_eq (qLe_eq (qLe_eq qLe_nil)))) (ih _ _ h1 _ _ kE)
    · replace h := qif' c6 h
      cases h
      cases h1
      exact ev_wk (qLe_sk (qLe_sk (qLe_sk (qLe_eq qLe_nil)))) kE
set_option maxRecDepth 100000 in
theorem eX4_find {Ls t d n : Nat} {p0 : Nat} {μ : qMu} {r : qMu} (hp0 : gG p0) (h : fX4_find n p0 μ = some r) : Ev (d + 1) mX4_find 0 [some (.ref 19), some (.ref p0), none, none] [] (cS Ls t μ) (.inl none) (cS Ls t r) := by
  unfold fX4_find at h
  refine ev_aload_n (pc' := 1) dX4_find_0 rfl rfl ?_
  refine ev_aload_n (pc' := 2) dX4_find_1 rfl rfl ?_
  replace h := qbd h; obtain ⟨y1, hy1, h⟩ := h
  refine ev_callg (pc' := 5) (st2 := [iv y1, .ref 19]) dX4_find_2 (qs_V tc_4_22 rfl rfl (cS_cls hp0.1) rfl) rfl rfl (eX1_vertexCount (d := d + 0) hp0 hy1) rfl rfl ?_
  replace h := qbd h; obtain ⟨μ2, hμ2, h⟩ := h
  refine ev_puti (pc' := 8) dX4_find_5 rfl tf_4_18 sh19 rfl rfl (qw_3_2 _) rfl hμ2 ?_
  refine ev_iconst (pc' := 9) dX4_find_8 rfl ?_
  refine ev_istore_n (pc' := 10) (L1 := [some (.ref 19), some (.ref p0), some (iv 0), none]) dX4_find_9 rfl rfl ?_
  replace h := qbd h; obtain ⟨y5, hy5, h⟩ := h
  refine ev_wk (qLe_eq (qLe_eq (qLe_eq (qLe_eq qLe_nil)))) (?_ : Ev _ _ _ [some (.ref 19), some (.ref p0), some (iv 0), none] _ _ _ _)
  refine ebX4_find_10 hp0 _ _ _ hy5 _ _ ?_
  refine ev_iconst (pc' := 32) dX4_find_31 rfl ?_
  refine ev_istore_n (pc' := 33) (L1 := [some (.ref 19), some (.ref p0), some (iv 0), none]) dX4_find_32 rfl rfl ?_
  replace h := qbd h; obtain ⟨y15, hy15, h⟩ := h
  refine ev_wk (qLe_eq (qLe_eq (qLe_eq (qLe_eq qLe_nil)))) (?_ : Ev _ _ _ [some (.ref 19), some (.ref p0), some (iv 0), none] _ _ _ _)
  refine ebX4_find_33 hp0 _ _ _ hy15 _ _ ?_
  cases h
  exact ev_return dX4_find_90 rfl
set_option maxRecDepth 100000 in
theorem ebX4_countBefore_4 {Ls t d n : Nat} {w1 : Int} {μ : qMu} : ∀ (k : Nat) (x : Int × Int) (y : Int), lp (fun x : Int × Int => bX4_countBefore_4 n w1 x.1 x.2 μ) k x = some y → ∀ (o : qO) (s' : qSt), Ev (d + 0) mX4_countBefore 36 [none, none, some (iv y), none] [] (cS Ls t μ) o s' → Ev (d + 0) mX4_countBefore 4 [some (.ref 19), some (iv w1), some (iv x.1), some (iv x.2)] [] (cS Ls t μ) o s' := by
  intro k
  induction k with
  | zero => intro x y h; cases h
  | succ k ih =>
    intro x y h o s' kE
    rw [lp_s] at h
    replace h := qbd h; obtain ⟨zz, h0, h1⟩ := h
    have h : bX4_countBefore_4 n w1 x.1 x.2 μ = some zz := h0
    clear h0
    unfold bX4_countBefore_4 at h
    refine ev_iload_n (pc' := 5) dX4_countBefore_4 rfl rfl ?_
    refine ev_iload_n (pc' := 6) dX4_countBefore_5 rfl rfl ?_
    refine ev_icmpge (pc' := 9) (tgt := 36) dX4_countBefore_6 (by decide) rfl (x1 := wr x.2) (y1 := wr w1) rfl rfl  (fun c1 => ?_) (fun c1 => ?_)
    · replace h := qit c1 h
      refine ev_iload_n (pc' := 10) dX4_countBefore_9 rfl rfl ?_
      refine ev_aload_n (pc' := 11) dX4_countBefore_10 rfl rfl ?_
      refine ev_geti (pc' := 14) (ki := 2) dX4_countBefore_11 rfl tf_4_18 sh19 rfl rfl ?_
      refine ev_icmpge (pc' := 17) (tgt := 36) dX4_countBefore_14 (by decide) rfl (x1 := wr x.2) (y1 := wr (rd μ 19 2)) rfl rfl  (fun c2 => ?_) (fun c2 => ?_)
      · replace h := qit c2 h
        refine ev_aload_n (pc' := 18) dX4_countBefore_17 rfl rfl ?_
        refine ev_getr (pc' := 21) dX4_countBefore_18 rfl tf_4_9 sh19 rfl ?_
        refine ev_iload_n (pc' := 22) dX4_countBefore_21 rfl rfl ?_
        replace h := qbd h; obtain ⟨x3, hx3, h⟩ := h
        refine ev_iald (pc' := 23) dX4_countBefore_22 rfl sh20 hx3 ?_
        refine ev_iload_n (pc' := 24) dX4_countBefore_23 rfl rfl ?_
        have k5 : ∀ j6 : Int, j6 = (if wr x3 = wr x.2 then (x.1 + 1) else x.1) → Ev (d + 0) mX4_countBefore 30 [some (.ref 19), some (iv w1), some (iv j6), some (iv x.2)] [] (cS Ls t μ) o s' := by
          intro j6 ej6
          subst ej6
          refine ev_iinc (pc' := 33) (x := x.2) (L1 := [some (.ref 19), some (iv w1), some (iv (if wr x3 = wr x.2 then (x.1 + 1) else x.1)), some (iv (x.2 + 1))]) dX4_countBefore_30 rfl rfl rfl ?_
          refine ev_goto (pc' := 4) dX4_countBefore_33 (by decide) ?_
          cases h
          exact ev_wk (qLe_eq (qLe_eq (qLe_eq (qLe_eq qLe_nil)))) (ih _ _ h1 _ _ kE)
        refine ev_icmpne (pc' := 27) (tgt := 30) dX4_countBefore_24 (by decide) rfl (x1 := wr x3) (y1 := wr x.2) rfl rfl  (fun c4 => ?_) (fun c4 => ?_)
        · skip
          refine ev_iinc (pc' := 30) (x := x.1) (L1 := [some (.ref 19), some (iv w1), some (iv (x.1 + 1)), some (iv x.2)]) dX4_countBefore_27 rfl rfl rfl ?_
          exact ev_wk (qLe_eq (qLe_eq (qLe_eq (qLe_eq qLe_nil)))) (k5 _ (qet c4 rfl))
        · skip
          exact ev_wk (qLe_eq (qLe_eq (qLe_eq (qLe_eq qLe_nil)))) (k5 _ (qef c4 rfl))
      · replace h := qif' c2 h
        cases h
        cases h1
        exact ev_wk (qLe_sk (qLe_sk (qLe_eq (qLe_sk qLe_nil)))) kE
    · replace h := qif' c1 h
      cases h
      cases h1
      exact ev_wk (qLe_sk (qLe_sk (qLe_eq (qLe_sk qLe_nil)))) kE
set_option maxRecDepth 100000 in
theorem eX4_countBefore {Ls t d n : Nat} {p0 : Int} {μ : qMu} {r : Int} (h : fX4_countBefore n p0 μ = some r) : Ev (d + 0) mX4_countBefore 0 [some (.ref 19), some (iv p0), none, none] [] (cS Ls t μ) (.inl (some (iv r))) (cS Ls t μ) := by
  unfold fX4_countBefore at h
  refine ev_iconst (pc' := 1) dX4_countBefore_0 rfl ?_
  refine ev_istore_n (pc' := 2) (L1 := [some (.ref 19), some (iv p0), some (iv 0), none]) dX4_countBefore_1 rfl rfl ?_
  refine ev_iconst (pc' := 3) dX4_countBefore_2 rfl ?_
  refine ev_istore_n (pc' := 4) (L1 := [some (.ref 19), some (iv p0), some (iv 0), some (iv 0)]) dX4_countBefore_3 rfl rfl ?_
  replace h := qbd h; obtain ⟨y7, hy7, h⟩ := h
  refine ev_wk (qLe_eq (qLe_eq (qLe_eq (qLe_eq qLe_nil)))) (?_ : Ev _ _ _ [some (.ref 19), some (iv p0), some (iv 0), some (iv 0)] _ _ _ _)
  refine ebX4_countBefore_4 _ _ _ hy7 _ _ ?_
  refine ev_iload_n (pc' := 37) dX4_countBefore_36 rfl rfl ?_
  cases h
  exact ev_ireturn dX4_countBefore_37 rfl rfl
set_option maxRecDepth 100000 in
theorem eX4_count {Ls t d n : Nat} {μ : qMu} {r : Int} (h : fX4_count n μ = some r) : Ev (d + 1) mX4_count 0 [some (.ref 19)] [] (cS Ls t μ) (.inl (some (iv r))) (cS Ls t μ) := by
  unfold fX4_count at h
  refine ev_aload_n (pc' := 1) dX4_count_0 rfl rfl ?_
  refine ev_aload_n (pc' := 2) dX4_count_1 rfl rfl ?_
  refine ev_geti (pc' := 5) (ki := 2) dX4_count_2 rfl tf_4_18 sh19 rfl rfl ?_
  replace h := qbd h; obtain ⟨y1, hy1, h⟩ := h
  refine ev_callg (pc' := 8) (st2 := [iv y1]) dX4_count_5 (qs_V tc_4_44 rfl rfl (cS_cls sh19) rfl) rfl rfl (eX4_countBefore (d := d + 0) hy1) rfl rfl ?_
  cases h
  exact ev_ireturn dX4_count_8 rfl rfl
set_option maxRecDepth 100000 in
theorem eX9_components {Ls t d n : Nat} {μ : qMu} {r : Int × qMu} (h : fX9_components n μ = some r) : Ev (d + 2) mX9_components 0 [some (.ref 0)] [] (cS Ls t μ) (.inl (some (iv r.1))) (cS Ls t r.2) := by
  unfold fX9_components at h
  refine ev_aload_n (pc' := 1) dX9_components_0 rfl rfl ?_
  refine ev_getr (pc' := 4) dX9_components_1 rfl tf_9_35 sh0 rfl ?_
  refine ev_aload_n (pc' := 5) dX9_components_4 rfl rfl ?_
  refine ev_getr (pc' := 8) dX9_components_5 rfl tf_9_19 sh0 rfl ?_
  replace h := qbd h; obtain ⟨y1, hy1, h⟩ := h
  refine ev_callg (pc' := 11) (st2 := []) dX9_components_8 (qs_V tc_9_157 rfl rfl (cS_cls sh19) rfl) rfl rfl (eX4_find (d := d + 0) gG11 hy1) rfl rfl ?_
  refine ev_aload_n (pc' := 12) dX9_components_11 rfl rfl ?_
  refine ev_getr (pc' := 15) dX9_components_12 rfl tf_9_35 sh0 rfl ?_
  replace h := qbd h; obtain ⟨y2, hy2, h⟩ := h
  refine ev_callg (pc' := 18) (st2 := [iv y2]) dX9_components_15 (qs_V tc_9_160 rfl rfl (cS_cls sh19) rfl) rfl rfl (eX4_count (d := d + 0) hy2) rfl rfl ?_
  cases h
  exact ev_ireturn dX9_components_18 rfl rfl
set_option maxRecDepth 100000 in
theorem ebX6_take_6 {Ls t d n : Nat} {w0 : Nat} {w1 : Nat} (hw0 : gS w0) (hw1 : gG w1) : ∀ (k : Nat) (x : Int × qMu) (y : qMu), lp (fun x : Int × qMu => bX6_take_6 n w0 w1 x.1 x.2) k x = some y → ∀ (o : qO) (s' : qSt), Ev (d + 2) mX6_take 29 [none, none, none] [] (cS Ls t y) o s' → Ev (d + 2) mX6_take 6 [some (.ref w0), some (.ref w1), some (iv x.1)] [] (cS Ls t x.2) o s' := by
  intro k
  induction k with
  | zero => intro x y h; cases h
  | succ k ih =>
    intro x y h o s' kE
    rw [lp_s] at h
    replace h := qbd h; obtain ⟨zz, h0, h1⟩ := h
    have h : bX6_take_6 n w0 w1 x.1 x.2 = some zz := h0
    clear h0
    unfold bX6_take_6 at h
    refine ev_iload_n (pc' := 7) dX6_take_6 rfl rfl ?_
    refine ev_aload_n (pc' := 8) dX6_take_7 rfl rfl ?_
    replace h := qbd h; obtain ⟨y2, hy2, h⟩ := h
    refine ev_callg (pc' := 11) (st2 := [iv y2, iv x.1]) dX6_take_8 (qs_V tc_6_39 rfl rfl (cS_cls hw1.1) rfl) rfl rfl (eX1_vertexCount (d := d + 1) hw1 hy2) rfl rfl ?_
    refine ev_icmpge (pc' := 14) (tgt := 29) dX6_take_11 (by decide) rfl (x1 := wr x.1) (y1 := wr y2) rfl rfl  (fun c3 => ?_) (fun c3 => ?_)
    · replace h := qit c3 h
      refine ev_aload_n (pc' := 15) dX6_take_14 rfl rfl ?_
      refine ev_aload_n (pc' := 16) dX6_take_15 rfl rfl ?_
      refine ev_iload_n (pc' := 17) dX6_take_16 rfl rfl ?_
      replace h := qbd h; obtain ⟨y4, hy4, h⟩ := h
      refine ev_callg (pc' := 20) (st2 := [iv y4, .ref w0]) dX6_take_17 (qs_V tc_6_45 rfl rfl (cS_cls hw1.1) rfl) rfl rfl (eX1_degreeOf (d := d + 0) hw1 hy4) rfl rfl ?_
      replace h := qbd h; obtain ⟨y5, hy5, h⟩ := h
      refine ev_callg (pc' := 23) (st2 := []) dX6_take_20 (qs_V tc_6_49 rfl rfl (cS_cls hw0.1) rfl) rfl rfl (eX6_append (d := d + 0) hw0 hy5) rfl rfl ?_
      refine ev_iinc (pc' := 26) (x := x.1) (L1 := [some (.ref w0), some (.ref w1), some (iv (x.1 + 1))]) dX6_take_23 rfl rfl rfl ?_
      refine ev_goto (pc' := 6) dX6_take_26 (by decide) ?_
      cases h
      exact ev_wk (qLe_eq (qLe_eq (qLe_eq qLe_nil))) (ih _ _ h1 _ _ kE)
    · replace h := qif' c3 h
      cases h
      cases h1
      exact ev_wk (qLe_sk (qLe_sk (qLe_sk qLe_nil))) kE
set_option maxRecDepth 100000 in
theorem eX6_take {Ls t d n : Nat} {q : Nat} {p0 : Nat} {μ : qMu} {r : qMu} (hq : gS q) (hp0 : gG p0) (h : fX6_take n q p0 μ = some r) : Ev (d + 2) mX6_take 0 [some (.ref q), some (.ref p0), none] [] (cS Ls t μ) (.inl none) (cS Ls t r) := by
  unfold fX6_take at h
  refine ev_aload_n (pc' := 1) dX6_take_0 rfl rfl ?_
  replace h := qbd h; obtain ⟨y1, hy1, h⟩ := h
  refine ev_callg (pc' := 4) (st2 := []) dX6_take_1 (qs_V tc_6_36 rfl rfl (cS_cls hq.1) rfl) rfl rfl (eX6_clear (d := d + 1) hq hy1) rfl rfl ?_
  refine ev_iconst (pc' := 5) dX6_take_4 rfl ?_
  refine ev_istore_n (pc' := 6) (L1 := [some (.ref q), some (.ref p0), some (iv 0)]) dX6_take_5 rfl rfl ?_
  replace h := qbd h; obtain ⟨y6, hy6, h⟩ := h
  refine ev_wk (qLe_eq (qLe_eq (qLe_eq qLe_nil))) (?_ : Ev _ _ _ [some (.ref q), some (.ref p0), some (iv 0)] _ _ _ _)
  refine ebX6_take_6 hq hp0 _ _ _ hy6 _ _ ?_
  cases h
  exact ev_return dX6_take_29 rfl
set_option maxRecDepth 100000 in
theorem eX6_greatest {Ls t d : Nat} {q : Nat} {p0 : Int} {μ : qMu} {r : Int} (hq : gS q) (h : fX6_greatest q p0 μ = some r) : Ev (d + 0) mX6_greatest 0 [some (.ref q), some (iv p0)] [] (cS Ls t μ) (.inl (some (iv r))) (cS Ls t μ) := by
  unfold fX6_greatest at h
  refine ev_aload_n (pc' := 1) dX6_greatest_0 rfl rfl ?_
  refine ev_getr (pc' := 4) dX6_greatest_1 rfl tf_6_15 hq.1 rfl ?_
  refine ev_iload_n (pc' := 5) dX6_greatest_4 rfl rfl ?_
  replace h := qbd h; obtain ⟨x1, hx1, h⟩ := h
  refine ev_iald (pc' := 6) dX6_greatest_5 rfl hq.2.2.1 hx1 ?_
  cases h
  exact ev_ireturn dX6_greatest_6 rfl rfl
set_option maxRecDepth 100000 in
theorem eX9_sorted {Ls t d n : Nat} {p0 : Int} {μ : qMu} {r : (Int ⊕ Nat) × qMu} (h : fX9_sorted n p0 μ = some r) : Ev (d + 3) mX9_sorted 0 [some (.ref 0), some (iv p0)] [] (cS Ls t μ) (qRi r.1) (cS Ls (qTt t r.1) r.2) := by
  unfold fX9_sorted at h
  refine ev_aload_n (pc' := 1) dX9_sorted_0 rfl rfl ?_
  refine ev_iload_n (pc' := 2) dX9_sorted_1 rfl rfl ?_
  replace h := qbd h; obtain ⟨y1, hy1, h⟩ := h
  have hcy1 := eX9_checkVertex (d := d + 1) (Ls := Ls) (t := t) hy1
  rcases y1 with v3 | E4
  · refine ev_callg (pc' := 5) (st2 := []) (s1 := cS Ls t μ) dX9_sorted_2 (qs_V tc_9_134 rfl rfl (cS_cls sh0) rfl) rfl rfl hcy1 rfl rfl ?_
    replace h := qel h
    refine ev_aload_n (pc' := 6) dX9_sorted_5 rfl rfl ?_
    refine ev_getr (pc' := 9) dX9_sorted_6 rfl tf_9_42 sh0 rfl ?_
    refine ev_aload_n (pc' := 10) dX9_sorted_9 rfl rfl ?_
    refine ev_getr (pc' := 13) dX9_sorted_10 rfl tf_9_19 sh0 rfl ?_
    replace h := qbd h; obtain ⟨y5, hy5, h⟩ := h
    refine ev_callg (pc' := 16) (st2 := []) dX9_sorted_13 (qs_V tc_9_182 rfl rfl (cS_cls sh22) rfl) rfl rfl (eX6_take (d := d + 0) gS22 gG11 hy5) rfl rfl ?_
    refine ev_aload_n (pc' := 17) dX9_sorted_16 rfl rfl ?_
    refine ev_getr (pc' := 20) dX9_sorted_17 rfl tf_9_42 sh0 rfl ?_
    refine ev_iload_n (pc' := 21) dX9_sorted_20 rfl rfl ?_
    replace h := qbd h; obtain ⟨y6, hy6, h⟩ := h
    refine ev_callg (pc' := 24) (st2 := [iv y6]) dX9_sorted_21 (qs_V tc_9_185 rfl rfl (cS_cls sh22) rfl) rfl rfl (eX6_greatest (d := d + 2) gS22 hy6) rfl rfl ?_
    cases h
    exact ev_ireturn dX9_sorted_24 rfl rfl
  · replace h := qer h
    cases h
    exact ev_callx dX9_sorted_2 (qs_V tc_9_134 rfl rfl (cS_cls sh0) rfl) rfl hcy1 rfl rfl
set_option maxRecDepth 100000 in
theorem ebX6_slackOf_8 {Ls t d n : Nat} {w0 : Nat} {w1 : Int} (hw0 : gS w0) {μ : qMu} : ∀ (k : Nat) (x : Int × Int) (y : Int), lp (fun x : Int × Int => bX6_slackOf_8 n w0 w1 x.1 x.2 μ) k x = some y → ∀ (o : qO) (s' : qSt), Ev (d + 0) mX6_slackOf 50 [none, none, some (iv y), none] [] (cS Ls t μ) o s' → Ev (d + 0) mX6_slackOf 8 [some (.ref w0), some (iv w1), some (iv x.1), some (iv x.2)] [] (cS Ls t μ) o s' := by
  intro k
  induction k with
  | zero => intro x y h; cases h
  | succ k ih =>
    intro x y h o s' kE
    rw [lp_s] at h
    replace h := qbd h; obtain ⟨zz, h0, h1⟩ := h
    have h : bX6_slackOf_8 n w0 w1 x.1 x.2 μ = some zz := h0
    clear h0
    unfold bX6_slackOf_8 at h
    refine ev_iload_n (pc' := 9) dX6_slackOf_8 rfl rfl ?_
    refine ev_aload_n (pc' := 10) dX6_slackOf_9 rfl rfl ?_
    refine ev_geti (pc' := 13) (ki := 3) dX6_slackOf_10 rfl tf_6_21 hw0.1 rfl rfl ?_
    refine ev_icmpge (pc' := 16) (tgt := 50) dX6_slackOf_13 (by decide) rfl (x1 := wr x.2) (y1 := wr (rd μ w0 3)) rfl rfl  (fun c1 => ?_) (fun c1 => ?_)
    · replace h := qit c1 h
      refine ev_iload_n (pc' := 17) dX6_slackOf_16 rfl rfl ?_
      refine ev_iload_n (pc' := 18) dX6_slackOf_17 rfl rfl ?_
      refine ev_iload_n (pc' := 19) dX6_slackOf_18 rfl rfl ?_
      replace h := qbd h; obtain ⟨y3, hy3, h⟩ := h
      have kJ : Ev (d + 0) mX6_slackOf 42 [some (.ref w0), some (iv w1), none, some (iv x.2)] [iv y3, iv x.1] (cS Ls t μ) o s' := by
        refine ev_iadd (pc' := 43) dX6_slackOf_42 rfl ?_
        refine ev_istore_n (pc' := 44) (L1 := [some (.ref w0), some (iv w1), some (iv (x.1 + y3)), some (iv x.2)]) dX6_slackOf_43 rfl rfl ?_
        refine ev_iinc (pc' := 47) (x := x.2) (L1 := [some (.ref w0), some (iv w1), some (iv (x.1 + y3)), some (iv (x.2 + 1))]) dX6_slackOf_44 rfl rfl rfl ?_
        refine ev_goto (pc' := 8) dX6_slackOf_47 (by decide) ?_
        cases h
        exact ev_wk (qLe_eq (qLe_eq (qLe_eq (qLe_eq qLe_nil)))) (ih _ _ h1 _ _ kE)
      replace h := hy3
      clear hy3
      refine ev_icmpge (pc' := 22) (tgt := 32) dX6_slackOf_19 (by decide) rfl (x1 := wr x.2) (y1 := wr w1) rfl rfl  (fun c2 => ?_) (fun c2 => ?_)
      · replace h := qit c2 h
        refine ev_aload_n (pc' := 23) dX6_slackOf_22 rfl rfl ?_
        refine ev_getr (pc' := 26) dX6_slackOf_23 rfl tf_6_15 hw0.1 rfl ?_
        refine ev_iload_n (pc' := 27) dX6_slackOf_26 rfl rfl ?_
        replace h := qbd h; obtain ⟨x4, hx4, h⟩ := h
        refine ev_iald (pc' := 28) dX6_slackOf_27 rfl hw0.2.2.1 hx4 ?_
        refine ev_ineg (pc' := 29) dX6_slackOf_28 rfl ?_
        refine ev_goto (pc' := 42) dX6_slackOf_29 (by decide) ?_
        cases h
        exact ev_wk (qLe_eq (qLe_eq (qLe_sk (qLe_eq qLe_nil)))) kJ
      · replace h := qif' c2 h
        refine ev_iload_n (pc' := 33) dX6_slackOf_32 rfl rfl ?_
        refine ev_aload_n (pc' := 34) dX6_slackOf_33 rfl rfl ?_
        refine ev_getr (pc' := 37) dX6_slackOf_34 rfl tf_6_15 hw0.1 rfl ?_
        refine ev_iload_n (pc' := 38) dX6_slackOf_37 rfl rfl ?_
        replace h := qbd h; obtain ⟨x5, hx5, h⟩ := h
        refine ev_iald (pc' := 39) dX6_slackOf_38 rfl hw0.2.2.1 hx5 ?_
        refine ev_min (pc' := 42) dX6_slackOf_39 rfl tc_6_52 rfl ?_
        cases h
        exact ev_wk (qLe_eq (qLe_eq (qLe_sk (qLe_eq qLe_nil)))) kJ
    · replace h := qif' c1 h
      cases h
      cases h1
      exact ev_wk (qLe_sk (qLe_sk (qLe_eq (qLe_sk qLe_nil)))) kE
set_option maxRecDepth 100000 in
theorem eX6_slackOf {Ls t d n : Nat} {q : Nat} {p0 : Int} {μ : qMu} {r : Int} (hq : gS q) (h : fX6_slackOf n q p0 μ = some r) : Ev (d + 0) mX6_slackOf 0 [some (.ref q), some (iv p0), none, none] [] (cS Ls t μ) (.inl (some (iv r))) (cS Ls t μ) := by
  unfold fX6_slackOf at h
  refine ev_iload_n (pc' := 1) dX6_slackOf_0 rfl rfl ?_
  refine ev_iload_n (pc' := 2) dX6_slackOf_1 rfl rfl ?_
  refine ev_iconst (pc' := 3) dX6_slackOf_2 rfl ?_
  refine ev_isub (pc' := 4) dX6_slackOf_3 rfl ?_
  refine ev_imul (pc' := 5) dX6_slackOf_4 rfl ?_
  refine ev_istore_n (pc' := 6) (L1 := [some (.ref q), some (iv p0), some (iv (p0 * (p0 - 1))), none]) dX6_slackOf_5 rfl rfl ?_
  refine ev_iconst (pc' := 7) dX6_slackOf_6 rfl ?_
  refine ev_istore_n (pc' := 8) (L1 := [some (.ref q), some (iv p0), some (iv (p0 * (p0 - 1))), some (iv 0)]) dX6_slackOf_7 rfl rfl ?_
  replace h := qbd h; obtain ⟨y6, hy6, h⟩ := h
  refine ev_wk (qLe_eq (qLe_eq (qLe_eq (qLe_eq qLe_nil)))) (?_ : Ev _ _ _ [some (.ref q), some (iv p0), some (iv (p0 * (p0 - 1))), some (iv 0)] _ _ _ _)
  refine ebX6_slackOf_8 hq _ _ _ hy6 _ _ ?_
  refine ev_iload_n (pc' := 51) dX6_slackOf_50 rfl rfl ?_
  cases h
  exact ev_ireturn dX6_slackOf_51 rfl rfl
set_option maxRecDepth 100000 in
theorem eX9_slack {Ls t d n : Nat} {p0 : Int} {μ : qMu} {r : (Int ⊕ Nat) × qMu} (h : fX9_slack n p0 μ = some r) : Ev (d + 3) mX9_slack 0 [some (.ref 0), some (iv p0)] [] (cS Ls t μ) (qRi r.1) (cS Ls (qTt t r.1) r.2) := by
  unfold fX9_slack at h
  refine ev_iload_n (pc' := 1) dX9_slack_0 rfl rfl ?_
  refine ev_iconst (pc' := 2) dX9_slack_1 rfl ?_
  refine ev_icmplt (pc' := 5) (tgt := 16) dX9_slack_2 (by decide) rfl (x1 := wr p0) (y1 := 1) rfl wl_1  (fun c1 => ?_) (fun c1 => ?_)
  · replace h := qit c1 h
    cases h
    exact ev_throw dX9_slack_16 tn_9_188 dX9_slack_19 dX9_slack_20 dX9_slack_22 dX9_slack_25 tx_9_188_190 rfl rfl
  · replace h := qif' c1 h
    refine ev_iload_n (pc' := 6) dX9_slack_5 rfl rfl ?_
    refine ev_aload_n (pc' := 7) dX9_slack_6 rfl rfl ?_
    refine ev_getr (pc' := 10) dX9_slack_7 rfl tf_9_19 sh0 rfl ?_
    replace h := qbd h; obtain ⟨y2, hy2, h⟩ := h
    refine ev_callg (pc' := 13) (st2 := [iv y2, iv p0]) dX9_slack_10 (qs_V tc_9_127 rfl rfl (cS_cls sh11) rfl) rfl rfl (eX1_vertexCount (d := d + 2) gG11 hy2) rfl rfl ?_
    refine ev_icmple (pc' := 16) (tgt := 26) dX9_slack_13 (by decide) rfl (x1 := wr p0) (y1 := wr y2) rfl rfl  (fun c3 => ?_) (fun c3 => ?_)
    · replace h := qit c3 h
      cases h
      exact ev_throw dX9_slack_16 tn_9_188 dX9_slack_19 dX9_slack_20 dX9_slack_22 dX9_slack_25 tx_9_188_190 rfl rfl
    · replace h := qif' c3 h
      refine ev_aload_n (pc' := 27) dX9_slack_26 rfl rfl ?_
      refine ev_getr (pc' := 30) dX9_slack_27 rfl tf_9_42 sh0 rfl ?_
      refine ev_aload_n (pc' := 31) dX9_slack_30 rfl rfl ?_
      refine ev_getr (pc' := 34) dX9_slack_31 rfl tf_9_19 sh0 rfl ?_
      replace h := qbd h; obtain ⟨y4, hy4, h⟩ := h
      refine ev_callg (pc' := 37) (st2 := []) dX9_slack_34 (qs_V tc_9_182 rfl rfl (cS_cls sh22) rfl) rfl rfl (eX6_take (d := d + 0) gS22 gG11 hy4) rfl rfl ?_
      refine ev_aload_n (pc' := 38) dX9_slack_37 rfl rfl ?_
      refine ev_getr (pc' := 41) dX9_slack_38 rfl tf_9_42 sh0 rfl ?_
      refine ev_iload_n (pc' := 42) dX9_slack_41 rfl rfl ?_
      replace h := qbd h; obtain ⟨y5, hy5, h⟩ := h
      refine ev_callg (pc' := 45) (st2 := [iv y5]) dX9_slack_42 (qs_V tc_9_193 rfl rfl (cS_cls sh22) rfl) rfl rfl (eX6_slackOf (d := d + 2) gS22 hy5) rfl rfl ?_
      cases h
      exact ev_ireturn dX9_slack_45 rfl rfl
set_option maxRecDepth 100000 in
theorem eX9_checkMode {Ls t d : Nat} {p0 : Int} {μ : qMu} {r : (Int ⊕ Nat)} (h : fX9_checkMode p0 μ = some r) : Ev (d + 0) mX9_checkMode 0 [some (.ref 0), some (iv p0)] [] (cS Ls t μ) (qRv r) (cS Ls (qTt t r) μ) := by
  unfold fX9_checkMode at h
  refine ev_iload_n (pc' := 1) dX9_checkMode_0 rfl rfl ?_
  refine ev_iflt (pc' := 4) (tgt := 9) dX9_checkMode_1 (by decide) rfl (x1 := wr p0) rfl (fun c1 => ?_) (fun c1 => ?_)
  · replace h := qit c1 h
    cases h
    exact ev_throww dX9_checkMode_9 tn_9_90 dX9_checkMode_12 dX9_checkMode_13 dX9_checkMode_16 dX9_checkMode_19 tx_9_90_320 rfl rfl
  · replace h := qif' c1 h
    refine ev_iload_n (pc' := 5) dX9_checkMode_4 rfl rfl ?_
    refine ev_iconst (pc' := 6) dX9_checkMode_5 rfl ?_
    refine ev_icmple (pc' := 9) (tgt := 20) dX9_checkMode_6 (by decide) rfl (x1 := wr p0) (y1 := 2) rfl wl_2  (fun c2 => ?_) (fun c2 => ?_)
    · replace h := qit c2 h
      cases h
      exact ev_throww dX9_checkMode_9 tn_9_90 dX9_checkMode_12 dX9_checkMode_13 dX9_checkMode_16 dX9_checkMode_19 tx_9_90_320 rfl rfl
    · replace h := qif' c2 h
      cases h
      exact ev_return dX9_checkMode_20 rfl
set_option maxRecDepth 100000 in
theorem ebX6_hasNoNegativeSlack_2 {Ls t d n : Nat} {w0 : Nat} (hw0 : gS w0) {μ : qMu} : ∀ (k : Nat) (x : Int) (y : (Unit) ⊕ (Int)), lp (fun x : Int => bX6_hasNoNegativeSlack_2 n w0 x μ) k x = some y → ∀ (o : qO) (s' : qSt), (∀ b : Unit, y = .inl b → Ev (d + 1) mX6_hasNoNegativeSlack 26 [none, none] [] (cS Ls t μ) o s') → (∀ r : Int, y = .inr r → o = (.inl (some (iv r))) ∧ s' = (cS Ls t μ)) → Ev (d + 1) mX6_hasNoNegativeSlack 2 [some (.ref w0), some (iv x)] [] (cS Ls t μ) o s' := by
  intro k
  induction k with
  | zero => intro x y h; cases h
  | succ k ih =>
    intro x y h o s' kE kR
    rw [lp_s] at h
    replace h := qbd h; obtain ⟨zz, h0, h1⟩ := h
    have h : bX6_hasNoNegativeSlack_2 n w0 x μ = some zz := h0
    clear h0
    unfold bX6_hasNoNegativeSlack_2 at h
    refine ev_iload_n (pc' := 3) dX6_hasNoNegativeSlack_2 rfl rfl ?_
    refine ev_aload_n (pc' := 4) dX6_hasNoNegativeSlack_3 rfl rfl ?_
    refine ev_geti (pc' := 7) (ki := 3) dX6_hasNoNegativeSlack_4 rfl tf_6_21 hw0.1 rfl rfl ?_
    refine ev_icmpgt (pc' := 10) (tgt := 26) dX6_hasNoNegativeSlack_7 (by decide) rfl (x1 := wr x) (y1 := wr (rd μ w0 3)) rfl rfl  (fun c1 => ?_) (fun c1 => ?_)
    · replace h := qit c1 h
      cases h
      cases h1
      exact ev_wk (qLe_sk (qLe_sk qLe_nil)) (kE _ rfl)
    · replace h := qif' c1 h
      refine ev_aload_n (pc' := 11) dX6_hasNoNegativeSlack_10 rfl rfl ?_
      refine ev_iload_n (pc' := 12) dX6_hasNoNegativeSlack_11 rfl rfl ?_
      replace h := qbd h; obtain ⟨y2, hy2, h⟩ := h
      refine ev_callg (pc' := 15) (st2 := [iv y2]) dX6_hasNoNegativeSlack_12 (qs_V tc_6_61 rfl rfl (cS_cls hw0.1) rfl) rfl rfl (eX6_slackOf (d := d + 0) hw0 hy2) rfl rfl ?_
      refine ev_ifge (pc' := 18) (tgt := 20) dX6_hasNoNegativeSlack_15 (by decide) rfl (x1 := wr y2) rfl (fun c3 => ?_) (fun c3 => ?_)
      · replace h := qit c3 h
        refine ev_iconst (pc' := 19) dX6_hasNoNegativeSlack_18 rfl ?_
        cases h
        cases h1
        obtain ⟨rfl, rfl⟩ := kR _ rfl
        exact ev_ireturn dX6_hasNoNegativeSlack_19 rfl rfl
      · replace h := qif' c3 h
        refine ev_iinc (pc' := 23) (x := x) (L1 := [some (.ref w0), some (iv (x + 1))]) dX6_hasNoNegativeSlack_20 rfl rfl rfl ?_
        refine ev_goto (pc' := 2) dX6_hasNoNegativeSlack_23 (by decide) ?_
        cases h
        exact ev_wk (qLe_eq (qLe_eq qLe_nil)) (ih _ _ h1 _ _ kE kR)
set_option maxRecDepth 100000 in
theorem eX6_hasNoNegativeSlack {Ls t d n : Nat} {q : Nat} {μ : qMu} {r : Int} (hq : gS q) (h : fX6_hasNoNegativeSlack n q μ = some r) : Ev (d + 1) mX6_hasNoNegativeSlack 0 [some (.ref q), none] [] (cS Ls t μ) (.inl (some (iv r))) (cS Ls t μ) := by
  unfold fX6_hasNoNegativeSlack at h
  refine ev_iconst (pc' := 1) dX6_hasNoNegativeSlack_0 rfl ?_
  refine ev_istore_n (pc' := 2) (L1 := [some (.ref q), some (iv 1)]) dX6_hasNoNegativeSlack_1 rfl rfl ?_
  replace h := qbd h; obtain ⟨y4, hy4, h⟩ := h
  refine ev_wk (qLe_eq (qLe_eq qLe_nil)) (?_ : Ev _ _ _ [some (.ref q), some (iv 1)] _ _ _ _)
  refine ebX6_hasNoNegativeSlack_2 hq _ _ _ hy4 _ _ ?_ ?_
  · intro b5 eb5
    subst eb5
    replace h := qel h
    refine ev_iconst (pc' := 27) dX6_hasNoNegativeSlack_26 rfl ?_
    cases h
    exact ev_ireturn dX6_hasNoNegativeSlack_27 rfl rfl
  · intro r6 er6
    subst er6
    replace h := qer h
    cases h
    exact ⟨rfl, rfl⟩
set_option maxRecDepth 100000 in
theorem eX6_allows {Ls t d n : Nat} {q : Nat} {p0 : Int} {μ : qMu} {r : Int} (hq : gS q) (h : fX6_allows n q p0 μ = some r) : Ev (d + 2) mX6_allows 0 [some (.ref q), some (iv p0)] [] (cS Ls t μ) (.inl (some (iv r))) (cS Ls t μ) := by
  unfold fX6_allows at h
  refine ev_aload_n (pc' := 1) dX6_allows_0 rfl rfl ?_
  refine ev_geti (pc' := 4) (ki := 4) dX6_allows_1 rfl tf_6_25 hq.1 rfl rfl ?_
  refine ev_iconst (pc' := 5) dX6_allows_4 rfl ?_
  refine ev_irem (pc' := 6) dX6_allows_5 rfl zl_2 ?_
  refine ev_ifeq (pc' := 9) (tgt := 11) dX6_allows_6 (by decide) rfl (x1 := wr (irm (rd μ q 4) 2)) rfl (fun c1 => ?_) (fun c1 => ?_)
  · replace h := qit c1 h
    refine ev_iload_n (pc' := 12) dX6_allows_11 rfl rfl ?_
    refine ev_iconst (pc' := 13) dX6_allows_12 rfl ?_
    refine ev_icmpne (pc' := 16) (tgt := 49) dX6_allows_13 (by decide) rfl (x1 := wr p0) (y1 := 1) rfl wl_1  (fun c2 => ?_) (fun c2 => ?_)
    · replace h := qit c2 h
      refine ev_aload_n (pc' := 17) dX6_allows_16 rfl rfl ?_
      refine ev_geti (pc' := 20) (ki := 3) dX6_allows_17 rfl tf_6_21 hq.1 rfl rfl ?_
      refine ev_ifeq (pc' := 23) (tgt := 43) dX6_allows_20 (by decide) rfl (x1 := wr (rd μ q 3)) rfl (fun c3 => ?_) (fun c3 => ?_)
      · replace h := qit c3 h
        refine ev_iconst (pc' := 44) dX6_allows_43 rfl ?_
        refine ev_goto (pc' := 48) dX6_allows_44 (by decide) ?_
        cases h
        exact ev_ireturn dX6_allows_48 rfl rfl
      · replace h := qif' c3 h
        refine ev_aload_n (pc' := 24) dX6_allows_23 rfl rfl ?_
        refine ev_getr (pc' := 27) dX6_allows_24 rfl tf_6_15 hq.1 rfl ?_
        refine ev_iconst (pc' := 28) dX6_allows_27 rfl ?_
        replace h := qbd h; obtain ⟨x4, hx4, h⟩ := h
        refine ev_iald (pc' := 29) dX6_allows_28 rfl hq.2.2.1 hx4 ?_
        refine ev_aload_n (pc' := 30) dX6_allows_29 rfl rfl ?_
        refine ev_geti (pc' := 33) (ki := 4) dX6_allows_30 rfl tf_6_25 hq.1 rfl rfl ?_
        refine ev_aload_n (pc' := 34) dX6_allows_33 rfl rfl ?_
        refine ev_getr (pc' := 37) dX6_allows_34 rfl tf_6_15 hq.1 rfl ?_
        refine ev_iconst (pc' := 38) dX6_allows_37 rfl ?_
        replace h := qbd h; obtain ⟨x5, hx5, h⟩ := h
        refine ev_iald (pc' := 39) dX6_allows_38 rfl hq.2.2.1 hx5 ?_
        refine ev_isub (pc' := 40) dX6_allows_39 rfl ?_
        refine ev_icmpgt (pc' := 43) (tgt := 47) dX6_allows_40 (by decide) rfl (x1 := wr x4) (y1 := wr ((rd μ q 4) - x5)) rfl rfl  (fun c6 => ?_) (fun c6 => ?_)
        · replace h := qit c6 h
          refine ev_iconst (pc' := 48) dX6_allows_47 rfl ?_
          cases h
          exact ev_ireturn dX6_allows_48 rfl rfl
        · replace h := qif' c6 h
          refine ev_iconst (pc' := 44) dX6_allows_43 rfl ?_
          refine ev_goto (pc' := 48) dX6_allows_44 (by decide) ?_
          cases h
          exact ev_ireturn dX6_allows_48 rfl rfl
    · replace h := qif' c2 h
      refine ev_iload_n (pc' := 50) dX6_allows_49 rfl rfl ?_
      refine ev_iconst (pc' := 51) dX6_allows_50 rfl ?_
      refine ev_icmpne (pc' := 54) (tgt := 61) dX6_allows_51 (by decide) rfl (x1 := wr p0) (y1 := 2) rfl wl_2  (fun c7 => ?_) (fun c7 => ?_)
      · replace h := qit c7 h
        refine ev_aload_n (pc' := 55) dX6_allows_54 rfl rfl ?_
        replace h := qbd h; obtain ⟨y8, hy8, h⟩ := h
        refine ev_callg (pc' := 58) (st2 := [iv y8]) dX6_allows_55 (qs_V tc_6_58 rfl rfl (cS_cls hq.1) rfl) rfl rfl (eX6_hasNoNegativeSlack (d := d + 0) hq hy8) rfl rfl ?_
        refine ev_ifeq (pc' := 61) (tgt := 65) dX6_allows_58 (by decide) rfl (x1 := wr y8) rfl (fun c9 => ?_) (fun c9 => ?_)
        · replace h := qit c9 h
          refine ev_iconst (pc' := 66) dX6_allows_65 rfl ?_
          cases h
          exact ev_ireturn dX6_allows_66 rfl rfl
        · replace h := qif' c9 h
          refine ev_iconst (pc' := 62) dX6_allows_61 rfl ?_
          refine ev_goto (pc' := 66) dX6_allows_62 (by decide) ?_
          cases h
          exact ev_ireturn dX6_allows_66 rfl rfl
      · replace h := qif' c7 h
        refine ev_iconst (pc' := 62) dX6_allows_61 rfl ?_
        refine ev_goto (pc' := 66) dX6_allows_62 (by decide) ?_
        cases h
        exact ev_ireturn dX6_allows_66 rfl rfl
  · replace h := qif' c1 h
    refine ev_iconst (pc' := 10) dX6_allows_9 rfl ?_
    cases h
    exact ev_ireturn dX6_allows_10 rfl rfl
set_option maxRecDepth 100000 in
theorem eX9_isPossible {Ls t d n : Nat} {p0 : Int} {μ : qMu} {r : (Int ⊕ Nat) × qMu} (h : fX9_isPossible n p0 μ = some r) : Ev (d + 3) mX9_isPossible 0 [some (.ref 0), some (iv p0)] [] (cS Ls t μ) (qRi r.1) (cS Ls (qTt t r.1) r.2) := by
  unfold fX9_isPossible at h
  refine ev_aload_n (pc' := 1) dX9_isPossible_0 rfl rfl ?_
  refine ev_iload_n (pc' := 2) dX9_isPossible_1 rfl rfl ?_
  replace h := qbd h; obtain ⟨y1, hy1, h⟩ := h
  have hcy1 := eX9_checkMode (d := d + 2) (Ls := Ls) (t := t) hy1
  rcases y1 with v3 | E4
  · refine ev_callg (pc' := 5) (st2 := []) (s1 := cS Ls t μ) dX9_isPossible_2 (qs_V tc_9_196 rfl rfl (cS_cls sh0) rfl) rfl rfl hcy1 rfl rfl ?_
    replace h := qel h
    refine ev_aload_n (pc' := 6) dX9_isPossible_5 rfl rfl ?_
    refine ev_getr (pc' := 9) dX9_isPossible_6 rfl tf_9_42 sh0 rfl ?_
    refine ev_aload_n (pc' := 10) dX9_isPossible_9 rfl rfl ?_
    refine ev_getr (pc' := 13) dX9_isPossible_10 rfl tf_9_19 sh0 rfl ?_
    replace h := qbd h; obtain ⟨y5, hy5, h⟩ := h
    refine ev_callg (pc' := 16) (st2 := []) dX9_isPossible_13 (qs_V tc_9_182 rfl rfl (cS_cls sh22) rfl) rfl rfl (eX6_take (d := d + 0) gS22 gG11 hy5) rfl rfl ?_
    refine ev_aload_n (pc' := 17) dX9_isPossible_16 rfl rfl ?_
    refine ev_getr (pc' := 20) dX9_isPossible_17 rfl tf_9_42 sh0 rfl ?_
    refine ev_iload_n (pc' := 21) dX9_isPossible_20 rfl rfl ?_
    replace h := qbd h; obtain ⟨y6, hy6, h⟩ := h
    refine ev_callg (pc' := 24) (st2 := [iv y6]) dX9_isPossible_21 (qs_V tc_9_199 rfl rfl (cS_cls sh22) rfl) rfl rfl (eX6_allows (d := d + 0) gS22 hy6) rfl rfl ?_
    replace h := qbd h; obtain ⟨x7, hx7, h⟩ := h
    obtain ⟨ex7, nx7⟩ := qbl_n hx7
    subst ex7
    cases h
    exact ev_ireturn dX9_isPossible_24 rfl nx7
  · replace h := qer h
    cases h
    exact ev_callx dX9_isPossible_2 (qs_V tc_9_196 rfl rfl (cS_cls sh0) rfl) rfl hcy1 rfl rfl
set_option maxRecDepth 100000 in
theorem eX9_meanDegree {Ls t d : Nat} {μ : qMu} {r : UInt64} (h : fX9_meanDegree μ = some r) : Ev (d + 1) mX9_meanDegree 0 [some (.ref 0), none] [] (cS Ls t μ) (.inl (some (.double r))) (cS Ls t μ) := by
  unfold fX9_meanDegree at h
  refine ev_aload_n (pc' := 1) dX9_meanDegree_0 rfl rfl ?_
  refine ev_getr (pc' := 4) dX9_meanDegree_1 rfl tf_9_19 sh0 rfl ?_
  replace h := qbd h; obtain ⟨y1, hy1, h⟩ := h
  refine ev_callg (pc' := 7) (st2 := [iv y1]) dX9_meanDegree_4 (qs_V tc_9_127 rfl rfl (cS_cls sh11) rfl) rfl rfl (eX1_vertexCount (d := d + 0) gG11 hy1) rfl rfl ?_
  refine ev_istore_n (pc' := 8) (L1 := [some (.ref 0), some (iv y1)]) dX9_meanDegree_7 rfl rfl ?_
  refine ev_iload_n (pc' := 9) dX9_meanDegree_8 rfl rfl ?_
  replace h := qbd h; obtain ⟨y3, hy3, h⟩ := h
  have kJ : Ev (d + 1) mX9_meanDegree 29 [none, none] [.double y3] (cS Ls t μ) (.inl (some (.double r))) (cS Ls t μ) := by
    cases h
    exact ev_dreturn dX9_meanDegree_29 rfl
  replace h := hy3
  clear hy3
  refine ev_ifle (pc' := 12) (tgt := 28) dX9_meanDegree_9 (by decide) rfl (x1 := wr y1) rfl (fun c2 => ?_) (fun c2 => ?_)
  · replace h := qit c2 h
    refine ev_iconst (pc' := 13) dX9_meanDegree_12 rfl ?_
    refine ev_aload_n (pc' := 14) dX9_meanDegree_13 rfl rfl ?_
    refine ev_getr (pc' := 17) dX9_meanDegree_14 rfl tf_9_19 sh0 rfl ?_
    replace h := qbd h; obtain ⟨y4, hy4, h⟩ := h
    refine ev_callg (pc' := 20) (st2 := [iv y4, iv 2]) dX9_meanDegree_17 (qs_V tc_9_118 rfl rfl (cS_cls sh11) rfl) rfl rfl (eX1_edgeCount (d := d + 0) gG11 hy4) rfl rfl ?_
    refine ev_imul (pc' := 21) dX9_meanDegree_20 rfl ?_
    refine ev_i2d (pc' := 22) dX9_meanDegree_21 rfl ?_
    refine ev_iload_n (pc' := 23) dX9_meanDegree_22 rfl rfl ?_
    refine ev_i2d (pc' := 24) dX9_meanDegree_23 rfl ?_
    replace h := qbd h; obtain ⟨x5, hx5, h⟩ := h
    refine ev_ddiv (pc' := 25) dX9_meanDegree_24 rfl hx5 ?_
    refine ev_goto (pc' := 29) dX9_meanDegree_25 (by decide) ?_
    cases h
    exact ev_wk (qLe_sk (qLe_sk qLe_nil)) kJ
  · replace h := qif' c2 h
    refine ev_dconst0 (pc' := 29) dX9_meanDegree_28 rfl ?_
    cases h
    exact ev_wk (qLe_sk (qLe_sk qLe_nil)) kJ
set_option maxRecDepth 100000 in
theorem eX9_checkVertices {Ls t d : Nat} {p0 : Int} {p1 : Int} {p2 : Int} {p3 : Int} {μ : qMu} {r : (Int ⊕ Nat)} (h : fX9_checkVertices p0 p1 p2 p3 μ = some r) : Ev (d + 2) mX9_checkVertices 0 [some (.ref 0), some (iv p0), some (iv p1), some (iv p2), some (iv p3)] [] (cS Ls t μ) (qRv r) (cS Ls (qTt t r) μ) := by
  unfold fX9_checkVertices at h
  refine ev_aload_n (pc' := 1) dX9_checkVertices_0 rfl rfl ?_
  refine ev_iload_n (pc' := 2) dX9_checkVertices_1 rfl rfl ?_
  replace h := qbd h; obtain ⟨y1, hy1, h⟩ := h
  have hcy1 := eX9_checkVertex (d := d + 0) (Ls := Ls) (t := t) hy1
  rcases y1 with v3 | E4
  · refine ev_callg (pc' := 5) (st2 := []) (s1 := cS Ls t μ) dX9_checkVertices_2 (qs_V tc_9_134 rfl rfl (cS_cls sh0) rfl) rfl rfl hcy1 rfl rfl ?_
    replace h := qel h
    refine ev_aload_n (pc' := 6) dX9_checkVertices_5 rfl rfl ?_
    refine ev_iload_n (pc' := 7) dX9_checkVertices_6 rfl rfl ?_
    replace h := qbd h; obtain ⟨y5, hy5, h⟩ := h
    have hcy5 := eX9_checkVertex (d := d + 0) (Ls := Ls) (t := t) hy5
    rcases y5 with v7 | E8
    · refine ev_callg (pc' := 10) (st2 := []) (s1 := cS Ls t μ) dX9_checkVertices_7 (qs_V tc_9_134 rfl rfl (cS_cls sh0) rfl) rfl rfl hcy5 rfl rfl ?_
      replace h := qel h
      refine ev_aload_n (pc' := 11) dX9_checkVertices_10 rfl rfl ?_
      refine ev_iload_n (pc' := 12) dX9_checkVertices_11 rfl rfl ?_
      replace h := qbd h; obtain ⟨y9, hy9, h⟩ := h
      have hcy9 := eX9_checkVertex (d := d + 0) (Ls := Ls) (t := t) hy9
      rcases y9 with v11 | E12
      · refine ev_callg (pc' := 15) (st2 := []) (s1 := cS Ls t μ) dX9_checkVertices_12 (qs_V tc_9_134 rfl rfl (cS_cls sh0) rfl) rfl rfl hcy9 rfl rfl ?_
        replace h := qel h
        refine ev_aload_n (pc' := 16) dX9_checkVertices_15 rfl rfl ?_
        refine ev_iload (pc' := 18) dX9_checkVertices_16 rfl rfl ?_
        replace h := qbd h; obtain ⟨y13, hy13, h⟩ := h
        have hcy13 := eX9_checkVertex (d := d + 0) (Ls := Ls) (t := t) hy13
        rcases y13 with v15 | E16
        · refine ev_callg (pc' := 21) (st2 := []) (s1 := cS Ls t μ) dX9_checkVertices_18 (qs_V tc_9_134 rfl rfl (cS_cls sh0) rfl) rfl rfl hcy13 rfl rfl ?_
          replace h := qel h
          cases h
          exact ev_return dX9_checkVertices_21 rfl
        · replace h := qer h
          cases h
          exact ev_callx dX9_checkVertices_18 (qs_V tc_9_134 rfl rfl (cS_cls sh0) rfl) rfl hcy13 rfl rfl
      · replace h := qer h
        cases h
        exact ev_callx dX9_checkVertices_12 (qs_V tc_9_134 rfl rfl (cS_cls sh0) rfl) rfl hcy9 rfl rfl
    · replace h := qer h
      cases h
      exact ev_callx dX9_checkVertices_7 (qs_V tc_9_134 rfl rfl (cS_cls sh0) rfl) rfl hcy5 rfl rfl
  · replace h := qer h
    cases h
    exact ev_callx dX9_checkVertices_2 (qs_V tc_9_134 rfl rfl (cS_cls sh0) rfl) rfl hcy1 rfl rfl
set_option maxRecDepth 100000 in
theorem eX1_reasonAgainst {Ls t d : Nat} {g : Nat} {p0 : Int} {p1 : Int} {p2 : Int} {p3 : Int} {p4 : Int} {μ : qMu} {r : Int} (hg : gG g) (h : fX1_reasonAgainst g p0 p1 p2 p3 p4 μ = some r) : Ev (d + 1) mX1_reasonAgainst 0 [some (.ref g), some (iv p0), some (iv p1), some (iv p2), some (iv p3), some (iv p4), none, none, none] [] (cS Ls t μ) (.inl (some (iv r))) (cS Ls t μ) := by
  unfold fX1_reasonAgainst at h
  refine ev_aload_n (pc' := 1) dX1_reasonAgainst_0 rfl rfl ?_
  refine ev_iload_n (pc' := 2) dX1_reasonAgainst_1 rfl rfl ?_
  refine ev_iload_n (pc' := 3) dX1_reasonAgainst_2 rfl rfl ?_
  replace h := qbd h; obtain ⟨y1, hy1, h⟩ := h
  refine ev_callg (pc' := 6) (st2 := [iv y1]) dX1_reasonAgainst_3 (qs_V tc_1_32 rfl rfl (cS_cls hg.1) rfl) rfl rfl (eX1_between (d := d + 0) hg hy1) rfl rfl ?_
  refine ev_ifne (pc' := 9) (tgt := 11) dX1_reasonAgainst_6 (by decide) rfl (x1 := wr y1) rfl (fun c2 => ?_) (fun c2 => ?_)
  · replace h := qit c2 h
    refine ev_iconst (pc' := 10) dX1_reasonAgainst_9 rfl ?_
    cases h
    exact ev_ireturn dX1_reasonAgainst_10 rfl rfl
  · replace h := qif' c2 h
    refine ev_iload_n (pc' := 12) dX1_reasonAgainst_11 rfl rfl ?_
    refine ev_iload (pc' := 14) dX1_reasonAgainst_12 rfl rfl ?_
    have k4 : ∀ j5 : Int, j5 = (if wr p1 = wr p3 then if wr p2 = wr p4 then 1 else if wr p1 = wr p4 then if wr p2 = wr p3 then 1 else 0 else 0 else if wr p1 = wr p4 then if wr p2 = wr p3 then 1 else 0 else 0) → Ev (d + 1) mX1_reasonAgainst 40 [some (.ref g), some (iv p0), some (iv p1), some (iv p2), some (iv p3), some (iv p4), none, none, none] [iv j5] (cS Ls t μ) (.inl (some (iv r))) (cS Ls t μ) := by
      intro j5 ej5
      subst ej5
      refine ev_istore (pc' := 42) (L1 := [some (.ref g), some (iv p0), some (iv p1), some (iv p2), some (iv p3), some (iv p4), some (iv (if wr p1 = wr p3 then if wr p2 = wr p4 then 1 else if wr p1 = wr p4 then if wr p2 = wr p3 then 1 else 0 else 0 else if wr p1 = wr p4 then if wr p2 = wr p3 then 1 else 0 else 0)), none, none]) dX1_reasonAgainst_40 rfl rfl ?_
      refine ev_aload_n (pc' := 43) dX1_reasonAgainst_42 rfl rfl ?_
      refine ev_iload (pc' := 45) dX1_reasonAgainst_43 rfl rfl ?_
      refine ev_iload (pc' := 47) dX1_reasonAgainst_45 rfl rfl ?_
      replace h := qbd h; obtain ⟨y6, hy6, h⟩ := h
      refine ev_callg (pc' := 50) (st2 := [iv y6]) dX1_reasonAgainst_47 (qs_V tc_1_32 rfl rfl (cS_cls hg.1) rfl) rfl rfl (eX1_between (d := d + 0) hg hy6) rfl rfl ?_
      refine ev_iload (pc' := 52) dX1_reasonAgainst_50 rfl rfl ?_
      have k8 : ∀ j9 : Int, j9 = (if wr (if wr p1 = wr p3 then if wr p2 = wr p4 then 1 else if wr p1 = wr p4 then if wr p2 = wr p3 then 1 else 0 else 0 else if wr p1 = wr p4 then if wr p2 = wr p3 then 1 else 0 else 0) = 0 then 1 else 2) → Ev (d + 1) mX1_reasonAgainst 60 [some (.ref g), some (iv p0), some (iv p1), some (iv p2), some (iv p3), some (iv p4), none, none, none] [iv j9, iv y6] (cS Ls t μ) (.inl (some (iv r))) (cS Ls t μ) := by
        intro j9 ej9
        subst ej9
        refine ev_icmpge (pc' := 63) (tgt := 65) dX1_reasonAgainst_60 (by decide) rfl (x1 := wr y6) (y1 := wr (if wr (if wr p1 = wr p3 then if wr p2 = wr p4 then 1 else if wr p1 = wr p4 then if wr p2 = wr p3 then 1 else 0 else 0 else if wr p1 = wr p4 then if wr p2 = wr p3 then 1 else 0 else 0) = 0 then 1 else 2)) rfl rfl  (fun c10 => ?_) (fun c10 => ?_)
        · replace h := qit c10 h
          refine ev_iconst (pc' := 64) dX1_reasonAgainst_63 rfl ?_
          cases h
          exact ev_ireturn dX1_reasonAgainst_64 rfl rfl
        · replace h := qif' c10 h
          refine ev_iload_n (pc' := 66) dX1_reasonAgainst_65 rfl rfl ?_
          refine ev_iload (pc' := 68) dX1_reasonAgainst_66 rfl rfl ?_
          refine ev_icmpeq (pc' := 71) (tgt := 77) dX1_reasonAgainst_68 (by decide) rfl (x1 := wr p1) (y1 := wr p4) rfl rfl  (fun c11 => ?_) (fun c11 => ?_)
          · replace h := qit c11 h
            refine ev_iconst (pc' := 78) dX1_reasonAgainst_77 rfl ?_
            cases h
            exact ev_ireturn dX1_reasonAgainst_78 rfl rfl
          · replace h := qif' c11 h
            refine ev_iload_n (pc' := 72) dX1_reasonAgainst_71 rfl rfl ?_
            refine ev_iload (pc' := 74) dX1_reasonAgainst_72 rfl rfl ?_
            refine ev_icmpne (pc' := 77) (tgt := 79) dX1_reasonAgainst_74 (by decide) rfl (x1 := wr p2) (y1 := wr p3) rfl rfl  (fun c12 => ?_) (fun c12 => ?_)
            · replace h := qit c12 h
              refine ev_iconst (pc' := 78) dX1_reasonAgainst_77 rfl ?_
              cases h
              exact ev_ireturn dX1_reasonAgainst_78 rfl rfl
            · replace h := qif' c12 h
              refine ev_iload_n (pc' := 80) dX1_reasonAgainst_79 rfl rfl ?_
              refine ev_ifeq (pc' := 83) (tgt := 97) dX1_reasonAgainst_80 (by decide) rfl (x1 := wr p0) rfl (fun c13 => ?_) (fun c13 => ?_)
              · replace h := qit c13 h
                refine ev_aload_n (pc' := 98) dX1_reasonAgainst_97 rfl rfl ?_
                refine ev_iload_n (pc' := 99) dX1_reasonAgainst_98 rfl rfl ?_
                refine ev_iload (pc' := 101) dX1_reasonAgainst_99 rfl rfl ?_
                replace h := qbd h; obtain ⟨y14, hy14, h⟩ := h
                refine ev_callg (pc' := 104) (st2 := [iv y14]) dX1_reasonAgainst_101 (qs_V tc_1_32 rfl rfl (cS_cls hg.1) rfl) rfl rfl (eX1_between (d := d + 0) hg hy14) rfl rfl ?_
                replace h := qbd h; obtain ⟨y16, hy16, h⟩ := h
                have kJ : Ev (d + 1) mX1_reasonAgainst 122 [none, some (iv p0), some (iv p1), some (iv p2), some (iv p3), some (iv p4), none, none, none] [iv y16] (cS Ls t μ) (.inl (some (iv r))) (cS Ls t μ) := by
                  refine ev_istore (pc' := 124) (L1 := [none, some (iv p0), some (iv p1), some (iv p2), some (iv p3), some (iv p4), none, some (iv y16), none]) dX1_reasonAgainst_122 rfl rfl ?_
                  refine ev_iload_n (pc' := 125) dX1_reasonAgainst_124 rfl rfl ?_
                  refine ev_iload_n (pc' := 126) dX1_reasonAgainst_125 rfl rfl ?_
                  have k20 : ∀ j21 : Int, j21 = (if wr p1 = wr p2 then if wr p3 = wr p4 then 1 else 0 else 0) → Ev (d + 1) mX1_reasonAgainst 141 [none, some (iv p0), none, none, none, none, none, some (iv y16), none] [iv j21] (cS Ls t μ) (.inl (some (iv r))) (cS Ls t μ) := by
                    intro j21 ej21
                    subst ej21
                    refine ev_istore (pc' := 143) (L1 := [none, some (iv p0), none, none, none, none, none, some (iv y16), some (iv (if wr p1 = wr p2 then if wr p3 = wr p4 then 1 else 0 else 0))]) dX1_reasonAgainst_141 rfl rfl ?_
                    refine ev_iload_n (pc' := 144) dX1_reasonAgainst_143 rfl rfl ?_
                    refine ev_iconst (pc' := 145) dX1_reasonAgainst_144 rfl ?_
                    refine ev_icmpne (pc' := 148) (tgt := 162) dX1_reasonAgainst_145 (by decide) rfl (x1 := wr p0) (y1 := 2) rfl wl_2  (fun c22 => ?_) (fun c22 => ?_)
                    · replace h := qit c22 h
                      refine ev_iload (pc' := 150) dX1_reasonAgainst_148 rfl rfl ?_
                      refine ev_ifne (pc' := 153) (tgt := 158) dX1_reasonAgainst_150 (by decide) rfl (x1 := wr y16) rfl (fun c23 => ?_) (fun c23 => ?_)
                      · replace h := qit c23 h
                        refine ev_iload (pc' := 155) dX1_reasonAgainst_153 rfl rfl ?_
                        refine ev_ifeq (pc' := 158) (tgt := 162) dX1_reasonAgainst_155 (by decide) rfl (x1 := wr (if wr p1 = wr p2 then if wr p3 = wr p4 then 1 else 0 else 0)) rfl (fun c24 => ?_) (fun c24 => ?_)
                        · replace h := qit c24 h
                          refine ev_iconst (pc' := 163) dX1_reasonAgainst_162 rfl ?_
                          cases h
                          exact ev_ireturn dX1_reasonAgainst_163 rfl rfl
                        · replace h := qif' c24 h
                          refine ev_iconst (pc' := 159) dX1_reasonAgainst_158 rfl ?_
                          refine ev_goto (pc' := 163) dX1_reasonAgainst_159 (by decide) ?_
                          cases h
                          exact ev_ireturn dX1_reasonAgainst_163 rfl rfl
                      · replace h := qif' c23 h
                        refine ev_iconst (pc' := 159) dX1_reasonAgainst_158 rfl ?_
                        refine ev_goto (pc' := 163) dX1_reasonAgainst_159 (by decide) ?_
                        cases h
                        exact ev_ireturn dX1_reasonAgainst_163 rfl rfl
                    · replace h := qif' c22 h
                      refine ev_iconst (pc' := 163) dX1_reasonAgainst_162 rfl ?_
                      cases h
                      exact ev_ireturn dX1_reasonAgainst_163 rfl rfl
                  refine ev_icmpne (pc' := 129) (tgt := 140) dX1_reasonAgainst_126 (by decide) rfl (x1 := wr p1) (y1 := wr p2) rfl rfl  (fun c19 => ?_) (fun c19 => ?_)
                  · skip
                    refine ev_iload (pc' := 131) dX1_reasonAgainst_129 rfl rfl ?_
                    refine ev_iload (pc' := 133) dX1_reasonAgainst_131 rfl rfl ?_
                    refine ev_icmpne (pc' := 136) (tgt := 140) dX1_reasonAgainst_133 (by decide) rfl (x1 := wr p3) (y1 := wr p4) rfl rfl  (fun c25 => ?_) (fun c25 => ?_)
                    · skip
                      refine ev_iconst (pc' := 137) dX1_reasonAgainst_136 rfl ?_
                      refine ev_goto (pc' := 141) dX1_reasonAgainst_137 (by decide) ?_
                      exact ev_wk (qLe_eq (qLe_eq (qLe_sk (qLe_sk (qLe_sk (qLe_sk (qLe_eq (qLe_eq (qLe_eq qLe_nil))))))))) (k20 _ (qet c19 (qet c25 rfl)))
                    · skip
                      refine ev_iconst (pc' := 141) dX1_reasonAgainst_140 rfl ?_
                      exact ev_wk (qLe_eq (qLe_eq (qLe_sk (qLe_sk (qLe_sk (qLe_sk (qLe_eq (qLe_eq (qLe_eq qLe_nil))))))))) (k20 _ (qet c19 (qef c25 rfl)))
                  · skip
                    refine ev_iconst (pc' := 141) dX1_reasonAgainst_140 rfl ?_
                    exact ev_wk (qLe_eq (qLe_eq (qLe_sk (qLe_sk (qLe_sk (qLe_sk (qLe_eq (qLe_eq (qLe_eq qLe_nil))))))))) (k20 _ (qef c19 rfl))
                replace h := hy16
                clear hy16
                refine ev_ifgt (pc' := 107) (tgt := 117) dX1_reasonAgainst_104 (by decide) rfl (x1 := wr y14) rfl (fun c15 => ?_) (fun c15 => ?_)
                · replace h := qit c15 h
                  refine ev_iconst (pc' := 118) dX1_reasonAgainst_117 rfl ?_
                  refine ev_goto (pc' := 122) dX1_reasonAgainst_118 (by decide) ?_
                  cases h
                  exact ev_wk (qLe_sk (qLe_eq (qLe_eq (qLe_eq (qLe_eq (qLe_eq (qLe_eq (qLe_eq (qLe_eq qLe_nil))))))))) kJ
                · replace h := qif' c15 h
                  refine ev_aload_n (pc' := 108) dX1_reasonAgainst_107 rfl rfl ?_
                  refine ev_iload_n (pc' := 109) dX1_reasonAgainst_108 rfl rfl ?_
                  refine ev_iload (pc' := 111) dX1_reasonAgainst_109 rfl rfl ?_
                  replace h := qbd h; obtain ⟨y17, hy17, h⟩ := h
                  refine ev_callg (pc' := 114) (st2 := [iv y17]) dX1_reasonAgainst_111 (qs_V tc_1_32 rfl rfl (cS_cls hg.1) rfl) rfl rfl (eX1_between (d := d + 0) hg hy17) rfl rfl ?_
                  refine ev_ifle (pc' := 117) (tgt := 121) dX1_reasonAgainst_114 (by decide) rfl (x1 := wr y17) rfl (fun c18 => ?_) (fun c18 => ?_)
                  · replace h := qit c18 h
                    refine ev_iconst (pc' := 118) dX1_reasonAgainst_117 rfl ?_
                    refine ev_goto (pc' := 122) dX1_reasonAgainst_118 (by decide) ?_
                    cases h
                    exact ev_wk (qLe_sk (qLe_eq (qLe_eq (qLe_eq (qLe_eq (qLe_eq (qLe_eq (qLe_eq (qLe_eq qLe_nil))))))))) kJ
                  · replace h := qif' c18 h
                    refine ev_iconst (pc' := 122) dX1_reasonAgainst_121 rfl ?_
                    cases h
                    exact ev_wk (qLe_sk (qLe_eq (qLe_eq (qLe_eq (qLe_eq (qLe_eq (qLe_eq (qLe_eq (qLe_eq qLe_nil))))))))) kJ
              · replace h := qif' c13 h
                refine ev_iload_n (pc' := 84) dX1_reasonAgainst_83 rfl rfl ?_
                refine ev_iload (pc' := 86) dX1_reasonAgainst_84 rfl rfl ?_
                refine ev_icmpeq (pc' := 89) (tgt := 95) dX1_reasonAgainst_86 (by decide) rfl (x1 := wr p1) (y1 := wr p3) rfl rfl  (fun c26 => ?_) (fun c26 => ?_)
                · replace h := qit c26 h
                  refine ev_iconst (pc' := 96) dX1_reasonAgainst_95 rfl ?_
                  cases h
                  exact ev_ireturn dX1_reasonAgainst_96 rfl rfl
                · replace h := qif' c26 h
                  refine ev_iload_n (pc' := 90) dX1_reasonAgainst_89 rfl rfl ?_
                  refine ev_iload (pc' := 92) dX1_reasonAgainst_90 rfl rfl ?_
                  refine ev_icmpne (pc' := 95) (tgt := 97) dX1_reasonAgainst_92 (by decide) rfl (x1 := wr p2) (y1 := wr p4) rfl rfl  (fun c27 => ?_) (fun c27 => ?_)
                  · replace h := qit c27 h
                    refine ev_iconst (pc' := 96) dX1_reasonAgainst_95 rfl ?_
                    cases h
                    exact ev_ireturn dX1_reasonAgainst_96 rfl rfl
                  · replace h := qif' c27 h
                    refine ev_aload_n (pc' := 98) dX1_reasonAgainst_97 rfl rfl ?_
                    refine ev_iload_n (pc' := 99) dX1_reasonAgainst_98 rfl rfl ?_
                    refine ev_iload (pc' := 101) dX1_reasonAgainst_99 rfl rfl ?_
                    replace h := qbd h; obtain ⟨y28, hy28, h⟩ := h
                    refine ev_callg (pc' := 104) (st2 := [iv y28]) dX1_reasonAgainst_101 (qs_V tc_1_32 rfl rfl (cS_cls hg.1) rfl) rfl rfl (eX1_between (d := d + 0) hg hy28) rfl rfl ?_
                    replace h := qbd h; obtain ⟨y30, hy30, h⟩ := h
                    have kJ : Ev (d + 1) mX1_reasonAgainst 122 [none, some (iv p0), some (iv p1), some (iv p2), some (iv p3), some (iv p4), none, none, none] [iv y30] (cS Ls t μ) (.inl (some (iv r))) (cS Ls t μ) := by
                      refine ev_istore (pc' := 124) (L1 := [none, some (iv p0), some (iv p1), some (iv p2), some (iv p3), some (iv p4), none, some (iv y30), none]) dX1_reasonAgainst_122 rfl rfl ?_
                      refine ev_iload_n (pc' := 125) dX1_reasonAgainst_124 rfl rfl ?_
                      refine ev_iload_n (pc' := 126) dX1_reasonAgainst_125 rfl rfl ?_
                      have k34 : ∀ j35 : Int, j35 = (if wr p1 = wr p2 then if wr p3 = wr p4 then 1 else 0 else 0) → Ev (d + 1) mX1_reasonAgainst 141 [none, some (iv p0), none, none, none, none, none, some (iv y30), none] [iv j35] (cS Ls t μ) (.inl (some (iv r))) (cS Ls t μ) := by
                        intro j35 ej35
                        subst ej35
                        refine ev_istore (pc' := 143) (L1 := [none, some (iv p0), none, none, none, none, none, some (iv y30), some (iv (if wr p1 = wr p2 then if wr p3 = wr p4 then 1 else 0 else 0))]) dX1_reasonAgainst_141 rfl rfl ?_
                        refine ev_iload_n (pc' := 144) dX1_reasonAgainst_143 rfl rfl ?_
                        refine ev_iconst (pc' := 145) dX1_reasonAgainst_144 rfl ?_
                        refine ev_icmpne (pc' := 148) (tgt := 162) dX1_reasonAgainst_145 (by decide) rfl (x1 := wr p0) (y1 := 2) rfl wl_2  (fun c36 => ?_) (fun c36 => ?_)
                        · replace h := qit c36 h
                          refine ev_iload (pc' := 150) dX1_reasonAgainst_148 rfl rfl ?_
                          refine ev_ifne (pc' := 153) (tgt := 158) dX1_reasonAgainst_150 (by decide) rfl (x1 := wr y30) rfl (fun c37 => ?_) (fun c37 => ?_)
                          · replace h := qit c37 h
                            refine ev_iload (pc' := 155) dX1_reasonAgainst_153 rfl rfl ?_
                            refine ev_ifeq (pc' := 158) (tgt := 162) dX1_reasonAgainst_155 (by decide) rfl (x1 := wr (if wr p1 = wr p2 then if wr p3 = wr p4 then 1 else 0 else 0)) rfl (fun c38 => ?_) (fun c38 => ?_)
                            · replace h := qit c38 h
                              refine ev_iconst (pc' := 163) dX1_reasonAgainst_162 rfl ?_
                              cases h
                              exact ev_ireturn dX1_reasonAgainst_163 rfl rfl
                            · replace h := qif' c38 h
                              refine ev_iconst (pc' := 159) dX1_reasonAgainst_158 rfl ?_
                              refine ev_goto (pc' := 163) dX1_reasonAgainst_159 (by decide) ?_
                              cases h
                              exact ev_ireturn dX1_reasonAgainst_163 rfl rfl
                          · replace h := qif' c37 h
                            refine ev_iconst (pc' := 159) dX1_reasonAgainst_158 rfl ?_
                            refine ev_goto (pc' := 163) dX1_reasonAgainst_159 (by decide) ?_
                            cases h
                            exact ev_ireturn dX1_reasonAgainst_163 rfl rfl
                        · replace h := qif' c36 h
                          refine ev_iconst (pc' := 163) dX1_reasonAgainst_162 rfl ?_
                          cases h
                          exact ev_ireturn dX1_reasonAgainst_163 rfl rfl
                      refine ev_icmpne (pc' := 129) (tgt := 140) dX1_reasonAgainst_126 (by decide) rfl (x1 := wr p1) (y1 := wr p2) rfl rfl  (fun c33 => ?_) (fun c33 => ?_)
                      · skip
                        refine ev_iload (pc' := 131) dX1_reasonAgainst_129 rfl rfl ?_
                        refine ev_iload (pc' := 133) dX1_reasonAgainst_131 rfl rfl ?_
                        refine ev_icmpne (pc' := 136) (tgt := 140) dX1_reasonAgainst_133 (by decide) rfl (x1 := wr p3) (y1 := wr p4) rfl rfl  (fun c39 => ?_) (fun c39 => ?_)
                        · skip
                          refine ev_iconst (pc' := 137) dX1_reasonAgainst_136 rfl ?_
                          refine ev_goto (pc' := 141) dX1_reasonAgainst_137 (by decide) ?_
                          exact ev_wk (qLe_eq (qLe_eq (qLe_sk (qLe_sk (qLe_sk (qLe_sk (qLe_eq (qLe_eq (qLe_eq qLe_nil))))))))) (k34 _ (qet c33 (qet c39 rfl)))
                        · skip
                          refine ev_iconst (pc' := 141) dX1_reasonAgainst_140 rfl ?_
                          exact ev_wk (qLe_eq (qLe_eq (qLe_sk (qLe_sk (qLe_sk (qLe_sk (qLe_eq (qLe_eq (qLe_eq qLe_nil))))))))) (k34 _ (qet c33 (qef c39 rfl)))
                      · skip
                        refine ev_iconst (pc' := 141) dX1_reasonAgainst_140 rfl ?_
                        exact ev_wk (qLe_eq (qLe_eq (qLe_sk (qLe_sk (qLe_sk (qLe_sk (qLe_eq (qLe_eq (qLe_eq qLe_nil))))))))) (k34 _ (qef c33 rfl))
                    replace h := hy30
                    clear hy30
                    refine ev_ifgt (pc' := 107) (tgt := 117) dX1_reasonAgainst_104 (by decide) rfl (x1 := wr y28) rfl (fun c29 => ?_) (fun c29 => ?_)
                    · replace h := qit c29 h
                      refine ev_iconst (pc' := 118) dX1_reasonAgainst_117 rfl ?_
                      refine ev_goto (pc' := 122) dX1_reasonAgainst_118 (by decide) ?_
                      cases h
                      exact ev_wk (qLe_sk (qLe_eq (qLe_eq (qLe_eq (qLe_eq (qLe_eq (qLe_eq (qLe_eq (qLe_eq qLe_nil))))))))) kJ
                    · replace h := qif' c29 h
                      refine ev_aload_n (pc' := 108) dX1_reasonAgainst_107 rfl rfl ?_
                      refine ev_iload_n (pc' := 109) dX1_reasonAgainst_108 rfl rfl ?_
                      refine ev_iload (pc' := 111) dX1_reasonAgainst_109 rfl rfl ?_
                      replace h := qbd h; obtain ⟨y31, hy31, h⟩ := h
                      refine ev_callg (pc' := 114) (st2 := [iv y31]) dX1_reasonAgainst_111 (qs_V tc_1_32 rfl rfl (cS_cls hg.1) rfl) rfl rfl (eX1_between (d := d + 0) hg hy31) rfl rfl ?_
                      refine ev_ifle (pc' := 117) (tgt := 121) dX1_reasonAgainst_114 (by decide) rfl (x1 := wr y31) rfl (fun c32 => ?_) (fun c32 => ?_)
                      · replace h := qit c32 h
                        refine ev_iconst (pc' := 118) dX1_reasonAgainst_117 rfl ?_
                        refine ev_goto (pc' := 122) dX1_reasonAgainst_118 (by decide) ?_
                        cases h
                        exact ev_wk (qLe_sk (qLe_eq (qLe_eq (qLe_eq (qLe_eq (qLe_eq (qLe_eq (qLe_eq (qLe_eq qLe_nil))))))))) kJ
                      · replace h := qif' c32 h
                        refine ev_iconst (pc' := 122) dX1_reasonAgainst_121 rfl ?_
                        cases h
                        exact ev_wk (qLe_sk (qLe_eq (qLe_eq (qLe_eq (qLe_eq (qLe_eq (qLe_eq (qLe_eq (qLe_eq qLe_nil))))))))) kJ
      refine ev_ifeq (pc' := 55) (tgt := 59) dX1_reasonAgainst_52 (by decide) rfl (x1 := wr (if wr p1 = wr p3 then if wr p2 = wr p4 then 1 else if wr p1 = wr p4 then if wr p2 = wr p3 then 1 else 0 else 0 else if wr p1 = wr p4 then if wr p2 = wr p3 then 1 else 0 else 0)) rfl (fun c7 => ?_) (fun c7 => ?_)
      · skip
        refine ev_iconst (pc' := 60) dX1_reasonAgainst_59 rfl ?_
        exact ev_wk (qLe_eq (qLe_eq (qLe_eq (qLe_eq (qLe_eq (qLe_eq (qLe_sk (qLe_eq (qLe_eq qLe_nil))))))))) (k8 _ (qet c7 rfl))
      · skip
        refine ev_iconst (pc' := 56) dX1_reasonAgainst_55 rfl ?_
        refine ev_goto (pc' := 60) dX1_reasonAgainst_56 (by decide) ?_
        exact ev_wk (qLe_eq (qLe_eq (qLe_eq (qLe_eq (qLe_eq (qLe_eq (qLe_sk (qLe_eq (qLe_eq qLe_nil))))))))) (k8 _ (qef c7 rfl))
    refine ev_icmpne (pc' := 17) (tgt := 23) dX1_reasonAgainst_14 (by decide) rfl (x1 := wr p1) (y1 := wr p3) rfl rfl  (fun c3 => ?_) (fun c3 => ?_)
    · skip
      refine ev_iload_n (pc' := 18) dX1_reasonAgainst_17 rfl rfl ?_
      refine ev_iload (pc' := 20) dX1_reasonAgainst_18 rfl rfl ?_
      refine ev_icmpeq (pc' := 23) (tgt := 35) dX1_reasonAgainst_20 (by decide) rfl (x1 := wr p2) (y1 := wr p4) rfl rfl  (fun c40 => ?_) (fun c40 => ?_)
      · skip
        refine ev_iconst (pc' := 36) dX1_reasonAgainst_35 rfl ?_
        refine ev_goto (pc' := 40) dX1_reasonAgainst_36 (by decide) ?_
        exact ev_wk (qLe_eq (qLe_eq (qLe_eq (qLe_eq (qLe_eq (qLe_eq (qLe_eq (qLe_eq (qLe_eq qLe_nil))))))))) (k4 _ (qet c3 (qet c40 rfl)))
      · skip
        refine ev_iload_n (pc' := 24) dX1_reasonAgainst_23 rfl rfl ?_
        refine ev_iload (pc' := 26) dX1_reasonAgainst_24 rfl rfl ?_
        refine ev_icmpne (pc' := 29) (tgt := 39) dX1_reasonAgainst_26 (by decide) rfl (x1 := wr p1) (y1 := wr p4) rfl rfl  (fun c41 => ?_) (fun c41 => ?_)
        · skip
          refine ev_iload_n (pc' := 30) dX1_reasonAgainst_29 rfl rfl ?_
          refine ev_iload (pc' := 32) dX1_reasonAgainst_30 rfl rfl ?_
          refine ev_icmpne (pc' := 35) (tgt := 39) dX1_reasonAgainst_32 (by decide) rfl (x1 := wr p2) (y1 := wr p3) rfl rfl  (fun c42 => ?_) (fun c42 => ?_)
          · skip
            refine ev_iconst (pc' := 36) dX1_reasonAgainst_35 rfl ?_
            refine ev_goto (pc' := 40) dX1_reasonAgainst_36 (by decide) ?_
            exact ev_wk (qLe_eq (qLe_eq (qLe_eq (qLe_eq (qLe_eq (qLe_eq (qLe_eq (qLe_eq (qLe_eq qLe_nil))))))))) (k4 _ (qet c3 (qef c40 (qet c41 (qet c42 rfl)))))
          · skip
            refine ev_iconst (pc' := 40) dX1_reasonAgainst_39 rfl ?_
            exact ev_wk (qLe_eq (qLe_eq (qLe_eq (qLe_eq (qLe_eq (qLe_eq (qLe_eq (qLe_eq (qLe_eq qLe_nil))))))))) (k4 _ (qet c3 (qef c40 (qet c41 (qef c42 rfl)))))
        · skip
          refine ev_iconst (pc' := 40) dX1_reasonAgainst_39 rfl ?_
          exact ev_wk (qLe_eq (qLe_eq (qLe_eq (qLe_eq (qLe_eq (qLe_eq (qLe_eq (qLe_eq (qLe_eq qLe_nil))))))))) (k4 _ (qet c3 (qef c40 (qef c41 rfl))))
    · skip
      refine ev_iload_n (pc' := 24) dX1_reasonAgainst_23 rfl rfl ?_
      refine ev_iload (pc' := 26) dX1_reasonAgainst_24 rfl rfl ?_
      refine ev_icmpne (pc' := 29) (tgt := 39) dX1_reasonAgainst_26 (by decide) rfl (x1 := wr p1) (y1 := wr p4) rfl rfl  (fun c43 => ?_) (fun c43 => ?_)
      · skip
        refine ev_iload_n (pc' := 30) dX1_reasonAgainst_29 rfl rfl ?_
        refine ev_iload (pc' := 32) dX1_reasonAgainst_30 rfl rfl ?_
        refine ev_icmpne (pc' := 35) (tgt := 39) dX1_reasonAgainst_32 (by decide) rfl (x1 := wr p2) (y1 := wr p3) rfl rfl  (fun c44 => ?_) (fun c44 => ?_)
        · skip
          refine ev_iconst (pc' := 36) dX1_reasonAgainst_35 rfl ?_
          refine ev_goto (pc' := 40) dX1_reasonAgainst_36 (by decide) ?_
          exact ev_wk (qLe_eq (qLe_eq (qLe_eq (qLe_eq (qLe_eq (qLe_eq (qLe_eq (qLe_eq (qLe_eq qLe_nil))))))))) (k4 _ (qef c3 (qet c43 (qet c44 rfl))))
        · skip
          refine ev_iconst (pc' := 40) dX1_reasonAgainst_39 rfl ?_
          exact ev_wk (qLe_eq (qLe_eq (qLe_eq (qLe_eq (qLe_eq (qLe_eq (qLe_eq (qLe_eq (qLe_eq qLe_nil))))))))) (k4 _ (qef c3 (qet c43 (qef c44 rfl))))
      · skip
        refine ev_iconst (pc' := 40) dX1_reasonAgainst_39 rfl ?_
        exact ev_wk (qLe_eq (qLe_eq (qLe_eq (qLe_eq (qLe_eq (qLe_eq (qLe_eq (qLe_eq (qLe_eq qLe_nil))))))))) (k4 _ (qef c3 (qef c43 rfl)))
set_option maxRecDepth 100000 in
theorem eX9_reason {Ls t d : Nat} {p0 : Int} {p1 : Int} {p2 : Int} {p3 : Int} {μ : qMu} {r : (Int ⊕ Nat)} (h : fX9_reason p0 p1 p2 p3 μ = some r) : Ev (d + 3) mX9_reason 0 [some (.ref 0), some (iv p0), some (iv p1), some (iv p2), some (iv p3)] [] (cS Ls t μ) (qRi r) (cS Ls (qTt t r) μ) := by
  unfold fX9_reason at h
  refine ev_aload_n (pc' := 1) dX9_reason_0 rfl rfl ?_
  refine ev_iload_n (pc' := 2) dX9_reason_1 rfl rfl ?_
  refine ev_iload_n (pc' := 3) dX9_reason_2 rfl rfl ?_
  refine ev_iload_n (pc' := 4) dX9_reason_3 rfl rfl ?_
  refine ev_iload (pc' := 6) dX9_reason_4 rfl rfl ?_
  replace h := qbd h; obtain ⟨y1, hy1, h⟩ := h
  have hcy1 := eX9_checkVertices (d := d + 0) (Ls := Ls) (t := t) hy1
  rcases y1 with v3 | E4
  · refine ev_callg (pc' := 9) (st2 := []) (s1 := cS Ls t μ) dX9_reason_6 (qs_V tc_9_202 rfl rfl (cS_cls sh0) rfl) rfl rfl hcy1 rfl rfl ?_
    replace h := qel h
    refine ev_aload_n (pc' := 10) dX9_reason_9 rfl rfl ?_
    refine ev_getr (pc' := 13) dX9_reason_10 rfl tf_9_19 sh0 rfl ?_
    refine ev_aload_n (pc' := 14) dX9_reason_13 rfl rfl ?_
    refine ev_geti (pc' := 17) (ki := 11) dX9_reason_14 rfl tf_9_74 sh0 rfl rfl ?_
    refine ev_iload_n (pc' := 18) dX9_reason_17 rfl rfl ?_
    refine ev_iload_n (pc' := 19) dX9_reason_18 rfl rfl ?_
    refine ev_iload_n (pc' := 20) dX9_reason_19 rfl rfl ?_
    refine ev_iload (pc' := 22) dX9_reason_20 rfl rfl ?_
    replace h := qbd h; obtain ⟨y5, hy5, h⟩ := h
    refine ev_callg (pc' := 25) (st2 := [iv y5]) dX9_reason_22 (qs_V tc_9_206 rfl rfl (cS_cls sh11) rfl) rfl rfl (eX1_reasonAgainst (d := d + 1) gG11 hy5) rfl rfl ?_
    cases h
    exact ev_ireturn dX9_reason_25 rfl rfl
  · replace h := qer h
    cases h
    exact ev_callx dX9_reason_6 (qs_V tc_9_202 rfl rfl (cS_cls sh0) rfl) rfl hcy1 rfl rfl
set_option maxRecDepth 100000 in
theorem eX9_checkEdge {Ls t d : Nat} {p0 : Int} {p1 : Int} {μ : qMu} {r : (Int ⊕ Nat)} (h : fX9_checkEdge p0 p1 μ = some r) : Ev (d + 1) mX9_checkEdge 0 [some (.ref 0), some (iv p0), some (iv p1)] [] (cS Ls t μ) (qRv r) (cS Ls (qTt t r) μ) := by
  unfold fX9_checkEdge at h
  refine ev_aload_n (pc' := 1) dX9_checkEdge_0 rfl rfl ?_
  refine ev_getr (pc' := 4) dX9_checkEdge_1 rfl tf_9_19 sh0 rfl ?_
  refine ev_iload_n (pc' := 5) dX9_checkEdge_4 rfl rfl ?_
  refine ev_iload_n (pc' := 6) dX9_checkEdge_5 rfl rfl ?_
  replace h := qbd h; obtain ⟨y1, hy1, h⟩ := h
  refine ev_callg (pc' := 9) (st2 := [iv y1]) dX9_checkEdge_6 (qs_V tc_9_137 rfl rfl (cS_cls sh11) rfl) rfl rfl (eX1_between (d := d + 0) gG11 hy1) rfl rfl ?_
  refine ev_ifne (pc' := 12) (tgt := 23) dX9_checkEdge_9 (by decide) rfl (x1 := wr y1) rfl (fun c2 => ?_) (fun c2 => ?_)
  · replace h := qit c2 h
    cases h
    exact ev_throww dX9_checkEdge_12 tn_9_240 dX9_checkEdge_15 dX9_checkEdge_16 dX9_checkEdge_19 dX9_checkEdge_22 tx_9_240_318 rfl rfl
  · replace h := qif' c2 h
    cases h
    exact ev_return dX9_checkEdge_23 rfl
set_option maxRecDepth 100000 in
theorem eX2_remember {Ls t d n : Nat} {p0 : Nat} {p1 : Nat} {p2 : Int} {μ : qMu} {r : qMu} (hp0 : gG p0) (hp1 : gG p1) (h : fX2_remember n p0 p1 p2 μ = some r) : Ev (d + 1) mX2_remember 0 [some (.ref 32), some (.ref p0), some (.ref p1), some (iv p2)] [] (cS Ls t μ) (.inl none) (cS Ls t r) := by
  unfold fX2_remember at h
  refine ev_aload_n (pc' := 1) dX2_remember_0 rfl rfl ?_
  refine ev_getr (pc' := 4) dX2_remember_1 rfl tf_2_11 sh32 rfl ?_
  refine ev_aload_n (pc' := 5) dX2_remember_4 rfl rfl ?_
  refine ev_geti (pc' := 8) (ki := 4) dX2_remember_5 rfl tf_2_26 sh32 rfl rfl ?_
  replace h := qbd h; obtain ⟨x1, hx1, h⟩ := h
  refine ev_aald (ty := 5) (Or.inl rfl) (pc' := 9) dX2_remember_8 rfl sh33 hx1 ?_
  refine ev_aload_n (pc' := 10) dX2_remember_9 rfl rfl ?_
  replace h := qbd h; obtain ⟨y2, hy2, h⟩ := h
  refine ev_callg (pc' := 13) (st2 := []) dX2_remember_10 (qs_V tc_2_30 rfl rfl (cS_cls ((gP33 hx1)).1) rfl) rfl rfl (eX1_become (d := d + 0) (gP33 hx1) hp0 hy2) rfl rfl ?_
  refine ev_aload_n (pc' := 14) dX2_remember_13 rfl rfl ?_
  refine ev_getr (pc' := 17) dX2_remember_14 rfl tf_2_15 sh32 rfl ?_
  refine ev_aload_n (pc' := 18) dX2_remember_17 rfl rfl ?_
  refine ev_geti (pc' := 21) (ki := 4) dX2_remember_18 rfl tf_2_26 sh32 rfl rfl ?_
  replace h := qbd h; obtain ⟨x3, hx3, h⟩ := h
  refine ev_aald (ty := 5) (Or.inl rfl) (pc' := 22) dX2_remember_21 rfl sh34 hx3 ?_
  refine ev_aload_n (pc' := 23) dX2_remember_22 rfl rfl ?_
  replace h := qbd h; obtain ⟨y4, hy4, h⟩ := h
  refine ev_callg (pc' := 26) (st2 := []) dX2_remember_23 (qs_V tc_2_30 rfl rfl (cS_cls ((gP34 hx3)).1) rfl) rfl rfl (eX1_become (d := d + 0) (gP34 hx3) hp1 hy4) rfl rfl ?_
  refine ev_aload_n (pc' := 27) dX2_remember_26 rfl rfl ?_
  refine ev_getr (pc' := 30) dX2_remember_27 rfl tf_2_18 sh32 rfl ?_
  refine ev_aload_n (pc' := 31) dX2_remember_30 rfl rfl ?_
  refine ev_geti (pc' := 34) (ki := 4) dX2_remember_31 rfl tf_2_26 sh32 rfl rfl ?_
  refine ev_iload_n (pc' := 35) dX2_remember_34 rfl rfl ?_
  replace h := qbd h; obtain ⟨μ5, hμ5, h⟩ := h
  refine ev_iast (pc' := 36) dX2_remember_35 rfl sh35 hμ5 ?_
  refine ev_aload_n (pc' := 37) dX2_remember_36 rfl rfl ?_
  refine ev_aload_n (pc' := 38) dX2_remember_37 rfl rfl ?_
  refine ev_geti (pc' := 41) (ki := 4) dX2_remember_38 rfl tf_2_26 sh32 rfl rfl ?_
  refine ev_iconst (pc' := 42) dX2_remember_41 rfl ?_
  refine ev_iadd (pc' := 43) dX2_remember_42 rfl ?_
  refine ev_bipush (pc' := 45) dX2_remember_43 rfl bl_10 ?_
  have k7 : ∀ j8 : Int, j8 = (if wr ((rd μ5 32 4) + 1) < 10 then ((rd μ5 32 4) + 1) else 0) → Ev (d + 1) mX2_remember 58 [some (.ref 32), none, none, none] [iv j8, .ref 32] (cS Ls t μ5) (.inl none) (cS Ls t r) := by
    intro j8 ej8
    subst ej8
    replace h := qbd h; obtain ⟨μ9, hμ9, h⟩ := h
    refine ev_puti (pc' := 61) dX2_remember_58 rfl tf_2_26 sh32 rfl rfl (qw_1_4 _) rfl hμ9 ?_
    refine ev_aload_n (pc' := 62) dX2_remember_61 rfl rfl ?_
    refine ev_aload_n (pc' := 63) dX2_remember_62 rfl rfl ?_
    refine ev_geti (pc' := 66) (ki := 3) dX2_remember_63 rfl tf_2_22 sh32 rfl rfl ?_
    refine ev_iconst (pc' := 67) dX2_remember_66 rfl ?_
    refine ev_iadd (pc' := 68) dX2_remember_67 rfl ?_
    refine ev_bipush (pc' := 70) dX2_remember_68 rfl bl_10 ?_
    refine ev_min (pc' := 73) dX2_remember_70 rfl tc_2_34 rfl ?_
    replace h := qbd h; obtain ⟨μ10, hμ10, h⟩ := h
    refine ev_puti (pc' := 76) dX2_remember_73 rfl tf_2_22 sh32 rfl rfl (qw_1_3 _) rfl hμ10 ?_
    cases h
    exact ev_return dX2_remember_76 rfl
  refine ev_icmpge (pc' := 48) (tgt := 57) dX2_remember_45 (by decide) rfl (x1 := wr ((rd μ5 32 4) + 1)) (y1 := 10) rfl wl_10  (fun c6 => ?_) (fun c6 => ?_)
  · skip
    refine ev_aload_n (pc' := 49) dX2_remember_48 rfl rfl ?_
    refine ev_geti (pc' := 52) (ki := 4) dX2_remember_49 rfl tf_2_26 sh32 rfl rfl ?_
    refine ev_iconst (pc' := 53) dX2_remember_52 rfl ?_
    refine ev_iadd (pc' := 54) dX2_remember_53 rfl ?_
    refine ev_goto (pc' := 58) dX2_remember_54 (by decide) ?_
    exact ev_wk (qLe_eq (qLe_sk (qLe_sk (qLe_sk qLe_nil)))) (k7 _ (qet c6 rfl))
  · skip
    refine ev_iconst (pc' := 58) dX2_remember_57 rfl ?_
    exact ev_wk (qLe_eq (qLe_sk (qLe_sk (qLe_sk qLe_nil)))) (k7 _ (qef c6 rfl))
set_option maxRecDepth 100000 in
theorem eX9_remember {Ls t d n : Nat} {μ : qMu} {r : qMu} (h : fX9_remember n μ = some r) : Ev (d + 2) mX9_remember 0 [some (.ref 0)] [] (cS Ls t μ) (.inl none) (cS Ls t r) := by
  unfold fX9_remember at h
  refine ev_aload_n (pc' := 1) dX9_remember_0 rfl rfl ?_
  refine ev_getr (pc' := 4) dX9_remember_1 rfl tf_9_63 sh0 rfl ?_
  refine ev_aload_n (pc' := 5) dX9_remember_4 rfl rfl ?_
  refine ev_getr (pc' := 8) dX9_remember_5 rfl tf_9_19 sh0 rfl ?_
  refine ev_aload_n (pc' := 9) dX9_remember_8 rfl rfl ?_
  refine ev_getr (pc' := 12) dX9_remember_9 rfl tf_9_23 sh0 rfl ?_
  refine ev_aload_n (pc' := 13) dX9_remember_12 rfl rfl ?_
  refine ev_geti (pc' := 16) (ki := 11) dX9_remember_13 rfl tf_9_74 sh0 rfl rfl ?_
  replace h := qbd h; obtain ⟨y1, hy1, h⟩ := h
  refine ev_callg (pc' := 19) (st2 := []) dX9_remember_16 (qs_V tc_9_328 rfl rfl (cS_cls sh32) rfl) rfl rfl (eX2_remember (d := d + 0) gG11 gG13 hy1) rfl rfl ?_
  cases h
  exact ev_return dX9_remember_19 rfl
set_option maxRecDepth 100000 in
theorem eX9_removeEdge {Ls t d n : Nat} {p0 : Int} {p1 : Int} {μ : qMu} {r : (Int ⊕ Nat) × qMu} (h : fX9_removeEdge n p0 p1 μ = some r) : Ev (d + 3) mX9_removeEdge 0 [some (.ref 0), some (iv p0), some (iv p1)] [] (cS Ls t μ) (qRi r.1) (cS Ls (qTt t r.1) r.2) := by
  unfold fX9_removeEdge at h
  refine ev_aload_n (pc' := 1) dX9_removeEdge_0 rfl rfl ?_
  refine ev_iload_n (pc' := 2) dX9_removeEdge_1 rfl rfl ?_
  replace h := qbd h; obtain ⟨y1, hy1, h⟩ := h
  have hcy1 := eX9_checkVertex (d := d + 1) (Ls := Ls) (t := t) hy1
  rcases y1 with v3 | E4
  · refine ev_callg (pc' := 5) (st2 := []) (s1 := cS Ls t μ) dX9_removeEdge_2 (qs_V tc_9_134 rfl rfl (cS_cls sh0) rfl) rfl rfl hcy1 rfl rfl ?_
    replace h := qel h
    refine ev_aload_n (pc' := 6) dX9_removeEdge_5 rfl rfl ?_
    refine ev_iload_n (pc' := 7) dX9_removeEdge_6 rfl rfl ?_
    replace h := qbd h; obtain ⟨y5, hy5, h⟩ := h
    have hcy5 := eX9_checkVertex (d := d + 1) (Ls := Ls) (t := t) hy5
    rcases y5 with v7 | E8
    · refine ev_callg (pc' := 10) (st2 := []) (s1 := cS Ls t μ) dX9_removeEdge_7 (qs_V tc_9_134 rfl rfl (cS_cls sh0) rfl) rfl rfl hcy5 rfl rfl ?_
      replace h := qel h
      refine ev_aload_n (pc' := 11) dX9_removeEdge_10 rfl rfl ?_
      refine ev_iload_n (pc' := 12) dX9_removeEdge_11 rfl rfl ?_
      refine ev_iload_n (pc' := 13) dX9_removeEdge_12 rfl rfl ?_
      replace h := qbd h; obtain ⟨y9, hy9, h⟩ := h
      have hcy9 := eX9_checkEdge (d := d + 1) (Ls := Ls) (t := t) hy9
      rcases y9 with v11 | E12
      · refine ev_callg (pc' := 16) (st2 := []) (s1 := cS Ls t μ) dX9_removeEdge_13 (qs_V tc_9_170 rfl rfl (cS_cls sh0) rfl) rfl rfl hcy9 rfl rfl ?_
        replace h := qel h
        refine ev_aload_n (pc' := 17) dX9_removeEdge_16 rfl rfl ?_
        replace h := qbd h; obtain ⟨y13, hy13, h⟩ := h
        refine ev_callg (pc' := 20) (st2 := []) dX9_removeEdge_17 (qs_V tc_9_273 rfl rfl (cS_cls sh0) rfl) rfl rfl (eX9_remember (d := d + 0) hy13) rfl rfl ?_
        refine ev_aload_n (pc' := 21) dX9_removeEdge_20 rfl rfl ?_
        refine ev_getr (pc' := 24) dX9_removeEdge_21 rfl tf_9_19 sh0 rfl ?_
        refine ev_iload_n (pc' := 25) dX9_removeEdge_24 rfl rfl ?_
        refine ev_iload_n (pc' := 26) dX9_removeEdge_25 rfl rfl ?_
        refine ev_iconst (pc' := 27) dX9_removeEdge_26 rfl ?_
        replace h := qbd h; obtain ⟨y14, hy14, h⟩ := h
        refine ev_callg (pc' := 30) (st2 := []) dX9_removeEdge_27 (qs_V tc_9_276 rfl rfl (cS_cls sh11) rfl) rfl rfl (eX1_put (d := d + 2) gG11 hy14) rfl rfl ?_
        refine ev_aload_n (pc' := 31) dX9_removeEdge_30 rfl rfl ?_
        refine ev_getr (pc' := 34) dX9_removeEdge_31 rfl tf_9_19 sh0 rfl ?_
        refine ev_iload_n (pc' := 35) dX9_removeEdge_34 rfl rfl ?_
        refine ev_iload_n (pc' := 36) dX9_removeEdge_35 rfl rfl ?_
        replace h := qbd h; obtain ⟨y15, hy15, h⟩ := h
        refine ev_callg (pc' := 39) (st2 := [iv y15]) dX9_removeEdge_36 (qs_V tc_9_137 rfl rfl (cS_cls sh11) rfl) rfl rfl (eX1_between (d := d + 2) gG11 hy15) rfl rfl ?_
        cases h
        exact ev_ireturn dX9_removeEdge_39 rfl rfl
      · replace h := qer h
        cases h
        exact ev_callx dX9_removeEdge_13 (qs_V tc_9_170 rfl rfl (cS_cls sh0) rfl) rfl hcy9 rfl rfl
    · replace h := qer h
      cases h
      exact ev_callx dX9_removeEdge_7 (qs_V tc_9_134 rfl rfl (cS_cls sh0) rfl) rfl hcy5 rfl rfl
  · replace h := qer h
    cases h
    exact ev_callx dX9_removeEdge_2 (qs_V tc_9_134 rfl rfl (cS_cls sh0) rfl) rfl hcy1 rfl rfl
set_option maxRecDepth 100000 in
theorem eX9_setMode {Ls t d n : Nat} {p0 : Int} {μ : qMu} {r : (Int ⊕ Nat) × qMu} (h : fX9_setMode n p0 μ = some r) : Ev (d + 3) mX9_setMode 0 [some (.ref 0), some (iv p0), none] [] (cS Ls t μ) (qRi r.1) (cS Ls (qTt t r.1) r.2) := by
  unfold fX9_setMode at h
  refine ev_aload_n (pc' := 1) dX9_setMode_0 rfl rfl ?_
  refine ev_iload_n (pc' := 2) dX9_setMode_1 rfl rfl ?_
  replace h := qbd h; obtain ⟨y1, hy1, h⟩ := h
  have hcy1 := eX9_checkMode (d := d + 2) (Ls := Ls) (t := t) hy1
  rcases y1 with v3 | E4
  · refine ev_callg (pc' := 5) (st2 := []) (s1 := cS Ls t μ) dX9_setMode_2 (qs_V tc_9_196 rfl rfl (cS_cls sh0) rfl) rfl rfl hcy1 rfl rfl ?_
    replace h := qel h
    refine ev_aload_n (pc' := 6) dX9_setMode_5 rfl rfl ?_
    replace h := qbd h; obtain ⟨y5, hy5, h⟩ := h
    refine ev_callg (pc' := 9) (st2 := []) dX9_setMode_6 (qs_V tc_9_273 rfl rfl (cS_cls sh0) rfl) rfl rfl (eX9_remember (d := d + 0) hy5) rfl rfl ?_
    refine ev_aload_n (pc' := 10) dX9_setMode_9 rfl rfl ?_
    refine ev_geti (pc' := 13) (ki := 11) dX9_setMode_10 rfl tf_9_74 sh0 rfl rfl ?_
    refine ev_istore_n (pc' := 14) (L1 := [some (.ref 0), some (iv p0), some (iv (rd y5 0 11))]) dX9_setMode_13 rfl rfl ?_
    refine ev_aload_n (pc' := 15) dX9_setMode_14 rfl rfl ?_
    refine ev_iload_n (pc' := 16) dX9_setMode_15 rfl rfl ?_
    replace h := qbd h; obtain ⟨μ6, hμ6, h⟩ := h
    refine ev_puti (pc' := 19) dX9_setMode_16 rfl tf_9_74 sh0 rfl rfl (qw_8_11 _) rfl hμ6 ?_
    refine ev_iload_n (pc' := 20) dX9_setMode_19 rfl rfl ?_
    cases h
    exact ev_ireturn dX9_setMode_20 rfl rfl
  · replace h := qer h
    cases h
    exact ev_callx dX9_setMode_2 (qs_V tc_9_196 rfl rfl (cS_cls sh0) rfl) rfl hcy1 rfl rfl
set_option maxRecDepth 100000 in
theorem eL_among {Ls t d : Nat} {p0 : Int} {p1 : Int} {μ : qMu} {r : Int} (h : fL_among p0 p1 μ = some r) : Ev (d + 0) mL_among 0 [some (iv p0), some (iv p1), none] [] (cS Ls t μ) (.inl (some (iv r))) (cS Ls t μ) := by
  unfold fL_among at h
  refine ev_iload_n (pc' := 1) dL_among_0 rfl rfl ?_
  refine ev_iload_n (pc' := 2) dL_among_1 rfl rfl ?_
  replace h := qbd h; obtain ⟨u1, hu1, h⟩ := h
  refine ev_irem (pc' := 3) dL_among_2 rfl (qnz_ok hu1) ?_
  refine ev_istore_n (pc' := 4) (L1 := [some (iv p0), some (iv p1), some (iv (irm p0 p1))]) dL_among_3 rfl rfl ?_
  refine ev_iload_n (pc' := 5) dL_among_4 rfl rfl ?_
  refine ev_ifge (pc' := 8) (tgt := 14) dL_among_5 (by decide) rfl (x1 := wr (irm p0 p1)) rfl (fun c2 => ?_) (fun c2 => ?_)
  · replace h := qit c2 h
    refine ev_iload_n (pc' := 9) dL_among_8 rfl rfl ?_
    refine ev_iload_n (pc' := 10) dL_among_9 rfl rfl ?_
    refine ev_iadd (pc' := 11) dL_among_10 rfl ?_
    refine ev_goto (pc' := 15) dL_among_11 (by decide) ?_
    cases h
    exact ev_ireturn dL_among_15 rfl rfl
  · replace h := qif' c2 h
    refine ev_iload_n (pc' := 15) dL_among_14 rfl rfl ?_
    cases h
    exact ev_ireturn dL_among_15 rfl rfl
set_option maxRecDepth 100000 in
theorem eL_cell {Ls t d : Nat} {p1 : Int} {μ : qMu} {r : Int} (hLs : Ls ≤ 5000) (h : fL_cell Ls p1 μ = some r) : Ev (d + 0) mL_cell 0 [some (.ref 1001000), some (iv p1)] [] (cS Ls t μ) (.inl (some (iv r))) (cS Ls t μ) := by
  unfold fL_cell at h
  refine ev_iload_n (pc' := 1) dL_cell_0 rfl rfl ?_
  refine ev_aload_n (pc' := 2) dL_cell_1 rfl rfl ?_
  refine ev_slen0 (pc' := 3) dL_cell_2 rfl ?_
  refine ev_icmpge (pc' := 6) (tgt := 12) dL_cell_3 (by decide) rfl (x1 := wr p1) (y1 := wr (Ls : Int)) rfl rfl  (fun c1 => ?_) (fun c1 => ?_)
  · replace h := qit c1 h
    refine ev_aload_n (pc' := 7) dL_cell_6 rfl rfl ?_
    refine ev_iload_n (pc' := 8) dL_cell_7 rfl rfl ?_
    replace h := qbd h; obtain ⟨x2, hx2, h⟩ := h
    refine ev_sald (pc' := 9) hLs dL_cell_8 rfl hx2 ?_
    refine ev_goto (pc' := 23) dL_cell_9 (by decide) ?_
    cases h
    exact ev_ireturn dL_cell_23 rfl rfl
  · replace h := qif' c1 h
    refine ev_sipush (pc' := 15) dL_cell_12 rfl sl_7919 ?_
    refine ev_iload_n (pc' := 16) dL_cell_15 rfl rfl ?_
    refine ev_sipush (pc' := 19) dL_cell_16 rfl sl_1000 ?_
    refine ev_irem (pc' := 20) dL_cell_19 rfl zl_1000 ?_
    refine ev_imul (pc' := 21) dL_cell_20 rfl ?_
    refine ev_iconst (pc' := 22) dL_cell_21 rfl ?_
    refine ev_iadd (pc' := 23) dL_cell_22 rfl ?_
    cases h
    exact ev_ireturn dL_cell_23 rfl rfl
set_option maxRecDepth 100000 in
theorem eJ0_coder_7d493 {Ls t d : Nat} {o : Nat} {μ : qMu} {r : Int} (h : fJ0_coder_7d493 o μ = some r) : Ev (d + 0) mJ0_coder_7d493 0 [some (.ref o)] [] (cS Ls t μ) (.inl (some (iv r))) (cS Ls t μ) := by
  unfold fJ0_coder_7d493 at h
  refine ev_gst0 (pc' := 3) dJ0_coder_7d493_0 rfl tg_11_38 ?_
  refine ev_ifeq (pc' := 6) (tgt := 13) dJ0_coder_7d493_3 (by decide) rfl (x1 := 1) wl_1 (fun c1 => absurd c1 (by decide)) (fun _ => ?_)
  refine ev_aload_n (pc' := 7) dJ0_coder_7d493_6 rfl rfl ?_
  replace h := qbd h; obtain ⟨x2, hx2, h⟩ := h
  refine ev_getij (pc' := 10) (ki := 1) dJ0_coder_7d493_7 rfl tf_11_15 rfl hx2 ?_
  refine ev_goto (pc' := 14) dJ0_coder_7d493_10 (by decide) ?_
  replace h := qbd h; obtain ⟨x3, hx3, h⟩ := h
  obtain ⟨ex3, nx3⟩ := qbt_n hx3
  subst ex3
  cases h
  exact ev_ireturn dJ0_coder_7d493_14 rfl nx3
set_option maxRecDepth 100000 in
theorem eJ0_length_8abf5 {Ls t d : Nat} {o : Nat} {μ : qMu} {r : Int} (h : fJ0_length_8abf5 o μ = some r) : Ev (d + 1) mJ0_length_8abf5 0 [some (.ref o)] [] (cS Ls t μ) (.inl (some (iv r))) (cS Ls t μ) := by
  unfold fJ0_length_8abf5 at h
  refine ev_aload_n (pc' := 1) dJ0_length_8abf5_0 rfl rfl ?_
  replace h := qbd h; obtain ⟨x1, hx1, h⟩ := h
  refine ev_getrj (pc' := 4) dJ0_length_8abf5_1 rfl tf_11_9 hx1 ?_
  replace h := qbd h; obtain ⟨x2, hx2, h⟩ := h
  refine ev_alenj (pc' := 5) dJ0_length_8abf5_4 rfl hx2 ?_
  refine ev_aload_n (pc' := 6) dJ0_length_8abf5_5 rfl rfl ?_
  replace h := qbd h; obtain ⟨u3, hu3, h⟩ := h
  replace h := qbd h; obtain ⟨y4, hy4, h⟩ := h
  refine ev_callg (pc' := 9) (st2 := [iv y4, iv x2]) dJ0_length_8abf5_6 (qs_Vx tc_11_335 (Or.inl rfl) rfl rfl (qCk_x hu3) rfl) rfl rfl (eJ0_coder_7d493 (d := d + 0) hy4) rfl rfl ?_
  refine ev_ishr (pc' := 10) dJ0_length_8abf5_9 rfl ?_
  cases h
  exact ev_ireturn dJ0_length_8abf5_10 rfl rfl
set_option maxRecDepth 100000 in
theorem eJ0_isLatin1_aae02 {Ls t d : Nat} {o : Nat} {μ : qMu} {r : Int} (h : fJ0_isLatin1_aae02 o μ = some r) : Ev (d + 0) mJ0_isLatin1_aae02 0 [some (.ref o)] [] (cS Ls t μ) (.inl (some (iv r))) (cS Ls t μ) := by
  unfold fJ0_isLatin1_aae02 at h
  refine ev_gst0 (pc' := 3) dJ0_isLatin1_aae02_0 rfl tg_11_38 ?_
  refine ev_ifeq (pc' := 6) (tgt := 17) dJ0_isLatin1_aae02_3 (by decide) rfl (x1 := 1) wl_1 (fun c1 => absurd c1 (by decide)) (fun _ => ?_)
  refine ev_aload_n (pc' := 7) dJ0_isLatin1_aae02_6 rfl rfl ?_
  replace h := qbd h; obtain ⟨x2, hx2, h⟩ := h
  refine ev_getij (pc' := 10) (ki := 1) dJ0_isLatin1_aae02_7 rfl tf_11_15 rfl hx2 ?_
  refine ev_ifne (pc' := 13) (tgt := 17) dJ0_isLatin1_aae02_10 (by decide) rfl (x1 := wr x2) rfl (fun c3 => ?_) (fun c3 => ?_)
  · replace h := qit c3 h
    refine ev_iconst (pc' := 14) dJ0_isLatin1_aae02_13 rfl ?_
    refine ev_goto (pc' := 18) dJ0_isLatin1_aae02_14 (by decide) ?_
    cases h
    exact ev_ireturn dJ0_isLatin1_aae02_18 rfl rfl
  · replace h := qif' c3 h
    refine ev_iconst (pc' := 18) dJ0_isLatin1_aae02_17 rfl ?_
    cases h
    exact ev_ireturn dJ0_isLatin1_aae02_18 rfl rfl
set_option maxRecDepth 100000 in
theorem eJ1_charAt_3b067 {Ls t d : Nat} {p0 : Nat} {p1 : Int} {μ : qMu} {r : Int} (h : fJ1_charAt_3b067 p0 p1 μ = some r) : Ev (d + 0) mJ1_charAt_3b067 0 [some (.ref p0), some (iv p1)] [] (cS Ls t μ) (.inl (some (iv r))) (cS Ls t μ) := by
  unfold fJ1_charAt_3b067 at h
  refine ev_iload_n (pc' := 1) dJ1_charAt_3b067_0 rfl rfl ?_
  refine ev_aload_n (pc' := 2) dJ1_charAt_3b067_1 rfl rfl ?_
  replace h := qbd h; obtain ⟨x1, hx1, h⟩ := h
  refine ev_alenj (pc' := 3) dJ1_charAt_3b067_2 rfl hx1 ?_
  replace h := qbd h; obtain ⟨u2, hu2, h⟩ := h
  refine ev_chkix (pc' := 6) dJ1_charAt_3b067_3 rfl tc_15_9 rfl (qIx_ok hu2) ?_
  refine ev_aload_n (pc' := 7) dJ1_charAt_3b067_6 rfl rfl ?_
  refine ev_iload_n (pc' := 8) dJ1_charAt_3b067_7 rfl rfl ?_
  replace h := qbd h; obtain ⟨x3, hx3, h⟩ := h
  refine ev_baldj (pc' := 9) dJ1_charAt_3b067_8 rfl hx3 ?_
  refine ev_sipush (pc' := 12) dJ1_charAt_3b067_9 rfl sl_255 ?_
  refine ev_iand (pc' := 13) dJ1_charAt_3b067_12 rfl ?_
  refine ev_i2c (pc' := 14) dJ1_charAt_3b067_13 rfl ?_
  replace h := qbd h; obtain ⟨x4, hx4, h⟩ := h
  obtain ⟨ex4, nx4⟩ := qch_n hx4
  subst ex4
  cases h
  exact ev_ireturn dJ1_charAt_3b067_14 rfl nx4
set_option maxRecDepth 100000 in
theorem eJ0_charAt_5068e {Ls t d : Nat} {o : Nat} {p0 : Int} {μ : qMu} {r : Int} (h : fJ0_charAt_5068e o p0 μ = some r) : Ev (d + 1) mJ0_charAt_5068e 0 [some (.ref o), some (iv p0)] [] (cS Ls t μ) (.inl (some (iv r))) (cS Ls t μ) := by
  unfold fJ0_charAt_5068e at h
  refine ev_aload_n (pc' := 1) dJ0_charAt_5068e_0 rfl rfl ?_
  replace h := qbd h; obtain ⟨u1, hu1, h⟩ := h
  replace h := qbd h; obtain ⟨y2, hy2, h⟩ := h
  refine ev_callg (pc' := 4) (st2 := [iv y2]) dJ0_charAt_5068e_1 (qs_Vx tc_11_492 (Or.inl rfl) rfl rfl (qCk_x hu1) rfl) rfl rfl (eJ0_isLatin1_aae02 (d := d + 0) hy2) rfl rfl ?_
  refine ev_ifeq (pc' := 7) (tgt := 16) dJ0_charAt_5068e_4 (by decide) rfl (x1 := wr y2) rfl (fun c3 => ?_) (fun c3 => ?_)
  · replace h := qit c3 h
    refine ev_aload_n (pc' := 17) dJ0_charAt_5068e_16 rfl rfl ?_
    replace h := qbd h; obtain ⟨x4, hx4, h⟩ := h
    refine ev_getrj (pc' := 20) dJ0_charAt_5068e_17 rfl tf_11_9 hx4 ?_
    refine ev_iload_n (pc' := 21) dJ0_charAt_5068e_20 rfl rfl ?_
    cases h
  · replace h := qif' c3 h
    refine ev_aload_n (pc' := 8) dJ0_charAt_5068e_7 rfl rfl ?_
    replace h := qbd h; obtain ⟨x5, hx5, h⟩ := h
    refine ev_getrj (pc' := 11) dJ0_charAt_5068e_8 rfl tf_11_9 hx5 ?_
    refine ev_iload_n (pc' := 12) dJ0_charAt_5068e_11 rfl rfl ?_
    replace h := qbd h; obtain ⟨y6, hy6, h⟩ := h
    refine ev_callg (pc' := 15) (st2 := [iv y6]) dJ0_charAt_5068e_12 (qs_S tc_11_495 (by decide) rfl rfl) rfl rfl (eJ1_charAt_3b067 (d := d + 0) hy6) rfl rfl ?_
    replace h := qbd h; obtain ⟨x7, hx7, h⟩ := h
    obtain ⟨ex7, nx7⟩ := qch_n hx7
    subst ex7
    cases h
    exact ev_ireturn dJ0_charAt_5068e_15 rfl nx7
set_option maxRecDepth 100000 in
theorem ebL_four_4 {Ls t d n : Nat} {w0 : Nat} {w1 : Int} {μ : qMu} : ∀ (k : Nat) (x : Int × Int) (y : Int), lp (fun x : Int × Int => bL_four_4 n w0 w1 x.1 x.2 μ) k x = some y → ∀ (o : qO) (s' : qSt), Ev (d + 2) mL_four 41 [none, none, some (iv y), none] [] (cS Ls t μ) o s' → Ev (d + 2) mL_four 4 [some (.ref w0), some (iv w1), some (iv x.1), some (iv x.2)] [] (cS Ls t μ) o s' := by
  intro k
  induction k with
  | zero => intro x y h; cases h
  | succ k ih =>
    intro x y h o s' kE
    rw [lp_s] at h
    replace h := qbd h; obtain ⟨zz, h0, h1⟩ := h
    have h : bL_four_4 n w0 w1 x.1 x.2 μ = some zz := h0
    clear h0
    unfold bL_four_4 at h
    refine ev_iload_n (pc' := 5) dL_four_4 rfl rfl ?_
    refine ev_iload_n (pc' := 6) dL_four_5 rfl rfl ?_
    refine ev_iconst (pc' := 7) dL_four_6 rfl ?_
    refine ev_iadd (pc' := 8) dL_four_7 rfl ?_
    refine ev_icmpge (pc' := 11) (tgt := 41) dL_four_8 (by decide) rfl (x1 := wr x.2) (y1 := wr (w1 + 4)) rfl rfl  (fun c1 => ?_) (fun c1 => ?_)
    · replace h := qit c1 h
      refine ev_iload_n (pc' := 12) dL_four_11 rfl rfl ?_
      refine ev_bipush (pc' := 14) dL_four_12 rfl bl_8 ?_
      refine ev_ishl (pc' := 15) dL_four_14 rfl ?_
      refine ev_iload_n (pc' := 16) dL_four_15 rfl rfl ?_
      refine ev_aload_n (pc' := 17) dL_four_16 rfl rfl ?_
      replace h := qbd h; obtain ⟨u2, hu2, h⟩ := h
      replace h := qbd h; obtain ⟨y3, hy3, h⟩ := h
      refine ev_callg (pc' := 20) (st2 := [iv y3, iv x.2, iv (ishl x.1 8)]) dL_four_17 (qs_Vx tc_10_18 (Or.inl rfl) rfl rfl (qCk_x hu2) rfl) rfl rfl (eJ0_length_8abf5 (d := d + 0) hy3) rfl rfl ?_
      replace h := qbd h; obtain ⟨y5, hy5, h⟩ := h
      have kJ : Ev (d + 2) mL_four 33 [some (.ref w0), some (iv w1), none, some (iv x.2)] [iv y5, iv (ishl x.1 8)] (cS Ls t μ) o s' := by
        refine ev_ior (pc' := 34) dL_four_33 rfl ?_
        refine ev_istore_n (pc' := 35) (L1 := [some (.ref w0), some (iv w1), some (iv (io (ishl x.1 8) y5)), some (iv x.2)]) dL_four_34 rfl rfl ?_
        refine ev_iinc (pc' := 38) (x := x.2) (L1 := [some (.ref w0), some (iv w1), some (iv (io (ishl x.1 8) y5)), some (iv (x.2 + 1))]) dL_four_35 rfl rfl rfl ?_
        refine ev_goto (pc' := 4) dL_four_38 (by decide) ?_
        cases h
        exact ev_wk (qLe_eq (qLe_eq (qLe_eq (qLe_eq qLe_nil)))) (ih _ _ h1 _ _ kE)
      replace h := hy5
      clear hy5
      refine ev_icmpge (pc' := 23) (tgt := 31) dL_four_20 (by decide) rfl (x1 := wr x.2) (y1 := wr y3) rfl rfl  (fun c4 => ?_) (fun c4 => ?_)
      · replace h := qit c4 h
        refine ev_aload_n (pc' := 24) dL_four_23 rfl rfl ?_
        refine ev_iload_n (pc' := 25) dL_four_24 rfl rfl ?_
        replace h := qbd h; obtain ⟨u6, hu6, h⟩ := h
        replace h := qbd h; obtain ⟨y7, hy7, h⟩ := h
        refine ev_callg (pc' := 28) (st2 := [iv y7, iv (ishl x.1 8)]) dL_four_25 (qs_Vx tc_10_24 (Or.inl rfl) rfl rfl (qCk_x hu6) rfl) rfl rfl (eJ0_charAt_5068e (d := d + 0) hy7) rfl rfl ?_
        refine ev_goto (pc' := 33) dL_four_28 (by decide) ?_
        cases h
        exact ev_wk (qLe_eq (qLe_eq (qLe_sk (qLe_eq qLe_nil)))) kJ
      · replace h := qif' c4 h
        refine ev_bipush (pc' := 33) dL_four_31 rfl bl_32 ?_
        cases h
        exact ev_wk (qLe_eq (qLe_eq (qLe_sk (qLe_eq qLe_nil)))) kJ
    · replace h := qif' c1 h
      cases h
      cases h1
      exact ev_wk (qLe_sk (qLe_sk (qLe_eq (qLe_sk qLe_nil)))) kE
set_option maxRecDepth 100000 in
theorem eL_four {Ls t d n : Nat} {p0 : Nat} {p1 : Int} {μ : qMu} {r : Int} (h : fL_four n p0 p1 μ = some r) : Ev (d + 2) mL_four 0 [some (.ref p0), some (iv p1), none, none] [] (cS Ls t μ) (.inl (some (iv r))) (cS Ls t μ) := by
  unfold fL_four at h
  refine ev_iconst (pc' := 1) dL_four_0 rfl ?_
  refine ev_istore_n (pc' := 2) (L1 := [some (.ref p0), some (iv p1), some (iv 0), none]) dL_four_1 rfl rfl ?_
  refine ev_iload_n (pc' := 3) dL_four_2 rfl rfl ?_
  refine ev_istore_n (pc' := 4) (L1 := [some (.ref p0), some (iv p1), some (iv 0), some (iv p1)]) dL_four_3 rfl rfl ?_
  replace h := qbd h; obtain ⟨y8, hy8, h⟩ := h
  refine ev_wk (qLe_eq (qLe_eq (qLe_eq (qLe_eq qLe_nil)))) (?_ : Ev _ _ _ [some (.ref p0), some (iv p1), some (iv 0), some (iv p1)] _ _ _ _)
  refine ebL_four_4 _ _ _ hy8 _ _ ?_
  refine ev_iload_n (pc' := 42) dL_four_41 rfl rfl ?_
  cases h
  exact ev_ireturn dL_four_42 rfl rfl
set_option maxRecDepth 100000 in
theorem ebL_load_2 {Ls t d n : Nat} {w1 : Nat} : ∀ (k : Nat) (x : Int × qMu) (y : qMu), lp (fun x : Int × qMu => bL_load_2 n w1 x.1 x.2) k x = some y → ∀ (o : qO) (s' : qSt), Ev (d + 8) mL_load 57 [some (.ref 0), some (.ref w1), none] [] (cS Ls t y) o s' → Ev (d + 8) mL_load 2 [some (.ref 0), some (.ref w1), some (iv x.1)] [] (cS Ls t x.2) o s' := by
  intro k
  induction k with
  | zero => intro x y h; cases h
  | succ k ih =>
    intro x y h o s' kE
    rw [lp_s] at h
    replace h := qbd h; obtain ⟨zz, h0, h1⟩ := h
    have h : bL_load_2 n w1 x.1 x.2 = some zz := h0
    clear h0
    unfold bL_load_2 at h
    refine ev_iload_n (pc' := 3) dL_load_2 rfl rfl ?_
    refine ev_aload_n (pc' := 4) dL_load_3 rfl rfl ?_
    replace h := qbd h; obtain ⟨u1, hu1, h⟩ := h
    replace h := qbd h; obtain ⟨y2, hy2, h⟩ := h
    refine ev_callg (pc' := 7) (st2 := [iv y2, iv x.1]) dL_load_4 (qs_Vx tc_10_18 (Or.inl rfl) rfl rfl (qCk_x hu1) rfl) rfl rfl (eJ0_length_8abf5 (d := d + 6) hy2) rfl rfl ?_
    refine ev_icmpge (pc' := 10) (tgt := 57) dL_load_7 (by decide) rfl (x1 := wr x.1) (y1 := wr y2) rfl rfl  (fun c3 => ?_) (fun c3 => ?_)
    · replace h := qit c3 h
      refine ev_aload_n (pc' := 11) dL_load_10 rfl rfl ?_
      refine ev_aload_n (pc' := 12) dL_load_11 rfl rfl ?_
      refine ev_iload_n (pc' := 13) dL_load_12 rfl rfl ?_
      replace h := qbd h; obtain ⟨y4, hy4, h⟩ := h
      refine ev_callg (pc' := 16) (st2 := [iv y4, .ref 0]) dL_load_13 (qs_S tc_10_28 (by decide) rfl rfl) rfl rfl (eL_four (d := d + 5) hy4) rfl rfl ?_
      refine ev_aload_n (pc' := 17) dL_load_16 rfl rfl ?_
      refine ev_iload_n (pc' := 18) dL_load_17 rfl rfl ?_
      refine ev_iconst (pc' := 19) dL_load_18 rfl ?_
      refine ev_iadd (pc' := 20) dL_load_19 rfl ?_
      replace h := qbd h; obtain ⟨y5, hy5, h⟩ := h
      refine ev_callg (pc' := 23) (st2 := [iv y5, iv y4, .ref 0]) dL_load_20 (qs_S tc_10_28 (by decide) rfl rfl) rfl rfl (eL_four (d := d + 5) hy5) rfl rfl ?_
      refine ev_aload_n (pc' := 24) dL_load_23 rfl rfl ?_
      refine ev_iload_n (pc' := 25) dL_load_24 rfl rfl ?_
      refine ev_bipush (pc' := 27) dL_load_25 rfl bl_8 ?_
      refine ev_iadd (pc' := 28) dL_load_27 rfl ?_
      replace h := qbd h; obtain ⟨y6, hy6, h⟩ := h
      refine ev_callg (pc' := 31) (st2 := [iv y6, iv y5, iv y4, .ref 0]) dL_load_28 (qs_S tc_10_28 (by decide) rfl rfl) rfl rfl (eL_four (d := d + 5) hy6) rfl rfl ?_
      refine ev_aload_n (pc' := 32) dL_load_31 rfl rfl ?_
      refine ev_iload_n (pc' := 33) dL_load_32 rfl rfl ?_
      refine ev_bipush (pc' := 35) dL_load_33 rfl bl_12 ?_
      refine ev_iadd (pc' := 36) dL_load_35 rfl ?_
      replace h := qbd h; obtain ⟨y7, hy7, h⟩ := h
      refine ev_callg (pc' := 39) (st2 := [iv y7, iv y6, iv y5, iv y4, .ref 0]) dL_load_36 (qs_S tc_10_28 (by decide) rfl rfl) rfl rfl (eL_four (d := d + 5) hy7) rfl rfl ?_
      refine ev_aload_n (pc' := 40) dL_load_39 rfl rfl ?_
      refine ev_iload_n (pc' := 41) dL_load_40 rfl rfl ?_
      refine ev_bipush (pc' := 43) dL_load_41 rfl bl_16 ?_
      refine ev_iadd (pc' := 44) dL_load_43 rfl ?_
      replace h := qbd h; obtain ⟨y8, hy8, h⟩ := h
      refine ev_callg (pc' := 47) (st2 := [iv y8, iv y7, iv y6, iv y5, iv y4, .ref 0]) dL_load_44 (qs_S tc_10_28 (by decide) rfl rfl) rfl rfl (eL_four (d := d + 5) hy8) rfl rfl ?_
      replace h := qbd h; obtain ⟨y9, hy9, h⟩ := h
      refine ev_callg (pc' := 50) (st2 := [iv y9.1]) dL_load_47 (qs_V tc_10_32 rfl rfl (cS_cls sh0) rfl) rfl rfl (eX9_feed (d := d + 6) hy9) rfl rfl ?_
      refine ev_pop (pc' := 51) dL_load_50 rfl rfl ?_
      refine ev_iinc (pc' := 54) (x := x.1) (L1 := [some (.ref 0), some (.ref w1), some (iv (x.1 + 20))]) dL_load_51 rfl rfl rfl ?_
      refine ev_goto (pc' := 2) dL_load_54 (by decide) ?_
      cases h
      exact ev_wk (qLe_eq (qLe_eq (qLe_eq qLe_nil))) (ih _ _ h1 _ _ kE)
    · replace h := qif' c3 h
      cases h
      cases h1
      exact ev_wk (qLe_eq (qLe_eq (qLe_sk qLe_nil))) kE
set_option maxRecDepth 100000 in
theorem eL_load {Ls t d n : Nat} {p1 : Nat} {μ : qMu} {r : (Int ⊕ Nat) × qMu} (h : fL_load n p1 μ = some r) : Ev (d + 8) mL_load 0 [some (.ref 0), some (.ref p1), none] [] (cS Ls t μ) (qRi r.1) (cS Ls (qTt t r.1) r.2) := by
  unfold fL_load at h
  refine ev_iconst (pc' := 1) dL_load_0 rfl ?_
  refine ev_istore_n (pc' := 2) (L1 := [some (.ref 0), some (.ref p1), some (iv 0)]) dL_load_1 rfl rfl ?_
  replace h := qbd h; obtain ⟨y10, hy10, h⟩ := h
  refine ev_wk (qLe_eq (qLe_eq (qLe_eq qLe_nil))) (?_ : Ev _ _ _ [some (.ref 0), some (.ref p1), some (iv 0)] _ _ _ _)
  refine ebL_load_2 _ _ _ hy10 _ _ ?_
  refine ev_aload_n (pc' := 58) dL_load_57 rfl rfl ?_
  refine ev_aload_n (pc' := 59) dL_load_58 rfl rfl ?_
  replace h := qbd h; obtain ⟨u11, hu11, h⟩ := h
  replace h := qbd h; obtain ⟨y12, hy12, h⟩ := h
  refine ev_callg (pc' := 62) (st2 := [iv y12, .ref 0]) dL_load_59 (qs_Vx tc_10_18 (Or.inl rfl) rfl rfl (qCk_x hu11) rfl) rfl rfl (eJ0_length_8abf5 (d := d + 6) hy12) rfl rfl ?_
  replace h := qbd h; obtain ⟨y13, hy13, h⟩ := h
  have hcy13 := eX9_load (d := d + 0) (Ls := Ls) (t := t) hy13
  obtain ⟨y13v, μ17⟩ := y13
  rcases y13v with v15 | E16
  · refine ev_callg (pc' := 65) (st2 := [iv v15]) (s1 := cS Ls t μ17) dL_load_62 (qs_V tc_10_38 rfl rfl (cS_cls sh0) rfl) rfl rfl hcy13 rfl rfl ?_
    replace h := qel h
    cases h
    exact ev_ireturn dL_load_65 rfl rfl
  · replace h := qer h
    cases h
    exact ev_callx dL_load_62 (qs_V tc_10_38 rfl rfl (cS_cls sh0) rfl) rfl hcy13 rfl rfl
set_option maxRecDepth 100000 in
theorem eL_chosen {Ls t d : Nat} {p0 : Int} {μ : qMu} {r : Int × qMu} (hLs : Ls ≤ 5000) (h : fL_chosen Ls p0 μ = some r) : Ev (d + 1) mL_chosen 0 [some (.ref 78), some (iv p0), none] [] (cS Ls t μ) (.inl (some (iv r.1))) (cS Ls t r.2) := by
  unfold fL_chosen at h
  refine ev_aload_n (pc' := 1) dL_chosen_0 rfl rfl ?_
  refine ev_getr (pc' := 4) dL_chosen_1 rfl tf_10_7 sh78 rfl ?_
  refine ev_aload_n (pc' := 5) dL_chosen_4 rfl rfl ?_
  refine ev_geti (pc' := 8) (ki := 1) dL_chosen_5 rfl tf_10_42 sh78 rfl rfl ?_
  replace h := qbd h; obtain ⟨y1, hy1, h⟩ := h
  refine ev_callg (pc' := 11) (st2 := [iv y1]) dL_chosen_8 (qs_S tc_10_46 (by decide) rfl rfl) rfl rfl (eL_cell (d := d + 0) hLs hy1) rfl rfl ?_
  refine ev_iload_n (pc' := 12) dL_chosen_11 rfl rfl ?_
  replace h := qbd h; obtain ⟨y2, hy2, h⟩ := h
  refine ev_callg (pc' := 15) (st2 := [iv y2]) dL_chosen_12 (qs_S tc_10_50 (by decide) rfl rfl) rfl rfl (eL_among (d := d + 0) hy2) rfl rfl ?_
  refine ev_istore_n (pc' := 16) (L1 := [some (.ref 78), some (iv p0), some (iv y2)]) dL_chosen_15 rfl rfl ?_
  refine ev_aload_n (pc' := 17) dL_chosen_16 rfl rfl ?_
  refine ev_dup (pc' := 18) dL_chosen_17 rfl rfl ?_
  refine ev_geti (pc' := 21) (ki := 1) dL_chosen_18 rfl tf_10_42 sh78 rfl rfl ?_
  refine ev_iconst (pc' := 22) dL_chosen_21 rfl ?_
  refine ev_iadd (pc' := 23) dL_chosen_22 rfl ?_
  replace h := qbd h; obtain ⟨μ3, hμ3, h⟩ := h
  refine ev_puti (pc' := 26) dL_chosen_23 rfl tf_10_42 sh78 rfl rfl (qw_9_1 _) rfl hμ3 ?_
  refine ev_iload_n (pc' := 27) dL_chosen_26 rfl rfl ?_
  cases h
  exact ev_ireturn dL_chosen_27 rfl rfl
set_option maxRecDepth 100000 in
theorem eL_from {Ls t d : Nat} {p0 : Int} {p1 : Int} {μ : qMu} {r : Int × qMu} (hLs : Ls ≤ 5000) (h : fL_from Ls p0 p1 μ = some r) : Ev (d + 2) mL_from 0 [some (.ref 78), some (iv p0), some (iv p1)] [] (cS Ls t μ) (.inl (some (iv r.1))) (cS Ls t r.2) := by
  unfold fL_from at h
  refine ev_iload_n (pc' := 1) dL_from_0 rfl rfl ?_
  refine ev_aload_n (pc' := 2) dL_from_1 rfl rfl ?_
  refine ev_iload_n (pc' := 3) dL_from_2 rfl rfl ?_
  refine ev_iload_n (pc' := 4) dL_from_3 rfl rfl ?_
  refine ev_isub (pc' := 5) dL_from_4 rfl ?_
  refine ev_iconst (pc' := 6) dL_from_5 rfl ?_
  refine ev_iadd (pc' := 7) dL_from_6 rfl ?_
  replace h := qbd h; obtain ⟨y1, hy1, h⟩ := h
  refine ev_callg (pc' := 10) (st2 := [iv y1.1, iv p0]) dL_from_7 (qs_V tc_10_54 rfl rfl (cS_cls sh78) rfl) rfl rfl (eL_chosen (d := d + 0) hLs hy1) rfl rfl ?_
  refine ev_iadd (pc' := 11) dL_from_10 rfl ?_
  cases h
  exact ev_ireturn dL_from_11 rfl rfl
set_option maxRecDepth 100000 in
theorem eJ5_init_d00df {Ls t d : Nat} {o : Nat} {p0 : Int} {μ : qMu} {r : qMu} (ht : t = 0) (h : fJ5_init_d00df o p0 μ = some r) : Ev (d + 0) mJ5_init_d00df 0 [some (.ref o), some (iv p0)] [] (cS Ls t μ) (.inl none) (cS Ls t r) := by
  unfold fJ5_init_d00df at h
  refine ev_aload_n (pc' := 1) dJ5_init_d00df_0 rfl rfl ?_
  refine ev_oinit (mo := 7) (n := 0) (pc' := 4) dJ5_init_d00df_1 rfl tc_13_3 rfl ?_
  refine ev_gst0 (pc' := 7) dJ5_init_d00df_4 rfl tg_13_18 ?_
  refine ev_ifeq (pc' := 10) (tgt := 25) dJ5_init_d00df_7 (by decide) rfl (x1 := 1) wl_1 (fun c1 => absurd c1 (by decide)) (fun _ => ?_)
  refine ev_aload_n (pc' := 11) dJ5_init_d00df_10 rfl rfl ?_
  refine ev_iload_n (pc' := 12) dJ5_init_d00df_11 rfl rfl ?_
  replace h := qbd h; obtain ⟨y2, hy2, h⟩ := h
  refine ev_newa (pc' := 14) ht (Or.inr rfl) dJ5_init_d00df_12 rfl rfl hy2 ?_
  replace h := qbd h; obtain ⟨μ3, hμ3, h⟩ := h
  refine ev_putrj (pc' := 17) dJ5_init_d00df_14 rfl tf_13_15 rfl hμ3 ?_
  refine ev_aload_n (pc' := 18) dJ5_init_d00df_17 rfl rfl ?_
  refine ev_iconst (pc' := 19) dJ5_init_d00df_18 rfl ?_
  replace h := qbd h; obtain ⟨μ4, hμ4, h⟩ := h
  refine ev_putij (pc' := 22) (ki := 1) dJ5_init_d00df_19 rfl tf_13_22 rfl rfl hμ4 ?_
  refine ev_goto (pc' := 38) dJ5_init_d00df_22 (by decide) ?_
  cases h
  exact ev_return dJ5_init_d00df_38 rfl
set_option maxRecDepth 100000 in
theorem eJ4_init_da8c8 {Ls t d : Nat} {o : Nat} {μ : qMu} {r : qMu} (ht : t = 0) (h : fJ4_init_da8c8 o μ = some r) : Ev (d + 1) mJ4_init_da8c8 0 [some (.ref o)] [] (cS Ls t μ) (.inl none) (cS Ls t r) := by
  unfold fJ4_init_da8c8 at h
  refine ev_aload_n (pc' := 1) dJ4_init_da8c8_0 rfl rfl ?_
  refine ev_bipush (pc' := 3) dJ4_init_da8c8_1 rfl bl_16 ?_
  replace h := qbd h; obtain ⟨u1, hu1, h⟩ := h
  replace h := qbd h; obtain ⟨y2, hy2, h⟩ := h
  refine ev_callg (pc' := 6) (st2 := []) dJ4_init_da8c8_3 (qs_W tc_12_1 (by decide) rfl rfl (qCn_s hu1)) rfl rfl (eJ5_init_d00df (d := d + 0) ht hy2) rfl rfl ?_
  cases h
  exact ev_return dJ4_init_da8c8_6 rfl
set_option maxRecDepth 100000 in
theorem eJ8_newLength_cabcc {Ls t d : Nat} {p0 : Int} {p1 : Int} {p2 : Int} {μ : qMu} {r : Int} (h : fJ8_newLength_cabcc p0 p1 p2 μ = some r) : Ev (d + 0) mJ8_newLength_cabcc 0 [some (iv p0), some (iv p1), some (iv p2), none] [] (cS Ls t μ) (.inl (some (iv r))) (cS Ls t μ) := by
  unfold fJ8_newLength_cabcc at h
  refine ev_iload_n (pc' := 1) dJ8_newLength_cabcc_0 rfl rfl ?_
  refine ev_iload_n (pc' := 2) dJ8_newLength_cabcc_1 rfl rfl ?_
  refine ev_iload_n (pc' := 3) dJ8_newLength_cabcc_2 rfl rfl ?_
  refine ev_max (pc' := 6) dJ8_newLength_cabcc_3 rfl tc_17_194 rfl ?_
  refine ev_iadd (pc' := 7) dJ8_newLength_cabcc_6 rfl ?_
  refine ev_istore_n (pc' := 8) (L1 := [some (iv p0), some (iv p1), some (iv p2), some (iv (p0 + (mx p1 p2)))]) dJ8_newLength_cabcc_7 rfl rfl ?_
  refine ev_iconst (pc' := 9) dJ8_newLength_cabcc_8 rfl ?_
  refine ev_iload_n (pc' := 10) dJ8_newLength_cabcc_9 rfl rfl ?_
  refine ev_icmpge (pc' := 13) (tgt := 21) dJ8_newLength_cabcc_10 (by decide) rfl (x1 := 0) (y1 := wr (p0 + (mx p1 p2))) wl_0 rfl  (fun c1 => ?_) (fun c1 => ?_)
  · replace h := qit c1 h
    refine ev_iload_n (pc' := 14) dJ8_newLength_cabcc_13 rfl rfl ?_
    refine ev_ldci (pc' := 16) dJ8_newLength_cabcc_14 rfl tz_17_200 to_17_200 ?_
    refine ev_icmpgt (pc' := 19) (tgt := 21) dJ8_newLength_cabcc_16 (by decide) rfl (x1 := wr (p0 + (mx p1 p2))) (y1 := 2147483639) rfl wl_2147483639  (fun c2 => ?_) (fun c2 => ?_)
    · replace h := qit c2 h
      refine ev_iload_n (pc' := 22) dJ8_newLength_cabcc_21 rfl rfl ?_
      refine ev_iload_n (pc' := 23) dJ8_newLength_cabcc_22 rfl rfl ?_
      cases h
    · replace h := qif' c2 h
      refine ev_iload_n (pc' := 20) dJ8_newLength_cabcc_19 rfl rfl ?_
      cases h
      exact ev_ireturn dJ8_newLength_cabcc_20 rfl rfl
  · replace h := qif' c1 h
    refine ev_iload_n (pc' := 22) dJ8_newLength_cabcc_21 rfl rfl ?_
    refine ev_iload_n (pc' := 23) dJ8_newLength_cabcc_22 rfl rfl ?_
    cases h
set_option maxRecDepth 100000 in
theorem eJ5_newCapacity_0f7a4 {Ls t d : Nat} {o : Nat} {p0 : Int} {μ : qMu} {r : Int} (h : fJ5_newCapacity_0f7a4 o p0 μ = some r) : Ev (d + 1) mJ5_newCapacity_0f7a4 0 [some (.ref o), some (iv p0), none, none, none, none] [] (cS Ls t μ) (.inl (some (iv r))) (cS Ls t μ) := by
  unfold fJ5_newCapacity_0f7a4 at h
  refine ev_aload_n (pc' := 1) dJ5_newCapacity_0f7a4_0 rfl rfl ?_
  replace h := qbd h; obtain ⟨x1, hx1, h⟩ := h
  refine ev_getrj (pc' := 4) dJ5_newCapacity_0f7a4_1 rfl tf_13_15 hx1 ?_
  replace h := qbd h; obtain ⟨x2, hx2, h⟩ := h
  refine ev_alenj (pc' := 5) dJ5_newCapacity_0f7a4_4 rfl hx2 ?_
  refine ev_istore_n (pc' := 6) (L1 := [some (.ref o), some (iv p0), some (iv x2), none, none, none]) dJ5_newCapacity_0f7a4_5 rfl rfl ?_
  refine ev_iload_n (pc' := 7) dJ5_newCapacity_0f7a4_6 rfl rfl ?_
  refine ev_aload_n (pc' := 8) dJ5_newCapacity_0f7a4_7 rfl rfl ?_
  replace h := qbd h; obtain ⟨x3, hx3, h⟩ := h
  refine ev_getij (pc' := 11) (ki := 1) dJ5_newCapacity_0f7a4_8 rfl tf_13_22 rfl hx3 ?_
  refine ev_ishl (pc' := 12) dJ5_newCapacity_0f7a4_11 rfl ?_
  refine ev_istore_n (pc' := 13) (L1 := [some (.ref o), some (iv p0), some (iv x2), some (iv (ishl p0 x3)), none, none]) dJ5_newCapacity_0f7a4_12 rfl rfl ?_
  refine ev_iload_n (pc' := 14) dJ5_newCapacity_0f7a4_13 rfl rfl ?_
  refine ev_iload_n (pc' := 15) dJ5_newCapacity_0f7a4_14 rfl rfl ?_
  refine ev_isub (pc' := 16) dJ5_newCapacity_0f7a4_15 rfl ?_
  refine ev_istore (pc' := 18) (L1 := [some (.ref o), some (iv p0), some (iv x2), some (iv (ishl p0 x3)), some (iv ((ishl p0 x3) - x2)), none]) dJ5_newCapacity_0f7a4_16 rfl rfl ?_
  refine ev_iload_n (pc' := 19) dJ5_newCapacity_0f7a4_18 rfl rfl ?_
  refine ev_iload (pc' := 21) dJ5_newCapacity_0f7a4_19 rfl rfl ?_
  refine ev_iload_n (pc' := 22) dJ5_newCapacity_0f7a4_21 rfl rfl ?_
  refine ev_iconst (pc' := 23) dJ5_newCapacity_0f7a4_22 rfl ?_
  refine ev_aload_n (pc' := 24) dJ5_newCapacity_0f7a4_23 rfl rfl ?_
  replace h := qbd h; obtain ⟨x4, hx4, h⟩ := h
  refine ev_getij (pc' := 27) (ki := 1) dJ5_newCapacity_0f7a4_24 rfl tf_13_22 rfl hx4 ?_
  refine ev_ishl (pc' := 28) dJ5_newCapacity_0f7a4_27 rfl ?_
  refine ev_iadd (pc' := 29) dJ5_newCapacity_0f7a4_28 rfl ?_
  replace h := qbd h; obtain ⟨y5, hy5, h⟩ := h
  refine ev_callg (pc' := 32) (st2 := [iv y5]) dJ5_newCapacity_0f7a4_29 (qs_S tc_13_114 (by decide) rfl rfl) rfl rfl (eJ8_newLength_cabcc (d := d + 0) hy5) rfl rfl ?_
  refine ev_istore (pc' := 34) (L1 := [some (.ref o), some (iv p0), some (iv x2), some (iv (ishl p0 x3)), some (iv ((ishl p0 x3) - x2)), some (iv y5)]) dJ5_newCapacity_0f7a4_32 rfl rfl ?_
  refine ev_iload (pc' := 36) dJ5_newCapacity_0f7a4_34 rfl rfl ?_
  refine ev_ldci (pc' := 38) dJ5_newCapacity_0f7a4_36 rfl tz_13_39 to_13_39 ?_
  refine ev_icmpne (pc' := 41) (tgt := 51) dJ5_newCapacity_0f7a4_38 (by decide) rfl (x1 := wr y5) (y1 := 2147483647) rfl wl_2147483647  (fun c6 => ?_) (fun c6 => ?_)
  · replace h := qit c6 h
    cases h
  · replace h := qif' c6 h
    refine ev_iload (pc' := 53) dJ5_newCapacity_0f7a4_51 rfl rfl ?_
    refine ev_aload_n (pc' := 54) dJ5_newCapacity_0f7a4_53 rfl rfl ?_
    replace h := qbd h; obtain ⟨x7, hx7, h⟩ := h
    refine ev_getij (pc' := 57) (ki := 1) dJ5_newCapacity_0f7a4_54 rfl tf_13_22 rfl hx7 ?_
    refine ev_ishr (pc' := 58) dJ5_newCapacity_0f7a4_57 rfl ?_
    cases h
    exact ev_ireturn dJ5_newCapacity_0f7a4_58 rfl rfl
set_option maxRecDepth 100000 in
theorem eJ7_copyOf_9075b {Ls t d : Nat} {p0 : Nat} {p1 : Int} {μ : qMu} {r : Nat × qMu} (ht : t = 0) (h : fJ7_copyOf_9075b p0 p1 μ = some r) : Ev (d + 0) mJ7_copyOf_9075b 0 [some (.ref p0), some (iv p1), none] [] (cS Ls t μ) (.inl (some (.ref r.1))) (cS Ls t r.2) := by
  unfold fJ7_copyOf_9075b at h
  refine ev_iload_n (pc' := 1) dJ7_copyOf_9075b_0 rfl rfl ?_
  refine ev_aload_n (pc' := 2) dJ7_copyOf_9075b_1 rfl rfl ?_
  replace h := qbd h; obtain ⟨x1, hx1, h⟩ := h
  refine ev_alenj (pc' := 3) dJ7_copyOf_9075b_2 rfl hx1 ?_
  refine ev_icmpne (pc' := 6) (tgt := 14) dJ7_copyOf_9075b_3 (by decide) rfl (x1 := wr p1) (y1 := wr x1) rfl rfl  (fun c2 => ?_) (fun c2 => ?_)
  · replace h := qit c2 h
    refine ev_aload_n (pc' := 7) dJ7_copyOf_9075b_6 rfl rfl ?_
    replace h := qbd h; obtain ⟨y3, hy3, h⟩ := h
    refine ev_cln (pc' := 10) ht dJ7_copyOf_9075b_7 rfl tc_16_310 rfl hy3 ?_
    replace h := qbd h; obtain ⟨u4, hu4, h⟩ := h
    refine ev_chkc (pc' := 13) dJ7_copyOf_9075b_10 rfl ⟨rfl, rfl⟩ hu4 ?_
    cases h
    exact ev_areturnA dJ7_copyOf_9075b_13 rfl
  · replace h := qif' c2 h
    refine ev_iload_n (pc' := 15) dJ7_copyOf_9075b_14 rfl rfl ?_
    replace h := qbd h; obtain ⟨y5, hy5, h⟩ := h
    refine ev_newa (pc' := 17) ht (Or.inr rfl) dJ7_copyOf_9075b_15 rfl rfl hy5 ?_
    refine ev_astore_n (pc' := 18) (L1 := [some (.ref p0), some (iv p1), some (.ref y5.1)]) dJ7_copyOf_9075b_17 rfl rfl ?_
    refine ev_aload_n (pc' := 19) dJ7_copyOf_9075b_18 rfl rfl ?_
    refine ev_iconst (pc' := 20) dJ7_copyOf_9075b_19 rfl ?_
    refine ev_aload_n (pc' := 21) dJ7_copyOf_9075b_20 rfl rfl ?_
    refine ev_iconst (pc' := 22) dJ7_copyOf_9075b_21 rfl ?_
    refine ev_aload_n (pc' := 23) dJ7_copyOf_9075b_22 rfl rfl ?_
    replace h := qbd h; obtain ⟨x6, hx6, h⟩ := h
    refine ev_alenj (pc' := 24) dJ7_copyOf_9075b_23 rfl hx6 ?_
    refine ev_iload_n (pc' := 25) dJ7_copyOf_9075b_24 rfl rfl ?_
    refine ev_min (pc' := 28) dJ7_copyOf_9075b_25 rfl tc_16_304 rfl ?_
    replace h := qbd h; obtain ⟨μ7, hμ7, h⟩ := h
    refine ev_acp (pc' := 31) dJ7_copyOf_9075b_28 rfl tc_16_150 rfl hμ7 ?_
    refine ev_aload_n (pc' := 32) dJ7_copyOf_9075b_31 rfl rfl ?_
    cases h
    exact ev_areturnA dJ7_copyOf_9075b_32 rfl
set_option maxRecDepth 100000 in
theorem eJ5_ensureCapacityInternal_d00df {Ls t d : Nat} {o : Nat} {p0 : Int} {μ : qMu} {r : qMu} (ht : t = 0) (h : fJ5_ensureCapacityInternal_d00df o p0 μ = some r) : Ev (d + 2) mJ5_ensureCapacityInternal_d00df 0 [some (.ref o), some (iv p0), none] [] (cS Ls t μ) (.inl none) (cS Ls t r) := by
  unfold fJ5_ensureCapacityInternal_d00df at h
  refine ev_aload_n (pc' := 1) dJ5_ensureCapacityInternal_d00df_0 rfl rfl ?_
  replace h := qbd h; obtain ⟨x1, hx1, h⟩ := h
  refine ev_getrj (pc' := 4) dJ5_ensureCapacityInternal_d00df_1 rfl tf_13_15 hx1 ?_
  replace h := qbd h; obtain ⟨x2, hx2, h⟩ := h
  refine ev_alenj (pc' := 5) dJ5_ensureCapacityInternal_d00df_4 rfl hx2 ?_
  refine ev_aload_n (pc' := 6) dJ5_ensureCapacityInternal_d00df_5 rfl rfl ?_
  replace h := qbd h; obtain ⟨x3, hx3, h⟩ := h
  refine ev_getij (pc' := 9) (ki := 1) dJ5_ensureCapacityInternal_d00df_6 rfl tf_13_22 rfl hx3 ?_
  refine ev_ishr (pc' := 10) dJ5_ensureCapacityInternal_d00df_9 rfl ?_
  refine ev_istore_n (pc' := 11) (L1 := [some (.ref o), some (iv p0), some (iv (ishr x2 x3))]) dJ5_ensureCapacityInternal_d00df_10 rfl rfl ?_
  refine ev_iload_n (pc' := 12) dJ5_ensureCapacityInternal_d00df_11 rfl rfl ?_
  refine ev_iload_n (pc' := 13) dJ5_ensureCapacityInternal_d00df_12 rfl rfl ?_
  refine ev_isub (pc' := 14) dJ5_ensureCapacityInternal_d00df_13 rfl ?_
  refine ev_ifle (pc' := 17) (tgt := 38) dJ5_ensureCapacityInternal_d00df_14 (by decide) rfl (x1 := wr (p0 - (ishr x2 x3))) rfl (fun c4 => ?_) (fun c4 => ?_)
  · replace h := qit c4 h
    refine ev_aload_n (pc' := 18) dJ5_ensureCapacityInternal_d00df_17 rfl rfl ?_
    refine ev_aload_n (pc' := 19) dJ5_ensureCapacityInternal_d00df_18 rfl rfl ?_
    replace h := qbd h; obtain ⟨x5, hx5, h⟩ := h
    refine ev_getrj (pc' := 22) dJ5_ensureCapacityInternal_d00df_19 rfl tf_13_15 hx5 ?_
    refine ev_aload_n (pc' := 23) dJ5_ensureCapacityInternal_d00df_22 rfl rfl ?_
    refine ev_iload_n (pc' := 24) dJ5_ensureCapacityInternal_d00df_23 rfl rfl ?_
    replace h := qbd h; obtain ⟨u6, hu6, h⟩ := h
    replace h := qbd h; obtain ⟨y7, hy7, h⟩ := h
    refine ev_callg (pc' := 27) (st2 := [iv y7, .ref x5, .ref o]) dJ5_ensureCapacityInternal_d00df_24 (qs_U tc_13_104 rfl rfl (qCn_s hu6)) rfl rfl (eJ5_newCapacity_0f7a4 (d := d + 0) hy7) rfl rfl ?_
    refine ev_aload_n (pc' := 28) dJ5_ensureCapacityInternal_d00df_27 rfl rfl ?_
    replace h := qbd h; obtain ⟨x8, hx8, h⟩ := h
    refine ev_getij (pc' := 31) (ki := 1) dJ5_ensureCapacityInternal_d00df_28 rfl tf_13_22 rfl hx8 ?_
    refine ev_ishl (pc' := 32) dJ5_ensureCapacityInternal_d00df_31 rfl ?_
    replace h := qbd h; obtain ⟨y9, hy9, h⟩ := h
    refine ev_callg (pc' := 35) (st2 := [.ref y9.1, .ref o]) dJ5_ensureCapacityInternal_d00df_32 (qs_S tc_13_108 (by decide) rfl rfl) rfl rfl (eJ7_copyOf_9075b (d := d + 1) ht hy9) rfl rfl ?_
    replace h := qbd h; obtain ⟨μ10, hμ10, h⟩ := h
    refine ev_putrj (pc' := 38) dJ5_ensureCapacityInternal_d00df_35 rfl tf_13_15 rfl hμ10 ?_
    cases h
    exact ev_return dJ5_ensureCapacityInternal_d00df_38 rfl
  · replace h := qif' c4 h
    cases h
    exact ev_return dJ5_ensureCapacityInternal_d00df_38 rfl
set_option maxRecDepth 100000 in
theorem eJ5_inflateIfNeededFor_a7421 {Ls t d : Nat} {o : Nat} {p0 : Nat} {μ : qMu} {r : Unit} (h : fJ5_inflateIfNeededFor_a7421 o p0 μ = some r) : Ev (d + 1) mJ5_inflateIfNeededFor_a7421 0 [some (.ref o), some (.ref p0)] [] (cS Ls t μ) (.inl none) (cS Ls t μ) := by
  unfold fJ5_inflateIfNeededFor_a7421 at h
  refine ev_gst0 (pc' := 3) dJ5_inflateIfNeededFor_a7421_0 rfl tg_13_18 ?_
  refine ev_ifeq (pc' := 6) (tgt := 21) dJ5_inflateIfNeededFor_a7421_3 (by decide) rfl (x1 := 1) wl_1 (fun c1 => absurd c1 (by decide)) (fun _ => ?_)
  refine ev_aload_n (pc' := 7) dJ5_inflateIfNeededFor_a7421_6 rfl rfl ?_
  replace h := qbd h; obtain ⟨x2, hx2, h⟩ := h
  refine ev_getij (pc' := 10) (ki := 1) dJ5_inflateIfNeededFor_a7421_7 rfl tf_13_22 rfl hx2 ?_
  refine ev_aload_n (pc' := 11) dJ5_inflateIfNeededFor_a7421_10 rfl rfl ?_
  replace h := qbd h; obtain ⟨u3, hu3, h⟩ := h
  replace h := qbd h; obtain ⟨y4, hy4, h⟩ := h
  refine ev_callg (pc' := 14) (st2 := [iv y4, iv x2]) dJ5_inflateIfNeededFor_a7421_11 (qs_Vx tc_13_40 (Or.inl rfl) rfl rfl (qCk_x hu3) rfl) rfl rfl (eJ0_coder_7d493 (d := d + 0) hy4) rfl rfl ?_
  refine ev_icmpeq (pc' := 17) (tgt := 21) dJ5_inflateIfNeededFor_a7421_14 (by decide) rfl (x1 := wr x2) (y1 := wr y4) rfl rfl  (fun c5 => ?_) (fun c5 => ?_)
  · replace h := qit c5 h
    cases h
    exact ev_return dJ5_inflateIfNeededFor_a7421_21 rfl
  · replace h := qif' c5 h
    refine ev_aload_n (pc' := 18) dJ5_inflateIfNeededFor_a7421_17 rfl rfl ?_
    cases h
set_option maxRecDepth 100000 in
theorem eJ0_getBytes_840e7 {Ls t d : Nat} {o : Nat} {p0 : Nat} {p1 : Int} {p2 : Int} {μ : qMu} {r : qMu} (h : fJ0_getBytes_840e7 o p0 p1 p2 μ = some r) : Ev (d + 1) mJ0_getBytes_840e7 0 [some (.ref o), some (.ref p0), some (iv p1), some (iv p2)] [] (cS Ls t μ) (.inl none) (cS Ls t r) := by
  unfold fJ0_getBytes_840e7 at h
  refine ev_aload_n (pc' := 1) dJ0_getBytes_840e7_0 rfl rfl ?_
  replace h := qbd h; obtain ⟨u1, hu1, h⟩ := h
  replace h := qbd h; obtain ⟨y2, hy2, h⟩ := h
  refine ev_callg (pc' := 4) (st2 := [iv y2]) dJ0_getBytes_840e7_1 (qs_Vx tc_11_335 (Or.inl rfl) rfl rfl (qCk_x hu1) rfl) rfl rfl (eJ0_coder_7d493 (d := d + 0) hy2) rfl rfl ?_
  refine ev_iload_n (pc' := 5) dJ0_getBytes_840e7_4 rfl rfl ?_
  refine ev_icmpne (pc' := 8) (tgt := 28) dJ0_getBytes_840e7_5 (by decide) rfl (x1 := wr y2) (y1 := wr p2) rfl rfl  (fun c3 => ?_) (fun c3 => ?_)
  · replace h := qit c3 h
    refine ev_aload_n (pc' := 9) dJ0_getBytes_840e7_8 rfl rfl ?_
    replace h := qbd h; obtain ⟨x4, hx4, h⟩ := h
    refine ev_getrj (pc' := 12) dJ0_getBytes_840e7_9 rfl tf_11_9 hx4 ?_
    refine ev_iconst (pc' := 13) dJ0_getBytes_840e7_12 rfl ?_
    refine ev_aload_n (pc' := 14) dJ0_getBytes_840e7_13 rfl rfl ?_
    refine ev_iload_n (pc' := 15) dJ0_getBytes_840e7_14 rfl rfl ?_
    refine ev_iload_n (pc' := 16) dJ0_getBytes_840e7_15 rfl rfl ?_
    refine ev_ishl (pc' := 17) dJ0_getBytes_840e7_16 rfl ?_
    refine ev_aload_n (pc' := 18) dJ0_getBytes_840e7_17 rfl rfl ?_
    replace h := qbd h; obtain ⟨x5, hx5, h⟩ := h
    refine ev_getrj (pc' := 21) dJ0_getBytes_840e7_18 rfl tf_11_9 hx5 ?_
    replace h := qbd h; obtain ⟨x6, hx6, h⟩ := h
    refine ev_alenj (pc' := 22) dJ0_getBytes_840e7_21 rfl hx6 ?_
    replace h := qbd h; obtain ⟨μ7, hμ7, h⟩ := h
    refine ev_acp (pc' := 25) dJ0_getBytes_840e7_22 rfl tc_11_212 rfl hμ7 ?_
    refine ev_goto (pc' := 43) dJ0_getBytes_840e7_25 (by decide) ?_
    cases h
    exact ev_return dJ0_getBytes_840e7_43 rfl
  · replace h := qif' c3 h
    refine ev_aload_n (pc' := 29) dJ0_getBytes_840e7_28 rfl rfl ?_
    replace h := qbd h; obtain ⟨x8, hx8, h⟩ := h
    refine ev_getrj (pc' := 32) dJ0_getBytes_840e7_29 rfl tf_11_9 hx8 ?_
    refine ev_iconst (pc' := 33) dJ0_getBytes_840e7_32 rfl ?_
    refine ev_aload_n (pc' := 34) dJ0_getBytes_840e7_33 rfl rfl ?_
    refine ev_iload_n (pc' := 35) dJ0_getBytes_840e7_34 rfl rfl ?_
    refine ev_aload_n (pc' := 36) dJ0_getBytes_840e7_35 rfl rfl ?_
    replace h := qbd h; obtain ⟨x9, hx9, h⟩ := h
    refine ev_getrj (pc' := 39) dJ0_getBytes_840e7_36 rfl tf_11_9 hx9 ?_
    replace h := qbd h; obtain ⟨x10, hx10, h⟩ := h
    refine ev_alenj (pc' := 40) dJ0_getBytes_840e7_39 rfl hx10 ?_
    cases h
set_option maxRecDepth 100000 in
theorem eJ5_putStringAt_47b60 {Ls t d : Nat} {o : Nat} {p0 : Int} {p1 : Nat} {μ : qMu} {r : qMu} (h : fJ5_putStringAt_47b60 o p0 p1 μ = some r) : Ev (d + 2) mJ5_putStringAt_47b60 0 [some (.ref o), some (iv p0), some (.ref p1)] [] (cS Ls t μ) (.inl none) (cS Ls t r) := by
  unfold fJ5_putStringAt_47b60 at h
  refine ev_aload_n (pc' := 1) dJ5_putStringAt_47b60_0 rfl rfl ?_
  refine ev_aload_n (pc' := 2) dJ5_putStringAt_47b60_1 rfl rfl ?_
  replace h := qbd h; obtain ⟨u1, hu1, h⟩ := h
  replace h := qbd h; obtain ⟨y2, hy2, h⟩ := h
  refine ev_callg (pc' := 5) (st2 := []) dJ5_putStringAt_47b60_2 (qs_U tc_13_397 rfl rfl (qCn_s hu1)) rfl rfl (eJ5_inflateIfNeededFor_a7421 (d := d + 0) hy2) rfl rfl ?_
  refine ev_aload_n (pc' := 6) dJ5_putStringAt_47b60_5 rfl rfl ?_
  refine ev_aload_n (pc' := 7) dJ5_putStringAt_47b60_6 rfl rfl ?_
  replace h := qbd h; obtain ⟨x3, hx3, h⟩ := h
  refine ev_getrj (pc' := 10) dJ5_putStringAt_47b60_7 rfl tf_13_15 hx3 ?_
  refine ev_iload_n (pc' := 11) dJ5_putStringAt_47b60_10 rfl rfl ?_
  refine ev_aload_n (pc' := 12) dJ5_putStringAt_47b60_11 rfl rfl ?_
  replace h := qbd h; obtain ⟨x4, hx4, h⟩ := h
  refine ev_getij (pc' := 15) (ki := 1) dJ5_putStringAt_47b60_12 rfl tf_13_22 rfl hx4 ?_
  replace h := qbd h; obtain ⟨u5, hu5, h⟩ := h
  replace h := qbd h; obtain ⟨y6, hy6, h⟩ := h
  refine ev_callg (pc' := 18) (st2 := []) dJ5_putStringAt_47b60_15 (qs_Vx tc_13_399 (Or.inl rfl) rfl rfl (qCk_x hu5) rfl) rfl rfl (eJ0_getBytes_840e7 (d := d + 0) hy6) rfl rfl ?_
  cases h
  exact ev_return dJ5_putStringAt_47b60_18 rfl
set_option maxRecDepth 100000 in
theorem eJ5_append_cf1ce {Ls t d : Nat} {o : Nat} {p0 : Nat} {μ : qMu} {r : Nat × qMu} (ht : t = 0) (h : fJ5_append_cf1ce o p0 μ = some r) : Ev (d + 3) mJ5_append_cf1ce 0 [some (.ref o), some (.ref p0), none] [] (cS Ls t μ) (.inl (some (.ref r.1))) (cS Ls t r.2) := by
  unfold fJ5_append_cf1ce at h
  refine ev_aload_n (pc' := 1) dJ5_append_cf1ce_0 rfl rfl ?_
  refine ev_ifnn (pc' := 9) dJ5_append_cf1ce_1 (by decide) ?_
  refine ev_aload_n (pc' := 10) dJ5_append_cf1ce_9 rfl rfl ?_
  replace h := qbd h; obtain ⟨u1, hu1, h⟩ := h
  replace h := qbd h; obtain ⟨y2, hy2, h⟩ := h
  refine ev_callg (pc' := 13) (st2 := [iv y2]) dJ5_append_cf1ce_10 (qs_Vx tc_13_32 (Or.inl rfl) rfl rfl (qCk_x hu1) rfl) rfl rfl (eJ0_length_8abf5 (d := d + 1) hy2) rfl rfl ?_
  refine ev_istore_n (pc' := 14) (L1 := [some (.ref o), some (.ref p0), some (iv y2)]) dJ5_append_cf1ce_13 rfl rfl ?_
  refine ev_aload_n (pc' := 15) dJ5_append_cf1ce_14 rfl rfl ?_
  refine ev_aload_n (pc' := 16) dJ5_append_cf1ce_15 rfl rfl ?_
  replace h := qbd h; obtain ⟨x3, hx3, h⟩ := h
  refine ev_getij (pc' := 19) (ki := 3) dJ5_append_cf1ce_16 rfl tf_13_79 rfl hx3 ?_
  refine ev_iload_n (pc' := 20) dJ5_append_cf1ce_19 rfl rfl ?_
  refine ev_iadd (pc' := 21) dJ5_append_cf1ce_20 rfl ?_
  replace h := qbd h; obtain ⟨u4, hu4, h⟩ := h
  replace h := qbd h; obtain ⟨y5, hy5, h⟩ := h
  refine ev_callg (pc' := 24) (st2 := []) dJ5_append_cf1ce_21 (qs_U tc_13_100 rfl rfl (qCn_s hu4)) rfl rfl (eJ5_ensureCapacityInternal_d00df (d := d + 0) ht hy5) rfl rfl ?_
  refine ev_aload_n (pc' := 25) dJ5_append_cf1ce_24 rfl rfl ?_
  refine ev_aload_n (pc' := 26) dJ5_append_cf1ce_25 rfl rfl ?_
  replace h := qbd h; obtain ⟨x6, hx6, h⟩ := h
  refine ev_getij (pc' := 29) (ki := 3) dJ5_append_cf1ce_26 rfl tf_13_79 rfl hx6 ?_
  refine ev_aload_n (pc' := 30) dJ5_append_cf1ce_29 rfl rfl ?_
  replace h := qbd h; obtain ⟨u7, hu7, h⟩ := h
  replace h := qbd h; obtain ⟨y8, hy8, h⟩ := h
  refine ev_callg (pc' := 33) (st2 := []) dJ5_append_cf1ce_30 (qs_U tc_13_208 rfl rfl (qCn_s hu7)) rfl rfl (eJ5_putStringAt_47b60 (d := d + 0) hy8) rfl rfl ?_
  refine ev_aload_n (pc' := 34) dJ5_append_cf1ce_33 rfl rfl ?_
  refine ev_dup (pc' := 35) dJ5_append_cf1ce_34 rfl rfl ?_
  replace h := qbd h; obtain ⟨x9, hx9, h⟩ := h
  refine ev_getij (pc' := 38) (ki := 3) dJ5_append_cf1ce_35 rfl tf_13_79 rfl hx9 ?_
  refine ev_iload_n (pc' := 39) dJ5_append_cf1ce_38 rfl rfl ?_
  refine ev_iadd (pc' := 40) dJ5_append_cf1ce_39 rfl ?_
  replace h := qbd h; obtain ⟨μ10, hμ10, h⟩ := h
  refine ev_putij (pc' := 43) (ki := 3) dJ5_append_cf1ce_40 rfl tf_13_79 rfl rfl hμ10 ?_
  refine ev_aload_n (pc' := 44) dJ5_append_cf1ce_43 rfl rfl ?_
  cases h
  exact ev_areturn dJ5_append_cf1ce_44 rfl
set_option maxRecDepth 100000 in
theorem eJ4_append_15ec4 {Ls t d : Nat} {o : Nat} {p0 : Nat} {μ : qMu} {r : Nat × qMu} (ht : t = 0) (h : fJ4_append_15ec4 o p0 μ = some r) : Ev (d + 4) mJ4_append_15ec4 0 [some (.ref o), some (.ref p0)] [] (cS Ls t μ) (.inl (some (.ref r.1))) (cS Ls t r.2) := by
  unfold fJ4_append_15ec4 at h
  refine ev_aload_n (pc' := 1) dJ4_append_15ec4_0 rfl rfl ?_
  refine ev_aload_n (pc' := 2) dJ4_append_15ec4_1 rfl rfl ?_
  replace h := qbd h; obtain ⟨u1, hu1, h⟩ := h
  replace h := qbd h; obtain ⟨y2, hy2, h⟩ := h
  refine ev_callg (pc' := 5) (st2 := [.ref y2.1]) dJ4_append_15ec4_2 (qs_W tc_12_29 (by decide) rfl rfl (qCn_s hu1)) rfl rfl (eJ5_append_cf1ce (d := d + 0) ht hy2) rfl rfl ?_
  refine ev_pop (pc' := 6) dJ4_append_15ec4_5 rfl rfl ?_
  refine ev_aload_n (pc' := 7) dJ4_append_15ec4_6 rfl rfl ?_
  cases h
  exact ev_areturn dJ4_append_15ec4_7 rfl
set_option maxRecDepth 100000 in
theorem ebJ6_stringSize_0f7a4_16 {Ls t d n : Nat} {w0 : Int} {w1 : Int} {μ : qMu} : ∀ (k : Nat) (x : Int × Int) (y : (Unit) ⊕ (Int)), lp (fun x : Int × Int => bJ6_stringSize_0f7a4_16 n w0 w1 x.1 x.2 μ) k x = some y → ∀ (o : qO) (s' : qSt), (∀ b : Unit, y = .inl b → Ev (d + 0) mJ6_stringSize_0f7a4 42 [none, some (iv w1), none, none] [] (cS Ls t μ) o s') → (∀ r : Int, y = .inr r → o = (.inl (some (iv r))) ∧ s' = (cS Ls t μ)) → Ev (d + 0) mJ6_stringSize_0f7a4 16 [some (iv w0), some (iv w1), some (iv x.1), some (iv x.2)] [] (cS Ls t μ) o s' := by
  intro k
  induction k with
  | zero => intro x y h; cases h
  | succ k ih =>
    intro x y h o s' kE kR
    rw [lp_s] at h
    replace h := qbd h; obtain ⟨zz, h0, h1⟩ := h
    have h : bJ6_stringSize_0f7a4_16 n w0 w1 x.1 x.2 μ = some zz := h0
    clear h0
    unfold bJ6_stringSize_0f7a4_16 at h
    refine ev_iload_n (pc' := 17) dJ6_stringSize_0f7a4_16 rfl rfl ?_
    refine ev_bipush (pc' := 19) dJ6_stringSize_0f7a4_17 rfl bl_10 ?_
    refine ev_icmpge (pc' := 22) (tgt := 42) dJ6_stringSize_0f7a4_19 (by decide) rfl (x1 := wr x.2) (y1 := 10) rfl wl_10  (fun c5 => ?_) (fun c5 => ?_)
    · replace h := qit c5 h
      refine ev_iload_n (pc' := 23) dJ6_stringSize_0f7a4_22 rfl rfl ?_
      refine ev_iload_n (pc' := 24) dJ6_stringSize_0f7a4_23 rfl rfl ?_
      refine ev_icmple (pc' := 27) (tgt := 31) dJ6_stringSize_0f7a4_24 (by decide) rfl (x1 := wr w0) (y1 := wr x.1) rfl rfl  (fun c6 => ?_) (fun c6 => ?_)
      · replace h := qit c6 h
        refine ev_iload_n (pc' := 28) dJ6_stringSize_0f7a4_27 rfl rfl ?_
        refine ev_iload_n (pc' := 29) dJ6_stringSize_0f7a4_28 rfl rfl ?_
        refine ev_iadd (pc' := 30) dJ6_stringSize_0f7a4_29 rfl ?_
        cases h
        cases h1
        obtain ⟨rfl, rfl⟩ := kR _ rfl
        exact ev_ireturn dJ6_stringSize_0f7a4_30 rfl rfl
      · replace h := qif' c6 h
        refine ev_bipush (pc' := 33) dJ6_stringSize_0f7a4_31 rfl bl_10 ?_
        refine ev_iload_n (pc' := 34) dJ6_stringSize_0f7a4_33 rfl rfl ?_
        refine ev_imul (pc' := 35) dJ6_stringSize_0f7a4_34 rfl ?_
        refine ev_istore_n (pc' := 36) (L1 := [some (iv w0), some (iv w1), some (iv (10 * x.1)), some (iv x.2)]) dJ6_stringSize_0f7a4_35 rfl rfl ?_
        refine ev_iinc (pc' := 39) (x := x.2) (L1 := [some (iv w0), some (iv w1), some (iv (10 * x.1)), some (iv (x.2 + 1))]) dJ6_stringSize_0f7a4_36 rfl rfl rfl ?_
        refine ev_goto (pc' := 16) dJ6_stringSize_0f7a4_39 (by decide) ?_
        cases h
        exact ev_wk (qLe_eq (qLe_eq (qLe_eq (qLe_eq qLe_nil)))) (ih _ _ h1 _ _ kE kR)
    · replace h := qif' c5 h
      cases h
      cases h1
      exact ev_wk (qLe_sk (qLe_eq (qLe_sk (qLe_sk qLe_nil)))) (kE _ rfl)
set_option maxRecDepth 100000 in
theorem eJ6_stringSize_0f7a4 {Ls t d n : Nat} {p0 : Int} {μ : qMu} {r : Int} (h : fJ6_stringSize_0f7a4 n p0 μ = some r) : Ev (d + 0) mJ6_stringSize_0f7a4 0 [some (iv p0), none, none, none] [] (cS Ls t μ) (.inl (some (iv r))) (cS Ls t μ) := by
  unfold fJ6_stringSize_0f7a4 at h
  refine ev_iconst (pc' := 1) dJ6_stringSize_0f7a4_0 rfl ?_
  refine ev_istore_n (pc' := 2) (L1 := [some (iv p0), some (iv 1), none, none]) dJ6_stringSize_0f7a4_1 rfl rfl ?_
  refine ev_iload_n (pc' := 3) dJ6_stringSize_0f7a4_2 rfl rfl ?_
  have k2 : ∀ j3 : Int, j3 = (if wr p0 < 0 then p0 else (-p0)) → ∀ j4 : Int, j4 = (if wr p0 < 0 then 1 else 0) → Ev (d + 0) mJ6_stringSize_0f7a4 11 [some (iv j3), some (iv j4), none, none] [] (cS Ls t μ) (.inl (some (iv r))) (cS Ls t μ) := by
    intro j3 ej3 j4 ej4
    subst ej3 ej4
    refine ev_bipush (pc' := 13) dJ6_stringSize_0f7a4_11 rfl bl_m10 ?_
    refine ev_istore_n (pc' := 14) (L1 := [some (iv (if wr p0 < 0 then p0 else (-p0))), some (iv (if wr p0 < 0 then 1 else 0)), some (iv (-10)), none]) dJ6_stringSize_0f7a4_13 rfl rfl ?_
    refine ev_iconst (pc' := 15) dJ6_stringSize_0f7a4_14 rfl ?_
    refine ev_istore_n (pc' := 16) (L1 := [some (iv (if wr p0 < 0 then p0 else (-p0))), some (iv (if wr p0 < 0 then 1 else 0)), some (iv (-10)), some (iv 1)]) dJ6_stringSize_0f7a4_15 rfl rfl ?_
    replace h := qbd h; obtain ⟨y7, hy7, h⟩ := h
    refine ev_wk (qLe_eq (qLe_eq (qLe_eq (qLe_eq qLe_nil)))) (?_ : Ev _ _ _ [some (iv (if wr p0 < 0 then p0 else (-p0))), some (iv (if wr p0 < 0 then 1 else 0)), some (iv (-10)), some (iv 1)] _ _ _ _)
    refine ebJ6_stringSize_0f7a4_16 _ _ _ hy7 _ _ ?_ ?_
    · intro b8 eb8
      subst eb8
      replace h := qel h
      refine ev_bipush (pc' := 44) dJ6_stringSize_0f7a4_42 rfl bl_10 ?_
      refine ev_iload_n (pc' := 45) dJ6_stringSize_0f7a4_44 rfl rfl ?_
      refine ev_iadd (pc' := 46) dJ6_stringSize_0f7a4_45 rfl ?_
      cases h
      exact ev_ireturn dJ6_stringSize_0f7a4_46 rfl rfl
    · intro r9 er9
      subst er9
      replace h := qer h
      cases h
      exact ⟨rfl, rfl⟩
  refine ev_iflt (pc' := 6) (tgt := 11) dJ6_stringSize_0f7a4_3 (by decide) rfl (x1 := wr p0) rfl (fun c1 => ?_) (fun c1 => ?_)
  · skip
    exact ev_wk (qLe_eq (qLe_eq (qLe_eq (qLe_eq qLe_nil)))) (k2 _ (qet c1 rfl) _ (qet c1 rfl))
  · skip
    refine ev_iconst (pc' := 7) dJ6_stringSize_0f7a4_6 rfl ?_
    refine ev_istore_n (pc' := 8) (L1 := [some (iv p0), some (iv 0), none, none]) dJ6_stringSize_0f7a4_7 rfl rfl ?_
    refine ev_iload_n (pc' := 9) dJ6_stringSize_0f7a4_8 rfl rfl ?_
    refine ev_ineg (pc' := 10) dJ6_stringSize_0f7a4_9 rfl ?_
    refine ev_istore_n (pc' := 11) (L1 := [some (iv (-p0)), some (iv 0), none, none]) dJ6_stringSize_0f7a4_10 rfl rfl ?_
    exact ev_wk (qLe_eq (qLe_eq (qLe_eq (qLe_eq qLe_nil)))) (k2 _ (qef c1 rfl) _ (qef c1 rfl))
set_option maxRecDepth 100000 in
theorem eJ5_isLatin1_aae02 {Ls t d : Nat} {o : Nat} {μ : qMu} {r : Int} (h : fJ5_isLatin1_aae02 o μ = some r) : Ev (d + 0) mJ5_isLatin1_aae02 0 [some (.ref o)] [] (cS Ls t μ) (.inl (some (iv r))) (cS Ls t μ) := by
  unfold fJ5_isLatin1_aae02 at h
  refine ev_gst0 (pc' := 3) dJ5_isLatin1_aae02_0 rfl tg_13_18 ?_
  refine ev_ifeq (pc' := 6) (tgt := 17) dJ5_isLatin1_aae02_3 (by decide) rfl (x1 := 1) wl_1 (fun c1 => absurd c1 (by decide)) (fun _ => ?_)
  refine ev_aload_n (pc' := 7) dJ5_isLatin1_aae02_6 rfl rfl ?_
  replace h := qbd h; obtain ⟨x2, hx2, h⟩ := h
  refine ev_getij (pc' := 10) (ki := 1) dJ5_isLatin1_aae02_7 rfl tf_13_22 rfl hx2 ?_
  refine ev_ifne (pc' := 13) (tgt := 17) dJ5_isLatin1_aae02_10 (by decide) rfl (x1 := wr x2) rfl (fun c3 => ?_) (fun c3 => ?_)
  · replace h := qit c3 h
    refine ev_iconst (pc' := 14) dJ5_isLatin1_aae02_13 rfl ?_
    refine ev_goto (pc' := 18) dJ5_isLatin1_aae02_14 (by decide) ?_
    cases h
    exact ev_ireturn dJ5_isLatin1_aae02_18 rfl rfl
  · replace h := qif' c3 h
    refine ev_iconst (pc' := 18) dJ5_isLatin1_aae02_17 rfl ?_
    cases h
    exact ev_ireturn dJ5_isLatin1_aae02_18 rfl rfl
set_option maxRecDepth 100000 in
theorem ebJ6_getChars_ba4f3_22 {Ls t d n : Nat} {w2 : Nat} {w6 : Int} : ∀ (k : Nat) (x : Int × Int × qMu) (y : Int × Int × qMu), lp (fun x : Int × Int × qMu => bJ6_getChars_ba4f3_22 n w2 w6 x.1 x.2.1 x.2.2) k x = some y → ∀ (o : qO) (s' : qSt), Ev (d + 0) mJ6_getChars_ba4f3 72 [some (iv y.1), none, some (.ref w2), none, none, some (iv y.2.1), some (iv w6)] [] (cS Ls t y.2.2) o s' → Ev (d + 0) mJ6_getChars_ba4f3 22 [some (iv x.1), none, some (.ref w2), none, none, some (iv x.2.1), some (iv w6)] [] (cS Ls t x.2.2) o s' := by
  intro k
  induction k with
  | zero => intro x y h; cases h
  | succ k ih =>
    intro x y h o s' kE
    rw [lp_s] at h
    replace h := qbd h; obtain ⟨zz, h0, h1⟩ := h
    have h : bJ6_getChars_ba4f3_22 n w2 w6 x.1 x.2.1 x.2.2 = some zz := h0
    clear h0
    unfold bJ6_getChars_ba4f3_22 at h
    refine ev_iload_n (pc' := 23) dJ6_getChars_ba4f3_22 rfl rfl ?_
    refine ev_bipush (pc' := 25) dJ6_getChars_ba4f3_23 rfl bl_m100 ?_
    refine ev_icmpgt (pc' := 28) (tgt := 72) dJ6_getChars_ba4f3_25 (by decide) rfl (x1 := wr x.1) (y1 := (-100)) rfl wl_m100  (fun c15 => ?_) (fun c15 => ?_)
    · replace h := qit c15 h
      cases h
      cases h1
      exact ev_wk (qLe_eq (qLe_eq (qLe_eq (qLe_eq (qLe_eq (qLe_eq (qLe_eq qLe_nil))))))) kE
    · replace h := qif' c15 h
      refine ev_iload_n (pc' := 29) dJ6_getChars_ba4f3_28 rfl rfl ?_
      refine ev_bipush (pc' := 31) dJ6_getChars_ba4f3_29 rfl bl_100 ?_
      refine ev_idiv (pc' := 32) dJ6_getChars_ba4f3_31 rfl zl_100 ?_
      refine ev_istore_n (pc' := 33) (L1 := [some (iv x.1), none, some (.ref w2), some (iv (idv x.1 100)), none, some (iv x.2.1), some (iv w6)]) dJ6_getChars_ba4f3_32 rfl rfl ?_
      refine ev_iload_n (pc' := 34) dJ6_getChars_ba4f3_33 rfl rfl ?_
      refine ev_bipush (pc' := 36) dJ6_getChars_ba4f3_34 rfl bl_100 ?_
      refine ev_imul (pc' := 37) dJ6_getChars_ba4f3_36 rfl ?_
      refine ev_iload_n (pc' := 38) dJ6_getChars_ba4f3_37 rfl rfl ?_
      refine ev_isub (pc' := 39) dJ6_getChars_ba4f3_38 rfl ?_
      refine ev_istore (pc' := 41) (L1 := [some (iv x.1), none, some (.ref w2), some (iv (idv x.1 100)), some (iv (((idv x.1 100) * 100) - x.1)), some (iv x.2.1), some (iv w6)]) dJ6_getChars_ba4f3_39 rfl rfl ?_
      refine ev_iload_n (pc' := 42) dJ6_getChars_ba4f3_41 rfl rfl ?_
      refine ev_istore_n (pc' := 43) (L1 := [some (iv (idv x.1 100)), none, some (.ref w2), some (iv (idv x.1 100)), some (iv (((idv x.1 100) * 100) - x.1)), some (iv x.2.1), some (iv w6)]) dJ6_getChars_ba4f3_42 rfl rfl ?_
      refine ev_aload_n (pc' := 44) dJ6_getChars_ba4f3_43 rfl rfl ?_
      refine ev_iinc (pc' := 47) (x := x.2.1) (L1 := [some (iv (idv x.1 100)), none, some (.ref w2), some (iv (idv x.1 100)), some (iv (((idv x.1 100) * 100) - x.1)), some (iv (x.2.1 + (-1))), some (iv w6)]) dJ6_getChars_ba4f3_44 rfl rfl rfl ?_
      refine ev_iload (pc' := 49) dJ6_getChars_ba4f3_47 rfl rfl ?_
      refine ev_gst1 (pc' := 52) dJ6_getChars_ba4f3_49 rfl tg_14_83 ?_
      refine ev_iload (pc' := 54) dJ6_getChars_ba4f3_52 rfl rfl ?_
      replace h := qbd h; obtain ⟨x16, hx16, h⟩ := h
      refine ev_baldj (pc' := 55) dJ6_getChars_ba4f3_54 rfl hx16 ?_
      replace h := qbd h; obtain ⟨μ17, hμ17, h⟩ := h
      refine ev_bastj (pc' := 56) dJ6_getChars_ba4f3_55 rfl hμ17 ?_
      refine ev_aload_n (pc' := 57) dJ6_getChars_ba4f3_56 rfl rfl ?_
      refine ev_iinc (pc' := 60) (x := (x.2.1 + (-1))) (L1 := [some (iv (idv x.1 100)), none, some (.ref w2), some (iv (idv x.1 100)), some (iv (((idv x.1 100) * 100) - x.1)), some (iv ((x.2.1 + (-1)) + (-1))), some (iv w6)]) dJ6_getChars_ba4f3_57 rfl rfl rfl ?_
      refine ev_iload (pc' := 62) dJ6_getChars_ba4f3_60 rfl rfl ?_
      cases h
set_option maxRecDepth 100000 in
theorem eJ6_getChars_ba4f3 {Ls t d n : Nat} {p0 : Int} {p1 : Int} {p2 : Nat} {μ : qMu} {r : Int × qMu} (h : fJ6_getChars_ba4f3 n p0 p1 p2 μ = some r) : Ev (d + 0) mJ6_getChars_ba4f3 0 [some (iv p0), some (iv p1), some (.ref p2), none, none, none, none] [] (cS Ls t μ) (.inl (some (iv r.1))) (cS Ls t r.2) := by
  unfold fJ6_getChars_ba4f3 at h
  refine ev_iload_n (pc' := 1) dJ6_getChars_ba4f3_0 rfl rfl ?_
  refine ev_istore (pc' := 3) (L1 := [some (iv p0), some (iv p1), some (.ref p2), none, none, some (iv p1), none]) dJ6_getChars_ba4f3_1 rfl rfl ?_
  refine ev_iload_n (pc' := 4) dJ6_getChars_ba4f3_3 rfl rfl ?_
  have k2 : ∀ j3 : Int, j3 = (if wr p0 < 0 then 1 else 0) → Ev (d + 0) mJ6_getChars_ba4f3 12 [some (iv p0), none, some (.ref p2), none, none, some (iv p1), none] [iv j3] (cS Ls t μ) (.inl (some (iv r.1))) (cS Ls t r.2) := by
    intro j3 ej3
    subst ej3
    refine ev_istore (pc' := 14) (L1 := [some (iv p0), none, some (.ref p2), none, none, some (iv p1), some (iv (if wr p0 < 0 then 1 else 0))]) dJ6_getChars_ba4f3_12 rfl rfl ?_
    refine ev_iload (pc' := 16) dJ6_getChars_ba4f3_14 rfl rfl ?_
    refine ev_ifne (pc' := 19) (tgt := 22) dJ6_getChars_ba4f3_16 (by decide) rfl (x1 := wr (if wr p0 < 0 then 1 else 0)) rfl (fun c4 => ?_) (fun c4 => ?_)
    · replace h := qit c4 h
      refine ev_iload_n (pc' := 20) dJ6_getChars_ba4f3_19 rfl rfl ?_
      refine ev_ineg (pc' := 21) dJ6_getChars_ba4f3_20 rfl ?_
      refine ev_istore_n (pc' := 22) (L1 := [some (iv (-p0)), none, some (.ref p2), none, none, some (iv p1), some (iv (if wr p0 < 0 then 1 else 0))]) dJ6_getChars_ba4f3_21 rfl rfl ?_
      replace h := qbd h; obtain ⟨y8, hy8, h⟩ := h
      refine ev_wk (qLe_eq (qLe_eq (qLe_eq (qLe_eq (qLe_eq (qLe_eq (qLe_eq qLe_nil))))))) (?_ : Ev _ _ _ [some (iv (-p0)), none, some (.ref p2), none, none, some (iv p1), some (iv (if wr p0 < 0 then 1 else 0))] _ _ _ _)
      refine ebJ6_getChars_ba4f3_22 _ _ _ hy8 _ _ ?_
      refine ev_aload_n (pc' := 73) dJ6_getChars_ba4f3_72 rfl rfl ?_
      refine ev_iinc (pc' := 76) (x := y8.2.1) (L1 := [some (iv y8.1), none, some (.ref p2), none, none, some (iv (y8.2.1 + (-1))), some (iv (if wr p0 < 0 then 1 else 0))]) dJ6_getChars_ba4f3_73 rfl rfl rfl ?_
      refine ev_iload (pc' := 78) dJ6_getChars_ba4f3_76 rfl rfl ?_
      refine ev_gst1 (pc' := 81) dJ6_getChars_ba4f3_78 rfl tg_14_83 ?_
      refine ev_iload_n (pc' := 82) dJ6_getChars_ba4f3_81 rfl rfl ?_
      refine ev_ineg (pc' := 83) dJ6_getChars_ba4f3_82 rfl ?_
      replace h := qbd h; obtain ⟨x9, hx9, h⟩ := h
      refine ev_baldj (pc' := 84) dJ6_getChars_ba4f3_83 rfl hx9 ?_
      replace h := qbd h; obtain ⟨μ10, hμ10, h⟩ := h
      refine ev_bastj (pc' := 85) dJ6_getChars_ba4f3_84 rfl hμ10 ?_
      refine ev_iload_n (pc' := 86) dJ6_getChars_ba4f3_85 rfl rfl ?_
      refine ev_bipush (pc' := 88) dJ6_getChars_ba4f3_86 rfl bl_m9 ?_
      refine ev_icmpge (pc' := 91) (tgt := 104) dJ6_getChars_ba4f3_88 (by decide) rfl (x1 := wr y8.1) (y1 := (-9)) rfl wl_m9  (fun c11 => ?_) (fun c11 => ?_)
      · replace h := qit c11 h
        refine ev_aload_n (pc' := 92) dJ6_getChars_ba4f3_91 rfl rfl ?_
        refine ev_iinc (pc' := 95) (x := (y8.2.1 + (-1))) (L1 := [some (iv y8.1), none, some (.ref p2), none, none, some (iv ((y8.2.1 + (-1)) + (-1))), some (iv (if wr p0 < 0 then 1 else 0))]) dJ6_getChars_ba4f3_92 rfl rfl rfl ?_
        refine ev_iload (pc' := 97) dJ6_getChars_ba4f3_95 rfl rfl ?_
        cases h
      · replace h := qif' c11 h
        refine ev_iload (pc' := 106) dJ6_getChars_ba4f3_104 rfl rfl ?_
        replace h := qbd h; obtain ⟨y13, hy13, h⟩ := h
        have kJ : Ev (d + 0) mJ6_getChars_ba4f3 118 [none, none, none, none, none, some (iv y13.1), none] [] (cS Ls t y13.2) (.inl (some (iv r.1))) (cS Ls t r.2) := by
          refine ev_iload (pc' := 120) dJ6_getChars_ba4f3_118 rfl rfl ?_
          cases h
          exact ev_ireturn dJ6_getChars_ba4f3_120 rfl rfl
        replace h := hy13
        clear hy13
        refine ev_ifeq (pc' := 109) (tgt := 118) dJ6_getChars_ba4f3_106 (by decide) rfl (x1 := wr (if wr p0 < 0 then 1 else 0)) rfl (fun c12 => ?_) (fun c12 => ?_)
        · replace h := qit c12 h
          cases h
          exact ev_wk (qLe_sk (qLe_eq (qLe_sk (qLe_eq (qLe_eq (qLe_eq (qLe_sk qLe_nil))))))) kJ
        · replace h := qif' c12 h
          refine ev_aload_n (pc' := 110) dJ6_getChars_ba4f3_109 rfl rfl ?_
          refine ev_iinc (pc' := 113) (x := (y8.2.1 + (-1))) (L1 := [some (iv y8.1), none, some (.ref p2), none, none, some (iv ((y8.2.1 + (-1)) + (-1))), some (iv (if wr p0 < 0 then 1 else 0))]) dJ6_getChars_ba4f3_110 rfl rfl rfl ?_
          refine ev_iload (pc' := 115) dJ6_getChars_ba4f3_113 rfl rfl ?_
          refine ev_bipush (pc' := 117) dJ6_getChars_ba4f3_115 rfl bl_45 ?_
          replace h := qbd h; obtain ⟨μ14, hμ14, h⟩ := h
          refine ev_bastj (pc' := 118) dJ6_getChars_ba4f3_117 rfl hμ14 ?_
          cases h
          exact ev_wk (qLe_sk (qLe_eq (qLe_sk (qLe_eq (qLe_eq (qLe_eq (qLe_sk qLe_nil))))))) kJ
    · replace h := qif' c4 h
      replace h := qbd h; obtain ⟨y18, hy18, h⟩ := h
      refine ev_wk (qLe_eq (qLe_eq (qLe_eq (qLe_eq (qLe_eq (qLe_eq (qLe_eq qLe_nil))))))) (?_ : Ev _ _ _ [some (iv p0), none, some (.ref p2), none, none, some (iv p1), some (iv (if wr p0 < 0 then 1 else 0))] _ _ _ _)
      refine ebJ6_getChars_ba4f3_22 _ _ _ hy18 _ _ ?_
      refine ev_aload_n (pc' := 73) dJ6_getChars_ba4f3_72 rfl rfl ?_
      refine ev_iinc (pc' := 76) (x := y18.2.1) (L1 := [some (iv y18.1), none, some (.ref p2), none, none, some (iv (y18.2.1 + (-1))), some (iv (if wr p0 < 0 then 1 else 0))]) dJ6_getChars_ba4f3_73 rfl rfl rfl ?_
      refine ev_iload (pc' := 78) dJ6_getChars_ba4f3_76 rfl rfl ?_
      refine ev_gst1 (pc' := 81) dJ6_getChars_ba4f3_78 rfl tg_14_83 ?_
      refine ev_iload_n (pc' := 82) dJ6_getChars_ba4f3_81 rfl rfl ?_
      refine ev_ineg (pc' := 83) dJ6_getChars_ba4f3_82 rfl ?_
      replace h := qbd h; obtain ⟨x19, hx19, h⟩ := h
      refine ev_baldj (pc' := 84) dJ6_getChars_ba4f3_83 rfl hx19 ?_
      replace h := qbd h; obtain ⟨μ20, hμ20, h⟩ := h
      refine ev_bastj (pc' := 85) dJ6_getChars_ba4f3_84 rfl hμ20 ?_
      refine ev_iload_n (pc' := 86) dJ6_getChars_ba4f3_85 rfl rfl ?_
      refine ev_bipush (pc' := 88) dJ6_getChars_ba4f3_86 rfl bl_m9 ?_
      refine ev_icmpge (pc' := 91) (tgt := 104) dJ6_getChars_ba4f3_88 (by decide) rfl (x1 := wr y18.1) (y1 := (-9)) rfl wl_m9  (fun c21 => ?_) (fun c21 => ?_)
      · replace h := qit c21 h
        refine ev_aload_n (pc' := 92) dJ6_getChars_ba4f3_91 rfl rfl ?_
        refine ev_iinc (pc' := 95) (x := (y18.2.1 + (-1))) (L1 := [some (iv y18.1), none, some (.ref p2), none, none, some (iv ((y18.2.1 + (-1)) + (-1))), some (iv (if wr p0 < 0 then 1 else 0))]) dJ6_getChars_ba4f3_92 rfl rfl rfl ?_
        refine ev_iload (pc' := 97) dJ6_getChars_ba4f3_95 rfl rfl ?_
        cases h
      · replace h := qif' c21 h
        refine ev_iload (pc' := 106) dJ6_getChars_ba4f3_104 rfl rfl ?_
        replace h := qbd h; obtain ⟨y23, hy23, h⟩ := h
        have kJ : Ev (d + 0) mJ6_getChars_ba4f3 118 [none, none, none, none, none, some (iv y23.1), none] [] (cS Ls t y23.2) (.inl (some (iv r.1))) (cS Ls t r.2) := by
          refine ev_iload (pc' := 120) dJ6_getChars_ba4f3_118 rfl rfl ?_
          cases h
          exact ev_ireturn dJ6_getChars_ba4f3_120 rfl rfl
        replace h := hy23
        clear hy23
        refine ev_ifeq (pc' := 109) (tgt := 118) dJ6_getChars_ba4f3_106 (by decide) rfl (x1 := wr (if wr p0 < 0 then 1 else 0)) rfl (fun c22 => ?_) (fun c22 => ?_)
        · replace h := qit c22 h
          cases h
          exact ev_wk (qLe_sk (qLe_eq (qLe_sk (qLe_eq (qLe_eq (qLe_eq (qLe_sk qLe_nil))))))) kJ
        · replace h := qif' c22 h
          refine ev_aload_n (pc' := 110) dJ6_getChars_ba4f3_109 rfl rfl ?_
          refine ev_iinc (pc' := 113) (x := (y18.2.1 + (-1))) (L1 := [some (iv y18.1), none, some (.ref p2), none, none, some (iv ((y18.2.1 + (-1)) + (-1))), some (iv (if wr p0 < 0 then 1 else 0))]) dJ6_getChars_ba4f3_110 rfl rfl rfl ?_
          refine ev_iload (pc' := 115) dJ6_getChars_ba4f3_113 rfl rfl ?_
          refine ev_bipush (pc' := 117) dJ6_getChars_ba4f3_115 rfl bl_45 ?_
          replace h := qbd h; obtain ⟨μ24, hμ24, h⟩ := h
          refine ev_bastj (pc' := 118) dJ6_getChars_ba4f3_117 rfl hμ24 ?_
          cases h
          exact ev_wk (qLe_sk (qLe_eq (qLe_sk (qLe_eq (qLe_eq (qLe_eq (qLe_sk qLe_nil))))))) kJ
  refine ev_ifge (pc' := 7) (tgt := 11) dJ6_getChars_ba4f3_4 (by decide) rfl (x1 := wr p0) rfl (fun c1 => ?_) (fun c1 => ?_)
  · skip
    refine ev_iconst (pc' := 8) dJ6_getChars_ba4f3_7 rfl ?_
    refine ev_goto (pc' := 12) dJ6_getChars_ba4f3_8 (by decide) ?_
    exact ev_wk (qLe_eq (qLe_sk (qLe_eq (qLe_eq (qLe_eq (qLe_eq (qLe_eq qLe_nil))))))) (k2 _ (qet c1 rfl))
  · skip
    refine ev_iconst (pc' := 12) dJ6_getChars_ba4f3_11 rfl ?_
    exact ev_wk (qLe_eq (qLe_sk (qLe_eq (qLe_eq (qLe_eq (qLe_eq (qLe_eq qLe_nil))))))) (k2 _ (qef c1 rfl))
set_option maxRecDepth 100000 in
theorem eJ5_append_c97b9 {Ls t d n : Nat} {o : Nat} {p0 : Int} {μ : qMu} {r : Nat × qMu} (ht : t = 0) (h : fJ5_append_c97b9 n o p0 μ = some r) : Ev (d + 3) mJ5_append_c97b9 0 [some (.ref o), some (iv p0), none, none] [] (cS Ls t μ) (.inl (some (.ref r.1))) (cS Ls t r.2) := by
  unfold fJ5_append_c97b9 at h
  refine ev_aload_n (pc' := 1) dJ5_append_c97b9_0 rfl rfl ?_
  replace h := qbd h; obtain ⟨x1, hx1, h⟩ := h
  refine ev_getij (pc' := 4) (ki := 3) dJ5_append_c97b9_1 rfl tf_13_79 rfl hx1 ?_
  refine ev_istore_n (pc' := 5) (L1 := [some (.ref o), some (iv p0), some (iv x1), none]) dJ5_append_c97b9_4 rfl rfl ?_
  refine ev_iload_n (pc' := 6) dJ5_append_c97b9_5 rfl rfl ?_
  refine ev_iload_n (pc' := 7) dJ5_append_c97b9_6 rfl rfl ?_
  replace h := qbd h; obtain ⟨y2, hy2, h⟩ := h
  refine ev_callg (pc' := 10) (st2 := [iv y2, iv x1]) dJ5_append_c97b9_7 (qs_S tc_13_245 (by decide) rfl rfl) rfl rfl (eJ6_stringSize_0f7a4 (d := d + 2) hy2) rfl rfl ?_
  refine ev_iadd (pc' := 11) dJ5_append_c97b9_10 rfl ?_
  refine ev_istore_n (pc' := 12) (L1 := [some (.ref o), some (iv p0), some (iv x1), some (iv (x1 + y2))]) dJ5_append_c97b9_11 rfl rfl ?_
  refine ev_aload_n (pc' := 13) dJ5_append_c97b9_12 rfl rfl ?_
  refine ev_iload_n (pc' := 14) dJ5_append_c97b9_13 rfl rfl ?_
  replace h := qbd h; obtain ⟨u3, hu3, h⟩ := h
  replace h := qbd h; obtain ⟨y4, hy4, h⟩ := h
  refine ev_callg (pc' := 17) (st2 := []) dJ5_append_c97b9_14 (qs_U tc_13_100 rfl rfl (qCn_s hu3)) rfl rfl (eJ5_ensureCapacityInternal_d00df (d := d + 0) ht hy4) rfl rfl ?_
  refine ev_aload_n (pc' := 18) dJ5_append_c97b9_17 rfl rfl ?_
  replace h := qbd h; obtain ⟨u5, hu5, h⟩ := h
  replace h := qbd h; obtain ⟨y6, hy6, h⟩ := h
  refine ev_callg (pc' := 21) (st2 := [iv y6]) dJ5_append_c97b9_18 (qs_U tc_13_83 rfl rfl (qCn_s hu5)) rfl rfl (eJ5_isLatin1_aae02 (d := d + 2) hy6) rfl rfl ?_
  replace h := qbd h; obtain ⟨y8, hy8, h⟩ := h
  have kJ : Ev (d + 3) mJ5_append_c97b9 48 [some (.ref o), none, none, some (iv (x1 + y2))] [] (cS Ls t y8) (.inl (some (.ref r.1))) (cS Ls t r.2) := by
    refine ev_aload_n (pc' := 49) dJ5_append_c97b9_48 rfl rfl ?_
    refine ev_iload_n (pc' := 50) dJ5_append_c97b9_49 rfl rfl ?_
    replace h := qbd h; obtain ⟨μ12, hμ12, h⟩ := h
    refine ev_putij (pc' := 53) (ki := 3) dJ5_append_c97b9_50 rfl tf_13_79 rfl rfl hμ12 ?_
    refine ev_aload_n (pc' := 54) dJ5_append_c97b9_53 rfl rfl ?_
    cases h
    exact ev_areturn dJ5_append_c97b9_54 rfl
  replace h := hy8
  clear hy8
  refine ev_ifeq (pc' := 24) (tgt := 37) dJ5_append_c97b9_21 (by decide) rfl (x1 := wr y6) rfl (fun c7 => ?_) (fun c7 => ?_)
  · replace h := qit c7 h
    refine ev_iload_n (pc' := 38) dJ5_append_c97b9_37 rfl rfl ?_
    refine ev_iload_n (pc' := 39) dJ5_append_c97b9_38 rfl rfl ?_
    refine ev_iload_n (pc' := 40) dJ5_append_c97b9_39 rfl rfl ?_
    refine ev_aload_n (pc' := 41) dJ5_append_c97b9_40 rfl rfl ?_
    replace h := qbd h; obtain ⟨x9, hx9, h⟩ := h
    refine ev_getrj (pc' := 44) dJ5_append_c97b9_41 rfl tf_13_15 hx9 ?_
    cases h
  · replace h := qif' c7 h
    refine ev_iload_n (pc' := 25) dJ5_append_c97b9_24 rfl rfl ?_
    refine ev_iload_n (pc' := 26) dJ5_append_c97b9_25 rfl rfl ?_
    refine ev_aload_n (pc' := 27) dJ5_append_c97b9_26 rfl rfl ?_
    replace h := qbd h; obtain ⟨x10, hx10, h⟩ := h
    refine ev_getrj (pc' := 30) dJ5_append_c97b9_27 rfl tf_13_15 hx10 ?_
    replace h := qbd h; obtain ⟨y11, hy11, h⟩ := h
    refine ev_callg (pc' := 33) (st2 := [iv y11.1]) dJ5_append_c97b9_30 (qs_S tc_13_248 (by decide) rfl rfl) rfl rfl (eJ6_getChars_ba4f3 (d := d + 2) hy11) rfl rfl ?_
    refine ev_pop (pc' := 34) dJ5_append_c97b9_33 rfl rfl ?_
    refine ev_goto (pc' := 48) dJ5_append_c97b9_34 (by decide) ?_
    cases h
    exact ev_wk (qLe_eq (qLe_sk (qLe_sk (qLe_eq qLe_nil)))) kJ
set_option maxRecDepth 100000 in
theorem eJ4_append_bf812 {Ls t d n : Nat} {o : Nat} {p0 : Int} {μ : qMu} {r : Nat × qMu} (ht : t = 0) (h : fJ4_append_bf812 n o p0 μ = some r) : Ev (d + 4) mJ4_append_bf812 0 [some (.ref o), some (iv p0)] [] (cS Ls t μ) (.inl (some (.ref r.1))) (cS Ls t r.2) := by
  unfold fJ4_append_bf812 at h
  refine ev_aload_n (pc' := 1) dJ4_append_bf812_0 rfl rfl ?_
  refine ev_iload_n (pc' := 2) dJ4_append_bf812_1 rfl rfl ?_
  replace h := qbd h; obtain ⟨u1, hu1, h⟩ := h
  replace h := qbd h; obtain ⟨y2, hy2, h⟩ := h
  refine ev_callg (pc' := 5) (st2 := [.ref y2.1]) dJ4_append_bf812_2 (qs_W tc_12_53 (by decide) rfl rfl (qCn_s hu1)) rfl rfl (eJ5_append_c97b9 (d := d + 0) ht hy2) rfl rfl ?_
  refine ev_pop (pc' := 6) dJ4_append_bf812_5 rfl rfl ?_
  refine ev_aload_n (pc' := 7) dJ4_append_bf812_6 rfl rfl ?_
  cases h
  exact ev_areturn dJ4_append_bf812_7 rfl
set_option maxRecDepth 100000 in
theorem eJ5_getValue_6d5f1 {Ls t d : Nat} {o : Nat} {μ : qMu} {r : Nat} (h : fJ5_getValue_6d5f1 o μ = some r) : Ev (d + 0) mJ5_getValue_6d5f1 0 [some (.ref o)] [] (cS Ls t μ) (.inl (some (.ref r))) (cS Ls t μ) := by
  unfold fJ5_getValue_6d5f1 at h
  refine ev_aload_n (pc' := 1) dJ5_getValue_6d5f1_0 rfl rfl ?_
  replace h := qbd h; obtain ⟨x1, hx1, h⟩ := h
  refine ev_getrj (pc' := 4) dJ5_getValue_6d5f1_1 rfl tf_13_15 hx1 ?_
  cases h
  exact ev_areturnA dJ5_getValue_6d5f1_4 rfl
set_option maxRecDepth 100000 in
theorem eJ5_length_8abf5 {Ls t d : Nat} {o : Nat} {μ : qMu} {r : Int} (h : fJ5_length_8abf5 o μ = some r) : Ev (d + 0) mJ5_length_8abf5 0 [some (.ref o)] [] (cS Ls t μ) (.inl (some (iv r))) (cS Ls t μ) := by
  unfold fJ5_length_8abf5 at h
  refine ev_aload_n (pc' := 1) dJ5_length_8abf5_0 rfl rfl ?_
  replace h := qbd h; obtain ⟨x1, hx1, h⟩ := h
  refine ev_getij (pc' := 4) (ki := 3) dJ5_length_8abf5_1 rfl tf_13_79 rfl hx1 ?_
  cases h
  exact ev_ireturn dJ5_length_8abf5_4 rfl rfl
set_option maxRecDepth 100000 in
theorem eJ4_length_8abf5 {Ls t d : Nat} {o : Nat} {μ : qMu} {r : Int} (h : fJ4_length_8abf5 o μ = some r) : Ev (d + 1) mJ4_length_8abf5 0 [some (.ref o)] [] (cS Ls t μ) (.inl (some (iv r))) (cS Ls t μ) := by
  unfold fJ4_length_8abf5 at h
  refine ev_aload_n (pc' := 1) dJ4_length_8abf5_0 rfl rfl ?_
  replace h := qbd h; obtain ⟨u1, hu1, h⟩ := h
  replace h := qbd h; obtain ⟨y2, hy2, h⟩ := h
  refine ev_callg (pc' := 4) (st2 := [iv y2]) dJ4_length_8abf5_1 (qs_W tc_12_343 (by decide) rfl rfl (qCn_s hu1)) rfl rfl (eJ5_length_8abf5 (d := d + 0) hy2) rfl rfl ?_
  cases h
  exact ev_ireturn dJ4_length_8abf5_4 rfl rfl
set_option maxRecDepth 100000 in
theorem eJ7_checkLength_df160 {Ls t d : Nat} {p0 : Int} {p1 : Int} {μ : qMu} {r : Unit} (h : fJ7_checkLength_df160 p0 p1 μ = some r) : Ev (d + 0) mJ7_checkLength_df160 0 [some (iv p0), some (iv p1)] [] (cS Ls t μ) (.inl none) (cS Ls t μ) := by
  unfold fJ7_checkLength_df160 at h
  refine ev_iload_n (pc' := 1) dJ7_checkLength_df160_0 rfl rfl ?_
  refine ev_iload_n (pc' := 2) dJ7_checkLength_df160_1 rfl rfl ?_
  refine ev_icmpge (pc' := 5) (tgt := 37) dJ7_checkLength_df160_2 (by decide) rfl (x1 := wr p1) (y1 := wr p0) rfl rfl  (fun c1 => ?_) (fun c1 => ?_)
  · replace h := qit c1 h
    cases h
  · replace h := qif' c1 h
    cases h
    exact ev_return dJ7_checkLength_df160_37 rfl
set_option maxRecDepth 100000 in
theorem eJ7_copyOfRangeByte_39247 {Ls t d : Nat} {p0 : Nat} {p1 : Int} {p2 : Int} {μ : qMu} {r : Nat × qMu} (ht : t = 0) (h : fJ7_copyOfRangeByte_39247 p0 p1 p2 μ = some r) : Ev (d + 1) mJ7_copyOfRangeByte_39247 0 [some (.ref p0), some (iv p1), some (iv p2), none, none] [] (cS Ls t μ) (.inl (some (.ref r.1))) (cS Ls t r.2) := by
  unfold fJ7_copyOfRangeByte_39247 at h
  refine ev_iload_n (pc' := 1) dJ7_copyOfRangeByte_39247_0 rfl rfl ?_
  refine ev_iload_n (pc' := 2) dJ7_copyOfRangeByte_39247_1 rfl rfl ?_
  replace h := qbd h; obtain ⟨y1, hy1, h⟩ := h
  refine ev_callg (pc' := 5) (st2 := []) dJ7_copyOfRangeByte_39247_2 (qs_S tc_16_343 (by decide) rfl rfl) rfl rfl (eJ7_checkLength_df160 (d := d + 0) hy1) rfl rfl ?_
  refine ev_iload_n (pc' := 6) dJ7_copyOfRangeByte_39247_5 rfl rfl ?_
  refine ev_iload_n (pc' := 7) dJ7_copyOfRangeByte_39247_6 rfl rfl ?_
  refine ev_isub (pc' := 8) dJ7_copyOfRangeByte_39247_7 rfl ?_
  refine ev_istore_n (pc' := 9) (L1 := [some (.ref p0), some (iv p1), some (iv p2), some (iv (p2 - p1)), none]) dJ7_copyOfRangeByte_39247_8 rfl rfl ?_
  refine ev_iload_n (pc' := 10) dJ7_copyOfRangeByte_39247_9 rfl rfl ?_
  replace h := qbd h; obtain ⟨y2, hy2, h⟩ := h
  refine ev_newa (pc' := 12) ht (Or.inr rfl) dJ7_copyOfRangeByte_39247_10 rfl rfl hy2 ?_
  refine ev_astore (pc' := 14) (L1 := [some (.ref p0), some (iv p1), some (iv p2), some (iv (p2 - p1)), some (.ref y2.1)]) dJ7_copyOfRangeByte_39247_12 rfl rfl ?_
  refine ev_aload_n (pc' := 15) dJ7_copyOfRangeByte_39247_14 rfl rfl ?_
  refine ev_iload_n (pc' := 16) dJ7_copyOfRangeByte_39247_15 rfl rfl ?_
  refine ev_aload (pc' := 18) dJ7_copyOfRangeByte_39247_16 rfl rfl ?_
  refine ev_iconst (pc' := 19) dJ7_copyOfRangeByte_39247_18 rfl ?_
  refine ev_aload_n (pc' := 20) dJ7_copyOfRangeByte_39247_19 rfl rfl ?_
  replace h := qbd h; obtain ⟨x3, hx3, h⟩ := h
  refine ev_alenj (pc' := 21) dJ7_copyOfRangeByte_39247_20 rfl hx3 ?_
  refine ev_iload_n (pc' := 22) dJ7_copyOfRangeByte_39247_21 rfl rfl ?_
  refine ev_isub (pc' := 23) dJ7_copyOfRangeByte_39247_22 rfl ?_
  refine ev_iload_n (pc' := 24) dJ7_copyOfRangeByte_39247_23 rfl rfl ?_
  refine ev_min (pc' := 27) dJ7_copyOfRangeByte_39247_24 rfl tc_16_304 rfl ?_
  replace h := qbd h; obtain ⟨μ4, hμ4, h⟩ := h
  refine ev_acp (pc' := 30) dJ7_copyOfRangeByte_39247_27 rfl tc_16_150 rfl hμ4 ?_
  refine ev_aload (pc' := 32) dJ7_copyOfRangeByte_39247_30 rfl rfl ?_
  cases h
  exact ev_areturnA dJ7_copyOfRangeByte_39247_32 rfl
set_option maxRecDepth 100000 in
theorem eJ7_copyOfRange_39247 {Ls t d : Nat} {p0 : Nat} {p1 : Int} {p2 : Int} {μ : qMu} {r : Nat × qMu} (ht : t = 0) (h : fJ7_copyOfRange_39247 p0 p1 p2 μ = some r) : Ev (d + 2) mJ7_copyOfRange_39247 0 [some (.ref p0), some (iv p1), some (iv p2)] [] (cS Ls t μ) (.inl (some (.ref r.1))) (cS Ls t r.2) := by
  unfold fJ7_copyOfRange_39247 at h
  refine ev_iload_n (pc' := 1) dJ7_copyOfRange_39247_0 rfl rfl ?_
  refine ev_ifne (pc' := 4) (tgt := 10) dJ7_copyOfRange_39247_1 (by decide) rfl (x1 := wr p1) rfl (fun c1 => ?_) (fun c1 => ?_)
  · replace h := qit c1 h
    refine ev_iload_n (pc' := 5) dJ7_copyOfRange_39247_4 rfl rfl ?_
    refine ev_aload_n (pc' := 6) dJ7_copyOfRange_39247_5 rfl rfl ?_
    replace h := qbd h; obtain ⟨x2, hx2, h⟩ := h
    refine ev_alenj (pc' := 7) dJ7_copyOfRange_39247_6 rfl hx2 ?_
    refine ev_icmpeq (pc' := 10) (tgt := 17) dJ7_copyOfRange_39247_7 (by decide) rfl (x1 := wr p2) (y1 := wr x2) rfl rfl  (fun c3 => ?_) (fun c3 => ?_)
    · replace h := qit c3 h
      refine ev_aload_n (pc' := 18) dJ7_copyOfRange_39247_17 rfl rfl ?_
      replace h := qbd h; obtain ⟨y4, hy4, h⟩ := h
      refine ev_cln (pc' := 21) ht dJ7_copyOfRange_39247_18 rfl tc_16_310 rfl hy4 ?_
      replace h := qbd h; obtain ⟨u5, hu5, h⟩ := h
      refine ev_chkc (pc' := 24) dJ7_copyOfRange_39247_21 rfl ⟨rfl, rfl⟩ hu5 ?_
      cases h
      exact ev_areturnA dJ7_copyOfRange_39247_24 rfl
    · replace h := qif' c3 h
      refine ev_aload_n (pc' := 11) dJ7_copyOfRange_39247_10 rfl rfl ?_
      refine ev_iload_n (pc' := 12) dJ7_copyOfRange_39247_11 rfl rfl ?_
      refine ev_iload_n (pc' := 13) dJ7_copyOfRange_39247_12 rfl rfl ?_
      replace h := qbd h; obtain ⟨y6, hy6, h⟩ := h
      refine ev_callg (pc' := 16) (st2 := [.ref y6.1]) dJ7_copyOfRange_39247_13 (qs_S tc_16_339 (by decide) rfl rfl) rfl rfl (eJ7_copyOfRangeByte_39247 (d := d + 0) ht hy6) rfl rfl ?_
      cases h
      exact ev_areturnA dJ7_copyOfRange_39247_16 rfl
  · replace h := qif' c1 h
    refine ev_aload_n (pc' := 11) dJ7_copyOfRange_39247_10 rfl rfl ?_
    refine ev_iload_n (pc' := 12) dJ7_copyOfRange_39247_11 rfl rfl ?_
    refine ev_iload_n (pc' := 13) dJ7_copyOfRange_39247_12 rfl rfl ?_
    replace h := qbd h; obtain ⟨y7, hy7, h⟩ := h
    refine ev_callg (pc' := 16) (st2 := [.ref y7.1]) dJ7_copyOfRange_39247_13 (qs_S tc_16_339 (by decide) rfl rfl) rfl rfl (eJ7_copyOfRangeByte_39247 (d := d + 0) ht hy7) rfl rfl ?_
    cases h
    exact ev_areturnA dJ7_copyOfRange_39247_16 rfl
set_option maxRecDepth 100000 in
theorem eJ0_init_db425 {Ls t d : Nat} {o : Nat} {p0 : Nat} {μ : qMu} {r : qMu} (ht : t = 0) (h : fJ0_init_db425 o p0 μ = some r) : Ev (d + 3) mJ0_init_db425 0 [some (.ref o), some (.ref p0), some (.null), none, none] [] (cS Ls t μ) (.inl none) (cS Ls t r) := by
  unfold fJ0_init_db425 at h
  refine ev_aload_n (pc' := 1) dJ0_init_db425_0 rfl rfl ?_
  refine ev_oinit (mo := 7) (n := 0) (pc' := 4) dJ0_init_db425_1 rfl tc_11_1 rfl ?_
  refine ev_aload_n (pc' := 5) dJ0_init_db425_4 rfl rfl ?_
  replace h := qbd h; obtain ⟨u1, hu1, h⟩ := h
  replace h := qbd h; obtain ⟨y2, hy2, h⟩ := h
  refine ev_callg (pc' := 8) (st2 := [.ref y2]) dJ0_init_db425_5 (qs_U tc_11_552 rfl rfl (qCn_s hu1)) rfl rfl (eJ5_getValue_6d5f1 (d := d + 2) hy2) rfl rfl ?_
  refine ev_astore_n (pc' := 9) (L1 := [some (.ref o), some (.ref p0), some (.null), some (.ref y2), none]) dJ0_init_db425_8 rfl rfl ?_
  refine ev_aload_n (pc' := 10) dJ0_init_db425_9 rfl rfl ?_
  replace h := qbd h; obtain ⟨u3, hu3, h⟩ := h
  replace h := qbd h; obtain ⟨y4, hy4, h⟩ := h
  refine ev_callg (pc' := 13) (st2 := [iv y4]) dJ0_init_db425_10 (qs_Vx tc_11_549 (Or.inr (Or.inr rfl)) rfl rfl (qCk_x hu3) rfl) rfl rfl (eJ4_length_8abf5 (d := d + 1) hy4) rfl rfl ?_
  refine ev_istore (pc' := 15) (L1 := [some (.ref o), some (.ref p0), some (.null), some (.ref y2), some (iv y4)]) dJ0_init_db425_13 rfl rfl ?_
  refine ev_aload_n (pc' := 16) dJ0_init_db425_15 rfl rfl ?_
  replace h := qbd h; obtain ⟨u5, hu5, h⟩ := h
  replace h := qbd h; obtain ⟨y6, hy6, h⟩ := h
  refine ev_callg (pc' := 19) (st2 := [iv y6]) dJ0_init_db425_16 (qs_U tc_11_1047 rfl rfl (qCn_s hu5)) rfl rfl (eJ5_isLatin1_aae02 (d := d + 2) hy6) rfl rfl ?_
  refine ev_ifeq (pc' := 22) (tgt := 41) dJ0_init_db425_19 (by decide) rfl (x1 := wr y6) rfl (fun c7 => ?_) (fun c7 => ?_)
  · replace h := qit c7 h
    refine ev_gst0 (pc' := 44) dJ0_init_db425_41 rfl tg_11_38 ?_
    refine ev_ifeq (pc' := 47) (tgt := 79) dJ0_init_db425_44 (by decide) rfl (x1 := 1) wl_1 (fun c8 => absurd c8 (by decide)) (fun _ => ?_)
    refine ev_aload_n (pc' := 48) dJ0_init_db425_47 rfl rfl ?_
    replace h := qbd h; obtain ⟨x9, hx9, h⟩ := h
    refine ev_getij (pc' := 51) (ki := 2) dJ0_init_db425_48 rfl tf_11_1048 rfl hx9 ?_
    refine ev_ifeq (pc' := 54) (tgt := 79) dJ0_init_db425_51 (by decide) rfl (x1 := wr x9) rfl (fun c10 => ?_) (fun c10 => ?_)
    · replace h := qit c10 h
      refine ev_aload_n (pc' := 80) dJ0_init_db425_79 rfl rfl ?_
      refine ev_iconst (pc' := 81) dJ0_init_db425_80 rfl ?_
      replace h := qbd h; obtain ⟨μ11, hμ11, h⟩ := h
      refine ev_putij (pc' := 84) (ki := 1) dJ0_init_db425_81 rfl tf_11_15 rfl rfl hμ11 ?_
      refine ev_aload_n (pc' := 85) dJ0_init_db425_84 rfl rfl ?_
      refine ev_aload_n (pc' := 86) dJ0_init_db425_85 rfl rfl ?_
      refine ev_iconst (pc' := 87) dJ0_init_db425_86 rfl ?_
      refine ev_iload (pc' := 89) dJ0_init_db425_87 rfl rfl ?_
      refine ev_iconst (pc' := 90) dJ0_init_db425_89 rfl ?_
      refine ev_ishl (pc' := 91) dJ0_init_db425_90 rfl ?_
      replace h := qbd h; obtain ⟨y12, hy12, h⟩ := h
      refine ev_callg (pc' := 94) (st2 := [.ref y12.1, .ref o]) dJ0_init_db425_91 (qs_S tc_11_54 (by decide) rfl rfl) rfl rfl (eJ7_copyOfRange_39247 (d := d + 0) ht hy12) rfl rfl ?_
      replace h := qbd h; obtain ⟨μ13, hμ13, h⟩ := h
      refine ev_putrj (pc' := 97) dJ0_init_db425_94 rfl tf_11_9 rfl hμ13 ?_
      cases h
      exact ev_return dJ0_init_db425_97 rfl
    · replace h := qif' c10 h
      refine ev_aload_n (pc' := 55) dJ0_init_db425_54 rfl rfl ?_
      refine ev_aload_n (pc' := 56) dJ0_init_db425_55 rfl rfl ?_
      refine ev_iconst (pc' := 57) dJ0_init_db425_56 rfl ?_
      refine ev_iload (pc' := 59) dJ0_init_db425_57 rfl rfl ?_
      cases h
  · replace h := qif' c7 h
    refine ev_aload_n (pc' := 23) dJ0_init_db425_22 rfl rfl ?_
    refine ev_iconst (pc' := 24) dJ0_init_db425_23 rfl ?_
    replace h := qbd h; obtain ⟨μ14, hμ14, h⟩ := h
    refine ev_putij (pc' := 27) (ki := 1) dJ0_init_db425_24 rfl tf_11_15 rfl rfl hμ14 ?_
    refine ev_aload_n (pc' := 28) dJ0_init_db425_27 rfl rfl ?_
    refine ev_aload_n (pc' := 29) dJ0_init_db425_28 rfl rfl ?_
    refine ev_iconst (pc' := 30) dJ0_init_db425_29 rfl ?_
    refine ev_iload (pc' := 32) dJ0_init_db425_30 rfl rfl ?_
    replace h := qbd h; obtain ⟨y15, hy15, h⟩ := h
    refine ev_callg (pc' := 35) (st2 := [.ref y15.1, .ref o]) dJ0_init_db425_32 (qs_S tc_11_54 (by decide) rfl rfl) rfl rfl (eJ7_copyOfRange_39247 (d := d + 0) ht hy15) rfl rfl ?_
    replace h := qbd h; obtain ⟨μ16, hμ16, h⟩ := h
    refine ev_putrj (pc' := 38) dJ0_init_db425_35 rfl tf_11_9 rfl hμ16 ?_
    refine ev_goto (pc' := 97) dJ0_init_db425_38 (by decide) ?_
    cases h
    exact ev_return dJ0_init_db425_97 rfl
set_option maxRecDepth 100000 in
theorem eJ0_init_81219 {Ls t d : Nat} {o : Nat} {p0 : Nat} {μ : qMu} {r : qMu} (ht : t = 0) (h : fJ0_init_81219 o p0 μ = some r) : Ev (d + 4) mJ0_init_81219 0 [some (.ref o), some (.ref p0)] [] (cS Ls t μ) (.inl none) (cS Ls t r) := by
  unfold fJ0_init_81219 at h
  refine ev_aload_n (pc' := 1) dJ0_init_81219_0 rfl rfl ?_
  refine ev_aload_n (pc' := 2) dJ0_init_81219_1 rfl rfl ?_
  refine ev_null (pc' := 3) dJ0_init_81219_2 rfl ?_
  replace h := qbd h; obtain ⟨u1, hu1, h⟩ := h
  replace h := qbd h; obtain ⟨y2, hy2, h⟩ := h
  refine ev_callg (pc' := 6) (st2 := []) dJ0_init_81219_3 (qs_I tc_11_489 (by decide) rfl rfl (qCn_s hu1) rfl) rfl rfl (eJ0_init_db425 (d := d + 0) ht hy2) rfl rfl ?_
  cases h
  exact ev_return dJ0_init_81219_6 rfl
set_option maxRecDepth 100000 in
theorem eJ4_toString_0e30d {Ls t d : Nat} {o : Nat} {μ : qMu} {r : Nat × qMu} (ht : t = 0) (h : fJ4_toString_0e30d o μ = some r) : Ev (d + 5) mJ4_toString_0e30d 0 [some (.ref o)] [] (cS Ls t μ) (.inl (some (.ref r.1))) (cS Ls t r.2) := by
  unfold fJ4_toString_0e30d at h
  replace h := qbd h; obtain ⟨y1, hy1, h⟩ := h
  refine ev_newo (pc' := 3) ht dJ4_toString_0e30d_0 rfl tn_12_18 hy1 ?_
  refine ev_dup (pc' := 4) dJ4_toString_0e30d_3 rfl rfl ?_
  refine ev_aload_n (pc' := 5) dJ4_toString_0e30d_4 rfl rfl ?_
  replace h := qbd h; obtain ⟨u2, hu2, h⟩ := h
  replace h := qbd h; obtain ⟨y3, hy3, h⟩ := h
  refine ev_callg (pc' := 8) (st2 := [.ref y1.1]) dJ4_toString_0e30d_5 (qs_I tc_12_137 (by decide) rfl rfl (qCn_s hu2) rfl) rfl rfl (eJ0_init_81219 (d := d + 0) ht hy3) rfl rfl ?_
  cases h
  exact ev_areturn dJ4_toString_0e30d_8 rfl
set_option maxRecDepth 100000 in
theorem ebL_told_33 {Ls t d n : Nat} (hLs : Ls ≤ 5000) (ht : t = 0) {w1 : Nat} : ∀ (k : Nat) (x : Nat × Int × Int × qMu) (y : Nat × qMu), lp (fun x : Nat × Int × Int × qMu => bL_told_33 n Ls w1 x.1 x.2.1 x.2.2.1 x.2.2.2) k x = some y → ∀ (o : qO) (s' : qSt), Ev (d + 6) mL_told 117 [some (.ref 78), some (.ref w1), some (.ref y.1), none, none, none, none, none] [] (cS Ls t y.2) o s' → Ev (d + 6) mL_told 33 [some (.ref 78), some (.ref w1), some (.ref x.1), some (iv x.2.1), some (iv x.2.2.1), none, none, none] [] (cS Ls t x.2.2.2) o s' := by
  intro k
  induction k with
  | zero => intro x y h; cases h
  | succ k ih =>
    intro x y h o s' kE
    rw [lp_s] at h
    replace h := qbd h; obtain ⟨zz, h0, h1⟩ := h
    have h : bL_told_33 n Ls w1 x.1 x.2.1 x.2.2.1 x.2.2.2 = some zz := h0
    clear h0
    unfold bL_told_33 at h
    refine ev_iload (pc' := 35) dL_told_33 rfl rfl ?_
    refine ev_aload_n (pc' := 36) dL_told_35 rfl rfl ?_
    refine ev_geti (pc' := 39) (ki := 2) dL_told_36 rfl tf_10_75 sh78 rfl rfl ?_
    refine ev_icmpge (pc' := 42) (tgt := 117) dL_told_39 (by decide) rfl (x1 := wr x.2.2.1) (y1 := wr (rd x.2.2.2 78 2)) rfl rfl  (fun c6 => ?_) (fun c6 => ?_)
    · replace h := qit c6 h
      refine ev_aload_n (pc' := 43) dL_told_42 rfl rfl ?_
      refine ev_iload (pc' := 45) dL_told_43 rfl rfl ?_
      refine ev_aload_n (pc' := 46) dL_told_45 rfl rfl ?_
      refine ev_iconst (pc' := 47) dL_told_46 rfl ?_
      replace h := qbd h; obtain ⟨y7, hy7, h⟩ := h
      refine ev_callg (pc' := 50) (st2 := [iv y7.1, iv x.2.2.1, .ref w1]) dL_told_47 (qs_V tc_10_54 rfl rfl (cS_cls sh78) rfl) rfl rfl (eL_chosen (d := d + 4) hLs hy7) rfl rfl ?_
      replace h := qbd h; obtain ⟨μ8, hμ8, h⟩ := h
      refine ev_iastj (pc' := 51) dL_told_50 rfl hμ8 ?_
      refine ev_iload_n (pc' := 52) dL_told_51 rfl rfl ?_
      refine ev_aload_n (pc' := 53) dL_told_52 rfl rfl ?_
      refine ev_iload (pc' := 55) dL_told_53 rfl rfl ?_
      replace h := qbd h; obtain ⟨x9, hx9, h⟩ := h
      refine ev_ialdj (pc' := 56) dL_told_55 rfl hx9 ?_
      refine ev_iadd (pc' := 57) dL_told_56 rfl ?_
      refine ev_istore_n (pc' := 58) (L1 := [some (.ref 78), some (.ref w1), some (.ref x.1), some (iv (x.2.1 + x9)), some (iv x.2.2.1), none, none, none]) dL_told_57 rfl rfl ?_
      refine ev_iload (pc' := 60) dL_told_58 rfl rfl ?_
      refine ev_aload_n (pc' := 61) dL_told_60 rfl rfl ?_
      refine ev_geti (pc' := 64) (ki := 2) dL_told_61 rfl tf_10_75 sh78 rfl rfl ?_
      refine ev_iconst (pc' := 65) dL_told_64 rfl ?_
      refine ev_isub (pc' := 66) dL_told_65 rfl ?_
      replace h := qbd h; obtain ⟨y11, hy11, h⟩ := h
      have kJ : Ev (d + 6) mL_told 84 [some (.ref 78), some (.ref w1), some (.ref x.1), some (iv (x.2.1 + x9)), some (iv x.2.2.1), none, none, none] [] (cS Ls t y11) o s' := by
        replace h := qbd h; obtain ⟨y15, hy15, h⟩ := h
        refine ev_newo (pc' := 87) ht dL_told_84 rfl tn_10_105 hy15 ?_
        refine ev_dup (pc' := 88) dL_told_87 rfl rfl ?_
        replace h := qbd h; obtain ⟨u16, hu16, h⟩ := h
        replace h := qbd h; obtain ⟨y17, hy17, h⟩ := h
        refine ev_callg (pc' := 91) (st2 := [.ref y15.1]) dL_told_88 (qs_I tc_10_107 (by decide) rfl rfl (qCn_s hu16) rfl) rfl rfl (eJ4_init_da8c8 (d := d + 4) ht hy17) rfl rfl ?_
        refine ev_aload_n (pc' := 92) dL_told_91 rfl rfl ?_
        replace h := qbd h; obtain ⟨u18, hu18, h⟩ := h
        replace h := qbd h; obtain ⟨y19, hy19, h⟩ := h
        refine ev_callg (pc' := 95) (st2 := [.ref y19.1]) dL_told_92 (qs_Vx tc_10_108 (Or.inl rfl) rfl rfl (qCk_x hu18) rfl) rfl rfl (eJ4_append_15ec4 (d := d + 1) ht hy19) rfl rfl ?_
        refine ev_ldc (pc' := 97) dL_told_95 rfl ts_10_112 ?_
        replace h := qbd h; obtain ⟨u20, hu20, h⟩ := h
        replace h := qbd h; obtain ⟨y21, hy21, h⟩ := h
        refine ev_callg (pc' := 100) (st2 := [.ref y21.1]) dL_told_97 (qs_Vx tc_10_108 (Or.inl rfl) rfl rfl (qCk_x hu20) rfl) rfl rfl (eJ4_append_15ec4 (d := d + 1) ht hy21) rfl rfl ?_
        refine ev_aload_n (pc' := 101) dL_told_100 rfl rfl ?_
        refine ev_iload (pc' := 103) dL_told_101 rfl rfl ?_
        replace h := qbd h; obtain ⟨x22, hx22, h⟩ := h
        refine ev_ialdj (pc' := 104) dL_told_103 rfl hx22 ?_
        replace h := qbd h; obtain ⟨u23, hu23, h⟩ := h
        replace h := qbd h; obtain ⟨y24, hy24, h⟩ := h
        refine ev_callg (pc' := 107) (st2 := [.ref y24.1]) dL_told_104 (qs_Vx tc_10_114 (Or.inl rfl) rfl rfl (qCk_x hu23) rfl) rfl rfl (eJ4_append_bf812 (d := d + 1) ht hy24) rfl rfl ?_
        replace h := qbd h; obtain ⟨u25, hu25, h⟩ := h
        replace h := qbd h; obtain ⟨y26, hy26, h⟩ := h
        refine ev_callg (pc' := 110) (st2 := [.ref y26.1]) dL_told_107 (qs_Vx tc_10_117 (Or.inl rfl) rfl rfl (qCk_x hu25) rfl) rfl rfl (eJ4_toString_0e30d (d := d + 0) ht hy26) rfl rfl ?_
        refine ev_astore_n (pc' := 111) (L1 := [some (.ref 78), some (.ref w1), some (.ref y26.1), some (iv (x.2.1 + x9)), some (iv x.2.2.1), none, none, none]) dL_told_110 rfl rfl ?_
        refine ev_iinc (pc' := 114) (x := x.2.2.1) (L1 := [some (.ref 78), some (.ref w1), some (.ref y26.1), some (iv (x.2.1 + x9)), some (iv (x.2.2.1 + 1)), none, none, none]) dL_told_111 rfl rfl rfl ?_
        refine ev_goto (pc' := 33) dL_told_114 (by decide) ?_
        cases h
        exact ev_wk (qLe_eq (qLe_eq (qLe_eq (qLe_eq (qLe_eq (qLe_eq (qLe_eq (qLe_eq qLe_nil)))))))) (ih _ _ h1 _ _ kE)
      replace h := hy11
      clear hy11
      refine ev_icmpne (pc' := 69) (tgt := 84) dL_told_66 (by decide) rfl (x1 := wr x.2.2.1) (y1 := wr ((rd μ8 78 2) - 1)) rfl rfl  (fun c10 => ?_) (fun c10 => ?_)
      · replace h := qit c10 h
        refine ev_iload_n (pc' := 70) dL_told_69 rfl rfl ?_
        refine ev_iconst (pc' := 71) dL_told_70 rfl ?_
        refine ev_irem (pc' := 72) dL_told_71 rfl zl_2 ?_
        refine ev_iconst (pc' := 73) dL_told_72 rfl ?_
        refine ev_icmpne (pc' := 76) (tgt := 84) dL_told_73 (by decide) rfl (x1 := wr (irm (x.2.1 + x9) 2)) (y1 := 1) rfl wl_1  (fun c12 => ?_) (fun c12 => ?_)
        · replace h := qit c12 h
          refine ev_aload_n (pc' := 77) dL_told_76 rfl rfl ?_
          refine ev_iload (pc' := 79) dL_told_77 rfl rfl ?_
          refine ev_dup2 (pc' := 80) dL_told_79 rfl ⟨rfl, rfl⟩ ?_
          replace h := qbd h; obtain ⟨x13, hx13, h⟩ := h
          refine ev_ialdj (pc' := 81) dL_told_80 rfl hx13 ?_
          refine ev_iconst (pc' := 82) dL_told_81 rfl ?_
          refine ev_iadd (pc' := 83) dL_told_82 rfl ?_
          replace h := qbd h; obtain ⟨μ14, hμ14, h⟩ := h
          refine ev_iastj (pc' := 84) dL_told_83 rfl hμ14 ?_
          cases h
          exact ev_wk (qLe_eq (qLe_eq (qLe_eq (qLe_eq (qLe_eq (qLe_eq (qLe_eq (qLe_eq qLe_nil)))))))) kJ
        · replace h := qif' c12 h
          cases h
          exact ev_wk (qLe_eq (qLe_eq (qLe_eq (qLe_eq (qLe_eq (qLe_eq (qLe_eq (qLe_eq qLe_nil)))))))) kJ
      · replace h := qif' c10 h
        cases h
        exact ev_wk (qLe_eq (qLe_eq (qLe_eq (qLe_eq (qLe_eq (qLe_eq (qLe_eq (qLe_eq qLe_nil)))))))) kJ
    · replace h := qif' c6 h
      cases h
      cases h1
      exact ev_wk (qLe_eq (qLe_eq (qLe_eq (qLe_sk (qLe_sk (qLe_eq (qLe_eq (qLe_eq qLe_nil)))))))) kE
set_option maxRecDepth 100000 in
theorem ebL_told_123 {Ls t d n : Nat} {w1 : Nat} {w2 : Nat} : ∀ (k : Nat) (x : Int × Int × qMu) (y : qMu), lp (fun x : Int × Int × qMu => bL_told_123 n Ls w1 w2 x.1 x.2.1 x.2.2) k x = some y → ∀ (o : qO) (s' : qSt), Ev (d + 6) mL_told 198 [some (.ref 78), none, some (.ref w2), none, none, none, none, none] [] (cS Ls t y) o s' → Ev (d + 6) mL_told 123 [some (.ref 78), some (.ref w1), some (.ref w2), none, some (iv x.1), some (iv x.2.1), none, none] [] (cS Ls t x.2.2) o s' := by
  intro k
  induction k with
  | zero => intro x y h; cases h
  | succ k ih =>
    intro x y h o s' kE
    rw [lp_s] at h
    replace h := qbd h; obtain ⟨zz, h0, h1⟩ := h
    have h : bL_told_123 n Ls w1 w2 x.1 x.2.1 x.2.2 = some zz := h0
    clear h0
    unfold bL_told_123 at h
    refine ev_iload (pc' := 125) dL_told_123 rfl rfl ?_
    refine ev_aload_n (pc' := 126) dL_told_125 rfl rfl ?_
    refine ev_geti (pc' := 129) (ki := 2) dL_told_126 rfl tf_10_75 sh78 rfl rfl ?_
    refine ev_icmpge (pc' := 132) (tgt := 198) dL_told_129 (by decide) rfl (x1 := wr x.2.1) (y1 := wr (rd x.2.2 78 2)) rfl rfl  (fun c28 => ?_) (fun c28 => ?_)
    · replace h := qit c28 h
      refine ev_aload_n (pc' := 133) dL_told_132 rfl rfl ?_
      refine ev_getr (pc' := 136) dL_told_133 rfl tf_10_15 sh78 rfl ?_
      refine ev_iload (pc' := 138) dL_told_136 rfl rfl ?_
      replace h := qbd h; obtain ⟨x29, hx29, h⟩ := h
      refine ev_aald (ty := 4) (Or.inr rfl) (pc' := 139) dL_told_138 rfl sh80 hx29 ?_
      refine ev_iload (pc' := 141) dL_told_139 rfl rfl ?_
      refine ev_aload_n (pc' := 142) dL_told_141 rfl rfl ?_
      refine ev_iload (pc' := 144) dL_told_142 rfl rfl ?_
      replace h := qbd h; obtain ⟨x30, hx30, h⟩ := h
      refine ev_ialdj (pc' := 145) dL_told_144 rfl hx30 ?_
      refine ev_iconst (pc' := 146) dL_told_145 rfl ?_
      refine ev_idiv (pc' := 147) dL_told_146 rfl zl_2 ?_
      replace h := qbd h; obtain ⟨μ31, hμ31, h⟩ := h
      refine ev_iast (pc' := 148) dL_told_147 rfl (gP80 hx29) hμ31 ?_
      refine ev_aload_n (pc' := 149) dL_told_148 rfl rfl ?_
      refine ev_iload (pc' := 151) dL_told_149 rfl rfl ?_
      replace h := qbd h; obtain ⟨x32, hx32, h⟩ := h
      refine ev_ialdj (pc' := 152) dL_told_151 rfl hx32 ?_
      refine ev_iconst (pc' := 153) dL_told_152 rfl ?_
      refine ev_irem (pc' := 154) dL_told_153 rfl zl_2 ?_
      replace h := qbd h; obtain ⟨y34, hy34, h⟩ := h
      have kJ : Ev (d + 6) mL_told 192 [some (.ref 78), some (.ref w1), some (.ref w2), none, some (iv y34.1), some (iv x.2.1), none, none] [] (cS Ls t y34.2) o s' := by
        refine ev_iinc (pc' := 195) (x := x.2.1) (L1 := [some (.ref 78), some (.ref w1), some (.ref w2), none, some (iv y34.1), some (iv (x.2.1 + 1)), none, none]) dL_told_192 rfl rfl rfl ?_
        refine ev_goto (pc' := 123) dL_told_195 (by decide) ?_
        cases h
        exact ev_wk (qLe_eq (qLe_eq (qLe_eq (qLe_eq (qLe_eq (qLe_eq (qLe_eq (qLe_eq qLe_nil)))))))) (ih _ _ h1 _ _ kE)
      replace h := hy34
      clear hy34
      refine ev_ifne (pc' := 157) (tgt := 160) dL_told_154 (by decide) rfl (x1 := wr (irm x32 2)) rfl (fun c33 => ?_) (fun c33 => ?_)
      · replace h := qit c33 h
        refine ev_goto (pc' := 192) dL_told_157 (by decide) ?_
        cases h
        exact ev_wk (qLe_eq (qLe_eq (qLe_eq (qLe_eq (qLe_eq (qLe_eq (qLe_eq (qLe_eq qLe_nil)))))))) kJ
      · replace h := qif' c33 h
        refine ev_iload (pc' := 162) dL_told_160 rfl rfl ?_
        replace h := qbd h; obtain ⟨y36, hy36, h⟩ := h
        have kJ : Ev (d + 6) mL_told 179 [some (.ref 78), some (.ref w1), some (.ref w2), none, some (iv x.1), some (iv x.2.1), none, none] [] (cS Ls t y36) o s' := by
          refine ev_iload (pc' := 181) dL_told_179 rfl rfl ?_
          have k41 : ∀ j42 : Int, j42 = (if wr x.1 < 0 then x.2.1 else (-1)) → Ev (d + 6) mL_told 190 [some (.ref 78), some (.ref w1), some (.ref w2), none, none, some (iv x.2.1), none, none] [iv j42] (cS Ls t y36) o s' := by
            intro j42 ej42
            subst ej42
            refine ev_istore (pc' := 192) (L1 := [some (.ref 78), some (.ref w1), some (.ref w2), none, some (iv (if wr x.1 < 0 then x.2.1 else (-1))), some (iv x.2.1), none, none]) dL_told_190 rfl rfl ?_
            cases h
            exact ev_wk (qLe_eq (qLe_eq (qLe_eq (qLe_eq (qLe_eq (qLe_eq (qLe_eq (qLe_eq qLe_nil)))))))) kJ
          refine ev_iflt (pc' := 184) (tgt := 188) dL_told_181 (by decide) rfl (x1 := wr x.1) rfl (fun c40 => ?_) (fun c40 => ?_)
          · skip
            refine ev_iload (pc' := 190) dL_told_188 rfl rfl ?_
            exact ev_wk (qLe_eq (qLe_eq (qLe_eq (qLe_eq (qLe_sk (qLe_eq (qLe_eq (qLe_eq qLe_nil)))))))) (k41 _ (qet c40 rfl))
          · skip
            refine ev_iconst (pc' := 185) dL_told_184 rfl ?_
            refine ev_goto (pc' := 190) dL_told_185 (by decide) ?_
            exact ev_wk (qLe_eq (qLe_eq (qLe_eq (qLe_eq (qLe_sk (qLe_eq (qLe_eq (qLe_eq qLe_nil)))))))) (k41 _ (qef c40 rfl))
        replace h := hy36
        clear hy36
        refine ev_iflt (pc' := 165) (tgt := 179) dL_told_162 (by decide) rfl (x1 := wr x.1) rfl (fun c35 => ?_) (fun c35 => ?_)
        · replace h := qit c35 h
          cases h
          exact ev_wk (qLe_eq (qLe_eq (qLe_eq (qLe_eq (qLe_eq (qLe_eq (qLe_eq (qLe_eq qLe_nil)))))))) kJ
        · replace h := qif' c35 h
          refine ev_aload_n (pc' := 166) dL_told_165 rfl rfl ?_
          refine ev_getr (pc' := 169) dL_told_166 rfl tf_10_15 sh78 rfl ?_
          refine ev_iload (pc' := 171) dL_told_169 rfl rfl ?_
          replace h := qbd h; obtain ⟨x37, hx37, h⟩ := h
          refine ev_aald (ty := 4) (Or.inr rfl) (pc' := 172) dL_told_171 rfl sh80 hx37 ?_
          refine ev_iload (pc' := 174) dL_told_172 rfl rfl ?_
          refine ev_dup2 (pc' := 175) dL_told_174 rfl ⟨rfl, rfl⟩ ?_
          replace h := qbd h; obtain ⟨x38, hx38, h⟩ := h
          refine ev_iald (pc' := 176) dL_told_175 rfl (gP80 hx37) hx38 ?_
          refine ev_iconst (pc' := 177) dL_told_176 rfl ?_
          refine ev_iadd (pc' := 178) dL_told_177 rfl ?_
          replace h := qbd h; obtain ⟨μ39, hμ39, h⟩ := h
          refine ev_iast (pc' := 179) dL_told_178 rfl (gP80 hx37) hμ39 ?_
          cases h
          exact ev_wk (qLe_eq (qLe_eq (qLe_eq (qLe_eq (qLe_eq (qLe_eq (qLe_eq (qLe_eq qLe_nil)))))))) kJ
    · replace h := qif' c28 h
      cases h
      cases h1
      exact ev_wk (qLe_eq (qLe_sk (qLe_eq (qLe_eq (qLe_sk (qLe_sk (qLe_eq (qLe_eq qLe_nil)))))))) kE
set_option maxRecDepth 100000 in
theorem ebL_told_237 {Ls t d n : Nat} (hLs : Ls ≤ 5000) (ht : t = 0) : ∀ (k : Nat) (x : Nat × Int × qMu) (y : Nat × qMu), lp (fun x : Nat × Int × qMu => bL_told_237 n Ls x.1 x.2.1 x.2.2) k x = some y → ∀ (o : qO) (s' : qSt), Ev (d + 6) mL_told 332 [none, none, some (.ref y.1), none, none, none, none, none] [] (cS Ls t y.2) o s' → Ev (d + 6) mL_told 237 [some (.ref 78), none, some (.ref x.1), none, none, some (iv x.2.1), none, none] [] (cS Ls t x.2.2) o s' := by
  intro k
  induction k with
  | zero => intro x y h; cases h
  | succ k ih =>
    intro x y h o s' kE
    rw [lp_s] at h
    replace h := qbd h; obtain ⟨zz, h0, h1⟩ := h
    have h : bL_told_237 n Ls x.1 x.2.1 x.2.2 = some zz := h0
    clear h0
    unfold bL_told_237 at h
    refine ev_iload (pc' := 239) dL_told_237 rfl rfl ?_
    refine ev_ifle (pc' := 242) (tgt := 332) dL_told_239 (by decide) rfl (x1 := wr x.2.1) rfl (fun c58 => ?_) (fun c58 => ?_)
    · replace h := qit c58 h
      refine ev_aload_n (pc' := 243) dL_told_242 rfl rfl ?_
      refine ev_aload_n (pc' := 244) dL_told_243 rfl rfl ?_
      refine ev_geti (pc' := 247) (ki := 2) dL_told_244 rfl tf_10_75 sh78 rfl rfl ?_
      replace h := qbd h; obtain ⟨y59, hy59, h⟩ := h
      refine ev_callg (pc' := 250) (st2 := [iv y59.1]) dL_told_247 (qs_V tc_10_54 rfl rfl (cS_cls sh78) rfl) rfl rfl (eL_chosen (d := d + 4) hLs hy59) rfl rfl ?_
      refine ev_istore (pc' := 252) (L1 := [some (.ref 78), none, some (.ref x.1), none, none, some (iv x.2.1), some (iv y59.1), none]) dL_told_250 rfl rfl ?_
      refine ev_aload_n (pc' := 253) dL_told_252 rfl rfl ?_
      refine ev_aload_n (pc' := 254) dL_told_253 rfl rfl ?_
      refine ev_geti (pc' := 257) (ki := 2) dL_told_254 rfl tf_10_75 sh78 rfl rfl ?_
      replace h := qbd h; obtain ⟨y60, hy60, h⟩ := h
      refine ev_callg (pc' := 260) (st2 := [iv y60.1]) dL_told_257 (qs_V tc_10_54 rfl rfl (cS_cls sh78) rfl) rfl rfl (eL_chosen (d := d + 4) hLs hy60) rfl rfl ?_
      refine ev_istore (pc' := 262) (L1 := [some (.ref 78), none, some (.ref x.1), none, none, some (iv x.2.1), some (iv y59.1), some (iv y60.1)]) dL_told_260 rfl rfl ?_
      replace h := qbd h; obtain ⟨y61, hy61, h⟩ := h
      refine ev_newo (pc' := 265) ht dL_told_262 rfl tn_10_105 hy61 ?_
      refine ev_dup (pc' := 266) dL_told_265 rfl rfl ?_
      replace h := qbd h; obtain ⟨u62, hu62, h⟩ := h
      replace h := qbd h; obtain ⟨y63, hy63, h⟩ := h
      refine ev_callg (pc' := 269) (st2 := [.ref y61.1]) dL_told_266 (qs_I tc_10_107 (by decide) rfl rfl (qCn_s hu62) rfl) rfl rfl (eJ4_init_da8c8 (d := d + 4) ht hy63) rfl rfl ?_
      refine ev_aload_n (pc' := 270) dL_told_269 rfl rfl ?_
      replace h := qbd h; obtain ⟨u64, hu64, h⟩ := h
      replace h := qbd h; obtain ⟨y65, hy65, h⟩ := h
      refine ev_callg (pc' := 273) (st2 := [.ref y65.1]) dL_told_270 (qs_Vx tc_10_108 (Or.inl rfl) rfl rfl (qCk_x hu64) rfl) rfl rfl (eJ4_append_15ec4 (d := d + 1) ht hy65) rfl rfl ?_
      refine ev_ldc (pc' := 275) dL_told_273 rfl ts_10_124 ?_
      replace h := qbd h; obtain ⟨u66, hu66, h⟩ := h
      replace h := qbd h; obtain ⟨y67, hy67, h⟩ := h
      refine ev_callg (pc' := 278) (st2 := [.ref y67.1]) dL_told_275 (qs_Vx tc_10_108 (Or.inl rfl) rfl rfl (qCk_x hu66) rfl) rfl rfl (eJ4_append_15ec4 (d := d + 1) ht hy67) rfl rfl ?_
      refine ev_iload (pc' := 280) dL_told_278 rfl rfl ?_
      replace h := qbd h; obtain ⟨u68, hu68, h⟩ := h
      replace h := qbd h; obtain ⟨y69, hy69, h⟩ := h
      refine ev_callg (pc' := 283) (st2 := [.ref y69.1]) dL_told_280 (qs_Vx tc_10_114 (Or.inl rfl) rfl rfl (qCk_x hu68) rfl) rfl rfl (eJ4_append_bf812 (d := d + 1) ht hy69) rfl rfl ?_
      refine ev_ldc (pc' := 285) dL_told_283 rfl ts_10_112 ?_
      replace h := qbd h; obtain ⟨u70, hu70, h⟩ := h
      replace h := qbd h; obtain ⟨y71, hy71, h⟩ := h
      refine ev_callg (pc' := 288) (st2 := [.ref y71.1]) dL_told_285 (qs_Vx tc_10_108 (Or.inl rfl) rfl rfl (qCk_x hu70) rfl) rfl rfl (eJ4_append_15ec4 (d := d + 1) ht hy71) rfl rfl ?_
      refine ev_iload (pc' := 290) dL_told_288 rfl rfl ?_
      replace h := qbd h; obtain ⟨u72, hu72, h⟩ := h
      replace h := qbd h; obtain ⟨y73, hy73, h⟩ := h
      refine ev_callg (pc' := 293) (st2 := [.ref y73.1]) dL_told_290 (qs_Vx tc_10_114 (Or.inl rfl) rfl rfl (qCk_x hu72) rfl) rfl rfl (eJ4_append_bf812 (d := d + 1) ht hy73) rfl rfl ?_
      refine ev_ldc (pc' := 295) dL_told_293 rfl ts_10_122 ?_
      replace h := qbd h; obtain ⟨u74, hu74, h⟩ := h
      replace h := qbd h; obtain ⟨y75, hy75, h⟩ := h
      refine ev_callg (pc' := 298) (st2 := [.ref y75.1]) dL_told_295 (qs_Vx tc_10_108 (Or.inl rfl) rfl rfl (qCk_x hu74) rfl) rfl rfl (eJ4_append_15ec4 (d := d + 1) ht hy75) rfl rfl ?_
      replace h := qbd h; obtain ⟨u76, hu76, h⟩ := h
      replace h := qbd h; obtain ⟨y77, hy77, h⟩ := h
      refine ev_callg (pc' := 301) (st2 := [.ref y77.1]) dL_told_298 (qs_Vx tc_10_117 (Or.inl rfl) rfl rfl (qCk_x hu76) rfl) rfl rfl (eJ4_toString_0e30d (d := d + 0) ht hy77) rfl rfl ?_
      refine ev_astore_n (pc' := 302) (L1 := [some (.ref 78), none, some (.ref y77.1), none, none, some (iv x.2.1), some (iv y59.1), some (iv y60.1)]) dL_told_301 rfl rfl ?_
      refine ev_aload_n (pc' := 303) dL_told_302 rfl rfl ?_
      refine ev_getr (pc' := 306) dL_told_303 rfl tf_10_15 sh78 rfl ?_
      refine ev_iload (pc' := 308) dL_told_306 rfl rfl ?_
      refine ev_iload (pc' := 310) dL_told_308 rfl rfl ?_
      refine ev_min (pc' := 313) dL_told_310 rfl tc_10_126 rfl ?_
      replace h := qbd h; obtain ⟨x78, hx78, h⟩ := h
      refine ev_aald (ty := 4) (Or.inr rfl) (pc' := 314) dL_told_313 rfl sh80 hx78 ?_
      refine ev_iload (pc' := 316) dL_told_314 rfl rfl ?_
      refine ev_iload (pc' := 318) dL_told_316 rfl rfl ?_
      refine ev_max (pc' := 321) dL_told_318 rfl tc_10_131 rfl ?_
      refine ev_dup2 (pc' := 322) dL_told_321 rfl ⟨rfl, rfl⟩ ?_
      replace h := qbd h; obtain ⟨x79, hx79, h⟩ := h
      refine ev_iald (pc' := 323) dL_told_322 rfl (gP80 hx78) hx79 ?_
      refine ev_iconst (pc' := 324) dL_told_323 rfl ?_
      refine ev_iadd (pc' := 325) dL_told_324 rfl ?_
      replace h := qbd h; obtain ⟨μ80, hμ80, h⟩ := h
      refine ev_iast (pc' := 326) dL_told_325 rfl (gP80 hx78) hμ80 ?_
      refine ev_iinc (pc' := 329) (x := x.2.1) (L1 := [some (.ref 78), none, some (.ref y77.1), none, none, some (iv (x.2.1 + (-1))), some (iv y59.1), some (iv y60.1)]) dL_told_326 rfl rfl rfl ?_
      refine ev_goto (pc' := 237) dL_told_329 (by decide) ?_
      cases h
      exact ev_wk (qLe_eq (qLe_eq (qLe_eq (qLe_eq (qLe_eq (qLe_eq (qLe_sk (qLe_sk qLe_nil)))))))) (ih _ _ h1 _ _ kE)
    · replace h := qif' c58 h
      cases h
      cases h1
      exact ev_wk (qLe_sk (qLe_eq (qLe_eq (qLe_eq (qLe_eq (qLe_sk (qLe_eq (qLe_eq qLe_nil)))))))) kE
set_option maxRecDepth 100000 in
theorem eL_told {Ls t d n : Nat} {μ : qMu} {r : Nat × qMu} (hLs : Ls ≤ 5000) (ht : t = 0) (h : fL_told n Ls μ = some r) : Ev (d + 6) mL_told 0 [some (.ref 78), none, none, none, none, none, none, none] [] (cS Ls t μ) (.inl (some (.ref r.1))) (cS Ls t r.2) := by
  unfold fL_told at h
  refine ev_aload_n (pc' := 1) dL_told_0 rfl rfl ?_
  refine ev_aload_n (pc' := 2) dL_told_1 rfl rfl ?_
  refine ev_iconst (pc' := 3) dL_told_2 rfl ?_
  refine ev_bipush (pc' := 5) dL_told_3 rfl bl_6 ?_
  replace h := qbd h; obtain ⟨y1, hy1, h⟩ := h
  refine ev_callg (pc' := 8) (st2 := [iv y1.1, .ref 78]) dL_told_5 (qs_V tc_10_97 rfl rfl (cS_cls sh78) rfl) rfl rfl (eL_from (d := d + 3) hLs hy1) rfl rfl ?_
  replace h := qbd h; obtain ⟨μ2, hμ2, h⟩ := h
  refine ev_puti (pc' := 11) dL_told_8 rfl tf_10_75 sh78 rfl rfl (qw_9_2 _) rfl hμ2 ?_
  refine ev_aload_n (pc' := 12) dL_told_11 rfl rfl ?_
  refine ev_aload_n (pc' := 13) dL_told_12 rfl rfl ?_
  refine ev_iconst (pc' := 14) dL_told_13 rfl ?_
  replace h := qbd h; obtain ⟨y3, hy3, h⟩ := h
  refine ev_callg (pc' := 17) (st2 := [iv y3.1, .ref 78]) dL_told_14 (qs_V tc_10_54 rfl rfl (cS_cls sh78) rfl) rfl rfl (eL_chosen (d := d + 4) hLs hy3) rfl rfl ?_
  replace h := qbd h; obtain ⟨μ4, hμ4, h⟩ := h
  refine ev_puti (pc' := 20) dL_told_17 rfl tf_10_100 sh78 rfl rfl (qw_9_3 _) rfl hμ4 ?_
  refine ev_bipush (pc' := 22) dL_told_20 rfl bl_6 ?_
  replace h := qbd h; obtain ⟨y5, hy5, h⟩ := h
  refine ev_newa (pc' := 24) ht (Or.inl rfl) dL_told_22 rfl rfl hy5 ?_
  refine ev_astore_n (pc' := 25) (L1 := [some (.ref 78), some (.ref y5.1), none, none, none, none, none, none]) dL_told_24 rfl rfl ?_
  refine ev_ldc (pc' := 27) dL_told_25 rfl ts_10_103 ?_
  refine ev_astore_n (pc' := 28) (L1 := [some (.ref 78), some (.ref y5.1), some (.ref 1000005), none, none, none, none, none]) dL_told_27 rfl rfl ?_
  refine ev_iconst (pc' := 29) dL_told_28 rfl ?_
  refine ev_istore_n (pc' := 30) (L1 := [some (.ref 78), some (.ref y5.1), some (.ref 1000005), some (iv 0), none, none, none, none]) dL_told_29 rfl rfl ?_
  refine ev_iconst (pc' := 31) dL_told_30 rfl ?_
  refine ev_istore (pc' := 33) (L1 := [some (.ref 78), some (.ref y5.1), some (.ref 1000005), some (iv 0), some (iv 0), none, none, none]) dL_told_31 rfl rfl ?_
  replace h := qbd h; obtain ⟨y27, hy27, h⟩ := h
  refine ev_wk (qLe_eq (qLe_eq (qLe_eq (qLe_eq (qLe_eq (qLe_eq (qLe_eq (qLe_eq qLe_nil)))))))) (?_ : Ev _ _ _ [some (.ref 78), some (.ref y5.1), some (.ref 1000005), some (iv 0), some (iv 0), none, none, none] _ _ _ _)
  refine ebL_told_33 hLs ht _ _ _ hy27 _ _ ?_
  refine ev_iconst (pc' := 118) dL_told_117 rfl ?_
  refine ev_istore (pc' := 120) (L1 := [some (.ref 78), some (.ref y5.1), some (.ref y27.1), none, some (iv (-1)), none, none, none]) dL_told_118 rfl rfl ?_
  refine ev_iconst (pc' := 121) dL_told_120 rfl ?_
  refine ev_istore (pc' := 123) (L1 := [some (.ref 78), some (.ref y5.1), some (.ref y27.1), none, some (iv (-1)), some (iv 0), none, none]) dL_told_121 rfl rfl ?_
  replace h := qbd h; obtain ⟨y43, hy43, h⟩ := h
  refine ev_wk (qLe_eq (qLe_eq (qLe_eq (qLe_eq (qLe_eq (qLe_eq (qLe_eq (qLe_eq qLe_nil)))))))) (?_ : Ev _ _ _ [some (.ref 78), some (.ref y5.1), some (.ref y27.1), none, some (iv (-1)), some (iv 0), none, none] _ _ _ _)
  refine ebL_told_123 _ _ _ hy43 _ _ ?_
  replace h := qbd h; obtain ⟨y44, hy44, h⟩ := h
  refine ev_newo (pc' := 201) ht dL_told_198 rfl tn_10_105 hy44 ?_
  refine ev_dup (pc' := 202) dL_told_201 rfl rfl ?_
  replace h := qbd h; obtain ⟨u45, hu45, h⟩ := h
  replace h := qbd h; obtain ⟨y46, hy46, h⟩ := h
  refine ev_callg (pc' := 205) (st2 := [.ref y44.1]) dL_told_202 (qs_I tc_10_107 (by decide) rfl rfl (qCn_s hu45) rfl) rfl rfl (eJ4_init_da8c8 (d := d + 4) ht hy46) rfl rfl ?_
  refine ev_aload_n (pc' := 206) dL_told_205 rfl rfl ?_
  replace h := qbd h; obtain ⟨u47, hu47, h⟩ := h
  replace h := qbd h; obtain ⟨y48, hy48, h⟩ := h
  refine ev_callg (pc' := 209) (st2 := [.ref y48.1]) dL_told_206 (qs_Vx tc_10_108 (Or.inl rfl) rfl rfl (qCk_x hu47) rfl) rfl rfl (eJ4_append_15ec4 (d := d + 1) ht hy48) rfl rfl ?_
  refine ev_ldc (pc' := 211) dL_told_209 rfl ts_10_120 ?_
  replace h := qbd h; obtain ⟨u49, hu49, h⟩ := h
  replace h := qbd h; obtain ⟨y50, hy50, h⟩ := h
  refine ev_callg (pc' := 214) (st2 := [.ref y50.1]) dL_told_211 (qs_Vx tc_10_108 (Or.inl rfl) rfl rfl (qCk_x hu49) rfl) rfl rfl (eJ4_append_15ec4 (d := d + 1) ht hy50) rfl rfl ?_
  refine ev_aload_n (pc' := 215) dL_told_214 rfl rfl ?_
  refine ev_geti (pc' := 218) (ki := 3) dL_told_215 rfl tf_10_100 sh78 rfl rfl ?_
  replace h := qbd h; obtain ⟨u51, hu51, h⟩ := h
  replace h := qbd h; obtain ⟨y52, hy52, h⟩ := h
  refine ev_callg (pc' := 221) (st2 := [.ref y52.1]) dL_told_218 (qs_Vx tc_10_114 (Or.inl rfl) rfl rfl (qCk_x hu51) rfl) rfl rfl (eJ4_append_bf812 (d := d + 1) ht hy52) rfl rfl ?_
  refine ev_ldc (pc' := 223) dL_told_221 rfl ts_10_122 ?_
  replace h := qbd h; obtain ⟨u53, hu53, h⟩ := h
  replace h := qbd h; obtain ⟨y54, hy54, h⟩ := h
  refine ev_callg (pc' := 226) (st2 := [.ref y54.1]) dL_told_223 (qs_Vx tc_10_108 (Or.inl rfl) rfl rfl (qCk_x hu53) rfl) rfl rfl (eJ4_append_15ec4 (d := d + 1) ht hy54) rfl rfl ?_
  replace h := qbd h; obtain ⟨u55, hu55, h⟩ := h
  replace h := qbd h; obtain ⟨y56, hy56, h⟩ := h
  refine ev_callg (pc' := 229) (st2 := [.ref y56.1]) dL_told_226 (qs_Vx tc_10_117 (Or.inl rfl) rfl rfl (qCk_x hu55) rfl) rfl rfl (eJ4_toString_0e30d (d := d + 0) ht hy56) rfl rfl ?_
  refine ev_astore_n (pc' := 230) (L1 := [some (.ref 78), none, some (.ref y56.1), none, none, none, none, none]) dL_told_229 rfl rfl ?_
  refine ev_aload_n (pc' := 231) dL_told_230 rfl rfl ?_
  refine ev_iconst (pc' := 232) dL_told_231 rfl ?_
  replace h := qbd h; obtain ⟨y57, hy57, h⟩ := h
  refine ev_callg (pc' := 235) (st2 := [iv y57.1]) dL_told_232 (qs_V tc_10_54 rfl rfl (cS_cls sh78) rfl) rfl rfl (eL_chosen (d := d + 4) hLs hy57) rfl rfl ?_
  refine ev_istore (pc' := 237) (L1 := [some (.ref 78), none, some (.ref y56.1), none, none, some (iv y57.1), none, none]) dL_told_235 rfl rfl ?_
  replace h := qbd h; obtain ⟨y81, hy81, h⟩ := h
  refine ev_wk (qLe_eq (qLe_eq (qLe_eq (qLe_eq (qLe_eq (qLe_eq (qLe_eq (qLe_eq qLe_nil)))))))) (?_ : Ev _ _ _ [some (.ref 78), none, some (.ref y56.1), none, none, some (iv y57.1), none, none] _ _ _ _)
  refine ebL_told_237 hLs ht _ _ _ hy81 _ _ ?_
  refine ev_aload_n (pc' := 333) dL_told_332 rfl rfl ?_
  cases h
  exact ev_areturn dL_told_333 rfl
set_option maxRecDepth 100000 in
theorem ebL_edges_14 {Ls t d n : Nat} {w2 : Int} {μ : qMu} : ∀ (k : Nat) (x : Int × Int) (y : Int), lp (fun x : Int × Int => bL_edges_14 n w2 x.1 x.2 μ) k x = some y → ∀ (o : qO) (s' : qSt), Ev (d + 0) mL_edges 39 [some (.ref 78), some (iv y), some (iv w2), none] [] (cS Ls t μ) o s' → Ev (d + 0) mL_edges 14 [some (.ref 78), some (iv x.1), some (iv w2), some (iv x.2)] [] (cS Ls t μ) o s' := by
  intro k
  induction k with
  | zero => intro x y h; cases h
  | succ k ih =>
    intro x y h o s' kE
    rw [lp_s] at h
    replace h := qbd h; obtain ⟨zz, h0, h1⟩ := h
    have h : bL_edges_14 n w2 x.1 x.2 μ = some zz := h0
    clear h0
    unfold bL_edges_14 at h
    refine ev_iload_n (pc' := 15) dL_edges_14 rfl rfl ?_
    refine ev_aload_n (pc' := 16) dL_edges_15 rfl rfl ?_
    refine ev_geti (pc' := 19) (ki := 2) dL_edges_16 rfl tf_10_75 sh78 rfl rfl ?_
    refine ev_icmpge (pc' := 22) (tgt := 39) dL_edges_19 (by decide) rfl (x1 := wr x.2) (y1 := wr (rd μ 78 2)) rfl rfl  (fun c2 => ?_) (fun c2 => ?_)
    · replace h := qit c2 h
      refine ev_iload_n (pc' := 23) dL_edges_22 rfl rfl ?_
      refine ev_aload_n (pc' := 24) dL_edges_23 rfl rfl ?_
      refine ev_getr (pc' := 27) dL_edges_24 rfl tf_10_15 sh78 rfl ?_
      refine ev_iload_n (pc' := 28) dL_edges_27 rfl rfl ?_
      replace h := qbd h; obtain ⟨x3, hx3, h⟩ := h
      refine ev_aald (ty := 4) (Or.inr rfl) (pc' := 29) dL_edges_28 rfl sh80 hx3 ?_
      refine ev_iload_n (pc' := 30) dL_edges_29 rfl rfl ?_
      replace h := qbd h; obtain ⟨x4, hx4, h⟩ := h
      refine ev_iald (pc' := 31) dL_edges_30 rfl (gP80 hx3) hx4 ?_
      refine ev_iadd (pc' := 32) dL_edges_31 rfl ?_
      refine ev_istore_n (pc' := 33) (L1 := [some (.ref 78), some (iv (x.1 + x4)), some (iv w2), some (iv x.2)]) dL_edges_32 rfl rfl ?_
      refine ev_iinc (pc' := 36) (x := x.2) (L1 := [some (.ref 78), some (iv (x.1 + x4)), some (iv w2), some (iv (x.2 + 1))]) dL_edges_33 rfl rfl rfl ?_
      refine ev_goto (pc' := 14) dL_edges_36 (by decide) ?_
      cases h
      exact ev_wk (qLe_eq (qLe_eq (qLe_eq (qLe_eq qLe_nil)))) (ih _ _ h1 _ _ kE)
    · replace h := qif' c2 h
      cases h
      cases h1
      exact ev_wk (qLe_eq (qLe_eq (qLe_eq (qLe_sk qLe_nil)))) kE
set_option maxRecDepth 100000 in
theorem ebL_edges_4 {Ls t d n : Nat} {μ : qMu} : ∀ (k : Nat) (x : Int × Int) (y : Int), lp (fun x : Int × Int => bL_edges_4 n x.1 x.2 μ) k x = some y → ∀ (o : qO) (s' : qSt), Ev (d + 0) mL_edges 45 [none, some (iv y), none, none] [] (cS Ls t μ) o s' → Ev (d + 0) mL_edges 4 [some (.ref 78), some (iv x.1), some (iv x.2), none] [] (cS Ls t μ) o s' := by
  intro k
  induction k with
  | zero => intro x y h; cases h
  | succ k ih =>
    intro x y h o s' kE
    rw [lp_s] at h
    replace h := qbd h; obtain ⟨zz, h0, h1⟩ := h
    have h : bL_edges_4 n x.1 x.2 μ = some zz := h0
    clear h0
    unfold bL_edges_4 at h
    refine ev_iload_n (pc' := 5) dL_edges_4 rfl rfl ?_
    refine ev_aload_n (pc' := 6) dL_edges_5 rfl rfl ?_
    refine ev_geti (pc' := 9) (ki := 2) dL_edges_6 rfl tf_10_75 sh78 rfl rfl ?_
    refine ev_icmpge (pc' := 12) (tgt := 45) dL_edges_9 (by decide) rfl (x1 := wr x.2) (y1 := wr (rd μ 78 2)) rfl rfl  (fun c1 => ?_) (fun c1 => ?_)
    · replace h := qit c1 h
      refine ev_iload_n (pc' := 13) dL_edges_12 rfl rfl ?_
      refine ev_istore_n (pc' := 14) (L1 := [some (.ref 78), some (iv x.1), some (iv x.2), some (iv x.2)]) dL_edges_13 rfl rfl ?_
      replace h := qbd h; obtain ⟨y5, hy5, h⟩ := h
      refine ev_wk (qLe_eq (qLe_eq (qLe_eq (qLe_eq qLe_nil)))) (?_ : Ev _ _ _ [some (.ref 78), some (iv x.1), some (iv x.2), some (iv x.2)] _ _ _ _)
      refine ebL_edges_14 _ _ _ hy5 _ _ ?_
      refine ev_iinc (pc' := 42) (x := x.2) (L1 := [some (.ref 78), some (iv y5), some (iv (x.2 + 1)), none]) dL_edges_39 rfl rfl rfl ?_
      refine ev_goto (pc' := 4) dL_edges_42 (by decide) ?_
      cases h
      exact ev_wk (qLe_eq (qLe_eq (qLe_eq (qLe_eq qLe_nil)))) (ih _ _ h1 _ _ kE)
    · replace h := qif' c1 h
      cases h
      cases h1
      exact ev_wk (qLe_sk (qLe_eq (qLe_sk (qLe_eq qLe_nil)))) kE
set_option maxRecDepth 100000 in
theorem eL_edges {Ls t d n : Nat} {μ : qMu} {r : Int} (h : fL_edges n μ = some r) : Ev (d + 0) mL_edges 0 [some (.ref 78), none, none, none] [] (cS Ls t μ) (.inl (some (iv r))) (cS Ls t μ) := by
  unfold fL_edges at h
  refine ev_iconst (pc' := 1) dL_edges_0 rfl ?_
  refine ev_istore_n (pc' := 2) (L1 := [some (.ref 78), some (iv 0), none, none]) dL_edges_1 rfl rfl ?_
  refine ev_iconst (pc' := 3) dL_edges_2 rfl ?_
  refine ev_istore_n (pc' := 4) (L1 := [some (.ref 78), some (iv 0), some (iv 0), none]) dL_edges_3 rfl rfl ?_
  replace h := qbd h; obtain ⟨y6, hy6, h⟩ := h
  refine ev_wk (qLe_eq (qLe_eq (qLe_eq (qLe_eq qLe_nil)))) (?_ : Ev _ _ _ [some (.ref 78), some (iv 0), some (iv 0), none] _ _ _ _)
  refine ebL_edges_4 _ _ _ hy6 _ _ ?_
  refine ev_iload_n (pc' := 46) dL_edges_45 rfl rfl ?_
  cases h
  exact ev_ireturn dL_edges_46 rfl rfl
set_option maxRecDepth 100000 in
theorem eL_many {Ls t d : Nat} {p0 : Int} {p1 : Int} {μ : qMu} {r : Int} (h : fL_many p0 p1 μ = some r) : Ev (d + 0) mL_many 0 [some (.ref 78), some (iv p0), some (iv p1)] [] (cS Ls t μ) (.inl (some (iv r))) (cS Ls t μ) := by
  unfold fL_many at h
  refine ev_aload_n (pc' := 1) dL_many_0 rfl rfl ?_
  refine ev_getr (pc' := 4) dL_many_1 rfl tf_10_15 sh78 rfl ?_
  refine ev_iload_n (pc' := 5) dL_many_4 rfl rfl ?_
  refine ev_iload_n (pc' := 6) dL_many_5 rfl rfl ?_
  refine ev_min (pc' := 9) dL_many_6 rfl tc_10_126 rfl ?_
  replace h := qbd h; obtain ⟨x1, hx1, h⟩ := h
  refine ev_aald (ty := 4) (Or.inr rfl) (pc' := 10) dL_many_9 rfl sh80 hx1 ?_
  refine ev_iload_n (pc' := 11) dL_many_10 rfl rfl ?_
  refine ev_iload_n (pc' := 12) dL_many_11 rfl rfl ?_
  refine ev_max (pc' := 15) dL_many_12 rfl tc_10_131 rfl ?_
  replace h := qbd h; obtain ⟨x2, hx2, h⟩ := h
  refine ev_iald (pc' := 16) dL_many_15 rfl (gP80 hx1) hx2 ?_
  cases h
  exact ev_ireturn dL_many_16 rfl rfl
set_option maxRecDepth 100000 in
theorem ebL_degree_11 {Ls t d n : Nat} {w1 : Int} {μ : qMu} : ∀ (k : Nat) (x : Int × Int) (y : Int), lp (fun x : Int × Int => bL_degree_11 n w1 x.1 x.2 μ) k x = some y → ∀ (o : qO) (s' : qSt), Ev (d + 1) mL_degree 34 [none, none, some (iv y), none] [] (cS Ls t μ) o s' → Ev (d + 1) mL_degree 11 [some (.ref 78), some (iv w1), some (iv x.1), some (iv x.2)] [] (cS Ls t μ) o s' := by
  intro k
  induction k with
  | zero => intro x y h; cases h
  | succ k ih =>
    intro x y h o s' kE
    rw [lp_s] at h
    replace h := qbd h; obtain ⟨zz, h0, h1⟩ := h
    have h : bL_degree_11 n w1 x.1 x.2 μ = some zz := h0
    clear h0
    unfold bL_degree_11 at h
    refine ev_iload_n (pc' := 12) dL_degree_11 rfl rfl ?_
    refine ev_aload_n (pc' := 13) dL_degree_12 rfl rfl ?_
    refine ev_geti (pc' := 16) (ki := 2) dL_degree_13 rfl tf_10_75 sh78 rfl rfl ?_
    refine ev_icmpge (pc' := 19) (tgt := 34) dL_degree_16 (by decide) rfl (x1 := wr x.2) (y1 := wr (rd μ 78 2)) rfl rfl  (fun c3 => ?_) (fun c3 => ?_)
    · replace h := qit c3 h
      refine ev_iload_n (pc' := 20) dL_degree_19 rfl rfl ?_
      refine ev_aload_n (pc' := 21) dL_degree_20 rfl rfl ?_
      refine ev_iload_n (pc' := 22) dL_degree_21 rfl rfl ?_
      refine ev_iload_n (pc' := 23) dL_degree_22 rfl rfl ?_
      replace h := qbd h; obtain ⟨y4, hy4, h⟩ := h
      refine ev_callg (pc' := 26) (st2 := [iv y4, iv x.1]) dL_degree_23 (qs_V tc_10_134 rfl rfl (cS_cls sh78) rfl) rfl rfl (eL_many (d := d + 0) hy4) rfl rfl ?_
      refine ev_iadd (pc' := 27) dL_degree_26 rfl ?_
      refine ev_istore_n (pc' := 28) (L1 := [some (.ref 78), some (iv w1), some (iv (x.1 + y4)), some (iv x.2)]) dL_degree_27 rfl rfl ?_
      refine ev_iinc (pc' := 31) (x := x.2) (L1 := [some (.ref 78), some (iv w1), some (iv (x.1 + y4)), some (iv (x.2 + 1))]) dL_degree_28 rfl rfl rfl ?_
      refine ev_goto (pc' := 11) dL_degree_31 (by decide) ?_
      cases h
      exact ev_wk (qLe_eq (qLe_eq (qLe_eq (qLe_eq qLe_nil)))) (ih _ _ h1 _ _ kE)
    · replace h := qif' c3 h
      cases h
      cases h1
      exact ev_wk (qLe_sk (qLe_sk (qLe_eq (qLe_sk qLe_nil)))) kE
set_option maxRecDepth 100000 in
theorem eL_degree {Ls t d n : Nat} {p0 : Int} {μ : qMu} {r : Int} (h : fL_degree n p0 μ = some r) : Ev (d + 1) mL_degree 0 [some (.ref 78), some (iv p0), none, none] [] (cS Ls t μ) (.inl (some (iv r))) (cS Ls t μ) := by
  unfold fL_degree at h
  refine ev_aload_n (pc' := 1) dL_degree_0 rfl rfl ?_
  refine ev_getr (pc' := 4) dL_degree_1 rfl tf_10_15 sh78 rfl ?_
  refine ev_iload_n (pc' := 5) dL_degree_4 rfl rfl ?_
  replace h := qbd h; obtain ⟨x1, hx1, h⟩ := h
  refine ev_aald (ty := 4) (Or.inr rfl) (pc' := 6) dL_degree_5 rfl sh80 hx1 ?_
  refine ev_iload_n (pc' := 7) dL_degree_6 rfl rfl ?_
  replace h := qbd h; obtain ⟨x2, hx2, h⟩ := h
  refine ev_iald (pc' := 8) dL_degree_7 rfl (gP80 hx1) hx2 ?_
  refine ev_istore_n (pc' := 9) (L1 := [some (.ref 78), some (iv p0), some (iv x2), none]) dL_degree_8 rfl rfl ?_
  refine ev_iconst (pc' := 10) dL_degree_9 rfl ?_
  refine ev_istore_n (pc' := 11) (L1 := [some (.ref 78), some (iv p0), some (iv x2), some (iv 0)]) dL_degree_10 rfl rfl ?_
  replace h := qbd h; obtain ⟨y5, hy5, h⟩ := h
  refine ev_wk (qLe_eq (qLe_eq (qLe_eq (qLe_eq qLe_nil)))) (?_ : Ev _ _ _ [some (.ref 78), some (iv p0), some (iv x2), some (iv 0)] _ _ _ _)
  refine ebL_degree_11 _ _ _ hy5 _ _ ?_
  refine ev_iload_n (pc' := 35) dL_degree_34 rfl rfl ?_
  cases h
  exact ev_ireturn dL_degree_35 rfl rfl
set_option maxRecDepth 100000 in
theorem ebL_isGraph_130 {Ls t d n : Nat} {w2 : Int} {w3 : Int} {w5 : Int} {w6 : Int} {μ : qMu} : ∀ (k : Nat) (x : Int × Int) (y : Int), lp (fun x : Int × Int => bL_isGraph_130 n w2 w3 w5 w6 x.1 x.2 μ) k x = some y → ∀ (o : qO) (s' : qSt), Ev (d + 4) mL_isGraph 195 [some (.ref 78), some (.ref 0), some (iv w2), some (iv w3), some (iv y), some (iv w5), some (iv w6), none, none] [] (cS Ls t μ) o s' → Ev (d + 4) mL_isGraph 130 [some (.ref 78), some (.ref 0), some (iv w2), some (iv w3), some (iv x.1), some (iv w5), some (iv w6), some (iv x.2), none] [] (cS Ls t μ) o s' := by
  intro k
  induction k with
  | zero => intro x y h; cases h
  | succ k ih =>
    intro x y h o s' kE
    rw [lp_s] at h
    replace h := qbd h; obtain ⟨zz, h0, h1⟩ := h
    have h : bL_isGraph_130 n w2 w3 w5 w6 x.1 x.2 μ = some zz := h0
    clear h0
    unfold bL_isGraph_130 at h
    refine ev_iload (pc' := 132) dL_isGraph_130 rfl rfl ?_
    refine ev_aload_n (pc' := 133) dL_isGraph_132 rfl rfl ?_
    refine ev_geti (pc' := 136) (ki := 2) dL_isGraph_133 rfl tf_10_75 sh78 rfl rfl ?_
    refine ev_icmpge (pc' := 139) (tgt := 195) dL_isGraph_136 (by decide) rfl (x1 := wr x.2) (y1 := wr (rd μ 78 2)) rfl rfl  (fun c25 => ?_) (fun c25 => ?_)
    · replace h := qit c25 h
      refine ev_iload (pc' := 141) dL_isGraph_139 rfl rfl ?_
      refine ev_iload (pc' := 143) dL_isGraph_141 rfl rfl ?_
      refine ev_icmple (pc' := 146) (tgt := 195) dL_isGraph_143 (by decide) rfl (x1 := wr w6) (y1 := wr w5) rfl rfl  (fun c26 => ?_) (fun c26 => ?_)
      · replace h := qit c26 h
        refine ev_iload (pc' := 148) dL_isGraph_146 rfl rfl ?_
        refine ev_aload_n (pc' := 149) dL_isGraph_148 rfl rfl ?_
        refine ev_iload (pc' := 151) dL_isGraph_149 rfl rfl ?_
        refine ev_iload (pc' := 153) dL_isGraph_151 rfl rfl ?_
        replace h := qbd h; obtain ⟨y27, hy27, h⟩ := h
        refine ev_callg (pc' := 156) (st2 := [iv y27, iv x.1]) dL_isGraph_153 (qs_V tc_10_134 rfl rfl (cS_cls sh78) rfl) rfl rfl (eL_many (d := d + 3) hy27) rfl rfl ?_
        replace h := qbd h; obtain ⟨y29, hy29, h⟩ := h
        have kJ : Ev (d + 4) mL_isGraph 186 [some (.ref 78), some (.ref 0), some (iv w2), some (iv w3), none, some (iv w5), some (iv w6), some (iv x.2), none] [iv y29, iv x.1] (cS Ls t μ) o s' := by
          refine ev_iadd (pc' := 187) dL_isGraph_186 rfl ?_
          refine ev_istore (pc' := 189) (L1 := [some (.ref 78), some (.ref 0), some (iv w2), some (iv w3), some (iv (x.1 + y29)), some (iv w5), some (iv w6), some (iv x.2), none]) dL_isGraph_187 rfl rfl ?_
          refine ev_iinc (pc' := 192) (x := x.2) (L1 := [some (.ref 78), some (.ref 0), some (iv w2), some (iv w3), some (iv (x.1 + y29)), some (iv w5), some (iv w6), some (iv (x.2 + 1)), none]) dL_isGraph_189 rfl rfl rfl ?_
          refine ev_goto (pc' := 130) dL_isGraph_192 (by decide) ?_
          cases h
          exact ev_wk (qLe_eq (qLe_eq (qLe_eq (qLe_eq (qLe_eq (qLe_eq (qLe_eq (qLe_eq (qLe_eq qLe_nil))))))))) (ih _ _ h1 _ _ kE)
        replace h := hy29
        clear hy29
        refine ev_ifle (pc' := 159) (tgt := 185) dL_isGraph_156 (by decide) rfl (x1 := wr y27) rfl (fun c28 => ?_) (fun c28 => ?_)
        · replace h := qit c28 h
          refine ev_aload_n (pc' := 160) dL_isGraph_159 rfl rfl ?_
          refine ev_iload (pc' := 162) dL_isGraph_160 rfl rfl ?_
          refine ev_iload (pc' := 164) dL_isGraph_162 rfl rfl ?_
          replace h := qbd h; obtain ⟨y30, hy30, h⟩ := h
          refine ev_callg (pc' := 167) (st2 := [iv y30, iv x.1]) dL_isGraph_164 (qs_V tc_10_134 rfl rfl (cS_cls sh78) rfl) rfl rfl (eL_many (d := d + 3) hy30) rfl rfl ?_
          refine ev_ifle (pc' := 170) (tgt := 185) dL_isGraph_167 (by decide) rfl (x1 := wr y30) rfl (fun c31 => ?_) (fun c31 => ?_)
          · replace h := qit c31 h
            refine ev_aload_n (pc' := 171) dL_isGraph_170 rfl rfl ?_
            refine ev_iload (pc' := 173) dL_isGraph_171 rfl rfl ?_
            refine ev_iload (pc' := 175) dL_isGraph_173 rfl rfl ?_
            replace h := qbd h; obtain ⟨y32, hy32, h⟩ := h
            refine ev_callg (pc' := 178) (st2 := [iv y32, iv x.1]) dL_isGraph_175 (qs_V tc_10_134 rfl rfl (cS_cls sh78) rfl) rfl rfl (eL_many (d := d + 3) hy32) rfl rfl ?_
            refine ev_ifle (pc' := 181) (tgt := 185) dL_isGraph_178 (by decide) rfl (x1 := wr y32) rfl (fun c33 => ?_) (fun c33 => ?_)
            · replace h := qit c33 h
              refine ev_iconst (pc' := 182) dL_isGraph_181 rfl ?_
              refine ev_goto (pc' := 186) dL_isGraph_182 (by decide) ?_
              cases h
              exact ev_wk (qLe_eq (qLe_eq (qLe_eq (qLe_eq (qLe_sk (qLe_eq (qLe_eq (qLe_eq (qLe_eq qLe_nil))))))))) kJ
            · replace h := qif' c33 h
              refine ev_iconst (pc' := 186) dL_isGraph_185 rfl ?_
              cases h
              exact ev_wk (qLe_eq (qLe_eq (qLe_eq (qLe_eq (qLe_sk (qLe_eq (qLe_eq (qLe_eq (qLe_eq qLe_nil))))))))) kJ
          · replace h := qif' c31 h
            refine ev_iconst (pc' := 186) dL_isGraph_185 rfl ?_
            cases h
            exact ev_wk (qLe_eq (qLe_eq (qLe_eq (qLe_eq (qLe_sk (qLe_eq (qLe_eq (qLe_eq (qLe_eq qLe_nil))))))))) kJ
        · replace h := qif' c28 h
          refine ev_iconst (pc' := 186) dL_isGraph_185 rfl ?_
          cases h
          exact ev_wk (qLe_eq (qLe_eq (qLe_eq (qLe_eq (qLe_sk (qLe_eq (qLe_eq (qLe_eq (qLe_eq qLe_nil))))))))) kJ
      · replace h := qif' c26 h
        cases h
        cases h1
        exact ev_wk (qLe_eq (qLe_eq (qLe_eq (qLe_eq (qLe_eq (qLe_eq (qLe_eq (qLe_sk (qLe_eq qLe_nil))))))))) kE
    · replace h := qif' c25 h
      cases h
      cases h1
      exact ev_wk (qLe_eq (qLe_eq (qLe_eq (qLe_eq (qLe_eq (qLe_eq (qLe_eq (qLe_sk (qLe_eq qLe_nil))))))))) kE
set_option maxRecDepth 100000 in
theorem ebL_isGraph_53 {Ls t d n : Nat} {w2 : Int} {w5 : Int} {μ : qMu} : ∀ (k : Nat) (x : Int × Int × Int) (y : (Int × Int) ⊕ ((Int ⊕ Nat) × qMu)), lp (fun x : Int × Int × Int => bL_isGraph_53 n w2 w5 x.1 x.2.1 x.2.2 μ) k x = some y → ∀ (o : qO) (s' : qSt), (∀ b : Int × Int, y = .inl b → Ev (d + 4) mL_isGraph 201 [some (.ref 78), some (.ref 0), some (iv w2), some (iv b.1), some (iv b.2), some (iv w5), none, none, none] [] (cS Ls t μ) o s') → (∀ r : (Int ⊕ Nat) × qMu, y = .inr r → o = (qRi r.1) ∧ s' = (cS Ls (qTt t r.1) r.2)) → Ev (d + 4) mL_isGraph 53 [some (.ref 78), some (.ref 0), some (iv w2), some (iv x.1), some (iv x.2.1), some (iv w5), some (iv x.2.2), none, none] [] (cS Ls t μ) o s' := by
  intro k
  induction k with
  | zero => intro x y h; cases h
  | succ k ih =>
    intro x y h o s' kE kR
    rw [lp_s] at h
    replace h := qbd h; obtain ⟨zz, h0, h1⟩ := h
    have h : bL_isGraph_53 n w2 w5 x.1 x.2.1 x.2.2 μ = some zz := h0
    clear h0
    unfold bL_isGraph_53 at h
    refine ev_iload (pc' := 55) dL_isGraph_53 rfl rfl ?_
    refine ev_aload_n (pc' := 56) dL_isGraph_55 rfl rfl ?_
    refine ev_geti (pc' := 59) (ki := 2) dL_isGraph_56 rfl tf_10_75 sh78 rfl rfl ?_
    refine ev_icmpge (pc' := 62) (tgt := 201) dL_isGraph_59 (by decide) rfl (x1 := wr x.2.2) (y1 := wr (rd μ 78 2)) rfl rfl  (fun c10 => ?_) (fun c10 => ?_)
    · replace h := qit c10 h
      refine ev_aload_n (pc' := 63) dL_isGraph_62 rfl rfl ?_
      refine ev_iload (pc' := 65) dL_isGraph_63 rfl rfl ?_
      refine ev_iload (pc' := 67) dL_isGraph_65 rfl rfl ?_
      refine ev_iconst (pc' := 68) dL_isGraph_67 rfl ?_
      replace h := qbd h; obtain ⟨y11, hy11, h⟩ := h
      have hcy11 := eX9_times (d := d + 1) (Ls := Ls) (t := t) hy11
      rcases y11 with v13 | E14
      · refine ev_callg (pc' := 71) (st2 := [iv v13]) (s1 := cS Ls t μ) dL_isGraph_68 (qs_V tc_10_143 rfl rfl (cS_cls sh0) rfl) rfl rfl hcy11 rfl rfl ?_
        replace h := qel h
        refine ev_aload_n (pc' := 72) dL_isGraph_71 rfl rfl ?_
        refine ev_iload (pc' := 74) dL_isGraph_72 rfl rfl ?_
        refine ev_iload (pc' := 76) dL_isGraph_74 rfl rfl ?_
        replace h := qbd h; obtain ⟨y15, hy15, h⟩ := h
        refine ev_callg (pc' := 79) (st2 := [iv y15, iv v13]) dL_isGraph_76 (qs_V tc_10_134 rfl rfl (cS_cls sh78) rfl) rfl rfl (eL_many (d := d + 3) hy15) rfl rfl ?_
        refine ev_icmpne (pc' := 82) (tgt := 94) dL_isGraph_79 (by decide) rfl (x1 := wr v13) (y1 := wr y15) rfl rfl  (fun c16 => ?_) (fun c16 => ?_)
        · replace h := qit c16 h
          refine ev_aload_n (pc' := 83) dL_isGraph_82 rfl rfl ?_
          refine ev_iload (pc' := 85) dL_isGraph_83 rfl rfl ?_
          refine ev_iload (pc' := 87) dL_isGraph_85 rfl rfl ?_
          refine ev_iconst (pc' := 88) dL_isGraph_87 rfl ?_
          replace h := qbd h; obtain ⟨y17, hy17, h⟩ := h
          have hcy17 := eX9_times (d := d + 1) (Ls := Ls) (t := t) hy17
          rcases y17 with v19 | E20
          · refine ev_callg (pc' := 91) (st2 := [iv v19]) (s1 := cS Ls t μ) dL_isGraph_88 (qs_V tc_10_143 rfl rfl (cS_cls sh0) rfl) rfl rfl hcy17 rfl rfl ?_
            replace h := qel h
            refine ev_ifeq (pc' := 94) (tgt := 96) dL_isGraph_91 (by decide) rfl (x1 := wr v19) rfl (fun c21 => ?_) (fun c21 => ?_)
            · replace h := qit c21 h
              refine ev_iload_n (pc' := 97) dL_isGraph_96 rfl rfl ?_
              refine ev_iload (pc' := 99) dL_isGraph_97 rfl rfl ?_
              refine ev_iload (pc' := 101) dL_isGraph_99 rfl rfl ?_
              replace h := qbd h; obtain ⟨y23, hy23, h⟩ := h
              have kJ : Ev (d + 4) mL_isGraph 122 [some (.ref 78), some (.ref 0), some (iv w2), none, some (iv x.2.1), some (iv w5), some (iv x.2.2), none, none] [iv y23, iv x.1] (cS Ls t μ) o s' := by
                refine ev_iadd (pc' := 123) dL_isGraph_122 rfl ?_
                refine ev_istore_n (pc' := 124) (L1 := [some (.ref 78), some (.ref 0), some (iv w2), some (iv (x.1 + y23)), some (iv x.2.1), some (iv w5), some (iv x.2.2), none, none]) dL_isGraph_123 rfl rfl ?_
                refine ev_iload (pc' := 126) dL_isGraph_124 rfl rfl ?_
                refine ev_iconst (pc' := 127) dL_isGraph_126 rfl ?_
                refine ev_iadd (pc' := 128) dL_isGraph_127 rfl ?_
                refine ev_istore (pc' := 130) (L1 := [some (.ref 78), some (.ref 0), some (iv w2), some (iv (x.1 + y23)), some (iv x.2.1), some (iv w5), some (iv x.2.2), some (iv (x.2.2 + 1)), none]) dL_isGraph_128 rfl rfl ?_
                replace h := qbd h; obtain ⟨y34, hy34, h⟩ := h
                refine ev_wk (qLe_eq (qLe_eq (qLe_eq (qLe_eq (qLe_eq (qLe_eq (qLe_eq (qLe_eq (qLe_eq qLe_nil))))))))) (?_ : Ev _ _ _ [some (.ref 78), some (.ref 0), some (iv w2), some (iv (x.1 + y23)), some (iv x.2.1), some (iv w5), some (iv x.2.2), some (iv (x.2.2 + 1)), none] _ _ _ _)
                refine ebL_isGraph_130 _ _ _ hy34 _ _ ?_
                refine ev_iinc (pc' := 198) (x := x.2.2) (L1 := [some (.ref 78), some (.ref 0), some (iv w2), some (iv (x.1 + y23)), some (iv y34), some (iv w5), some (iv (x.2.2 + 1)), none, none]) dL_isGraph_195 rfl rfl rfl ?_
                refine ev_goto (pc' := 53) dL_isGraph_198 (by decide) ?_
                cases h
                exact ev_wk (qLe_eq (qLe_eq (qLe_eq (qLe_eq (qLe_eq (qLe_eq (qLe_eq (qLe_eq (qLe_eq qLe_nil))))))))) (ih _ _ h1 _ _ kE kR)
              replace h := hy23
              clear hy23
              refine ev_icmple (pc' := 104) (tgt := 121) dL_isGraph_101 (by decide) rfl (x1 := wr x.2.2) (y1 := wr w5) rfl rfl  (fun c22 => ?_) (fun c22 => ?_)
              · replace h := qit c22 h
                refine ev_iconst (pc' := 105) dL_isGraph_104 rfl ?_
                refine ev_aload_n (pc' := 106) dL_isGraph_105 rfl rfl ?_
                refine ev_iload (pc' := 108) dL_isGraph_106 rfl rfl ?_
                refine ev_iload (pc' := 110) dL_isGraph_108 rfl rfl ?_
                replace h := qbd h; obtain ⟨y24, hy24, h⟩ := h
                refine ev_callg (pc' := 113) (st2 := [iv y24, iv 0, iv x.1]) dL_isGraph_110 (qs_V tc_10_134 rfl rfl (cS_cls sh78) rfl) rfl rfl (eL_many (d := d + 3) hy24) rfl rfl ?_
                refine ev_iconst (pc' := 114) dL_isGraph_113 rfl ?_
                refine ev_isub (pc' := 115) dL_isGraph_114 rfl ?_
                refine ev_max (pc' := 118) dL_isGraph_115 rfl tc_10_131 rfl ?_
                refine ev_goto (pc' := 122) dL_isGraph_118 (by decide) ?_
                cases h
                exact ev_wk (qLe_eq (qLe_eq (qLe_eq (qLe_sk (qLe_eq (qLe_eq (qLe_eq (qLe_eq (qLe_eq qLe_nil))))))))) kJ
              · replace h := qif' c22 h
                refine ev_iconst (pc' := 122) dL_isGraph_121 rfl ?_
                cases h
                exact ev_wk (qLe_eq (qLe_eq (qLe_eq (qLe_sk (qLe_eq (qLe_eq (qLe_eq (qLe_eq (qLe_eq qLe_nil))))))))) kJ
            · replace h := qif' c21 h
              refine ev_iconst (pc' := 95) dL_isGraph_94 rfl ?_
              cases h
              cases h1
              obtain ⟨rfl, rfl⟩ := kR _ rfl
              exact ev_ireturn dL_isGraph_95 rfl rfl
          · replace h := qer h
            cases h
            cases h1
            obtain ⟨rfl, rfl⟩ := kR _ rfl
            exact ev_callx dL_isGraph_88 (qs_V tc_10_143 rfl rfl (cS_cls sh0) rfl) rfl hcy17 rfl rfl
        · replace h := qif' c16 h
          refine ev_iconst (pc' := 95) dL_isGraph_94 rfl ?_
          cases h
          cases h1
          obtain ⟨rfl, rfl⟩ := kR _ rfl
          exact ev_ireturn dL_isGraph_95 rfl rfl
      · replace h := qer h
        cases h
        cases h1
        obtain ⟨rfl, rfl⟩ := kR _ rfl
        exact ev_callx dL_isGraph_68 (qs_V tc_10_143 rfl rfl (cS_cls sh0) rfl) rfl hcy11 rfl rfl
    · replace h := qif' c10 h
      cases h
      cases h1
      exact ev_wk (qLe_eq (qLe_eq (qLe_eq (qLe_eq (qLe_eq (qLe_eq (qLe_sk (qLe_eq (qLe_eq qLe_nil))))))))) (kE _ rfl)
set_option maxRecDepth 100000 in
theorem ebL_isGraph_10 {Ls t d n : Nat} {μ : qMu} : ∀ (k : Nat) (x : Int × Int × Int × Int) (y : (Int × Int × Int) ⊕ ((Int ⊕ Nat) × qMu)), lp (fun x : Int × Int × Int × Int => bL_isGraph_10 n x.1 x.2.1 x.2.2.1 x.2.2.2 μ) k x = some y → ∀ (o : qO) (s' : qSt), (∀ b : Int × Int × Int, y = .inl b → Ev (d + 4) mL_isGraph 207 [some (.ref 78), some (.ref 0), some (iv b.1), some (iv b.2.1), some (iv b.2.2), none, none, none, none] [] (cS Ls t μ) o s') → (∀ r : (Int ⊕ Nat) × qMu, y = .inr r → o = (qRi r.1) ∧ s' = (cS Ls (qTt t r.1) r.2)) → Ev (d + 4) mL_isGraph 10 [some (.ref 78), some (.ref 0), some (iv x.1), some (iv x.2.1), some (iv x.2.2.1), some (iv x.2.2.2), none, none, none] [] (cS Ls t μ) o s' := by
  intro k
  induction k with
  | zero => intro x y h; cases h
  | succ k ih =>
    intro x y h o s' kE kR
    rw [lp_s] at h
    replace h := qbd h; obtain ⟨zz, h0, h1⟩ := h
    have h : bL_isGraph_10 n x.1 x.2.1 x.2.2.1 x.2.2.2 μ = some zz := h0
    clear h0
    unfold bL_isGraph_10 at h
    refine ev_iload (pc' := 12) dL_isGraph_10 rfl rfl ?_
    refine ev_aload_n (pc' := 13) dL_isGraph_12 rfl rfl ?_
    refine ev_geti (pc' := 16) (ki := 2) dL_isGraph_13 rfl tf_10_75 sh78 rfl rfl ?_
    refine ev_icmpge (pc' := 19) (tgt := 207) dL_isGraph_16 (by decide) rfl (x1 := wr x.2.2.2) (y1 := wr (rd μ 78 2)) rfl rfl  (fun c1 => ?_) (fun c1 => ?_)
    · replace h := qit c1 h
      refine ev_iload_n (pc' := 20) dL_isGraph_19 rfl rfl ?_
      refine ev_aload_n (pc' := 21) dL_isGraph_20 rfl rfl ?_
      refine ev_getr (pc' := 24) dL_isGraph_21 rfl tf_10_15 sh78 rfl ?_
      refine ev_iload (pc' := 26) dL_isGraph_24 rfl rfl ?_
      replace h := qbd h; obtain ⟨x2, hx2, h⟩ := h
      refine ev_aald (ty := 4) (Or.inr rfl) (pc' := 27) dL_isGraph_26 rfl sh80 hx2 ?_
      refine ev_iload (pc' := 29) dL_isGraph_27 rfl rfl ?_
      replace h := qbd h; obtain ⟨x3, hx3, h⟩ := h
      refine ev_iald (pc' := 30) dL_isGraph_29 rfl (gP80 hx2) hx3 ?_
      refine ev_iadd (pc' := 31) dL_isGraph_30 rfl ?_
      refine ev_istore_n (pc' := 32) (L1 := [some (.ref 78), some (.ref 0), some (iv (x.1 + x3)), some (iv x.2.1), some (iv x.2.2.1), some (iv x.2.2.2), none, none, none]) dL_isGraph_31 rfl rfl ?_
      refine ev_aload_n (pc' := 33) dL_isGraph_32 rfl rfl ?_
      refine ev_iload (pc' := 35) dL_isGraph_33 rfl rfl ?_
      refine ev_iconst (pc' := 36) dL_isGraph_35 rfl ?_
      replace h := qbd h; obtain ⟨y4, hy4, h⟩ := h
      have hcy4 := eX9_degree (d := d + 1) (Ls := Ls) (t := t) hy4
      rcases y4 with v6 | E7
      · refine ev_callg (pc' := 39) (st2 := [iv v6]) (s1 := cS Ls t μ) dL_isGraph_36 (qs_V tc_10_137 rfl rfl (cS_cls sh0) rfl) rfl rfl hcy4 rfl rfl ?_
        replace h := qel h
        refine ev_aload_n (pc' := 40) dL_isGraph_39 rfl rfl ?_
        refine ev_iload (pc' := 42) dL_isGraph_40 rfl rfl ?_
        replace h := qbd h; obtain ⟨y8, hy8, h⟩ := h
        refine ev_callg (pc' := 45) (st2 := [iv y8, iv v6]) dL_isGraph_42 (qs_V tc_10_141 rfl rfl (cS_cls sh78) rfl) rfl rfl (eL_degree (d := d + 2) hy8) rfl rfl ?_
        refine ev_icmpeq (pc' := 48) (tgt := 50) dL_isGraph_45 (by decide) rfl (x1 := wr v6) (y1 := wr y8) rfl rfl  (fun c9 => ?_) (fun c9 => ?_)
        · replace h := qit c9 h
          refine ev_iconst (pc' := 51) dL_isGraph_50 rfl ?_
          refine ev_istore (pc' := 53) (L1 := [some (.ref 78), some (.ref 0), some (iv (x.1 + x3)), some (iv x.2.1), some (iv x.2.2.1), some (iv x.2.2.2), some (iv 0), none, none]) dL_isGraph_51 rfl rfl ?_
          replace h := qbd h; obtain ⟨y35, hy35, h⟩ := h
          refine ev_wk (qLe_eq (qLe_eq (qLe_eq (qLe_eq (qLe_eq (qLe_eq (qLe_eq (qLe_eq (qLe_eq qLe_nil))))))))) (?_ : Ev _ _ _ [some (.ref 78), some (.ref 0), some (iv (x.1 + x3)), some (iv x.2.1), some (iv x.2.2.1), some (iv x.2.2.2), some (iv 0), none, none] _ _ _ _)
          refine ebL_isGraph_53 _ _ _ hy35 _ _ ?_ ?_
          · intro b36 eb36
            subst eb36
            replace h := qel h
            refine ev_iinc (pc' := 204) (x := x.2.2.2) (L1 := [some (.ref 78), some (.ref 0), some (iv (x.1 + x3)), some (iv b36.1), some (iv b36.2), some (iv (x.2.2.2 + 1)), none, none, none]) dL_isGraph_201 rfl rfl rfl ?_
            refine ev_goto (pc' := 10) dL_isGraph_204 (by decide) ?_
            cases h
            exact ev_wk (qLe_eq (qLe_eq (qLe_eq (qLe_eq (qLe_eq (qLe_eq (qLe_eq (qLe_eq (qLe_eq qLe_nil))))))))) (ih _ _ h1 _ _ kE kR)
          · intro r37 er37
            subst er37
            replace h := qer h
            cases h
            cases h1
            exact kR _ rfl
        · replace h := qif' c9 h
          refine ev_iconst (pc' := 49) dL_isGraph_48 rfl ?_
          cases h
          cases h1
          obtain ⟨rfl, rfl⟩ := kR _ rfl
          exact ev_ireturn dL_isGraph_49 rfl rfl
      · replace h := qer h
        cases h
        cases h1
        obtain ⟨rfl, rfl⟩ := kR _ rfl
        exact ev_callx dL_isGraph_36 (qs_V tc_10_137 rfl rfl (cS_cls sh0) rfl) rfl hcy4 rfl rfl
    · replace h := qif' c1 h
      cases h
      cases h1
      exact ev_wk (qLe_eq (qLe_eq (qLe_eq (qLe_eq (qLe_eq (qLe_sk (qLe_eq (qLe_eq (qLe_eq qLe_nil))))))))) (kE _ rfl)
set_option maxRecDepth 100000 in
theorem ebL_isGraph_216 {Ls t d n : Nat} {w2 : Int} {w3 : Int} {w4 : Int} {w5 : Nat} : ∀ (k : Nat) (x : Int × qMu) (y : qMu), lp (fun x : Int × qMu => bL_isGraph_216 n w2 w3 w4 w5 x.1 x.2) k x = some y → ∀ (o : qO) (s' : qSt), Ev (d + 4) mL_isGraph 238 [some (.ref 78), some (.ref 0), some (iv w2), some (iv w3), some (iv w4), some (.ref w5), none, none, none] [] (cS Ls t y) o s' → Ev (d + 4) mL_isGraph 216 [some (.ref 78), some (.ref 0), some (iv w2), some (iv w3), some (iv w4), some (.ref w5), some (iv x.1), none, none] [] (cS Ls t x.2) o s' := by
  intro k
  induction k with
  | zero => intro x y h; cases h
  | succ k ih =>
    intro x y h o s' kE
    rw [lp_s] at h
    replace h := qbd h; obtain ⟨zz, h0, h1⟩ := h
    have h : bL_isGraph_216 n w2 w3 w4 w5 x.1 x.2 = some zz := h0
    clear h0
    unfold bL_isGraph_216 at h
    refine ev_iload (pc' := 218) dL_isGraph_216 rfl rfl ?_
    refine ev_aload_n (pc' := 219) dL_isGraph_218 rfl rfl ?_
    refine ev_geti (pc' := 222) (ki := 2) dL_isGraph_219 rfl tf_10_75 sh78 rfl rfl ?_
    refine ev_icmpge (pc' := 225) (tgt := 238) dL_isGraph_222 (by decide) rfl (x1 := wr x.1) (y1 := wr (rd x.2 78 2)) rfl rfl  (fun c41 => ?_) (fun c41 => ?_)
    · replace h := qit c41 h
      refine ev_aload (pc' := 227) dL_isGraph_225 rfl rfl ?_
      refine ev_iload (pc' := 229) dL_isGraph_227 rfl rfl ?_
      refine ev_iload (pc' := 231) dL_isGraph_229 rfl rfl ?_
      replace h := qbd h; obtain ⟨μ42, hμ42, h⟩ := h
      refine ev_iastj (pc' := 232) dL_isGraph_231 rfl hμ42 ?_
      refine ev_iinc (pc' := 235) (x := x.1) (L1 := [some (.ref 78), some (.ref 0), some (iv w2), some (iv w3), some (iv w4), some (.ref w5), some (iv (x.1 + 1)), none, none]) dL_isGraph_232 rfl rfl rfl ?_
      refine ev_goto (pc' := 216) dL_isGraph_235 (by decide) ?_
      cases h
      exact ev_wk (qLe_eq (qLe_eq (qLe_eq (qLe_eq (qLe_eq (qLe_eq (qLe_eq (qLe_eq (qLe_eq qLe_nil))))))))) (ih _ _ h1 _ _ kE)
    · replace h := qif' c41 h
      cases h
      cases h1
      exact ev_wk (qLe_eq (qLe_eq (qLe_eq (qLe_eq (qLe_eq (qLe_eq (qLe_sk (qLe_eq (qLe_eq qLe_nil))))))))) kE
set_option maxRecDepth 100000 in
theorem ebL_isGraph_265 {Ls t d n : Nat} {w2 : Int} {w3 : Int} {w4 : Int} {w5 : Nat} {w6 : Int} {w7 : Int} : ∀ (k : Nat) (x : Int × qMu) (y : qMu), lp (fun x : Int × qMu => bL_isGraph_265 n w2 w3 w4 w5 w6 w7 x.1 x.2) k x = some y → ∀ (o : qO) (s' : qSt), Ev (d + 4) mL_isGraph 309 [some (.ref 78), some (.ref 0), some (iv w2), some (iv w3), some (iv w4), some (.ref w5), some (iv w6), some (iv w7), none] [] (cS Ls t y) o s' → Ev (d + 4) mL_isGraph 265 [some (.ref 78), some (.ref 0), some (iv w2), some (iv w3), some (iv w4), some (.ref w5), some (iv w6), some (iv w7), some (iv x.1)] [] (cS Ls t x.2) o s' := by
  intro k
  induction k with
  | zero => intro x y h; cases h
  | succ k ih =>
    intro x y h o s' kE
    rw [lp_s] at h
    replace h := qbd h; obtain ⟨zz, h0, h1⟩ := h
    have h : bL_isGraph_265 n w2 w3 w4 w5 w6 w7 x.1 x.2 = some zz := h0
    clear h0
    unfold bL_isGraph_265 at h
    refine ev_iload (pc' := 267) dL_isGraph_265 rfl rfl ?_
    refine ev_aload_n (pc' := 268) dL_isGraph_267 rfl rfl ?_
    refine ev_geti (pc' := 271) (ki := 2) dL_isGraph_268 rfl tf_10_75 sh78 rfl rfl ?_
    refine ev_icmpge (pc' := 274) (tgt := 309) dL_isGraph_271 (by decide) rfl (x1 := wr x.1) (y1 := wr (rd x.2 78 2)) rfl rfl  (fun c46 => ?_) (fun c46 => ?_)
    · replace h := qit c46 h
      refine ev_aload_n (pc' := 275) dL_isGraph_274 rfl rfl ?_
      refine ev_iload (pc' := 277) dL_isGraph_275 rfl rfl ?_
      refine ev_iload (pc' := 279) dL_isGraph_277 rfl rfl ?_
      replace h := qbd h; obtain ⟨y47, hy47, h⟩ := h
      refine ev_callg (pc' := 282) (st2 := [iv y47]) dL_isGraph_279 (qs_V tc_10_134 rfl rfl (cS_cls sh78) rfl) rfl rfl (eL_many (d := d + 3) hy47) rfl rfl ?_
      replace h := qbd h; obtain ⟨y49, hy49, h⟩ := h
      have kJ : Ev (d + 4) mL_isGraph 303 [some (.ref 78), some (.ref 0), some (iv w2), some (iv w3), some (iv w4), some (.ref w5), some (iv w6), some (iv w7), some (iv x.1)] [] (cS Ls t y49) o s' := by
        refine ev_iinc (pc' := 306) (x := x.1) (L1 := [some (.ref 78), some (.ref 0), some (iv w2), some (iv w3), some (iv w4), some (.ref w5), some (iv w6), some (iv w7), some (iv (x.1 + 1))]) dL_isGraph_303 rfl rfl rfl ?_
        refine ev_goto (pc' := 265) dL_isGraph_306 (by decide) ?_
        cases h
        exact ev_wk (qLe_eq (qLe_eq (qLe_eq (qLe_eq (qLe_eq (qLe_eq (qLe_eq (qLe_eq (qLe_eq qLe_nil))))))))) (ih _ _ h1 _ _ kE)
      replace h := hy49
      clear hy49
      refine ev_ifle (pc' := 285) (tgt := 303) dL_isGraph_282 (by decide) rfl (x1 := wr y47) rfl (fun c48 => ?_) (fun c48 => ?_)
      · replace h := qit c48 h
        refine ev_aload (pc' := 287) dL_isGraph_285 rfl rfl ?_
        refine ev_iload (pc' := 289) dL_isGraph_287 rfl rfl ?_
        refine ev_aload (pc' := 291) dL_isGraph_289 rfl rfl ?_
        refine ev_iload (pc' := 293) dL_isGraph_291 rfl rfl ?_
        replace h := qbd h; obtain ⟨x50, hx50, h⟩ := h
        refine ev_ialdj (pc' := 294) dL_isGraph_293 rfl hx50 ?_
        refine ev_aload (pc' := 296) dL_isGraph_294 rfl rfl ?_
        refine ev_iload (pc' := 298) dL_isGraph_296 rfl rfl ?_
        replace h := qbd h; obtain ⟨x51, hx51, h⟩ := h
        refine ev_ialdj (pc' := 299) dL_isGraph_298 rfl hx51 ?_
        refine ev_min (pc' := 302) dL_isGraph_299 rfl tc_10_126 rfl ?_
        replace h := qbd h; obtain ⟨μ52, hμ52, h⟩ := h
        refine ev_iastj (pc' := 303) dL_isGraph_302 rfl hμ52 ?_
        cases h
        exact ev_wk (qLe_eq (qLe_eq (qLe_eq (qLe_eq (qLe_eq (qLe_eq (qLe_eq (qLe_eq (qLe_eq qLe_nil))))))))) kJ
      · replace h := qif' c48 h
        cases h
        exact ev_wk (qLe_eq (qLe_eq (qLe_eq (qLe_eq (qLe_eq (qLe_eq (qLe_eq (qLe_eq (qLe_eq qLe_nil))))))))) kJ
    · replace h := qif' c46 h
      cases h
      cases h1
      exact ev_wk (qLe_eq (qLe_eq (qLe_eq (qLe_eq (qLe_eq (qLe_eq (qLe_eq (qLe_eq (qLe_sk qLe_nil))))))))) kE
set_option maxRecDepth 100000 in
theorem ebL_isGraph_253 {Ls t d n : Nat} {w2 : Int} {w3 : Int} {w4 : Int} {w5 : Nat} {w6 : Int} : ∀ (k : Nat) (x : Int × qMu) (y : qMu), lp (fun x : Int × qMu => bL_isGraph_253 n w2 w3 w4 w5 w6 x.1 x.2) k x = some y → ∀ (o : qO) (s' : qSt), Ev (d + 4) mL_isGraph 315 [some (.ref 78), some (.ref 0), some (iv w2), some (iv w3), some (iv w4), some (.ref w5), some (iv w6), none, none] [] (cS Ls t y) o s' → Ev (d + 4) mL_isGraph 253 [some (.ref 78), some (.ref 0), some (iv w2), some (iv w3), some (iv w4), some (.ref w5), some (iv w6), some (iv x.1), none] [] (cS Ls t x.2) o s' := by
  intro k
  induction k with
  | zero => intro x y h; cases h
  | succ k ih =>
    intro x y h o s' kE
    rw [lp_s] at h
    replace h := qbd h; obtain ⟨zz, h0, h1⟩ := h
    have h : bL_isGraph_253 n w2 w3 w4 w5 w6 x.1 x.2 = some zz := h0
    clear h0
    unfold bL_isGraph_253 at h
    refine ev_iload (pc' := 255) dL_isGraph_253 rfl rfl ?_
    refine ev_aload_n (pc' := 256) dL_isGraph_255 rfl rfl ?_
    refine ev_geti (pc' := 259) (ki := 2) dL_isGraph_256 rfl tf_10_75 sh78 rfl rfl ?_
    refine ev_icmpge (pc' := 262) (tgt := 315) dL_isGraph_259 (by decide) rfl (x1 := wr x.1) (y1 := wr (rd x.2 78 2)) rfl rfl  (fun c45 => ?_) (fun c45 => ?_)
    · replace h := qit c45 h
      refine ev_iconst (pc' := 263) dL_isGraph_262 rfl ?_
      refine ev_istore (pc' := 265) (L1 := [some (.ref 78), some (.ref 0), some (iv w2), some (iv w3), some (iv w4), some (.ref w5), some (iv w6), some (iv x.1), some (iv 0)]) dL_isGraph_263 rfl rfl ?_
      replace h := qbd h; obtain ⟨y53, hy53, h⟩ := h
      refine ev_wk (qLe_eq (qLe_eq (qLe_eq (qLe_eq (qLe_eq (qLe_eq (qLe_eq (qLe_eq (qLe_eq qLe_nil))))))))) (?_ : Ev _ _ _ [some (.ref 78), some (.ref 0), some (iv w2), some (iv w3), some (iv w4), some (.ref w5), some (iv w6), some (iv x.1), some (iv 0)] _ _ _ _)
      refine ebL_isGraph_265 _ _ _ hy53 _ _ ?_
      refine ev_iinc (pc' := 312) (x := x.1) (L1 := [some (.ref 78), some (.ref 0), some (iv w2), some (iv w3), some (iv w4), some (.ref w5), some (iv w6), some (iv (x.1 + 1)), none]) dL_isGraph_309 rfl rfl rfl ?_
      refine ev_goto (pc' := 253) dL_isGraph_312 (by decide) ?_
      cases h
      exact ev_wk (qLe_eq (qLe_eq (qLe_eq (qLe_eq (qLe_eq (qLe_eq (qLe_eq (qLe_eq (qLe_eq qLe_nil))))))))) (ih _ _ h1 _ _ kE)
    · replace h := qif' c45 h
      cases h
      cases h1
      exact ev_wk (qLe_eq (qLe_eq (qLe_eq (qLe_eq (qLe_eq (qLe_eq (qLe_eq (qLe_sk (qLe_eq qLe_nil))))))))) kE
set_option maxRecDepth 100000 in
theorem ebL_isGraph_241 {Ls t d n : Nat} {w2 : Int} {w3 : Int} {w4 : Int} {w5 : Nat} : ∀ (k : Nat) (x : Int × qMu) (y : qMu), lp (fun x : Int × qMu => bL_isGraph_241 n w2 w3 w4 w5 x.1 x.2) k x = some y → ∀ (o : qO) (s' : qSt), Ev (d + 4) mL_isGraph 321 [some (.ref 78), some (.ref 0), some (iv w2), some (iv w3), some (iv w4), some (.ref w5), none, none, none] [] (cS Ls t y) o s' → Ev (d + 4) mL_isGraph 241 [some (.ref 78), some (.ref 0), some (iv w2), some (iv w3), some (iv w4), some (.ref w5), some (iv x.1), none, none] [] (cS Ls t x.2) o s' := by
  intro k
  induction k with
  | zero => intro x y h; cases h
  | succ k ih =>
    intro x y h o s' kE
    rw [lp_s] at h
    replace h := qbd h; obtain ⟨zz, h0, h1⟩ := h
    have h : bL_isGraph_241 n w2 w3 w4 w5 x.1 x.2 = some zz := h0
    clear h0
    unfold bL_isGraph_241 at h
    refine ev_iload (pc' := 243) dL_isGraph_241 rfl rfl ?_
    refine ev_aload_n (pc' := 244) dL_isGraph_243 rfl rfl ?_
    refine ev_geti (pc' := 247) (ki := 2) dL_isGraph_244 rfl tf_10_75 sh78 rfl rfl ?_
    refine ev_icmpge (pc' := 250) (tgt := 321) dL_isGraph_247 (by decide) rfl (x1 := wr x.1) (y1 := wr (rd x.2 78 2)) rfl rfl  (fun c44 => ?_) (fun c44 => ?_)
    · replace h := qit c44 h
      refine ev_iconst (pc' := 251) dL_isGraph_250 rfl ?_
      refine ev_istore (pc' := 253) (L1 := [some (.ref 78), some (.ref 0), some (iv w2), some (iv w3), some (iv w4), some (.ref w5), some (iv x.1), some (iv 0), none]) dL_isGraph_251 rfl rfl ?_
      replace h := qbd h; obtain ⟨y54, hy54, h⟩ := h
      refine ev_wk (qLe_eq (qLe_eq (qLe_eq (qLe_eq (qLe_eq (qLe_eq (qLe_eq (qLe_eq (qLe_eq qLe_nil))))))))) (?_ : Ev _ _ _ [some (.ref 78), some (.ref 0), some (iv w2), some (iv w3), some (iv w4), some (.ref w5), some (iv x.1), some (iv 0), none] _ _ _ _)
      refine ebL_isGraph_253 _ _ _ hy54 _ _ ?_
      refine ev_iinc (pc' := 318) (x := x.1) (L1 := [some (.ref 78), some (.ref 0), some (iv w2), some (iv w3), some (iv w4), some (.ref w5), some (iv (x.1 + 1)), none, none]) dL_isGraph_315 rfl rfl rfl ?_
      refine ev_goto (pc' := 241) dL_isGraph_318 (by decide) ?_
      cases h
      exact ev_wk (qLe_eq (qLe_eq (qLe_eq (qLe_eq (qLe_eq (qLe_eq (qLe_eq (qLe_eq (qLe_eq qLe_nil))))))))) (ih _ _ h1 _ _ kE)
    · replace h := qif' c44 h
      cases h
      cases h1
      exact ev_wk (qLe_eq (qLe_eq (qLe_eq (qLe_eq (qLe_eq (qLe_eq (qLe_sk (qLe_eq (qLe_eq qLe_nil))))))))) kE
