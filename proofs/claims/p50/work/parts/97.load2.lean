/-! THE LAW'S LOAD: the class holds what was told -/
section LD2
variable {μ : qMu} {n w s : Nat} {T : List Int} {b : Int → Int} {F k : Int}
theorem bp20_tx (hO : Ok T) (hF : 0 ≤ F) (h : ∀ i, 0 ≤ i → i < F → b i = btx T i) {p q r t u : Int} (hp : p = ((wd4 (btx T F).toNat (btx T (F + 1)).toNat (btx T (F + 2)).toNat (btx T (F + 3)).toNat : Nat) : Int)) (hq : q = ((wd4 (btx T (F + 4)).toNat (btx T (F + 4 + 1)).toNat (btx T (F + 4 + 2)).toNat (btx T (F + 4 + 3)).toNat : Nat) : Int)) (hr : r = ((wd4 (btx T (F + 8)).toNat (btx T (F + 8 + 1)).toNat (btx T (F + 8 + 2)).toNat (btx T (F + 8 + 3)).toNat : Nat) : Int)) (ht : t = ((wd4 (btx T (F + 12)).toNat (btx T (F + 12 + 1)).toNat (btx T (F + 12 + 2)).toNat (btx T (F + 12 + 3)).toNat : Nat) : Int)) (hu : u = ((wd4 (btx T (F + 16)).toNat (btx T (F + 16 + 1)).toNat (btx T (F + 16 + 2)).toNat (btx T (F + 16 + 3)).toNat : Nat) : Int)) : ∀ i, 0 ≤ i → i < F + 20 → bp20 b F p q r t u i = btx T i := by
  have g1 := bp4_tx hO hF h
  have g2 := bp4_tx hO (by omega) g1
  have g3 := bp4_tx (F := F + 8) hO (by omega) (fun i i1 i2 => g2 i i1 (by omega))
  have g4 := bp4_tx (F := F + 12) hO (by omega) (fun i i1 i2 => g3 i i1 (by omega))
  have g5 := bp4_tx (F := F + 16) hO (by omega) (fun i i1 i2 => g4 i i1 (by omega))
  subst hp hq hr ht hu
  intro i i1 i2
  exact g5 i i1 (by omega)
/-- twenty bytes more -/
theorem x_ld1 (hn : 5000 ≤ n) (h : St μ w s T) (hB : BX μ F b) (hb : ∀ i, 0 ≤ i → i < F → b i = btx T i) (hF : 0 ≤ F ∧ F < (T.length : Int)) : ∃ μ' b', bL_load_2 n s F μ = some (.inl (F + 20, μ')) ∧ BX μ' (F + 20) b' ∧ (∀ i, 0 ≤ i → i < F + 20 → b' i = btx T i) ∧ Fr [1, 2] μ μ' := by
  have hl := h.1.1
  have f1 := x_four (k := F) hn h (by omega)
  have f2 := x_four (k := F + 4) hn h (by omega)
  have f3 := x_four (k := F + 8) hn h (by omega)
  have f4 := x_four (k := F + 12) hn h (by omega)
  have f5 := x_four (k := F + 16) hn h (by omega)
  rcases x_feed (p := _) (q := _) (r := _) (s := _) (t := _) hn hB (by omega) with ⟨c1, -⟩ | ⟨c1, μ1, a1, a2, a3, a4⟩
  · omega
  · refine ⟨μ1, _, ?_, a2, bp20_tx h.ok hF.1 hb rfl rfl rfl rfl rfl, a3⟩
    unfold bL_load_2
    rw [h.is.1, obs, h.len, obs, wr_id (x := F) (by omega) (by omega), wr_id (x := (T.length : Int)) (by omega) (by omega), if_pos hF.2, f1, obs, f2, obs, f3, obs, f4, obs, f5, obs, a1, obs]
theorem x_lds (hn : 5000 ≤ n) : ∀ (d j k : Nat) (μ : qMu) (b : Int → Int), j + d = 6 → d < k → St μ w s T → BX μ (20 * (j : Int)) b → (∀ i, 0 ≤ i → i < 20 * (j : Int) → b i = btx T i) → ∃ μ' F b', lp (fun x : Int × qMu => bL_load_2 n s x.1 x.2) k (20 * (j : Int), μ) = some μ' ∧ BX μ' F b' ∧ ((T.length : Int) ≤ F ∧ F ≤ 400) ∧ (∀ i, 0 ≤ i → i < F → b' i = btx T i) ∧ Fr [1, 2] μ μ' ∧ St μ' w s T
  | d, j, k, μ, b, hj, hk, h, hB, hb => by
    obtain ⟨k, rfl⟩ : ∃ k', k = k' + 1 := ⟨k - 1, by omega⟩
    have hl := h.1.1
    by_cases q : 20 * (j : Int) < (T.length : Int)
    · obtain ⟨d, rfl⟩ : ∃ d', d = d' + 1 := ⟨d - 1, by omega⟩
      obtain ⟨μ1, b1, a1, a2, a3, a4⟩ := x_ld1 hn h hB hb ⟨by omega, q⟩
      have e : 20 * (j : Int) + 20 = 20 * ((j + 1 : Nat) : Int) := by omega
      rw [e] at a1 a2 a3
      have h1 : St μ1 w s T := h.ext (fun a ha _ => a4 a (by simp; omega)) (qJn_cg (a4 _ (by decide)))
      obtain ⟨μ', F, b', c1, c2, c3, c4, c5, c6⟩ := x_lds hn d (j + 1) k μ1 b1 (by omega) (by omega) h1 a2 a3
      refine ⟨μ', F, b', ?_, c2, c3, c4, a4.tr c5, c6⟩
      rw [lp_s]
      dsimp only
      rw [a1]
      exact c1
    · refine ⟨μ, 20 * (j : Int), b, ?_, hB, by omega, hb, Fr.rf _ _, h⟩
      rw [lp_s]
      dsimp only
      unfold bL_load_2
      rw [h.is.1, obs, h.len, obs, wr_id (x := 20 * (j : Int)) (by omega) (by omega), wr_id (x := (T.length : Int)) (by omega) (by omega), if_neg q]
      rfl
theorem x_load {st : qEn} (hn : 5000 ≤ n) (h : St μ w s T) (h5 : rd μ 1 5 = 0) (hp : ∀ b : Int → Int, (∀ i, 0 ≤ i → i < (T.length : Int) → b i = T.getD i.toNat 0) → ptx b (T.length : Int) = .inr st) : ∃ μ', fL_load n s μ = some (.inl (Ed st.2.2.1), μ') ∧ EV st ∧ CX μ' st ∧ HX μ' 0 0 (fun _ => st) ∧ rd μ' 1 7 = 0 ∧ ∀ a, 76 ≤ a → μ' a = μ a := by
  have hl := h.1.1
  obtain ⟨μ1, F, b, a1, a2, a3, a4, a5, a6⟩ := x_lds (w := w) (s := s) (T := T) hn 6 0 n μ (fun _ => 0) (by omega) (by omega) h ⟨h5, fun i i1 i2 => by omega⟩ (fun i i1 i2 => by omega)
  have eb : ∀ i, 0 ≤ i → i < (T.length : Int) → b i = T.getD i.toNat 0 := fun i i1 i2 => by
    rw [a4 i i1 (by omega)]
    exact if_pos i2
  have hT : TB b (T.length : Int) := ⟨by omega, fun i i1 i2 => by
    rw [eb i i1 i2]
    have := h.ok i.toNat (by omega)
    omega⟩
  obtain ⟨μ2, b1, b2, b3, b4, b5, b6⟩ := y_load hn hT a2 (by omega) (hp b eb)
  refine ⟨μ2, ?_, b2, b3, b4, b5, fun a ha => (b6 a ha).trans (a5 a (by simp; omega))⟩
  have a1' : lp (fun x : Int × qMu => bL_load_2 n s x.1 x.2) n (0, μ) = some μ1 := a1
  unfold fL_load
  rw [a1', obs, a6.is.1, obs, a6.len, obs, b1, obs]
  rfl
end LD2
/-! the pieces of the text, place by place -/
theorem tD_hd (D : Int → Int) : ∀ (j i : Nat), i < 7 → (tD D j).getD i 0 = tDeg.getD i 0
  | 0, i, _ => rfl
  | j + 1, i, h => by
    unfold tD
    have hl := tD_l D j
    rw [getD_app, if_pos (by rw [List.length_append, hl]; omega), getD_app, if_pos (by rw [hl]; omega)]
    exact tD_hd D j i h
theorem tD_at (D : Int → Int) : ∀ (j i : Nat), i < j → (tD D j).getD (7 + 2 * i) 0 = 32 ∧ (tD D j).getD (8 + 2 * i) 0 = 48 + D (i : Int)
  | 0, i, h => by omega
  | j + 1, i, h => by
    have hl := tD_l D j
    have hl1 : (tD D j ++ [32]).length = 8 + 2 * j := by
      rw [List.length_append, hl]
      show 7 + 2 * j + 1 = _
      omega
    unfold tD
    by_cases q : i < j
    · obtain ⟨h1, h2⟩ := tD_at D j i q
      rw [getD_app, if_pos (by omega), getD_app, if_pos (by omega), h1, getD_app, if_pos (by omega), getD_app, if_pos (by omega), h2]
      exact ⟨rfl, rfl⟩
    · have e : i = j := by omega
      subst e
      rw [getD_app, if_pos (by omega), getD_app, if_neg (by omega), hl, Nat.sub_self, getD_app, if_neg (by omega), hl1, Nat.sub_self]
      exact ⟨rfl, rfl⟩
theorem tM_e (T : List Int) (m : Int) : tM T m = T ++ [59, 109, 111, 100, 101, 32, 48 + m, 59] := by
  unfold tM
  rw [List.append_assoc, List.append_assoc]
  rfl
theorem tE_e (T : List Int) (U V : Nat → Int) (j : Nat) : tE T U V (j + 1) = tE T U V j ++ [101, 100, 103, 101, 32, 48 + U j, 32, 48 + V j, 59] := by
  show ((((tE T U V j ++ [101, 100, 103, 101, 32]) ++ [48 + U j]) ++ [32]) ++ [48 + V j]) ++ [59] = _
  rw [List.append_assoc, List.append_assoc, List.append_assoc, List.append_assoc]
  rfl
theorem tE_pre (T : List Int) (U V : Nat → Int) : ∀ (j i : Nat), i < T.length → (tE T U V j).getD i 0 = T.getD i 0
  | 0, i, _ => rfl
  | j + 1, i, h => by
    rw [tE_e, getD_app, if_pos (by rw [tE_l]; omega)]
    exact tE_pre T U V j i h
theorem tE_at (T : List Int) (U V : Nat → Int) : ∀ (j i r : Nat), i < j → r < 9 → (tE T U V j).getD (T.length + 9 * i + r) 0 = [101, 100, 103, 101, 32, 48 + U i, 32, 48 + V i, 59].getD r 0
  | 0, i, r, h, _ => by omega
  | j + 1, i, r, h, hr => by
    rw [tE_e, getD_app]
    by_cases q : i < j
    · rw [if_pos (by rw [tE_l]; omega)]
      exact tE_at T U V j i r q hr
    · have e : i = j := by omega
      subst e
      rw [if_neg (by rw [tE_l]; omega), tE_l, show T.length + 9 * i + r - (T.length + 9 * i) = r by omega]
theorem wd_tD : ∀ i : Nat, i < 7 → tDeg.getD i 0 = wd 1000001 (i : Int) := by decide +kernel
theorem wd_tM : ∀ i : Nat, i < 4 → [109, 111, 100, 101].getD i (0 : Int) = wd 1000004 (i : Int) := by decide +kernel
theorem wd_tE : ∀ i : Nat, i < 4 → [101, 100, 103, 101].getD i (0 : Int) = wd 1000002 (i : Int) := by decide +kernel
theorem tx_TT {N K : Nat} {D : Int → Int} {m : Int} {U V : Nat → Int} {b : Int → Int} {T : List Int} (hT : T = tE (tM (tD D N) m) U V K) (hb : ∀ i, 0 ≤ i → i < (T.length : Int) → b i = T.getD i.toNat 0) (hN : 1 ≤ N ∧ N ≤ 6) (hD : ∀ i, 0 ≤ D i ∧ D i ≤ 4) (hm : 0 ≤ m ∧ m ≤ 2) (hK : K ≤ 3) (hU : ∀ j, j < K → (0 ≤ U j ∧ U j < (N : Int)) ∧ (0 ≤ V j ∧ V j < (N : Int))) : TT b (T.length : Int) N D m K U V := by
  have l1 := tD_l D N
  have l2 : (tM (tD D N) m).length = 15 + 2 * N := by
    rw [tM_l, l1]
    omega
  have l3 : T.length = 15 + 2 * N + 9 * K := by
    rw [hT, tE_l, l2]
  -- places of the degrees, of the mode, of the edges
  have p1 : ∀ i : Nat, i < 7 + 2 * N → b (i : Int) = (tD D N).getD i 0 := fun i hi => by
    rw [hb _ (by omega) (by omega), show ((i : Int)).toNat = i by omega, hT, tE_pre _ _ _ _ _ (by omega), tM_e, getD_app, if_pos (by omega)]
  have p2 : ∀ r : Nat, r < 8 → b (7 + 2 * (N : Int) + (r : Int)) = [59, 109, 111, 100, 101, 32, 48 + m, 59].getD r 0 := fun r hr => by
    rw [hb _ (by omega) (by omega), show (7 + 2 * (N : Int) + (r : Int)).toNat = 7 + 2 * N + r by omega, hT, tE_pre _ _ _ _ _ (by omega), tM_e, getD_app, if_neg (by omega), l1, show 7 + 2 * N + r - (7 + 2 * N) = r by omega]
  have p3 : ∀ j r : Nat, j < K → r < 9 → b (15 + 2 * (N : Int) + 9 * (j : Int) + (r : Int)) = [101, 100, 103, 101, 32, 48 + U j, 32, 48 + V j, 59].getD r 0 := fun j r hj hr => by
    rw [hb _ (by omega) (by omega), show (15 + 2 * (N : Int) + 9 * (j : Int) + (r : Int)).toNat = (tM (tD D N) m).length + 9 * j + r by omega, hT, tE_at _ _ _ _ _ _ hj hr]
  refine ⟨hN, hD, hm, hK, hU, fun i i1 i2 => ?_, fun i i1 i2 => ?_, ⟨?_, fun i i1 i2 => ?_, ?_, ?_, ?_⟩, fun j hj => ⟨fun i i1 i2 => ?_, ?_, ?_, ?_, ?_, ?_⟩, by omega⟩
  · have := p1 i.toNat (by omega)
    rw [show ((i.toNat : Nat) : Int) = i by omega, tD_hd _ _ _ (by omega), wd_tD _ (by omega), show ((i.toNat : Nat) : Int) = i by omega] at this
    exact this
  · obtain ⟨q1, q2⟩ := tD_at D N i.toNat (by omega)
    have h1 := p1 (7 + 2 * i.toNat) (by omega)
    have h2 := p1 (8 + 2 * i.toNat) (by omega)
    rw [q1, show ((7 + 2 * i.toNat : Nat) : Int) = 7 + 2 * i by omega] at h1
    rw [q2, show ((8 + 2 * i.toNat : Nat) : Int) = 8 + 2 * i by omega, show ((i.toNat : Nat) : Int) = i by omega] at h2
    exact ⟨h1, h2⟩
  · have := p2 0 (by omega)
    rw [show 7 + 2 * (N : Int) + ((0 : Nat) : Int) = 7 + 2 * (N : Int) by omega] at this
    exact this
  · have h1 := p2 (1 + i.toNat) (by omega)
    rw [show 7 + 2 * (N : Int) + ((1 + i.toNat : Nat) : Int) = 8 + 2 * (N : Int) + i by omega] at h1
    have h2 : i.toNat = 0 ∨ i.toNat = 1 ∨ i.toNat = 2 ∨ i.toNat = 3 := by omega
    have h3 := wd_tM i.toNat (by omega)
    rw [show ((i.toNat : Nat) : Int) = i by omega] at h3
    rw [h1, ← h3]
    rcases h2 with e | e | e | e <;> rw [e] <;> rfl
  · have := p2 5 (by omega)
    rw [show 7 + 2 * (N : Int) + ((5 : Nat) : Int) = 12 + 2 * (N : Int) by omega] at this
    exact this
  · have := p2 6 (by omega)
    rw [show 7 + 2 * (N : Int) + ((6 : Nat) : Int) = 13 + 2 * (N : Int) by omega] at this
    exact this
  · have := p2 7 (by omega)
    rw [show 7 + 2 * (N : Int) + ((7 : Nat) : Int) = 14 + 2 * (N : Int) by omega] at this
    exact this
  · have h1 := p3 j i.toNat hj (by omega)
    rw [show ((i.toNat : Nat) : Int) = i by omega] at h1
    have h2 : i.toNat = 0 ∨ i.toNat = 1 ∨ i.toNat = 2 ∨ i.toNat = 3 := by omega
    have h3 := wd_tE i.toNat (by omega)
    rw [show ((i.toNat : Nat) : Int) = i by omega] at h3
    rw [h1, ← h3]
    rcases h2 with e | e | e | e <;> rw [e] <;> rfl
  · have := p3 j 4 hj (by omega)
    rw [show 15 + 2 * (N : Int) + 9 * (j : Int) + ((4 : Nat) : Int) = 19 + 2 * (N : Int) + 9 * (j : Int) by omega] at this
    exact this
  · have := p3 j 5 hj (by omega)
    rw [show 15 + 2 * (N : Int) + 9 * (j : Int) + ((5 : Nat) : Int) = 20 + 2 * (N : Int) + 9 * (j : Int) by omega] at this
    exact this
  · have := p3 j 6 hj (by omega)
    rw [show 15 + 2 * (N : Int) + 9 * (j : Int) + ((6 : Nat) : Int) = 21 + 2 * (N : Int) + 9 * (j : Int) by omega] at this
    exact this
  · have := p3 j 7 hj (by omega)
    rw [show 15 + 2 * (N : Int) + 9 * (j : Int) + ((7 : Nat) : Int) = 22 + 2 * (N : Int) + 9 * (j : Int) by omega] at this
    exact this
  · have := p3 j 8 hj (by omega)
    rw [show 15 + 2 * (N : Int) + 9 * (j : Int) + ((8 : Nat) : Int) = 23 + 2 * (N : Int) + 9 * (j : Int) by omega] at this
    exact this
/-- what the class holds, once it is loaded -/
def Lst (N m : Int) (D : Int → Int) (K : Nat) (U V : Nat → Int) : qEn := (N, m, eds U V (b0 D N.toNat).2 K, zc)
theorem x_loaded {μ0 μ : qMu} {n s K : Nat} {N m : Int} {D : Int → Int} {U V : Nat → Int} (hn : 5000 ≤ n) (h : Tld μ0 μ N m D K U V s) (h5 : rd μ0 1 5 = 0) : ∃ μ', fL_load n s μ = some (.inl (Ed (eds U V (b0 D N.toNat).2 K)), μ') ∧ EV (Lst N m D K U V) ∧ CX μ' (Lst N m D K U V) ∧ HX μ' 0 0 (fun _ => Lst N m D K U V) ∧ rd μ' 1 7 = 0 ∧ ∀ a, 76 ≤ a → μ' a = μ a := by
  obtain ⟨a1, a2, a3, a4, a5, a6, a7, a8, a9, -, -⟩ := h
  have hB := (b0_ok (l := D) (fun i => by have := a4 i; omega) N.toNat (by omega)).2.2.2.2.2
  have eN : ((N.toNat : Nat) : Int) = N := by omega
  rw [eN] at hB
  have h24 : rs D 0 N ≤ 24 := by
    have q1 : rs D 0 N ≤ rs (fun _ => 4) 0 N := rs_le (fun k _ _ => (a4 k).2)
    have q2 : rs (fun _ => (4 : Int)) 0 6 = rs (fun _ => 4) 0 N + rs (fun _ => 4) N 6 := rs_cut (by omega) (by omega)
    have q3 : 0 ≤ rs (fun _ => (4 : Int)) N 6 := rs_nn (fun _ _ _ => by omega)
    have q4 : rs (fun _ => (4 : Int)) 0 6 = 24 := rfl
    omega
  have hE : Ed (b0 D N.toNat).2 ≤ 12 := by
    split at hB <;> omega
  refine x_load (st := Lst N m D K U V) hn a9 ((rd_cg (a7.2.2.2 1 (by omega)) 5).trans h5) (fun b hb => ?_)
  have hTT := tx_TT (N := N.toNat) (K := K) (D := D) (m := m) (U := U) (V := V) rfl hb (by omega) a4 a2 a3 (fun j hj => by rw [eN]; exact a6 j hj)
  have := hTT.all (by rw [eN]; exact a5) hE
  rw [eN] at this
  exact this
