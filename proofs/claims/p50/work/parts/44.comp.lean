/-! COMPONENTS: the smallest vertex of each -/
def cpt (N : Int) (c : Int → Int → Int) (L : Int → Int) : Prop := ∀ u v, (0 ≤ u ∧ u < N) → (0 ≤ v ∧ v < N) → 0 < c u v → L u = L v
def Lab (N : Int) (c : Int → Int → Int) (s : Int → Int) : Prop := (∀ v, (0 ≤ v ∧ v < N) → 0 ≤ s v ∧ s v ≤ v ∧ s (s v) = s v) ∧ cpt N c s ∧ ∀ L, cpt N c L → ∀ v, (0 ≤ v ∧ v < N) → L (s v) = L v
theorem Lab.uniq {N : Int} {c : Int → Int → Int} {s s' : Int → Int} (h : Lab N c s) (h' : Lab N c s') {v : Int} (hv : 0 ≤ v ∧ v < N) : s v = s' v := by
  have h1 := h.2.2 s' h'.2.1 v hv
  have h2 := h'.2.2 s h.2.1 v hv
  have h3 := h.1 v hv
  have h4 := h'.1 v hv
  have h5 := h.1 (s' v) (by omega)
  have h6 := h'.1 (s v) (by omega)
  omega
def idx (s : Int → Int) (v : Int) : Int := rs (fun w => if s w = w then 1 else 0) 0 v
theorem idx_nn (s : Int → Int) (v : Int) : 0 ≤ idx s v := rs_nn (fun k _ _ => by split <;> omega)
theorem idx_le (s : Int → Int) {v : Int} (hv : 0 ≤ v) : idx s v ≤ v := by
  have h1 : idx s v ≤ rs (fun _ => (1 : Int)) 0 v := rs_le (fun k _ _ => by split <;> omega)
  have h2 : ∀ l : Nat, ∀ a : Int, sl (fun _ => (1 : Int)) a l = (l : Int) := by
    intro l
    induction l with
    | zero => intro a; rfl
    | succ l ih => intro a; unfold sl; rw [ih]; omega
  have h3 : rs (fun _ => (1 : Int)) 0 v = v := by
    unfold rs
    rw [h2]
    omega
  omega
theorem idx_s (s : Int → Int) {v : Int} (hv : 0 ≤ v) : idx s (v + 1) = idx s v + (if s v = v then 1 else 0) := rs_last hv
theorem idx_mono (s : Int → Int) {a b : Int} (ha : 0 ≤ a) (hab : a ≤ b) : idx s a ≤ idx s b := by
  unfold idx
  rw [rs_cut ha hab]
  have : 0 ≤ rs (fun w => if s w = w then 1 else 0) a b := rs_nn (fun k _ _ => by split <;> omega)
  omega
theorem idx_lt (s : Int → Int) {a b : Int} (ha : 0 ≤ a) (hab : a < b) (hr : s a = a) : idx s a < idx s b := by
  have h1 := idx_s s ha
  rw [if_pos hr] at h1
  have h2 := idx_mono s (by omega : 0 ≤ a + 1) (by omega : a + 1 ≤ b)
  omega
theorem idx_re (s : Int → Int) (F : Int → Int) : ∀ b : Nat, rs F 0 (idx s (b : Int)) = rs (fun v => if s v = v then F (idx s v) else 0) 0 (b : Int) := by
  intro b
  induction b with
  | zero => rfl
  | succ b ih =>
    rw [show ((b + 1 : Nat) : Int) = (b : Int) + 1 by omega, idx_s s (by omega), rs_last (by omega : (0 : Int) ≤ b), ← ih]
    by_cases h : s b = b
    · rw [if_pos h, if_pos h, rs_last (idx_nn s _)]
    · rw [if_neg h, if_neg h, Int.add_zero, Int.add_zero]
theorem Lab.dg {N : Int} {c : Int → Int → Int} {s : Int → Int} (hV : Vd N c) (h : Lab N c s) {v : Int} (hv : 0 ≤ v ∧ v < N) (hd : 0 < dgs c v) : 0 < dgs c (s v) := by
  have hN := hV.N
  have h1 := h.1 v hv
  have hn := hV.dg (s v)
  by_cases h0 : dgs c (s v) = 0
  · exfalso
    have hz : ∀ w, (0 ≤ w ∧ w < N) → c (s v) w = 0 := by
      intro w hw
      unfold dgs at h0
      have q1 := hV.2.1 (s v) (s v)
      have q2 : c (s v) w ≤ rs (fun w => c (s v) w) 0 8 := rs_ge (f := fun w => c (s v) w) hw.1 (by omega) (fun k _ _ => hV.2.1 _ k)
      have q3 := hV.2.1 (s v) w
      omega
    have hc : cpt N c (fun w => if w = s v then 1 else 0) := by
      intro a b ha hb hab
      by_cases ea : a = s v
      · subst ea
        rw [hz b hb] at hab
        omega
      · by_cases eb : b = s v
        · subst eb
          rw [hV.2.2.1 a, hz a ha] at hab
          omega
        · show (if a = s v then (1 : Int) else 0) = if b = s v then 1 else 0
          rw [if_neg ea, if_neg eb]
    have h2 : (if s v = s v then (1 : Int) else 0) = if v = s v then 1 else 0 := h.2.2 _ hc v hv
    rw [if_pos rfl] at h2
    by_cases h3 : v = s v
    · rw [← h3] at h0
      omega
    · rw [if_neg h3] at h2
      omega
  · omega
section FIND
variable {μ : qMu} {n : Nat} {N : Int} {c : Int → Int → Int}
theorem x_merge (hn : 5000 ≤ n) (hN : 0 ≤ N ∧ N ≤ 8) (h : rd μ 19 2 = N) {p q : Int} (hp : 0 ≤ p ∧ p < N) (hq : 0 ≤ q ∧ q < N) (hs : ∀ w, 0 ≤ w → w < mx p q → rd μ 20 w ≤ w) : ∃ μ', fX4_merge n p q μ = some μ' ∧ Fr [20] μ μ' ∧ ∀ w, (0 ≤ w ∧ w < N) → rd μ' 20 w = if rd μ 20 w = (if p < q then q else p) then (if q < p then q else p) else rd μ 20 w := by
  have e1 : mx p q = if p < q then q else p := mx_id (by omega) (by omega)
  have e2 : mn p q = if q < p then q else p := mn_id (by omega) (by omega)
  rw [e1] at hs
  generalize hF : (if p < q then q else p) = F at *
  generalize hI : (if q < p then q else p) = I at *
  have hFI : 0 ≤ I ∧ I ≤ F ∧ F < N := by
    rw [← hF, ← hI]
    split <;> split <;> omega
  have hnn : ∀ w, (0 ≤ w ∧ w < N) → w < F → rd μ 20 w ≠ F := fun w hw hwF q => by
    have := hs w hw.1 hwF
    omega
  simp only [fX4_merge, e1, e2]
  by_cases hEq : F = I
  · refine ⟨μ, ?_, Fr.rf _ _, fun w hw => ?_⟩
    · have : bX4_merge_16 n F I F μ = some (.inr μ) := by
        simp (disch := omega) only [bX4_merge_16, h, wr_id, if_pos]
      obtain ⟨n', rfl⟩ : ∃ n', n = n' + 1 := ⟨n - 1, by omega⟩
      rw [lp_s]
      dsimp only
      rw [this]
      rfl
    · by_cases hw2 : rd μ 20 w = F
      · rw [if_pos hw2, hw2, hEq]
      · rw [if_neg hw2]
  · obtain ⟨b, q1, q2⟩ := lp_inv (f := fun x : Int × qMu => bX4_merge_16 n F I x.1 x.2) (fun k x => (x.1 = N - (k : Int) ∧ F ≤ x.1) ∧ Fr [20] μ x.2 ∧ (∀ i, 0 ≤ i → i < x.1 → rd x.2 20 i = if rd μ 20 i = F then I else rd μ 20 i) ∧ ∀ i, x.1 ≤ i → rd x.2 20 i = rd μ 20 i) (fun y => Fr [20] μ y ∧ ∀ i, 0 ≤ i → i < N → rd y 20 i = if rd μ 20 i = F then I else rd μ 20 i) (by
      rintro k ⟨i, ν⟩ ⟨⟨h4, h5⟩, h6, h7, h8⟩
      dsimp only at h4 h5 h6 h7 h8
      have e3 : rd ν 19 2 = N := by rw [rd_cg (h6 19 (by decide))]; exact h
      by_cases hi : i < N
      · right
        have e4 := h8 i (Int.le_refl _)
        by_cases hc : rd μ 20 i = F
        · refine ⟨k - 1, (i + 1, up ν 20 i I), ?_, by omega, ⟨by dsimp only; omega, by dsimp only; omega⟩, h6.tr (Fr.up (by simp)), fun j q1 q2 => ?_, fun j q1 => ?_⟩
          · simp (disch := omega) only [bX4_merge_16, e3, wr_id, if_pos, if_neg, qLd_in, qSa_in, Option.bind_some, e4, hc, ite_true]
          · dsimp only at q2
            by_cases hj : j = i
            · subst hj
              rw [rd_at, if_pos hc]
              exact wr_id (by omega) (by omega)
            · rw [rd_ni hj]
              exact h7 j q1 (by omega)
          · dsimp only at q1 ⊢
            rw [rd_ni (by omega)]
            exact h8 j (by omega)
        · refine ⟨k - 1, (i + 1, ν), ?_, by omega, ⟨by dsimp only; omega, by dsimp only; omega⟩, h6, fun j q1 q2 => ?_, fun j q1 => h8 j (by dsimp only at q1; omega)⟩
          · simp (disch := omega) only [bX4_merge_16, e3, wr_id, wr_rd, if_pos, if_neg, qLd_in, Option.bind_some, e4]
          · dsimp only at q2
            by_cases hj : j = i
            · subst hj
              rw [if_neg hc]
              exact e4
            · exact h7 j q1 (by omega)
      · left
        refine ⟨ν, ?_, h6, fun j q1 q2 => h7 j q1 (by omega)⟩
        simp (disch := omega) only [bX4_merge_16, e3, wr_id, if_neg]) n (N - F).toNat (F, μ) ⟨⟨by dsimp only; omega, Int.le_refl _⟩, Fr.rf _ _, fun i q1 q2 => by
          dsimp only at q2 ⊢
          rw [if_neg (hnn i (by omega) q2)], fun i _ => rfl⟩ (by omega)
    refine ⟨b, ?_, q2.1, fun w hw => q2.2 w hw.1 hw.2⟩
    rw [q1]
    rfl
/-- what the loops over pairs keep -/
def Fi (N : Int) (c : Int → Int → Int) (ν : qMu) (P : Int → Int → Prop) : Prop := rd ν 19 2 = N ∧ (∀ v, (0 ≤ v ∧ v < N) → 0 ≤ rd ν 20 v ∧ rd ν 20 v ≤ v ∧ rd ν 20 (rd ν 20 v) = rd ν 20 v) ∧ (∀ L, cpt N c L → ∀ v, (0 ≤ v ∧ v < N) → L (rd ν 20 v) = L v) ∧ ∀ a b, 0 ≤ a → a < b → b < N → P a b → 0 < c a b → rd ν 20 a = rd ν 20 b
theorem x_find {g : Nat} (hn : 5000 ≤ n) (h : GX μ g N c) (hV : Vd N c) (hg : g ≠ 19 ∧ g ≠ 20 ∧ g + 1 ≠ 19 ∧ g + 1 ≠ 20) : ∃ μ', fX4_find n g μ = some μ' ∧ Fr [19, 20] μ μ' ∧ rd μ' 19 2 = N ∧ Lab N c (fun v => rd μ' 20 v) := by
  have hN := hV.N
  obtain ⟨μ1, q1, q2, q3, q4⟩ : ∃ μ1, lp (fun x : Int × qMu => bX4_find_10 n g x.1 x.2) n (0, up μ 19 2 N) = some μ1 ∧ Fr [19, 20] μ μ1 ∧ rd μ1 19 2 = N ∧ ∀ v, 0 ≤ v → v < N → rd μ1 20 v = v := by
    obtain ⟨b, q1, q2⟩ := lp_inv (f := fun x : Int × qMu => bX4_find_10 n g x.1 x.2) (fun k x => (x.1 = N - (k : Int) ∧ 0 ≤ x.1) ∧ Fr [19, 20] μ x.2 ∧ rd x.2 19 2 = N ∧ ∀ i, 0 ≤ i → i < x.1 → rd x.2 20 i = i) (fun y => Fr [19, 20] μ y ∧ rd y 19 2 = N ∧ ∀ i, 0 ≤ i → i < N → rd y 20 i = i) (by
      rintro k ⟨i, ν⟩ ⟨⟨h4, h5⟩, h6, h7, h8⟩
      dsimp only at h4 h5 h6 h7 h8
      by_cases hi : i < N
      · right
        refine ⟨k - 1, (i + 1, up ν 20 i i), ?_, by omega, ⟨by dsimp only; omega, by dsimp only; omega⟩, h6.tr (Fr.up (by simp)), by dsimp only; rw [rd_na (by decide)]; exact h7, fun j q1 q2 => ?_⟩
        · simp (disch := omega) only [bX4_find_10, h7, wr_id, if_pos, qSa_in, Option.bind_some]
        · dsimp only at q2
          by_cases hj : j = i
          · subst hj
            rw [rd_at]
            exact wr_id (by omega) (by omega)
          · rw [rd_ni hj]
            exact h8 j q1 (by omega)
      · left
        refine ⟨ν, ?_, h6, h7, fun j q1 q2 => h8 j q1 (by omega)⟩
        simp (disch := omega) only [bX4_find_10, h7, wr_id, if_neg]) n N.toNat (0, up μ 19 2 N) ⟨⟨by dsimp only; omega, Int.le_refl _⟩, Fr.up (by simp), by dsimp only; rw [rd_at]; exact wr_id (by omega) (by omega), fun i q1 q2 => by dsimp only at q2; omega⟩ (by omega)
    exact ⟨b, q1, q2.1, q2.2.1, q2.2.2⟩
  have kpX : ∀ ν, Fr [19, 20] μ ν → GX ν g N c := fun ν hν => h.kp (hν g (by simp; omega)) (hν (g + 1) (by simp; omega))
  have inner : ∀ u, 0 ≤ u → u < N → ∀ ν, Fr [19, 20] μ ν → Fi N c ν (fun a _ => a < u) → ∃ ν', lp (fun x : Int × qMu => bX4_find_45 n g u x.1 x.2) n (u + 1, ν) = some ν' ∧ Fr [19, 20] μ ν' ∧ Fi N c ν' (fun a _ => a < u + 1) := by
    intro u hu0 huN ν hν hF
    obtain ⟨b, r1, r2⟩ := lp_inv (f := fun x : Int × qMu => bX4_find_45 n g u x.1 x.2) (fun k x => (x.1 = N - (k : Int) ∧ u + 1 ≤ x.1) ∧ Fr [19, 20] μ x.2 ∧ Fi N c x.2 (fun a b => a < u ∨ (a = u ∧ b < x.1))) (fun y => Fr [19, 20] μ y ∧ Fi N c y (fun a _ => a < u + 1)) (by
      rintro k ⟨i, ξ⟩ ⟨⟨h4, h5⟩, h6, h7, h8, h9, h10⟩
      dsimp only at h4 h5 h6 h7 h8 h9 h10
      by_cases hi : i < N
      · right
        by_cases hc : 0 < c u i
        · have hsu := h8 u (by omega)
          have hsi := h8 i (by omega)
          obtain ⟨ξ', m1, m2, m3⟩ := x_merge (μ := ξ) hn (by omega) h7 (p := rd ξ 20 u) (q := rd ξ 20 i) (by omega) (by omega) (fun w hw hw2 => (h8 w (by
            rw [mx_id (by omega) (by omega)] at hw2
            split at hw2 <;> omega)).2.1)
          generalize hFF : (if rd ξ 20 u < rd ξ 20 i then rd ξ 20 i else rd ξ 20 u) = F at m3
          generalize hII : (if rd ξ 20 i < rd ξ 20 u then rd ξ 20 i else rd ξ 20 u) = I at m3
          have hFI : 0 ≤ I ∧ I ≤ F ∧ F < N := by
            rw [← hFF, ← hII]
            split <;> split <;> omega
          have hrI : rd ξ 20 I = I := by
            rw [← hII]
            split
            · exact hsi.2.2
            · exact hsu.2.2
          refine ⟨k - 1, (i + 1, ξ'), ?_, by omega, ⟨by dsimp only; omega, by dsimp only; omega⟩, h6.tr (m2.wk (by simp)), ?_, fun v hv => ?_, fun L hL v hv => ?_, fun a b' ha hab hb hP hcc => ?_⟩
          · simp (disch := omega) only [bX4_find_45, h7, wr_id, if_pos, x_between (kpX ξ h6), Option.bind_some, hV.w, qLd_in, m1]
          · dsimp only
            rw [rd_cg (m2 19 (by decide))]
            exact h7
          · dsimp only
            have hv8 := h8 v hv
            have e1 := m3 v hv
            by_cases hvF : rd ξ 20 v = F
            · rw [if_pos hvF] at e1
              rw [e1]
              have e2 := m3 I (by omega)
              rw [hrI] at e2
              refine ⟨by omega, by omega, ?_⟩
              rw [e2]
              split
              · rfl
              · rfl
            · rw [if_neg hvF] at e1
              rw [e1]
              refine ⟨by omega, by omega, ?_⟩
              have e2 := m3 (rd ξ 20 v) (by omega)
              rw [hv8.2.2, if_neg hvF] at e2
              exact e2
          · dsimp only
            have e1 := m3 v hv
            have e3 := h9 L hL v hv
            by_cases hvF : rd ξ 20 v = F
            · rw [if_pos hvF] at e1
              rw [e1]
              have l1 := h9 L hL u (by omega)
              have l2 := h9 L hL i (by omega)
              have l3 := hL u i (by omega) (by omega) hc
              have l4 : L I = L u := by
                rw [← hII]
                split
                · rw [l2, l3]
                · exact l1
              have l5 : L F = L u := by
                rw [← hFF]
                split
                · rw [l2, l3]
                · exact l1
              rw [← e3, hvF, l4, l5]
            · rw [if_neg hvF] at e1
              rw [e1]
              exact e3
          · dsimp only at hP ⊢
            have ea := m3 a (by omega)
            have eb := m3 b' (by omega)
            by_cases hold : a < u ∨ a = u ∧ b' < i
            · have := h10 a b' ha hab hb hold hcc
              rw [ea, eb, this]
            · have h11 : a = u ∧ b' = i := by omega
              obtain ⟨rfl, rfl⟩ := h11
              have e3 : rd ξ 20 a = F ∨ rd ξ 20 a = I := by
                rw [← hFF, ← hII]
                by_cases q1 : rd ξ 20 a < rd ξ 20 b'
                · right; rw [if_neg (by omega)]
                · left; rw [if_neg q1]
              have e4 : rd ξ 20 b' = F ∨ rd ξ 20 b' = I := by
                rw [← hFF, ← hII]
                by_cases q1 : rd ξ 20 a < rd ξ 20 b'
                · left; rw [if_pos q1]
                · by_cases q2 : rd ξ 20 b' < rd ξ 20 a
                  · right; rw [if_pos q2]
                  · left; rw [if_neg q1]; omega
              rw [ea, eb]
              split <;> split <;> omega
        · refine ⟨k - 1, (i + 1, ξ), ?_, by omega, ⟨by dsimp only; omega, by dsimp only; omega⟩, h6, h7, h8, h9, fun a b' ha hab hb hP hcc => ?_⟩
          · simp (disch := omega) only [bX4_find_45, h7, wr_id, if_pos, if_neg, x_between (kpX ξ h6), Option.bind_some, hV.w]
          · dsimp only at hP
            by_cases hold : a < u ∨ a = u ∧ b' < i
            · exact h10 a b' ha hab hb hold hcc
            · have h11 : a = u ∧ b' = i := by omega
              obtain ⟨rfl, rfl⟩ := h11
              exact absurd hcc hc
      · left
        refine ⟨ξ, ?_, h6, h7, h8, h9, fun a b' ha hab hb hP hcc => h10 a b' ha hab hb (by omega) hcc⟩
        simp (disch := omega) only [bX4_find_45, h7, wr_id, if_neg]) n (N - (u + 1)).toNat (u + 1, ν) ⟨⟨by dsimp only; omega, Int.le_refl _⟩, hν, hF.1, hF.2.1, hF.2.2.1, fun a b' ha hab hb hP hcc => hF.2.2.2 a b' ha hab hb (by dsimp only at hP; omega) hcc⟩ (by omega)
    exact ⟨b, r1, r2⟩
  obtain ⟨b, r1, r2⟩ := lp_inv (f := fun x : Int × qMu => bX4_find_33 n g x.1 x.2) (fun k x => (x.1 = N - (k : Int) ∧ 0 ≤ x.1) ∧ Fr [19, 20] μ x.2 ∧ Fi N c x.2 (fun a _ => a < x.1)) (fun y => Fr [19, 20] μ y ∧ Fi N c y (fun a _ => a < N)) (by
    rintro k ⟨i, ξ⟩ ⟨⟨h4, h5⟩, h6, h7⟩
    dsimp only at h4 h5 h6 h7
    by_cases hi : i < N
    · right
      obtain ⟨ν', i1, i2, i3⟩ := inner i h5 hi ξ h6 h7
      refine ⟨k - 1, (i + 1, ν'), ?_, by omega, ⟨by dsimp only; omega, by dsimp only; omega⟩, i2, i3⟩
      simp (disch := omega) only [bX4_find_33, h7.1, wr_id, if_pos, i1, Option.bind_some]
    · left
      have : i = N := by omega
      subst this
      refine ⟨ξ, ?_, h6, h7⟩
      simp (disch := omega) only [bX4_find_33, h7.1, wr_id, if_neg]) n N.toNat (0, μ1) ⟨⟨by dsimp only; omega, Int.le_refl _⟩, q2, q3, fun v hv => by
        dsimp only
        have := q4 v hv.1 hv.2
        rw [this, this]
        omega, fun L hL v hv => by dsimp only; rw [q4 v hv.1 hv.2], fun a b' ha hab hb hP hcc => by dsimp only at hP; omega⟩ (by omega)
  refine ⟨b, ?_, r2.1, r2.2.1, r2.2.2.1, ?_, r2.2.2.2.1⟩
  · simp (disch := omega) only [fX4_find, fX1_vertexCount, h.1, Option.bind_some, qPf_eq, q1, r1]
  · intro u v hu hv hc
    by_cases h1 : u = v
    · rw [h1]
    · by_cases h2 : u < v
      · exact r2.2.2.2.2 u v hu.1 h2 hv.2 hu.2 hc
      · exact (r2.2.2.2.2 v u hv.1 (by omega) hu.2 hv.2 (by rw [hV.2.2.1]; exact hc)).symm
end FIND
