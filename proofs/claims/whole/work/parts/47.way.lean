/-! WAYS: reached by at most k edges -/
def dr (N : Int) (c : Int → Int → Int) (f : Int) : Nat → Int → Prop
  | 0, v => v = f
  | k + 1, v => dr N c f k v ∨ ∃ u, (0 ≤ u ∧ u < N) ∧ dr N c f k u ∧ u ≠ v ∧ 0 < c u v
section DR
variable {N : Int} {c : Int → Int → Int} {f : Int}
theorem dr_up {j k : Nat} (h : j ≤ k) {v : Int} (hd : dr N c f j v) : dr N c f k v := by
  induction k with
  | zero =>
    have : j = 0 := by omega
    subst this
    exact hd
  | succ k ih =>
    by_cases hj : j = k + 1
    · subst hj; exact hd
    · exact Or.inl (ih (by omega))
theorem dr_in (hV : Vd N c) (hf : 0 ≤ f ∧ f < N) : ∀ (k : Nat) (v : Int), dr N c f k v → 0 ≤ v ∧ v < N
  | 0, v, h => by
    have h : v = f := h
    omega
  | k + 1, v, h => by
    rcases h with h | ⟨u, hu, h1, h2, h3⟩
    · exact dr_in hV hf k v h
    · exact (hV.2.2.2.1 u v (by omega)).2
noncomputable def drc (N : Int) (c : Int → Int → Int) (f : Int) (k : Nat) : Int := rs (fun v => @ite _ (dr N c f k v) (Classical.propDecidable _) 1 0) 0 N
theorem dr_st (hf : 0 ≤ f ∧ f < N) : ∀ k : Nat, (∀ j v, dr N c f j v → (0 ≤ v ∧ v < N) → dr N c f k v) ∨ (k : Int) + 1 ≤ drc N c f k := by
  intro k
  induction k with
  | zero =>
    right
    have : (@ite _ (dr N c f 0 f) (Classical.propDecidable _) (1 : Int) 0) ≤ drc N c f 0 := rs_ge (f := fun v => @ite _ (dr N c f 0 v) (Classical.propDecidable _) (1 : Int) 0) hf.1 hf.2 (fun k _ _ => by split <;> omega)
    rw [if_pos (show dr N c f 0 f from rfl)] at this
    omega
  | succ k ih =>
    by_cases hs : ∃ v, (0 ≤ v ∧ v < N) ∧ dr N c f (k + 1) v ∧ ¬ dr N c f k v
    · rcases ih with ih | ih
      · left
        intro j v hd hv
        exact Or.inl (ih j v hd hv)
      · right
        obtain ⟨v, hv, h1, h2⟩ := hs
        have e : drc N c f (k + 1) = drc N c f k + rs (fun v => @ite _ (dr N c f (k + 1) v) (Classical.propDecidable _) (1 : Int) 0 - @ite _ (dr N c f k v) (Classical.propDecidable _) (1 : Int) 0) 0 N := by
          unfold drc
          rw [← rs_add]
          exact rs_congr (fun v _ _ => by omega)
        have g := rs_ge (f := fun v => @ite _ (dr N c f (k + 1) v) (Classical.propDecidable _) (1 : Int) 0 - @ite _ (dr N c f k v) (Classical.propDecidable _) (1 : Int) 0) hv.1 hv.2 (fun w _ _ => by
          by_cases q : dr N c f k w
          · rw [if_pos q, if_pos (show dr N c f (k + 1) w from Or.inl q)]
            omega
          · rw [if_neg q]
            split <;> omega)
        rw [if_pos h1, if_neg h2] at g
        omega
    · left
      have hs' : ∀ v, (0 ≤ v ∧ v < N) → dr N c f (k + 1) v → dr N c f k v := fun v hv h1 => Classical.byContradiction fun h2 => hs ⟨v, hv, h1, h2⟩
      have key : ∀ (i : Nat) (v : Int), (0 ≤ v ∧ v < N) → dr N c f (k + i) v → dr N c f k v := by
        intro i
        induction i with
        | zero => intro v _ h; exact h
        | succ i ih2 =>
          intro v hv h
          rcases h with h | ⟨u, hu, h1, h2, h3⟩
          · exact ih2 v hv h
          · exact hs' v hv (Or.inr ⟨u, hu, ih2 u hu h1, h2, h3⟩)
      intro j v hd hv
      exact Or.inl (key j v hv (dr_up (by omega) hd))
theorem dr_N (hV : Vd N c) (hf : 0 ≤ f ∧ f < N) {j : Nat} {v : Int} (hd : dr N c f j v) : dr N c f (N - 1).toNat v := by
  have hv := dr_in hV hf j v hd
  rcases dr_st (c := c) hf (N - 1).toNat with h | h
  · exact h j v hd hv
  · refine Classical.byContradiction fun hn => ?_
    have e1 : drc N c f (N - 1).toNat ≤ rs (fun w => if w = v then (0 : Int) else 1) 0 N := rs_le (fun w _ _ => by
      by_cases q : w = v
      · subst q
        rw [if_neg hn, if_pos rfl]
        omega
      · rw [if_neg q]
        split <;> omega)
    have e2 : rs (fun w => if w = v then (0 : Int) else 1) 0 N + rs (fun w => if w = v then (1 : Int) else 0) 0 N = N := by
      rw [← rs_add]
      have h2 : ∀ l : Nat, ∀ a : Int, sl (fun w => (if w = v then (0 : Int) else 1) + (if w = v then (1 : Int) else 0)) a l = (l : Int) := by
        intro l
        induction l with
        | zero => intro a; rfl
        | succ l ih => intro a; unfold sl; rw [ih]; split <;> omega
      unfold rs
      rw [h2]
      omega
    have e3 : rs (fun w => if w = v then (1 : Int) else 0) 0 N = 1 := by
      rw [rs_one hv.1 hv.2 (fun k _ _ hk => by rw [if_neg hk]), if_pos rfl]
    omega
end DR
/-- the answer of way -/
def IsW (N : Int) (c : Int → Int → Int) (f v r : Int) : Prop := (r = -1 ∧ ∀ k, ¬ dr N c f k v) ∨ (0 ≤ r ∧ r ≤ 7 ∧ dr N c f r.toNat v ∧ ∀ j : Nat, (j : Int) < r → ¬ dr N c f j v)
theorem IsW.uniq {N : Int} {c : Int → Int → Int} {f v r r' : Int} (h : IsW N c f v r) (h' : IsW N c f v r') : r = r' := by
  rcases h with ⟨rfl, h⟩ | ⟨h1, h2, h3, h4⟩
  · rcases h' with ⟨rfl, h'⟩ | ⟨h5, h6, h7, h8⟩
    · rfl
    · exact absurd h7 (h _)
  · rcases h' with ⟨rfl, h'⟩ | ⟨h5, h6, h7, h8⟩
    · exact absurd h3 (h' _)
    · by_cases q1 : r < r'
      · exact absurd h3 (h8 r.toNat (by omega))
      · by_cases q2 : r' < r
        · exact absurd h7 (h4 r'.toNat (by omega))
        · omega
section WAY
variable {μ : qMu} {n : Nat} {N m : Int} {c t : Int → Int → Int} {f : Int}
/-- the exact ones up to j -/
def Ex (N : Int) (c : Int → Int → Int) (f : Int) (j : Nat) (v x : Int) : Prop := 0 ≤ x ∧ x ≤ (j : Int) ∧ dr N c f x.toNat v ∧ ∀ i : Nat, (i : Int) < x → ¬ dr N c f i v
/-- within a round: p tells the vertices that have been passed -/
def Wa (N : Int) (c : Int → Int → Int) (f : Int) (j : Nat) (ν : qMu) (p : Int → Int → Prop) : Prop := rd ν 19 2 = N ∧ ∀ w, (0 ≤ w ∧ w < N) → Ex N c f j w (rd ν 21 w) ∨ (rd ν 21 w = -1 ∧ ¬ dr N c f j w ∧ ∀ u, (0 ≤ u ∧ u < N) → p u w → dr N c f j u → ¬ (u ≠ w ∧ 0 < c u w)) ∨ (rd ν 21 w = (j : Int) + 1 ∧ ¬ dr N c f j w ∧ dr N c f (j + 1) w)
theorem x_steps {g : Nat} (hn : 5000 ≤ n) (h : GX μ g N c) (hV : Vd N c) (hg : g ≠ 19 ∧ g ≠ 21 ∧ g + 1 ≠ 19 ∧ g + 1 ≠ 21) (hf : 0 ≤ f ∧ f < N) {v : Int} (hv : 0 ≤ v ∧ v < N) : ∃ r μ', fX4_stepsBetween n g f v μ = some (r, μ') ∧ Fr [19, 21] μ μ' ∧ IsW N c f v r := by
  have hN := hV.N
  have kpX : ∀ ν, Fr [19, 21] μ ν → GX ν g N c := fun ν hν => h.kp (hν g (by simp; omega)) (hν (g + 1) (by simp; omega))
  obtain ⟨μ1, q1, q2, q3, q4⟩ : ∃ μ1, lp (fun x : Int × qMu => bX4_stepsBetween_11 n g f v x.1 x.2) n (0, up μ 19 2 N) = some μ1 ∧ Fr [19, 21] μ μ1 ∧ rd μ1 19 2 = N ∧ ∀ i, 0 ≤ i → i < N → rd μ1 21 i = -1 := by
    obtain ⟨b, q1, q2⟩ := lp_inv (f := fun x : Int × qMu => bX4_stepsBetween_11 n g f v x.1 x.2) (fun k x => (x.1 = N - (k : Int) ∧ 0 ≤ x.1) ∧ Fr [19, 21] μ x.2 ∧ rd x.2 19 2 = N ∧ ∀ i, 0 ≤ i → i < x.1 → rd x.2 21 i = -1) (fun y => Fr [19, 21] μ y ∧ rd y 19 2 = N ∧ ∀ i, 0 ≤ i → i < N → rd y 21 i = -1) (by
      rintro k ⟨i, ν⟩ ⟨⟨h4, h5⟩, h6, h7, h8⟩
      dsimp only at h4 h5 h6 h7 h8
      by_cases hi : i < N
      · right
        refine ⟨k - 1, (i + 1, up ν 21 i (-1)), ?_, by omega, ⟨by dsimp only; omega, by dsimp only; omega⟩, h6.tr (Fr.up (by simp)), by dsimp only; rw [rd_na (by decide)]; exact h7, fun j q1 q2 => ?_⟩
        · simp (disch := omega) only [bX4_stepsBetween_11, h7, wr_id, if_pos, qSa_in, Option.bind_some]
        · dsimp only at q2
          by_cases hj : j = i
          · subst hj
            rw [rd_at]
            exact wr_id (by omega) (by omega)
          · rw [rd_ni hj]
            exact h8 j q1 (by omega)
      · left
        refine ⟨ν, ?_, h6, h7, fun j q1 q2 => h8 j q1 (by omega)⟩
        simp (disch := omega) only [bX4_stepsBetween_11, h7, wr_id, if_neg]) n N.toNat (0, up μ 19 2 N) ⟨⟨by dsimp only; omega, Int.le_refl _⟩, Fr.up (by simp), by dsimp only; rw [rd_at]; exact wr_id (by omega) (by omega), fun i q1 q2 => by dsimp only at q2; omega⟩ (by omega)
    exact ⟨b, q1, q2.1, q2.2.1, q2.2.2⟩
  -- from one vertex at distance j
  have step : ∀ (j : Nat) (u : Int), (0 ≤ u ∧ u < N) → j ≤ 8 → ∀ ν, Fr [19, 21] μ ν → Wa N c f j ν (fun a _ => a < u) → rd ν 21 u = (j : Int) → ∃ ν', fX4_stepOn n g u ν = some ν' ∧ Fr [19, 21] μ ν' ∧ Wa N c f j ν' (fun a _ => a < u + 1) := by
    intro j u hu hj ν hν hW he
    have hdu : dr N c f j u := by
      rcases hW.2 u hu with q | q | q
      · obtain ⟨a1, a2, a3, a4⟩ := q
        rw [he] at a3
        exact a3
      · omega
      · omega
    obtain ⟨b, r1, r2⟩ := lp_inv (f := fun x : Int × qMu => bX4_stepOn_2 n g u x.1 x.2) (fun k x => (x.1 = N - (k : Int) ∧ 0 ≤ x.1) ∧ Fr [19, 21] μ x.2 ∧ Wa N c f j x.2 (fun a w => a < u ∨ (a = u ∧ w < x.1)) ∧ rd x.2 21 u = (j : Int)) (fun y => Fr [19, 21] μ y ∧ Wa N c f j y (fun a _ => a < u + 1)) (by
      rintro k ⟨i, ξ⟩ ⟨⟨h4, h5⟩, h6, ⟨h7, h8⟩, h9⟩
      dsimp only at h4 h5 h6 h7 h8 h9
      have hX := kpX ξ h6
      by_cases hi : i < N
      · right
        by_cases c1 : rd ξ 21 i = -1
        · by_cases c2 : 0 < c u i
          · have hne : u ≠ i := fun q => by rw [← q] at c1; omega
            have hnd : ¬ dr N c f j i := by
              rcases h8 i ⟨h5, hi⟩ with q | q | q
              · obtain ⟨a1, _⟩ := q; omega
              · exact q.2.1
              · omega
            refine ⟨k - 1, (i + 1, up ξ 21 i ((j : Int) + 1)), ?_, by omega, ⟨by dsimp only; omega, by dsimp only; omega⟩, h6.tr (Fr.up (by simp)), ⟨by dsimp only; rw [rd_na (by decide)]; exact h7, fun w hw => ?_⟩, by dsimp only; rw [rd_ni hne]; exact h9⟩
            · simp (disch := omega) only [bX4_stepOn_2, h7, wr_id, if_pos, qLd_in, qSa_in, Option.bind_some, c1, h9, x_between hX, hV.w, ite_true]
            · dsimp only
              by_cases hwi : w = i
              · subst hwi
                rw [rd_at, wr_id (by omega) (by omega)]
                exact Or.inr (Or.inr ⟨rfl, hnd, Or.inr ⟨u, hu, hdu, hne, c2⟩⟩)
              · rw [rd_ni hwi]
                refine (h8 w hw).imp id (Or.imp (fun q => ⟨q.1, q.2.1, fun a ha hp => q.2.2 a ha ?_⟩) id)
                omega
          · refine ⟨k - 1, (i + 1, ξ), ?_, by omega, ⟨by dsimp only; omega, by dsimp only; omega⟩, h6, ⟨h7, fun w hw => ?_⟩, h9⟩
            · simp (disch := omega) only [bX4_stepOn_2, h7, wr_id, if_pos, if_neg, qLd_in, Option.bind_some, c1, x_between hX, hV.w, ite_true]
            · refine (h8 w hw).imp id (Or.imp (fun q => ⟨q.1, q.2.1, fun a ha hp hda => ?_⟩) id)
              dsimp only at hp
              by_cases hwi : a = u ∧ w = i
              · obtain ⟨rfl, rfl⟩ := hwi
                exact fun z => c2 z.2
              · exact q.2.2 a ha (by omega) hda
        · refine ⟨k - 1, (i + 1, ξ), ?_, by omega, ⟨by dsimp only; omega, by dsimp only; omega⟩, h6, ⟨h7, fun w hw => ?_⟩, h9⟩
          · simp (disch := omega) only [bX4_stepOn_2, h7, wr_id, wr_rd, if_pos, if_neg, qLd_in, Option.bind_some]
          · refine (h8 w hw).imp id (Or.imp (fun q => ⟨q.1, q.2.1, fun a ha hp hda => ?_⟩) id)
            dsimp only at hp
            by_cases hwi : w = i
            · rw [hwi] at q
              exact absurd q.1 c1
            · exact q.2.2 a ha (by omega) hda
      · left
        refine ⟨ξ, ?_, h6, h7, fun w hw => ?_⟩
        · simp (disch := omega) only [bX4_stepOn_2, h7, wr_id, if_neg]
        · exact (h8 w hw).imp id (Or.imp (fun q => ⟨q.1, q.2.1, fun a ha hp hda => q.2.2 a ha (by dsimp only at hp; omega) hda⟩) id)) n N.toNat (0, ν) ⟨⟨by dsimp only; omega, Int.le_refl _⟩, hν, ⟨hW.1, fun w hw => (hW.2 w hw).imp id (Or.imp (fun q => ⟨q.1, q.2.1, fun a ha hp hda => q.2.2 a ha (by dsimp only at hp ⊢; omega) hda⟩) id)⟩, he⟩ (by omega)
    refine ⟨b, ?_, r2⟩
    simp only [fX4_stepOn, r1, Option.bind_some]
  -- a round
  have round : ∀ (j : Nat), j ≤ 8 → ∀ ν, Fr [19, 21] μ ν → (rd ν 19 2 = N ∧ ∀ w, (0 ≤ w ∧ w < N) → Ex N c f j w (rd ν 21 w) ∨ (rd ν 21 w = -1 ∧ ¬ dr N c f j w)) → ∃ ν', lp (fun x : Int × qMu => bX4_stepsBetween_66 n g v (j : Int) x.1 x.2) n (0, ν) = some ν' ∧ Fr [19, 21] μ ν' ∧ (rd ν' 19 2 = N ∧ ∀ w, (0 ≤ w ∧ w < N) → Ex N c f (j + 1) w (rd ν' 21 w) ∨ (rd ν' 21 w = -1 ∧ ¬ dr N c f (j + 1) w)) := by
    intro j hj ν hν hE
    obtain ⟨b, r1, r2, r3⟩ := lp_inv (f := fun x : Int × qMu => bX4_stepsBetween_66 n g v (j : Int) x.1 x.2) (fun k x => (x.1 = N - (k : Int) ∧ 0 ≤ x.1) ∧ Fr [19, 21] μ x.2 ∧ Wa N c f j x.2 (fun a _ => a < x.1)) (fun y => Fr [19, 21] μ y ∧ Wa N c f j y (fun a _ => a < N)) (by
      rintro k ⟨i, ξ⟩ ⟨⟨h4, h5⟩, h6, h7⟩
      dsimp only at h4 h5 h6 h7
      by_cases hi : i < N
      · right
        by_cases c1 : rd ξ 21 i = (j : Int)
        · obtain ⟨ξ', s1, s2, s3⟩ := step j i ⟨h5, hi⟩ hj ξ h6 h7 c1
          refine ⟨k - 1, (i + 1, ξ'), ?_, by omega, ⟨by dsimp only; omega, by dsimp only; omega⟩, s2, s3⟩
          simp (disch := omega) only [bX4_stepsBetween_66, h7.1, wr_id, if_pos, qLd_in, Option.bind_some, c1, s1, ite_true]
        · refine ⟨k - 1, (i + 1, ξ), ?_, by omega, ⟨by dsimp only; omega, by dsimp only; omega⟩, h6, h7.1, fun w hw => ?_⟩
          · simp (disch := omega) only [bX4_stepsBetween_66, h7.1, wr_id, wr_rd, if_pos, if_neg, qLd_in, Option.bind_some]
          · refine (h7.2 w hw).imp id (Or.imp (fun q => ⟨q.1, q.2.1, fun a ha hp hda => ?_⟩) id)
            dsimp only at hp
            by_cases hai : a = i
            · subst hai
              rcases h7.2 a ha with z | z | z
              · obtain ⟨a1, a2, a3, a4⟩ := z
                -- nearer than j: then w is reached by j
                have hlt : rd ξ 21 a < (j : Int) := by omega
                intro zz
                refine q.2.1 (dr_up (j := (rd ξ 21 a).toNat + 1) (by omega) (Or.inr ⟨a, ha, a3, zz.1, zz.2⟩))
              · exact absurd hda z.2.1
              · exact absurd hda z.2.1
            · exact q.2.2 a ha (by omega) hda
      · left
        have hiN : i = N := by omega
        subst hiN
        refine ⟨ξ, ?_, h6, h7⟩
        simp (disch := omega) only [bX4_stepsBetween_66, h7.1, wr_id, if_neg]) n N.toNat (0, ν) ⟨⟨by dsimp only; omega, Int.le_refl _⟩, hν, hE.1, fun w hw => (hE.2 w hw).imp id (fun q => Or.inl ⟨q.1, q.2, fun a ha hp => by dsimp only at hp; omega⟩)⟩ (by omega)
    refine ⟨b, r1, r2, r3.1, fun w hw => ?_⟩
    rcases r3.2 w hw with q | q | q
    · left
      obtain ⟨a1, a2, a3, a4⟩ := q
      exact ⟨a1, by omega, a3, a4⟩
    · right
      refine ⟨q.1, fun hd => ?_⟩
      rcases hd with hd | ⟨u, hu, h1, h2, h3⟩
      · exact q.2.1 hd
      · exact q.2.2 u hu hu.2 h1 ⟨h2, h3⟩
    · left
      rw [q.1]
      refine ⟨by omega, by omega, ?_, fun i hi => ?_⟩
      · rw [show ((j : Int) + 1).toNat = j + 1 by omega]
        exact q.2.2
      · exact fun z => q.2.1 (dr_up (by omega) z)
  obtain ⟨b, r1, r2, r3, r4⟩ := lp_inv (f := fun x : Int × qMu => bX4_stepsBetween_44 n g v x.1 x.2) (fun k x => (∃ j : Nat, x.1 = (j : Int) ∧ x.1 = N - (k : Int) ∧ (rd x.2 19 2 = N ∧ ∀ w, (0 ≤ w ∧ w < N) → Ex N c f j w (rd x.2 21 w) ∨ (rd x.2 21 w = -1 ∧ ¬ dr N c f j w))) ∧ Fr [19, 21] μ x.2) (fun y => Fr [19, 21] μ y ∧ IsW N c f v (rd y 21 v) ∧ True) (by
    rintro k ⟨i, ξ⟩ ⟨⟨j, h4, h5, h6⟩, h7⟩
    dsimp only at h4 h5 h6 h7
    subst h4
    by_cases hi : (j : Int) < N
    · by_cases c1 : rd ξ 21 v = -1
      · right
        obtain ⟨ξ', s1, s2, s3⟩ := round j (by omega) ξ h7 h6
        refine ⟨k - 1, ((j : Int) + 1, ξ'), ?_, by omega, ⟨j + 1, by dsimp only; omega, by dsimp only; omega, s3⟩, s2⟩
        simp (disch := omega) only [bX4_stepsBetween_44, h6.1, wr_id, if_pos, qLd_in, Option.bind_some, c1, s1, ite_true]
      · left
        refine ⟨ξ, ?_, h7, ?_, trivial⟩
        · simp (disch := omega) only [bX4_stepsBetween_44, h6.1, wr_id, wr_rd, if_pos, if_neg, qLd_in, Option.bind_some]
        · rcases h6.2 v hv with q | q
          · obtain ⟨a1, a2, a3, a4⟩ := q
            exact Or.inr ⟨a1, by omega, a3, a4⟩
          · exact absurd q.1 c1
    · left
      have hjN : (j : Int) = N := by omega
      refine ⟨ξ, ?_, h7, ?_, trivial⟩
      · simp (disch := omega) only [bX4_stepsBetween_44, h6.1, wr_id, if_neg]
      · rcases h6.2 v hv with q | q
        · obtain ⟨a1, a2, a3, a4⟩ := q
          refine Or.inr ⟨a1, ?_, a3, a4⟩
          have := dr_N hV hf a3
          by_cases z : rd ξ 21 v ≤ 7
          · exact z
          · exact absurd this (a4 (N - 1).toNat (by omega))
        · exact Or.inl ⟨q.1, fun k hd => q.2 (dr_up (by omega) (dr_N hV hf hd))⟩) n N.toNat (0, up μ1 21 f 0) ⟨⟨0, rfl, by dsimp only; omega, by dsimp only; rw [rd_na (by decide)]; exact q3, fun w hw => by
      dsimp only
      by_cases hwf : w = f
      · subst hwf
        rw [rd_at, show wr 0 = 0 from rfl]
        left
        exact ⟨Int.le_refl _, Int.le_refl _, rfl, fun i hi => by omega⟩
      · rw [rd_ni hwf, q4 w hw.1 hw.2]
        exact Or.inr ⟨rfl, hwf⟩⟩, q2.tr (Fr.up (by simp))⟩ (by omega)
  refine ⟨rd b 21 v, b, ?_, r2, r3⟩
  simp (disch := omega) only [fX4_stepsBetween, fX1_vertexCount, h.1, qPf_eq, Option.bind_some, q1, qSa_in, r1, qLd_in]
theorem m_way (hn : 5000 ≤ n) (h : SM μ N m c t) (hV : Vd N c) (hf : 0 ≤ f ∧ f < N) {v : Int} (hv : 0 ≤ v ∧ v < N) : ∃ μ1 μ', lp (fun x : Int × qMu => bX10_way_17 n f v x.1 x.2) n (0, μ) = some μ1 ∧ lp (fun x : Int × qMu => bX10_way_48 n v x.1 x.2) n (0, μ1) = some μ' ∧ Fr [85] μ μ' ∧ IsW N c f v (if rd μ' 85 v = 8 then -1 else rd μ' 85 v) := by
  have hN := hV.N
  have kpS : ∀ ν, Fr [85] μ ν → SM ν N m c t := fun ν hν => h.kp (hν 79 (by decide))
  obtain ⟨μ1, q1, q2, q3⟩ := lp_inv (f := fun x : Int × qMu => bX10_way_17 n f v x.1 x.2) (fun k x => (x.1 = 8 - (k : Int) ∧ 0 ≤ x.1) ∧ Fr [85] μ x.2 ∧ ∀ i, 0 ≤ i → i < x.1 → rd x.2 85 i = if i = f then 0 else 8) (fun y => Fr [85] μ y ∧ ∀ i, 0 ≤ i → i < 8 → rd y 85 i = if i = f then 0 else 8) (by
    rintro k ⟨i, ν⟩ ⟨⟨h4, h5⟩, h6, h7⟩
    dsimp only at h4 h5 h6 h7
    by_cases hi : i < 8
    · right
      refine ⟨k - 1, (i + 1, up ν 85 i (if i = f then 0 else 8)), ?_, by omega, ⟨by dsimp only; omega, by dsimp only; omega⟩, h6.tr (Fr.up (by simp)), fun j q1 q2 => ?_⟩
      · simp (disch := omega) only [bX10_way_17, wr_id, if_pos, qSa_in, Option.bind_some]
      · dsimp only at q2
        by_cases hj : j = i
        · subst hj
          rw [rd_at]
          split <;> exact wr_id (by omega) (by omega)
        · rw [rd_ni hj]
          exact h7 j q1 (by omega)
    · left
      refine ⟨ν, ?_, h6, fun j q1 q2 => h7 j q1 (by omega)⟩
      simp (disch := omega) only [bX10_way_17, wr_id, if_neg]) n 8 (0, μ) ⟨⟨rfl, Int.le_refl _⟩, Fr.rf _ _, fun i q1 q2 => by dsimp only at q2; omega⟩ (by omega)
  refine ⟨μ1, ?_⟩
  -- sound, and complete up to r, and one further for the pairs told by p
  have cell : ∀ (r : Nat) (u w : Int), (0 ≤ u ∧ u < 8) → (0 ≤ w ∧ w < 8) → True := fun _ _ _ _ _ => trivial
  have inner : ∀ (r : Nat), r ≤ 8 → ∀ u, (0 ≤ u ∧ u < 8) → ∀ ν, Fr [85] μ ν → ((∀ w, (0 ≤ w ∧ w < 8) → (0 ≤ rd ν 85 w ∧ rd ν 85 w ≤ 8) ∧ (rd ν 85 w < 8 → dr N c f (rd ν 85 w).toNat w) ∧ ∀ k : Nat, k ≤ r → dr N c f k w → rd ν 85 w ≤ (k : Int)) ∧ ∀ a w, (0 ≤ w ∧ w < 8) → (0 ≤ a ∧ a < u) → a ≠ w → 0 < c a w → dr N c f r a → rd ν 85 w ≤ (r : Int) + 1) → ∃ ν', lp (fun x : Int × qMu => bX10_way_67 n v (r : Int) u x.1 x.2) n (0, ν) = some ν' ∧ Fr [85] μ ν' ∧ ((∀ w, (0 ≤ w ∧ w < 8) → (0 ≤ rd ν' 85 w ∧ rd ν' 85 w ≤ 8) ∧ (rd ν' 85 w < 8 → dr N c f (rd ν' 85 w).toNat w) ∧ ∀ k : Nat, k ≤ r → dr N c f k w → rd ν' 85 w ≤ (k : Int)) ∧ ∀ a w, (0 ≤ w ∧ w < 8) → (0 ≤ a ∧ a < u + 1) → a ≠ w → 0 < c a w → dr N c f r a → rd ν' 85 w ≤ (r : Int) + 1) := by
    intro r hr u hu ν hν hI
    obtain ⟨b, r1, r2⟩ := lp_inv (f := fun x : Int × qMu => bX10_way_67 n v (r : Int) u x.1 x.2) (fun k x => (x.1 = 8 - (k : Int) ∧ 0 ≤ x.1) ∧ Fr [85] μ x.2 ∧ (∀ w, (0 ≤ w ∧ w < 8) → (0 ≤ rd x.2 85 w ∧ rd x.2 85 w ≤ 8) ∧ (rd x.2 85 w < 8 → dr N c f (rd x.2 85 w).toNat w) ∧ ∀ k : Nat, k ≤ r → dr N c f k w → rd x.2 85 w ≤ (k : Int)) ∧ ∀ a w, (0 ≤ w ∧ w < 8) → 0 ≤ a → (a < u ∨ (a = u ∧ w < x.1)) → a ≠ w → 0 < c a w → dr N c f r a → rd x.2 85 w ≤ (r : Int) + 1) (fun y => Fr [85] μ y ∧ ((∀ w, (0 ≤ w ∧ w < 8) → (0 ≤ rd y 85 w ∧ rd y 85 w ≤ 8) ∧ (rd y 85 w < 8 → dr N c f (rd y 85 w).toNat w) ∧ ∀ k : Nat, k ≤ r → dr N c f k w → rd y 85 w ≤ (k : Int)) ∧ ∀ a w, (0 ≤ w ∧ w < 8) → (0 ≤ a ∧ a < u + 1) → a ≠ w → 0 < c a w → dr N c f r a → rd y 85 w ≤ (r : Int) + 1)) (by
      rintro k ⟨i, ξ⟩ ⟨⟨h4, h5⟩, h6, h7, h8⟩
      dsimp only at h4 h5 h6 h7 h8
      have hSM := kpS ξ h6
      by_cases hi : i < 8
      · right
        have hi7 := h7 i ⟨h5, hi⟩
        have hu7 := h7 u hu
        by_cases c1 : u ≠ i ∧ 0 < c u i
        · -- the smaller one
          have emn : mn (rd ξ 85 i) (rd ξ 85 u + 1) = if rd ξ 85 u + 1 < rd ξ 85 i then rd ξ 85 u + 1 else rd ξ 85 i := mn_id (by omega) (by omega)
          refine ⟨k - 1, (i + 1, up ξ 85 i (mn (rd ξ 85 i) (rd ξ 85 u + 1))), ?_, by omega, ⟨by dsimp only; omega, by dsimp only; omega⟩, h6.tr (Fr.up (by simp)), fun w hw => ?_, fun a w hw ha hp hne hc hd => ?_⟩
          · simp (disch := omega) only [bX10_way_67, wr_id, if_pos, if_neg, qLd_in, qSa_in, Option.bind_some, m_areJoined hSM.2.2.1 hV]
          · dsimp only
            by_cases hwi : w = i
            · subst hwi
              rw [rd_at, emn]
              by_cases q : rd ξ 85 u + 1 < rd ξ 85 w
              · rw [if_pos q, wr_id (by omega) (by omega)]
                refine ⟨by omega, fun _ => ?_, fun k2 hk2 hd2 => by have := hi7.2.2 k2 hk2 hd2; omega⟩
                rw [show (rd ξ 85 u + 1).toNat = (rd ξ 85 u).toNat + 1 by omega]
                have hdu := hu7.2.1 (by omega)
                exact Or.inr ⟨u, dr_in hV hf _ _ hdu, hdu, c1.1, c1.2⟩
              · rw [if_neg q, wr_rd]
                exact hi7
            · rw [rd_ni hwi]
              exact h7 w hw
          · dsimp only at hp ⊢
            by_cases hwi : w = i
            · subst hwi
              rw [rd_at, emn]
              by_cases hau : a = u
              · subst hau
                have := hu7.2.2 r (Nat.le_refl _) hd
                by_cases q : rd ξ 85 a + 1 < rd ξ 85 w
                · rw [if_pos q, wr_id (by omega) (by omega)]
                  omega
                · rw [if_neg q, wr_rd]
                  omega
              · have := h8 a w hw ha (by omega) hne hc hd
                by_cases q : rd ξ 85 u + 1 < rd ξ 85 w
                · rw [if_pos q, wr_id (by omega) (by omega)]
                  omega
                · rw [if_neg q, wr_rd]
                  exact this
            · rw [rd_ni hwi]
              exact h8 a w hw ha (by omega) hne hc hd
        · refine ⟨k - 1, (i + 1, up ξ 85 i (rd ξ 85 i)), ?_, by omega, ⟨by dsimp only; omega, by dsimp only; omega⟩, h6.tr (Fr.up (by simp)), fun w hw => ?_, fun a w hw ha hp hne hc hd => ?_⟩
          · simp (disch := omega) only [bX10_way_67, wr_id, if_pos, if_neg, qLd_in, qSa_in, Option.bind_some, m_areJoined hSM.2.2.1 hV, ite_true]
          · dsimp only
            by_cases hwi : w = i
            · subst hwi
              rw [rd_at, wr_rd]
              exact hi7
            · rw [rd_ni hwi]
              exact h7 w hw
          · dsimp only at hp ⊢
            by_cases hwi : w = i
            · subst hwi
              rw [rd_at, wr_rd]
              by_cases hau : a = u
              · subst hau
                exact absurd ⟨hne, hc⟩ c1
              · exact h8 a w hw ha (by omega) hne hc hd
            · rw [rd_ni hwi]
              exact h8 a w hw ha (by omega) hne hc hd
      · left
        refine ⟨ξ, ?_, h6, h7, fun a w hw ha hne hc hd => h8 a w hw ha.1 (by omega) hne hc hd⟩
        simp (disch := omega) only [bX10_way_67, wr_id, if_neg]) n 8 (0, ν) ⟨⟨rfl, Int.le_refl _⟩, hν, hI.1, fun a w hw ha hp hne hc hd => hI.2 a w hw ⟨ha, by dsimp only at hp; omega⟩ hne hc hd⟩ (by omega)
    exact ⟨b, r1, r2⟩
  have round : ∀ (r : Nat), r ≤ 8 → ∀ ν, Fr [85] μ ν → (∀ w, (0 ≤ w ∧ w < 8) → (0 ≤ rd ν 85 w ∧ rd ν 85 w ≤ 8) ∧ (rd ν 85 w < 8 → dr N c f (rd ν 85 w).toNat w) ∧ ∀ k : Nat, k ≤ r → dr N c f k w → rd ν 85 w ≤ (k : Int)) → ∃ ν', lp (fun x : Int × qMu => bX10_way_57 n v (r : Int) x.1 x.2) n (0, ν) = some ν' ∧ Fr [85] μ ν' ∧ (∀ w, (0 ≤ w ∧ w < 8) → (0 ≤ rd ν' 85 w ∧ rd ν' 85 w ≤ 8) ∧ (rd ν' 85 w < 8 → dr N c f (rd ν' 85 w).toNat w) ∧ ∀ k : Nat, k ≤ r + 1 → dr N c f k w → rd ν' 85 w ≤ (k : Int)) := by
    intro r hr ν hν hI
    obtain ⟨b, r1, r2, r3, r4⟩ := lp_inv (f := fun x : Int × qMu => bX10_way_57 n v (r : Int) x.1 x.2) (fun k x => (x.1 = 8 - (k : Int) ∧ 0 ≤ x.1) ∧ Fr [85] μ x.2 ∧ ((∀ w, (0 ≤ w ∧ w < 8) → (0 ≤ rd x.2 85 w ∧ rd x.2 85 w ≤ 8) ∧ (rd x.2 85 w < 8 → dr N c f (rd x.2 85 w).toNat w) ∧ ∀ k : Nat, k ≤ r → dr N c f k w → rd x.2 85 w ≤ (k : Int)) ∧ ∀ a w, (0 ≤ w ∧ w < 8) → (0 ≤ a ∧ a < x.1) → a ≠ w → 0 < c a w → dr N c f r a → rd x.2 85 w ≤ (r : Int) + 1)) (fun y => Fr [85] μ y ∧ (∀ w, (0 ≤ w ∧ w < 8) → (0 ≤ rd y 85 w ∧ rd y 85 w ≤ 8) ∧ (rd y 85 w < 8 → dr N c f (rd y 85 w).toNat w) ∧ ∀ k : Nat, k ≤ r → dr N c f k w → rd y 85 w ≤ (k : Int)) ∧ ∀ a w, (0 ≤ w ∧ w < 8) → (0 ≤ a ∧ a < 8) → a ≠ w → 0 < c a w → dr N c f r a → rd y 85 w ≤ (r : Int) + 1) (by
      rintro k ⟨i, ξ⟩ ⟨⟨h4, h5⟩, h6, h7⟩
      dsimp only at h4 h5 h6 h7
      by_cases hi : i < 8
      · right
        obtain ⟨ξ', s1, s2, s3⟩ := inner r hr i ⟨h5, hi⟩ ξ h6 h7
        refine ⟨k - 1, (i + 1, ξ'), ?_, by omega, ⟨by dsimp only; omega, by dsimp only; omega⟩, s2, s3⟩
        simp (disch := omega) only [bX10_way_57, wr_id, if_pos, s1, Option.bind_some]
      · left
        have hi8 : i = 8 := by omega
        subst hi8
        refine ⟨ξ, ?_, h6, h7⟩
        simp (disch := omega) only [bX10_way_57, wr_id, if_neg]) n 8 (0, ν) ⟨⟨rfl, Int.le_refl _⟩, hν, hI, fun a w hw ha => by dsimp only at ha; omega⟩ (by omega)
    refine ⟨b, r1, r2, fun w hw => ⟨(r3 w hw).1, (r3 w hw).2.1, fun k hk hd => ?_⟩⟩
    by_cases hk2 : k ≤ r
    · exact (r3 w hw).2.2 k hk2 hd
    · have : k = r + 1 := by omega
      subst this
      rcases hd with hd | ⟨u, hu, h1, h2, h3⟩
      · have := (r3 w hw).2.2 r (Nat.le_refl _) hd
        omega
      · have := r4 u w hw (by omega) h2 h3 h1
        omega
  obtain ⟨b, r1, r2, r3⟩ := lp_inv (f := fun x : Int × qMu => bX10_way_48 n v x.1 x.2) (fun k x => ∃ r : Nat, x.1 = (r : Int) ∧ x.1 = 8 - (k : Int) ∧ Fr [85] μ x.2 ∧ ∀ w, (0 ≤ w ∧ w < 8) → (0 ≤ rd x.2 85 w ∧ rd x.2 85 w ≤ 8) ∧ (rd x.2 85 w < 8 → dr N c f (rd x.2 85 w).toNat w) ∧ ∀ k : Nat, k ≤ r → dr N c f k w → rd x.2 85 w ≤ (k : Int)) (fun y => Fr [85] μ y ∧ ∀ w, (0 ≤ w ∧ w < 8) → (0 ≤ rd y 85 w ∧ rd y 85 w ≤ 8) ∧ (rd y 85 w < 8 → dr N c f (rd y 85 w).toNat w) ∧ ∀ k : Nat, k ≤ 8 → dr N c f k w → rd y 85 w ≤ (k : Int)) (by
    rintro k ⟨i, ξ⟩ ⟨r, h4, h5, h6, h7⟩
    dsimp only at h4 h5 h6 h7
    subst h4
    by_cases hi : (r : Int) < 8
    · right
      obtain ⟨ξ', s1, s2, s3⟩ := round r (by omega) ξ h6 h7
      refine ⟨k - 1, ((r : Int) + 1, ξ'), ?_, by omega, r + 1, by dsimp only; omega, by dsimp only; omega, s2, s3⟩
      simp (disch := omega) only [bX10_way_48, wr_id, if_pos, s1, Option.bind_some]
    · left
      have hr8 : r = 8 := by omega
      subst hr8
      refine ⟨ξ, ?_, h6, h7⟩
      simp (disch := omega) only [bX10_way_48, wr_id, if_neg]) n 8 (0, μ1) ⟨0, rfl, rfl, q2, fun w hw => by
    dsimp only
    rw [q3 w hw.1 hw.2]
    by_cases hwf : w = f
    · rw [if_pos hwf]
      exact ⟨by omega, fun _ => hwf, fun k _ _ => by omega⟩
    · rw [if_neg hwf]
      refine ⟨by omega, fun q => by omega, fun k hk hd => ?_⟩
      have : k = 0 := by omega
      subst this
      exact absurd hd hwf⟩ (by omega)
  refine ⟨b, q1, r1, r2, ?_⟩
  have hv8 := r3 v (by omega)
  by_cases q : rd b 85 v = 8
  · rw [if_pos q]
    refine Or.inl ⟨rfl, fun k hd => ?_⟩
    have h7 := dr_N hV hf hd
    have := hv8.2.2 (N - 1).toNat (by omega) h7
    omega
  · rw [if_neg q]
    exact Or.inr ⟨hv8.1.1, by omega, hv8.2.1 (by omega), fun j hj hd => by have := hv8.2.2 j (by omega) hd; omega⟩
end WAY
