/-! THE LAW'S COMPONENTS: labels that fall along edges -/
section CMP
variable {μ : qMu} {n a : Nat} {e : qEn} {x1 x2 x3 : Int}
/-- labels in their components, not below the least -/
def PJ (e : qEn) (ν : qMu) (a : Nat) : Prop := ∀ v, 0 ≤ v → v < e.1 → Lb e.1 e.2.2.1 v ≤ rd ν a v ∧ rd ν a v ≤ v ∧ Lb e.1 e.2.2.1 (rd ν a v) = Lb e.1 e.2.2.1 v
theorem PJ.s {ν ν' : qMu} (h : PJ e ν a) (h' : PJ e ν' a) (hl : ∀ v, 0 ≤ v → v < e.1 → rd ν' a v ≤ rd ν a v) {v : Int} (hv : 0 ≤ v ∧ v < e.1) (q : rd ν a v = Lb e.1 e.2.2.1 v) : rd ν' a v = Lb e.1 e.2.2.1 v := by
  have h1 := h' v hv.1 hv.2
  have h2 := hl v hv.1 hv.2
  omega
/-- what a round keeps: the state, labels that fall, the row -/
def RJ (e : qEn) (a : Nat) (ν ν' : qMu) : Prop := QS ν' e ∧ Nu ν' a 6 ∧ PJ e ν' a ∧ (∀ v, 0 ≤ v → v < e.1 → rd ν' a v ≤ rd ν a v) ∧ ∀ x, x ≠ a → ν' x = ν x
theorem RJ.rf {ν : qMu} (h1 : QS ν e) (h2 : Nu ν a 6) (h3 : PJ e ν a) : RJ e a ν ν := ⟨h1, h2, h3, fun _ _ _ => Int.le_refl _, fun _ _ => rfl⟩
theorem RJ.tr {ν1 ν2 ν3 : qMu} (h1 : RJ e a ν1 ν2) (h2 : RJ e a ν2 ν3) : RJ e a ν1 ν3 := ⟨h2.1, h2.2.1, h2.2.2.1, fun v v1 v2 => Int.le_trans (h2.2.2.2.1 v v1 v2) (h1.2.2.2.1 v v1 v2), fun x hx => (h2.2.2.2.2 x hx).trans (h1.2.2.2.2 x hx)⟩
/-- one pair -/
theorem x_pair {ν : qMu} (hQ : QS ν e) (hA : Nu ν a 6) (hP : PJ e ν a) {u v w6 : Int} (hu : 0 ≤ u ∧ u < e.1) (hv : 0 ≤ v ∧ v < e.1) : ∃ ν', bL_isGraph_265 n x1 x2 x3 a w6 u v ν = some (.inl (v + 1, ν')) ∧ RJ e a ν ν' ∧ (0 < e.2.2.1 u v → rd ν a v = Lb e.1 e.2.2.1 v → rd ν' a u = Lb e.1 e.2.2.1 u) := by
  have hN := hQ.2.2.1
  have hV := hQ.2.1.1
  have h4 := hQ.2.2.2.1
  have hL := Lb_ok hV
  have head : bL_isGraph_265 n x1 x2 x3 a w6 u v ν = (if 0 < e.2.2.1 u v then (qLi ν a u).bind fun x50 => (qLi ν a v).bind fun x51 => (qSi ν a u (mn x50 x51)).bind fun μ52 => some μ52 else some ν).bind fun y49 => some (.inl (v + 1, y49)) := by
    unfold bL_isGraph_265
    rw [h4, if_pos (show wr v < wr e.1 by rw [wr_id (by omega) (by omega), wr_id (by omega) (by omega)]; omega), x_many hQ (by omega) (by omega), obs, hV.w]
  rw [head]
  by_cases c : 0 < e.2.2.1 u v
  · have pu := hP u hu.1 hu.2
    have pv := hP v hv.1 hv.2
    have lu := (hL.1 u hu).1
    have lv := (hL.1 v hv).1
    have luv : Lb e.1 e.2.2.1 u = Lb e.1 e.2.2.1 v := hL.2.1 u v hu hv c
    have em : mn (rd ν a u) (rd ν a v) = if rd ν a v < rd ν a u then rd ν a v else rd ν a u := mn_id (by omega) (by omega)
    obtain ⟨M, hM⟩ : ∃ M, M = if rd ν a v < rd ν a u then rd ν a v else rd ν a u := ⟨_, rfl⟩
    have hM1 : (M = rd ν a v ∨ M = rd ν a u) ∧ M ≤ rd ν a u ∧ M ≤ rd ν a v := by
      rw [hM]
      split <;> omega
    rw [if_pos c, hA.li (by omega), obs, hA.li (by omega), obs, em, ← hM, hA.si (by omega), obs, obs]
    have hat : rd (up ν a u M) a u = M := by
      rw [rd_at]
      exact wr_id (by omega) (by omega)
    have ha := hA.1
    refine ⟨up ν a u M, rfl, ⟨hQ.kp (fun x hx _ => up_ne (by omega)), hA.kp (up_ne (by omega)) (Nat.le_of_eq (qJn_cg (up_ne (by omega))).symm), fun x y1 y2 => ?_, fun x y1 y2 => ?_, fun x hx => up_ne hx⟩, fun _ q => ?_⟩
    · by_cases q : x = u
      · rw [q, hat]
        refine ⟨by omega, by omega, ?_⟩
        rcases hM1.1 with e1 | e1
        · rw [e1, pv.2.2, luv]
        · rw [e1, pu.2.2]
      · rw [rd_ni q]
        exact hP x y1 y2
    · by_cases q : x = u
      · rw [q, hat]
        omega
      · rw [rd_ni q]
        exact Int.le_refl _
    · rw [hat]
      omega
  · rw [if_neg c, obs]
    exact ⟨ν, rfl, RJ.rf hQ hA hP, fun q => absurd q c⟩
/-- a vertex against all -/
theorem x_row {w6 : Int} (hn : 5000 ≤ n) {ν : qMu} (hQ : QS ν e) (hA : Nu ν a 6) (hP : PJ e ν a) {u : Int} (hu : 0 ≤ u ∧ u < e.1) : ∃ ν', lp (fun x : Int × qMu => bL_isGraph_265 n x1 x2 x3 a w6 u x.1 x.2) n (0, ν) = some ν' ∧ RJ e a ν ν' ∧ ∀ v, 0 ≤ v → v < e.1 → 0 < e.2.2.1 u v → rd ν a v = Lb e.1 e.2.2.1 v → rd ν' a u = Lb e.1 e.2.2.1 u := by
  have hN := hQ.2.2.1
  obtain ⟨b, r1, r2⟩ := lp_inv (f := fun x : Int × qMu => bL_isGraph_265 n x1 x2 x3 a w6 u x.1 x.2) (fun k x => (x.1 = e.1 - (k : Int) ∧ 0 ≤ x.1) ∧ RJ e a ν x.2 ∧ ∀ v, 0 ≤ v → v < x.1 → 0 < e.2.2.1 u v → rd ν a v = Lb e.1 e.2.2.1 v → rd x.2 a u = Lb e.1 e.2.2.1 u) (fun y => RJ e a ν y ∧ ∀ v, 0 ≤ v → v < e.1 → 0 < e.2.2.1 u v → rd ν a v = Lb e.1 e.2.2.1 v → rd y a u = Lb e.1 e.2.2.1 u) (by
    rintro k ⟨i, ξ⟩ ⟨⟨h4, h5⟩, h6, h7⟩
    dsimp only at h4 h5 h6 h7
    by_cases hi : i < e.1
    · right
      obtain ⟨ξ', a1, a2, a3⟩ := x_pair (n := n) (x1 := x1) (x2 := x2) (x3 := x3) (w6 := w6) h6.1 h6.2.1 h6.2.2.1 hu (v := i) ⟨h5, hi⟩
      refine ⟨k - 1, (i + 1, ξ'), a1, by omega, ⟨by dsimp only; omega, by dsimp only; omega⟩, h6.tr a2, fun v v1 v2 c q => ?_⟩
      dsimp only at v2 ⊢
      by_cases hvi : v = i
      · subst hvi
        exact a3 c (hP.s h6.2.2.1 h6.2.2.2.1 ⟨v1, hi⟩ q)
      · exact h6.2.2.1.s a2.2.2.1 a2.2.2.2.1 hu (h7 v v1 (by omega) c q)
    · left
      have hiN : i = e.1 := by omega
      subst hiN
      refine ⟨ξ, ?_, h6, h7⟩
      dsimp only
      unfold bL_isGraph_265
      rw [h6.1.2.2.2.1, if_neg (by omega)]) n e.1.toNat (0, ν) ⟨⟨by dsimp only; omega, Int.le_refl _⟩, RJ.rf hQ hA hP, fun v v1 v2 => by dsimp only at v2; omega⟩ (by omega)
  exact ⟨b, r1, r2⟩
/-- a round -/
theorem x_rnd {w6 : Int} (hn : 5000 ≤ n) {ν : qMu} (hQ : QS ν e) (hA : Nu ν a 6) (hP : PJ e ν a) : ∃ ν', lp (fun x : Int × qMu => bL_isGraph_253 n x1 x2 x3 a w6 x.1 x.2) n (0, ν) = some ν' ∧ RJ e a ν ν' ∧ ∀ u v, 0 ≤ u → u < e.1 → 0 ≤ v → v < e.1 → 0 < e.2.2.1 u v → rd ν a v = Lb e.1 e.2.2.1 v → rd ν' a u = Lb e.1 e.2.2.1 u := by
  have hN := hQ.2.2.1
  obtain ⟨b, r1, r2⟩ := lp_inv (f := fun x : Int × qMu => bL_isGraph_253 n x1 x2 x3 a w6 x.1 x.2) (fun k x => (x.1 = e.1 - (k : Int) ∧ 0 ≤ x.1) ∧ RJ e a ν x.2 ∧ ∀ u v, 0 ≤ u → u < x.1 → 0 ≤ v → v < e.1 → 0 < e.2.2.1 u v → rd ν a v = Lb e.1 e.2.2.1 v → rd x.2 a u = Lb e.1 e.2.2.1 u) (fun y => RJ e a ν y ∧ ∀ u v, 0 ≤ u → u < e.1 → 0 ≤ v → v < e.1 → 0 < e.2.2.1 u v → rd ν a v = Lb e.1 e.2.2.1 v → rd y a u = Lb e.1 e.2.2.1 u) (by
    rintro k ⟨i, ξ⟩ ⟨⟨h4, h5⟩, h6, h7⟩
    dsimp only at h4 h5 h6 h7
    by_cases hi : i < e.1
    · right
      obtain ⟨ξ', a1, a2, a3⟩ := x_row (n := n) (x1 := x1) (x2 := x2) (x3 := x3) (w6 := w6) hn h6.1 h6.2.1 h6.2.2.1 (u := i) ⟨h5, hi⟩
      refine ⟨k - 1, (i + 1, ξ'), ?_, by omega, ⟨by dsimp only; omega, by dsimp only; omega⟩, h6.tr a2, fun u v u1 u2 v1 v2 c q => ?_⟩
      · dsimp only
        unfold bL_isGraph_253
        rw [h6.1.2.2.2.1, if_pos (show wr i < wr e.1 by rw [wr_id (by omega) (by omega), wr_id (by omega) (by omega)]; omega), a1, obs]
      · dsimp only at u2 ⊢
        by_cases hui : u = i
        · subst hui
          exact a3 v v1 v2 c (hP.s h6.2.2.1 h6.2.2.2.1 ⟨v1, v2⟩ q)
        · exact h6.2.2.1.s a2.2.2.1 a2.2.2.2.1 ⟨u1, by omega⟩ (h7 u v u1 (by omega) v1 v2 c q)
    · left
      have hiN : i = e.1 := by omega
      subst hiN
      refine ⟨ξ, ?_, h6, h7⟩
      dsimp only
      unfold bL_isGraph_253
      rw [h6.1.2.2.2.1, if_neg (by omega)]) n e.1.toNat (0, ν) ⟨⟨by dsimp only; omega, Int.le_refl _⟩, RJ.rf hQ hA hP, fun u v u1 u2 => by dsimp only at u2; omega⟩ (by omega)
  exact ⟨b, r1, r2⟩
/-- how many labels are not yet least -/
noncomputable def ubs (e : qEn) (ν : qMu) (a : Nat) : Int := rs (fun v => @ite _ (rd ν a v = Lb e.1 e.2.2.1 v) (Classical.propDecidable _) 0 1) 0 e.1
theorem ubs_nn (ν : qMu) : 0 ≤ ubs e ν a := rs_nn (fun k _ _ => by split <;> omega)
theorem sl_lt {f g : Int → Int} {b j : Int} (hj : 0 ≤ j ∧ j < b) (h : ∀ k, 0 ≤ k → k < b → f k ≤ g k) (hs : f j + 1 ≤ g j) : rs f 0 b + 1 ≤ rs g 0 b := by
  have e1 : rs f 0 b = rs f 0 j + (f j + rs f (j + 1) b) := by rw [rs_cut hj.1 (by omega : j ≤ b), rs_step hj.2]
  have e2 : rs g 0 b = rs g 0 j + (g j + rs g (j + 1) b) := by rw [rs_cut hj.1 (by omega : j ≤ b), rs_step hj.2]
  have h1 : rs f 0 j ≤ rs g 0 j := rs_le (fun k k1 k2 => h k k1 (by omega))
  have h2 : rs f (j + 1) b ≤ rs g (j + 1) b := rs_le (fun k k1 k2 => h k (by omega) k2)
  omega
/-- a round makes one more least, if any is not -/
theorem ubs_rnd {ν ν' : qMu} (hQ : QS ν e) (hP : PJ e ν a) (hR : RJ e a ν ν') (hE : ∀ u v, 0 ≤ u → u < e.1 → 0 ≤ v → v < e.1 → 0 < e.2.2.1 u v → rd ν a v = Lb e.1 e.2.2.1 v → rd ν' a u = Lb e.1 e.2.2.1 u) : ubs e ν' a = 0 ∨ ubs e ν' a + 1 ≤ ubs e ν a := by
  have hN := hQ.2.2.1
  have hV := hQ.2.1.1
  have hL := Lb_ok hV
  by_cases c : ∀ v, 0 ≤ v → v < e.1 → rd ν' a v = Lb e.1 e.2.2.1 v
  · left
    exact rs_zero (fun k k1 k2 => if_pos (c k k1 k2))
  · right
    -- some edge between one that was least and one that was not
    obtain ⟨u, u1, u2, u3, u4⟩ : ∃ u, 0 ≤ u ∧ u < e.1 ∧ rd ν a u ≠ Lb e.1 e.2.2.1 u ∧ rd ν' a u = Lb e.1 e.2.2.1 u := by
      refine Classical.byContradiction fun hno => ?_
      have hno' : ∀ u, 0 ≤ u → u < e.1 → rd ν' a u = Lb e.1 e.2.2.1 u → rd ν a u = Lb e.1 e.2.2.1 u := fun u u1 u2 q => Classical.byContradiction fun q' => hno ⟨u, u1, u2, q', q⟩
      have hc : cpt e.1 e.2.2.1 (fun v => @ite _ (rd ν a v = Lb e.1 e.2.2.1 v) (Classical.propDecidable _) 0 1) := by
        intro u v hu hv huv
        have hvu : 0 < e.2.2.1 v u := by rw [hV.2.2.1]; exact huv
        by_cases q1 : rd ν a u = Lb e.1 e.2.2.1 u
        · have q2 := hno' v hv.1 hv.2 (hE v u hv.1 hv.2 hu.1 hu.2 hvu q1)
          show @ite _ _ (Classical.propDecidable _) (0 : Int) 1 = @ite _ _ (Classical.propDecidable _) 0 1
          rw [if_pos q1, if_pos q2]
        · have q2 : ¬ rd ν a v = Lb e.1 e.2.2.1 v := fun q => q1 (hno' u hu.1 hu.2 (hE u v hu.1 hu.2 hv.1 hv.2 huv q))
          show @ite _ _ (Classical.propDecidable _) (0 : Int) 1 = @ite _ _ (Classical.propDecidable _) 0 1
          rw [if_neg q1, if_neg q2]
      refine c (fun v v1 v2 => ?_)
      have h1 : @ite Int (rd ν a (Lb e.1 e.2.2.1 v) = Lb e.1 e.2.2.1 (Lb e.1 e.2.2.1 v)) (Classical.propDecidable _) 0 1 = @ite Int (rd ν a v = Lb e.1 e.2.2.1 v) (Classical.propDecidable _) 0 1 := hL.2.2 _ hc v ⟨v1, v2⟩
      have h2 := hL.1 v ⟨v1, v2⟩
      have h3 := hP (Lb e.1 e.2.2.1 v) h2.1 (by omega)
      have h4 : rd ν a (Lb e.1 e.2.2.1 v) = Lb e.1 e.2.2.1 (Lb e.1 e.2.2.1 v) := by
        have := h2.2.2
        omega
      rw [if_pos h4] at h1
      by_cases q : rd ν a v = Lb e.1 e.2.2.1 v
      · exact hP.s hR.2.2.1 hR.2.2.2.1 ⟨v1, v2⟩ q
      · rw [if_neg q] at h1
        omega
    refine sl_lt (j := u) ⟨u1, u2⟩ (fun k k1 k2 => ?_) ?_
    · by_cases q : rd ν a k = Lb e.1 e.2.2.1 k
      · have q2 := hP.s hR.2.2.1 hR.2.2.2.1 ⟨k1, k2⟩ q
        rw [if_pos q, if_pos q2]
        exact Int.le_refl _
      · rw [if_neg q]
        split <;> omega
    · rw [if_neg u3, if_pos u4]
      exact Int.le_refl _
theorem x_rnds (hn : 5000 ≤ n) {ν : qMu} (hQ : QS ν e) (hA : Nu ν a 6) (hP : PJ e ν a) : ∃ ν', lp (fun x : Int × qMu => bL_isGraph_241 n x1 x2 x3 a x.1 x.2) n (0, ν) = some ν' ∧ RJ e a ν ν' ∧ ∀ v, 0 ≤ v → v < e.1 → rd ν' a v = Lb e.1 e.2.2.1 v := by
  have hN := hQ.2.2.1
  have hu0 : ubs e ν a ≤ e.1 := by
    have h1 : ubs e ν a ≤ rs (fun _ => (1 : Int)) 0 e.1 := rs_le (fun k _ _ => by split <;> omega)
    have h2 : ∀ l : Nat, ∀ a : Int, sl (fun _ => (1 : Int)) a l = (l : Int) := by
      intro l
      induction l with
      | zero => intro a; rfl
      | succ l ih => intro a; unfold sl; rw [ih]; omega
    have h3 : rs (fun _ => (1 : Int)) 0 e.1 = e.1 := by
      unfold rs
      rw [h2]
      omega
    omega
  obtain ⟨b, r1, r2⟩ := lp_inv (f := fun x : Int × qMu => bL_isGraph_241 n x1 x2 x3 a x.1 x.2) (fun k x => (x.1 = e.1 - (k : Int) ∧ 0 ≤ x.1) ∧ RJ e a ν x.2 ∧ ubs e x.2 a ≤ (k : Int)) (fun y => RJ e a ν y ∧ ubs e y a ≤ 0) (by
    rintro k ⟨i, ξ⟩ ⟨⟨h4, h5⟩, h6, h7⟩
    dsimp only at h4 h5 h6 h7
    by_cases hi : i < e.1
    · right
      obtain ⟨ξ', a1, a2, a3⟩ := x_rnd (n := n) (x1 := x1) (x2 := x2) (x3 := x3) (w6 := i) hn h6.1 h6.2.1 h6.2.2.1
      refine ⟨k - 1, (i + 1, ξ'), ?_, by omega, ⟨by dsimp only; omega, by dsimp only; omega⟩, h6.tr a2, ?_⟩
      · dsimp only
        unfold bL_isGraph_241
        rw [h6.1.2.2.2.1, if_pos (show wr i < wr e.1 by rw [wr_id (by omega) (by omega), wr_id (by omega) (by omega)]; omega), a1, obs]
      · dsimp only
        rcases ubs_rnd h6.1 h6.2.2.1 a2 a3 with q | q <;> omega
    · left
      have hiN : i = e.1 := by omega
      refine ⟨ξ, ?_, h6, by omega⟩
      dsimp only
      unfold bL_isGraph_241
      rw [h6.1.2.2.2.1, hiN, if_neg (by omega)]) n e.1.toNat (0, ν) ⟨⟨by dsimp only; omega, Int.le_refl _⟩, RJ.rf hQ hA hP, by dsimp only; omega⟩ (by omega)
  refine ⟨b, r1, r2.1, fun v v1 v2 => Classical.byContradiction fun q => ?_⟩
  have h1 : @ite Int (rd b a v = Lb e.1 e.2.2.1 v) (Classical.propDecidable _) 0 1 ≤ ubs e b a := rs_ge (f := fun v => @ite Int (rd b a v = Lb e.1 e.2.2.1 v) (Classical.propDecidable _) 0 1) v1 v2 (fun k _ _ => by
    show 0 ≤ @ite Int (rd b a k = Lb e.1 e.2.2.1 k) (Classical.propDecidable _) 0 1
    split <;> omega)
  rw [if_neg q] at h1
  have := r2.2
  omega
theorem x_init (hn : 5000 ≤ n) {ν : qMu} (hQ : QS ν e) (hA : Nu ν a 6) : ∃ ν', lp (fun x : Int × qMu => bL_isGraph_216 n x1 x2 x3 a x.1 x.2) n (0, ν) = some ν' ∧ QS ν' e ∧ Nu ν' a 6 ∧ PJ e ν' a ∧ ∀ x, x ≠ a → ν' x = ν x := by
  have hN := hQ.2.2.1
  have hV := hQ.2.1.1
  have ha := hA.1
  obtain ⟨b, r1, r2, r3, r4, r5⟩ := lp_inv (f := fun x : Int × qMu => bL_isGraph_216 n x1 x2 x3 a x.1 x.2) (fun k x => (x.1 = e.1 - (k : Int) ∧ 0 ≤ x.1) ∧ QS x.2 e ∧ Nu x.2 a 6 ∧ (∀ v, 0 ≤ v → v < x.1 → rd x.2 a v = v) ∧ ∀ y, y ≠ a → x.2 y = ν y) (fun y => QS y e ∧ Nu y a 6 ∧ (∀ v, 0 ≤ v → v < e.1 → rd y a v = v) ∧ ∀ z, z ≠ a → y z = ν z) (by
    rintro k ⟨i, ξ⟩ ⟨⟨h4, h5⟩, h6, h7, h8, h9⟩
    dsimp only at h4 h5 h6 h7 h8 h9
    by_cases hi : i < e.1
    · right
      refine ⟨k - 1, (i + 1, up ξ a i i), ?_, by omega, ⟨by dsimp only; omega, by dsimp only; omega⟩, h6.kp (fun x hx _ => up_ne (by omega)), h7.kp (up_ne (by omega)) (Nat.le_of_eq (qJn_cg (up_ne (by omega))).symm), fun v v1 v2 => ?_, fun y hy => (up_ne hy).trans (h9 y hy)⟩
      · dsimp only
        unfold bL_isGraph_216
        rw [h6.2.2.2.1, if_pos (show wr i < wr e.1 by rw [wr_id (by omega) (by omega), wr_id (by omega) (by omega)]; omega), h7.si (by omega), obs]
      · dsimp only at v2 ⊢
        by_cases q : v = i
        · rw [q, rd_at]
          exact wr_id (by omega) (by omega)
        · rw [rd_ni q]
          exact h8 v v1 (by omega)
    · left
      have hiN : i = e.1 := by omega
      subst hiN
      refine ⟨ξ, ?_, h6, h7, h8, h9⟩
      dsimp only
      unfold bL_isGraph_216
      rw [h6.2.2.2.1, if_neg (by omega)]) n e.1.toNat (0, ν) ⟨⟨by dsimp only; omega, Int.le_refl _⟩, hQ, hA, fun v v1 v2 => by dsimp only at v2; omega, fun _ _ => rfl⟩ (by omega)
  refine ⟨b, r1, r2, r3, fun v v1 v2 => ?_, r5⟩
  have := (Lb_ok hV).1 v ⟨v1, v2⟩
  rw [r4 v v1 v2]
  omega
theorem x_cnt (hn : 5000 ≤ n) {ν : qMu} (hQ : QS ν e) (hA : Nu ν a 6) (hL : ∀ v, 0 ≤ v → v < e.1 → rd ν a v = Lb e.1 e.2.2.1 v) : lp (fun x : Int × Int => bL_isGraph_327 n x1 x2 x3 a x.1 x.2 ν) n (0, 0) = some (nco e.1 e.2.2.1) := by
  have hN := hQ.2.2.1
  have hV := hQ.2.1.1
  have hb : ∀ z k, 0 ≤ k → k < e.1 → bL_isGraph_327 n x1 x2 x3 a z k ν = some (.inl (z + (if rd ν a k = k then 1 else 0), k + 1)) := by
    intro z k k1 k2
    unfold bL_isGraph_327
    rw [hQ.2.2.2.1, if_pos (show wr k < wr e.1 by rw [wr_id (by omega) (by omega), wr_id (by omega) (by omega)]; omega), hA.li (by omega), obs, wr_rd, wr_id (x := k) (by omega) (by omega)]
  have he : ∀ z, bL_isGraph_327 n x1 x2 x3 a z e.1 ν = some (.inr z) := by
    intro z
    unfold bL_isGraph_327
    rw [hQ.2.2.2.1, if_neg (by omega)]
  rw [lp_rs2 (g := fun k => if rd ν a k = k then 1 else 0) 0 hb he (by omega) (by omega) (by omega), Int.zero_add]
  exact congrArg some (idx_cg (s := fun v => rd ν a v) (s' := Lb e.1 e.2.2.1) (N := e.1) (fun w hw => hL w hw.1 hw.2) (Int.le_refl _))
end CMP
