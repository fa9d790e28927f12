/-! THE WAY TO THE TARGET -/
section PTH
variable {μ ν : qMu} {n : Nat} {N m p : Int} {c t : Int → Int → Int} {u v a b : Int}
def lkp (t c : Int → Int → Int) (k : Int) : Prop := k / 8 ≤ k % 8 ∧ c (k / 8) (k % 8) < t (k / 8) (k % 8)
noncomputable def lkF (t c : Int → Int → Int) : Int := fsi (lkp t c) 64
theorem lkF_ok (t c : Int → Int → Int) : FS (lkp t c) 64 (lkF t c) := fsi_ok (by omega)
def byP (t c : Int → Int → Int) (u x w : Int) : Prop := (if w = x then 2 else 1) ≤ c u w - t u w
noncomputable def byF (t c : Int → Int → Int) (u x : Int) : Int := fsi (byP t c u x) 8
theorem byF_ok (t c : Int → Int → Int) (u x : Int) : FS (byP t c u x) 8 (byF t c u x) := fsi_ok (by omega)
noncomputable def nxA (t c : Int → Int → Int) : Int := byF t c (lkF t c / 8) (-1)
noncomputable def nxB (t c : Int → Int → Int) : Int := byF t c (lkF t c % 8) (if lkF t c / 8 = lkF t c % 8 then nxA t c else -1)
noncomputable def nxT (t c : Int → Int → Int) : Int := if lkF t c = -1 then -1 else cd (lkF t c / 8) (nxA t c) (lkF t c % 8) (nxB t c)
theorem lkF_is (hu : 0 ≤ u ∧ u < 8) (hv : u ≤ v ∧ v < 8) (h : c u v < t u v) (h1 : ∀ a b, 0 ≤ a → a < u → a ≤ b → b < 8 → ¬ c a b < t a b) (h2 : ∀ b, u ≤ b → b < v → ¬ c u b < t u b) : lkF t c = 8 * u + v := by
  refine FS.uniq (lkF_ok t c) (Or.inr ⟨by omega, ?_, fun k k1 k2 hk => ?_⟩)
  · unfold lkp
    rw [show (8 * u + v) / 8 = u by omega, show (8 * u + v) % 8 = v by omega]
    exact ⟨hv.1, h⟩
  · by_cases q : k / 8 < u
    · exact h1 (k / 8) (k % 8) (by omega) q hk.1 (by omega) hk.2
    · have e : k / 8 = u := by omega
      have hk2 := hk.2
      rw [e] at hk2
      have hk1 := hk.1
      exact h2 (k % 8) (by omega) (by omega) hk2
theorem lkF_no (h : ∀ a b, 0 ≤ a → a ≤ b → b < 8 → ¬ c a b < t a b) : lkF t c = -1 :=
  FS.uniq (lkF_ok t c) (Or.inl ⟨rfl, fun k k1 k2 hk => h (k / 8) (k % 8) (by omega) hk.1 (by omega) hk.2⟩)
theorem byF_is {x w : Int} (hw : 0 ≤ w ∧ w < 8) (h : byP t c u x w) (h' : ∀ i, 0 ≤ i → i < w → ¬ byP t c u x i) : byF t c u x = w := FS.uniq (byF_ok t c u x) (Or.inr ⟨hw, h, h'⟩)
theorem byF_no {x : Int} (h : ∀ i, 0 ≤ i → i < 8 → ¬ byP t c u x i) : byF t c u x = -1 := FS.uniq (byF_ok t c u x) (Or.inl ⟨rfl, h⟩)
/-! who lacks has too many elsewhere -/
theorem row_pos (ha : alk c t) (hu : 0 ≤ u ∧ u < 8) (hv : 0 ≤ v ∧ v < 8) (h : c u v < t u v) : ∃ w, (0 ≤ w ∧ w < 8) ∧ byP t c u (-1) w := by
  rcases byF_ok t c u (-1) with ⟨-, hno⟩ | ⟨h1, h2, -⟩
  · exfalso
    have hno' : ∀ w, 0 ≤ w → w < 8 → 0 ≤ t u w - c u w := fun w w1 w2 => by
      have := hno w w1 w2
      unfold byP at this
      rw [if_neg (by omega)] at this
      omega
    have e1 := ha u hu.1 hu.2
    unfold dgs at e1
    have e2 : rs (fun w => c u w + (t u w - c u w)) 0 8 = rs (fun w => c u w) 0 8 + rs (fun w => t u w - c u w) 0 8 := rs_add
    have e3 : rs (fun w => c u w + (t u w - c u w)) 0 8 = rs (fun w => t u w) 0 8 := rs_congr (fun w _ _ => by omega)
    have e4 : t u v - c u v ≤ rs (fun w => t u w - c u w) 0 8 := rs_ge (f := fun w => t u w - c u w) hv.1 hv.2 (fun w w1 w2 => hno' w w1 w2)
    have e5 := hno' u hu.1 hu.2
    omega
  · exact ⟨_, h1, h2⟩
theorem rs_in (hv : 0 ≤ v ∧ v < 8) : rs (fun w => if w = v then (1 : Int) else 0) 0 8 = 1 := by
  have e : rs (fun w => if w = v then (1 : Int) else 0) 0 8 = if v = v then (1 : Int) else 0 := rs_one (f := fun w => if w = v then (1 : Int) else 0) hv.1 hv.2 (fun k _ _ q => if_neg q)
  rw [e, if_pos rfl]
theorem row_pos2 (ha : alk c t) (hu : 0 ≤ u ∧ u < 8) (h : c u u < t u u) (hw : 0 ≤ a ∧ a < 8) (hau : a ≠ u) : ∃ w, (0 ≤ w ∧ w < 8) ∧ byP t c u a w := by
  rcases byF_ok t c u a with ⟨-, hno⟩ | ⟨h1, h2, -⟩
  · exfalso
    have hno' : ∀ w, 0 ≤ w → w < 8 → c u w + (if w = u then 1 else 0) ≤ t u w + (if w = a then 1 else 0) := fun w w1 w2 => by
      have q := hno w w1 w2
      unfold byP at q
      by_cases q1 : w = a
      · rw [if_pos q1] at q ⊢
        rw [if_neg (by omega)]
        omega
      · rw [if_neg q1] at q ⊢
        by_cases q2 : w = u
        · rw [if_pos q2, q2]
          omega
        · rw [if_neg q2]
          omega
    have e1 := ha u hu.1 hu.2
    unfold dgs at e1
    have e2 : rs (fun w => c u w + (if w = u then 1 else 0)) 0 8 ≤ rs (fun w => t u w + (if w = a then 1 else 0)) 0 8 := rs_le hno'
    have e3 : rs (fun w => c u w + (if w = u then 1 else 0)) 0 8 = rs (fun w => c u w) 0 8 + rs (fun w => if w = u then 1 else 0) 0 8 := rs_add
    have e4 : rs (fun w => t u w + (if w = a then 1 else 0)) 0 8 = rs (fun w => t u w) 0 8 + rs (fun w => if w = a then 1 else 0) 0 8 := rs_add
    rw [rs_in hu] at e3
    rw [rs_in hw] at e4
    omega
  · exact ⟨_, h1, h2⟩
theorem rsn_i {c : Int → Int → Int} {a b x y : Int} (h1 : c a b ≠ 0) (h2 : ¬ (c x y - (if (a = x ∧ b = y) ∨ (a = y ∧ b = x) then 1 else 0) < 1)) (h3 : ¬ (a = y ∨ b = x)) : rsn 0 c a b x y = 0 := by
  unfold rsn
  rw [if_neg h1, if_neg h2, if_neg h3, if_neg (by omega), if_neg (by omega)]
theorem swk_cd {a b x y : Int} (ha : 0 ≤ a ∧ a < 8) (hb : 0 ≤ b ∧ b < 8) (hx : 0 ≤ x ∧ x < 8) (hy : 0 ≤ y ∧ y < 8) : swk c (cd a b x y) = sw c a b x y ∧ (0 ≤ cd a b x y ∧ cd a b x y < 4096) := by
  have e : cd a b x y / 512 % 8 = a ∧ cd a b x y / 64 % 8 = b ∧ cd a b x y / 8 % 8 = x ∧ cd a b x y % 8 = y := by
    unfold cd
    omega
  refine ⟨?_, cd_r ha hb hx hy⟩
  unfold swk
  rw [e.1, e.2.1, e.2.2.1, e.2.2.2]
theorem mz_le {x y : Int} (h : x ≤ y) : mz x ≤ mz y := by
  unfold mz
  split <;> split <;> omega
theorem mz_p {x : Int} (h : 0 ≤ x) : mz x = x := by
  unfold mz
  split <;> omega
theorem mz_n {x : Int} (h : x ≤ 0) : mz x = 0 := by
  unfold mz
  split <;> omega
theorem mz_ad {x d : Int} (h : 0 ≤ d) : mz (x + d) ≤ mz x + d := by
  unfold mz
  split <;> split <;> omega
theorem sps_Ed (c t : Int → Int → Int) : sps c t = Ed (fun u v => mz (c u v - t u v)) := rfl
theorem Ed_le {f g : Int → Int → Int} (h : ∀ u v, f u v ≤ g u v) : Ed f ≤ Ed g := rs_le (fun u _ _ => rs_le (fun v _ _ => h u v))
/-- one switch changes the surplus by two at most -/
theorem sps_sw {x y : Int} (ha : 0 ≤ a ∧ a < 8) (hb : 0 ≤ b ∧ b < 8) (hx : 0 ≤ x ∧ x < 8) (hy : 0 ≤ y ∧ y < 8) : sps c t ≤ sps (sw c a b x y) t + 2 := by
  have h : sps c t ≤ Ed (addc (addc (fun u v => mz (sw c a b x y u v - t u v)) a b 1) x y 1) := by
    rw [sps_Ed]
    refine Ed_le (fun u v => ?_)
    rw [addc_p, addc_p, sw_pl]
    have d1 := dl_r a b u v
    have d2 := dl_r x y u v
    have d3 := dl_r a x u v
    have d4 := dl_r b y u v
    have e1 := mz_le (x := c u v - t u v) (y := (c u v - dl a b u v - dl x y u v + dl a x u v + dl b y u v - t u v) + (dl a b u v + dl x y u v)) (by omega)
    have e2 := mz_ad (x := c u v - dl a b u v - dl x y u v + dl a x u v + dl b y u v - t u v) (d := dl a b u v + dl x y u v) (by omega)
    omega
  rw [Ed_addc hx hy, Ed_addc ha hb] at h
  have := sps_Ed (sw c a b x y) t
  omega
/-- a step of the path -/
theorem step_ok (hV : Vd N c) (hV' : Vd N t) (hu : 0 ≤ u ∧ u < 8) (hv : 0 ≤ v ∧ v < 8) (hwa : 0 ≤ a ∧ a < 8) (hwb : 0 ≤ b ∧ b < 8) (h : c u v < t u v) (h1 : byP t c u (-1) a) (h2 : byP t c v (if u = v then a else -1) b) : rsn 0 c u a v b = 0 ∧ sps (sw c u a v b) t + 1 ≤ sps c t ∧ 2 ≤ sps c t := by
  unfold byP at h1 h2
  rw [if_neg (by omega)] at h1
  have n1 := hV'.2.1 u a
  have n2 := hV'.2.1 v b
  have hs := hV.2.2.1 u v
  have hs' := hV'.2.2.1 u v
  have h2' : 1 ≤ c v b - t v b := by
    by_cases q : b = (if u = v then a else -1)
    · rw [if_pos q] at h2
      omega
    · rw [if_neg q] at h2
      exact h2
  have same : ((u = v ∧ a = b) ∨ (u = b ∧ a = v)) → 2 ≤ c v b - t v b := by
    rintro (⟨q1, q2⟩ | ⟨q1, q2⟩)
    · rw [if_pos q1, if_pos q2.symm] at h2
      exact h2
    · exfalso
      rw [q2] at h1
      omega
  have hub : u ≠ b := fun q => by
    rw [← q] at h2'
    omega
  have hav : a ≠ v := fun q => by
    rw [q] at h1
    omega
  have key : ∀ i j : Int, dl u a i j + dl v b i j ≤ mz (c i j - t i j) ∧ mz (sw c u a v b i j - t i j) ≤ mz (c i j - t i j) - dl u a i j - dl v b i j + dl a b i j := by
    intro i j
    rw [sw_pl]
    have d4 := dl_r a b i j
    have d3 := dl_r u v i j
    have c1 : dl u a i j = 0 ∨ (dl u a i j = 1 ∧ 1 ≤ c i j - t i j) := by
      by_cases q : (i = u ∧ j = a) ∨ (i = a ∧ j = u)
      · right
        refine ⟨dl_1 q, ?_⟩
        rcases q with ⟨rfl, rfl⟩ | ⟨rfl, rfl⟩
        · exact h1
        · rw [hV.2.2.1, hV'.2.2.1]
          exact h1
      · exact Or.inl (dl_0 q)
    have c2 : dl v b i j = 0 ∨ (dl v b i j = 1 ∧ 1 ≤ c i j - t i j) := by
      by_cases q : (i = v ∧ j = b) ∨ (i = b ∧ j = v)
      · right
        refine ⟨dl_1 q, ?_⟩
        rcases q with ⟨rfl, rfl⟩ | ⟨rfl, rfl⟩
        · exact h2'
        · rw [hV.2.2.1, hV'.2.2.1]
          exact h2'
      · exact Or.inl (dl_0 q)
    have c3 : dl u v i j = 0 ∨ (dl u v i j = 1 ∧ c i j - t i j ≤ -1) := by
      by_cases q : (i = u ∧ j = v) ∨ (i = v ∧ j = u)
      · right
        refine ⟨dl_1 q, ?_⟩
        rcases q with ⟨rfl, rfl⟩ | ⟨rfl, rfl⟩
        · omega
        · omega
      · exact Or.inl (dl_0 q)
    have c12 : dl u a i j = 0 ∨ dl v b i j = 0 ∨ 2 ≤ c i j - t i j := by
      by_cases q1 : (i = u ∧ j = a) ∨ (i = a ∧ j = u)
      · by_cases q2 : (i = v ∧ j = b) ∨ (i = b ∧ j = v)
        · right
          right
          have q3 := same (by omega)
          rcases q2 with ⟨rfl, rfl⟩ | ⟨rfl, rfl⟩
          · exact q3
          · rw [hV.2.2.1, hV'.2.2.1]
            exact q3
        · exact Or.inr (Or.inl (dl_0 q2))
      · exact Or.inl (dl_0 q1)
    have z1 : c i j - t i j ≤ mz (c i j - t i j) := by
      unfold mz
      split <;> omega
    have z0 := mz_r (c i j - t i j)
    rcases c3 with e3 | ⟨e3, e3'⟩
    · have z2 := mz_ad (x := c i j - dl u a i j - dl v b i j - t i j) (d := dl a b i j) (by omega)
      rw [show c i j - dl u a i j - dl v b i j + dl u v i j + dl a b i j - t i j = c i j - dl u a i j - dl v b i j - t i j + dl a b i j by omega]
      by_cases q : dl u a i j = 0 ∧ dl v b i j = 0
      · rw [q.1, q.2] at z2 ⊢
        rw [show c i j - 0 - 0 - t i j = c i j - t i j by omega] at z2 ⊢
        omega
      · have z3 : mz (c i j - dl u a i j - dl v b i j - t i j) = c i j - dl u a i j - dl v b i j - t i j := mz_p (by omega)
        have z4 : mz (c i j - t i j) = c i j - t i j := mz_p (by omega)
        omega
    · have e1 : dl u a i j = 0 := by omega
      have e2 : dl v b i j = 0 := by omega
      have z2 := mz_ad (x := c i j - t i j + 1) (d := dl a b i j) (by omega)
      have z3 : mz (c i j - t i j + 1) = 0 := mz_n (by omega)
      rw [show c i j - dl u a i j - dl v b i j + dl u v i j + dl a b i j - t i j = c i j - t i j + 1 + dl a b i j by omega]
      omega
  refine ⟨?_, ?_, ?_⟩
  · have n3 := hV.2.1 u a
    refine rsn_i (by omega) ?_ (by omega)
    by_cases q : (u = v ∧ a = b) ∨ (u = b ∧ a = v)
    · have := same q
      rw [if_pos q]
      omega
    · rw [if_neg q]
      omega
  · have h : sps (sw c u a v b) t ≤ Ed (addc (addc (addc (fun i j => mz (c i j - t i j)) u a (-1)) v b (-1)) a b 1) := by
      rw [sps_Ed]
      refine Ed_le (fun i j => ?_)
      rw [addc_p, addc_m, addc_m]
      exact (key i j).2
    rw [Ed_addc hwa hwb, Ed_addc hv hwb, Ed_addc hu hwa] at h
    have := sps_Ed c t
    omega
  · have h : Ed (addc (addc (fun _ _ => 0) u a 1) v b 1) ≤ sps c t := by
      rw [sps_Ed]
      refine Ed_le (fun i j => ?_)
      rw [addc_p, addc_p, Int.zero_add]
      exact (key i j).1
    rw [Ed_addc hv hwb, Ed_addc hu hwa] at h
    have e0 : Ed (fun _ _ => 0) = 0 := rfl
    omega
/-- a switch of mode m that a code names -/
def rsk (p : Int) (c : Int → Int → Int) (k : Int) : Prop := (0 ≤ k ∧ k < 4096) ∧ rsn p c (k / 512 % 8) (k / 64 % 8) (k / 8 % 8) (k % 8) = 0
theorem nx_ok (hV : Vd N c) (hV' : Vd N t) (ha : alk c t) : (lkF t c = -1 ∧ nxT t c = -1 ∧ sps c t = 0) ∨ ((0 ≤ lkF t c ∧ lkF t c < 64) ∧ (0 ≤ nxA t c ∧ nxA t c < 8) ∧ (0 ≤ nxB t c ∧ nxB t c < 8) ∧ nxT t c = cd (lkF t c / 8) (nxA t c) (lkF t c % 8) (nxB t c) ∧ rsn 0 c (lkF t c / 8) (nxA t c) (lkF t c % 8) (nxB t c) = 0 ∧ rsk 0 c (nxT t c) ∧ sps (swk c (nxT t c)) t + 1 ≤ sps c t ∧ 2 ≤ sps c t) := by
  rcases lkF_ok t c with ⟨h, hno⟩ | ⟨h1, h2, -⟩
  · left
    refine ⟨h, if_pos h, ?_⟩
    have nn : ∀ i j, 0 ≤ i → i < 8 → 0 ≤ j → j < 8 → 0 ≤ c i j - t i j := by
      intro i j i1 i2 j1 j2
      by_cases q : i ≤ j
      · have := hno (8 * i + j) (by omega) (by omega)
        unfold lkp at this
        rw [show (8 * i + j) / 8 = i by omega, show (8 * i + j) % 8 = j by omega] at this
        omega
      · have := hno (8 * j + i) (by omega) (by omega)
        unfold lkp at this
        rw [show (8 * j + i) / 8 = j by omega, show (8 * j + i) % 8 = i by omega] at this
        rw [hV.2.2.1 i j, hV'.2.2.1 i j]
        omega
    refine rs_zero (fun i i1 i2 => rs_zero (fun j j1 j2 => mz_n ?_))
    have e1 := ha i i1 i2
    unfold dgs at e1
    have e2 : rs (fun w => t i w + (c i w - t i w)) 0 8 = rs (fun w => t i w) 0 8 + rs (fun w => c i w - t i w) 0 8 := rs_add
    have e3 : rs (fun w => t i w + (c i w - t i w)) 0 8 = rs (fun w => c i w) 0 8 := rs_congr (fun w _ _ => by omega)
    have e4 : c i j - t i j ≤ rs (fun w => c i w - t i w) 0 8 := rs_ge (f := fun w => c i w - t i w) (by omega) j2 (fun w w1 w2 => nn i w i1 i2 w1 w2)
    have e5 := nn i i i1 i2 i1 i2
    omega
  · right
    have hu : 0 ≤ lkF t c / 8 ∧ lkF t c / 8 < 8 := by omega
    have hv : 0 ≤ lkF t c % 8 ∧ lkF t c % 8 < 8 := by omega
    have eT : nxT t c = cd (lkF t c / 8) (nxA t c) (lkF t c % 8) (nxB t c) := if_neg (by omega)
    obtain ⟨w1, q1, q2⟩ := row_pos ha hu hv h2.2
    have hA : (0 ≤ nxA t c ∧ nxA t c < 8) ∧ byP t c (lkF t c / 8) (-1) (nxA t c) := by
      rcases byF_ok t c (lkF t c / 8) (-1) with ⟨-, q⟩ | ⟨q, q', -⟩
      · exact absurd q2 (q w1 q1.1 q1.2)
      · exact ⟨q, q'⟩
    have hB : (0 ≤ nxB t c ∧ nxB t c < 8) ∧ byP t c (lkF t c % 8) (if lkF t c / 8 = lkF t c % 8 then nxA t c else -1) (nxB t c) := by
      have ex : ∃ w, (0 ≤ w ∧ w < 8) ∧ byP t c (lkF t c % 8) (if lkF t c / 8 = lkF t c % 8 then nxA t c else -1) w := by
        by_cases q : lkF t c / 8 = lkF t c % 8
        · rw [if_pos q]
          have h3 := h2.2
          rw [q] at h3
          refine row_pos2 ha hv h3 hA.1 (fun q' => ?_)
          have h4 := hA.2
          unfold byP at h4
          rw [if_neg (by omega), q', q] at h4
          omega
        · rw [if_neg q]
          refine row_pos (v := lkF t c / 8) ha hv hu ?_
          rw [hV.2.2.1, hV'.2.2.1]
          exact h2.2
      obtain ⟨w2, q3, q4⟩ := ex
      rcases byF_ok t c (lkF t c % 8) (if lkF t c / 8 = lkF t c % 8 then nxA t c else -1) with ⟨-, q⟩ | ⟨q, q', -⟩
      · exact absurd q4 (q w2 q3.1 q3.2)
      · exact ⟨q, q'⟩
    obtain ⟨s1, s2, s3⟩ := step_ok hV hV' hu hv hA.1 hB.1 h2.2 hA.2 hB.2
    obtain ⟨e1, e2⟩ := swk_cd (c := c) hu hA.1 hv hB.1
    have eq : nxT t c / 512 % 8 = lkF t c / 8 ∧ nxT t c / 64 % 8 = nxA t c ∧ nxT t c / 8 % 8 = lkF t c % 8 ∧ nxT t c % 8 = nxB t c := by
      have hA1 := hA.1
      have hB1 := hB.1
      rw [eT]
      generalize nxA t c = za at *
      generalize nxB t c = zb at *
      unfold cd
      omega
    refine ⟨h1, hA.1, hB.1, eT, s1, ⟨by rw [eT]; exact e2, ?_⟩, ?_, s3⟩
    · rw [eq.1, eq.2.1, eq.2.2.1, eq.2.2.2]
      exact s1
    · rw [eT, e1]
      exact s2
end PTH
