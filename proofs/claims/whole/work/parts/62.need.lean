/-! REALISE without loops, and simple: who lacks most -/
noncomputable def ndi (l T : Int → Int) (N : Int) : Int := ati (fun i => if T i = 0 then -(l i) else 0) 0 N
theorem ndi_ok {l T : Int → Int} {N : Int} (hN : 0 ≤ N) (hl : ∀ i, 0 ≤ i → i < N → 0 ≤ l i) : (ndi l T N = -1 ∧ ∀ i, 0 ≤ i → i < N → T i = 0 → l i = 0) ∨ ((0 ≤ ndi l T N ∧ ndi l T N < N) ∧ T (ndi l T N) = 0 ∧ 0 < l (ndi l T N) ∧ ∀ i, 0 ≤ i → i < N → T i = 0 → l i ≤ l (ndi l T N)) := by
  rcases ati_ok (f := fun i => if T i = 0 then -(l i) else 0) (B := 0) hN with ⟨h, h1⟩ | ⟨⟨h1, h2, h3⟩, h4⟩
  · left
    refine ⟨h, fun i i1 i2 hT => ?_⟩
    have := h1 i i1 i2
    dsimp only at this
    rw [if_pos hT] at this
    have := hl i i1 i2
    omega
  · right
    have e : ati (fun i => if T i = 0 then -(l i) else 0) 0 N = ndi l T N := rfl
    rw [e] at h1 h2 h3 h4
    dsimp only at h2 h3 h4
    have hT : T (ndi l T N) = 0 := by
      by_cases q : T (ndi l T N) = 0
      · exact q
      · rw [if_neg q] at h4
        omega
    rw [if_pos hT] at h4
    refine ⟨h1, hT, by omega, fun i i1 i2 hTi => ?_⟩
    by_cases q : i < ndi l T N
    · have := h2 i i1 q
      rw [if_pos hT, if_pos hTi] at this
      omega
    · have := h3 i (by omega) i2
      rw [if_pos hT, if_pos hTi] at this
      omega
def MK (w : Int) (T : Int → Int) : Prop := (0 ≤ w ∧ w < 256) ∧ (∀ i, 0 ≤ i → i < 8 → ian (ishr w i) 1 = T i) ∧ ∀ i, T i = 0 ∨ T i = 1
def tk1 (T : Int → Int) (b : Int) : Int → Int := fun i => if i = b then 1 else T i
def lk1 (l : Int → Int) (a b : Int) : Int → Int := fun i => l i - (if i = a then 1 else 0) - (if i = b then 1 else 0)
theorem tk1_01 {T : Int → Int} (h : ∀ i, T i = 0 ∨ T i = 1) (b : Int) : ∀ i, tk1 T b i = 0 ∨ tk1 T b i = 1 := fun i => by
  unfold tk1
  split
  · exact Or.inr rfl
  · exact h i
theorem mk_all : ∀ p : Nat, p < 16 → ∀ q : Nat, q < 16 → ∀ b : Nat, b < 8 → (0 ≤ io ((16 * p + q : Nat) : Int) (ishl 1 (b : Int)) ∧ io ((16 * p + q : Nat) : Int) (ishl 1 (b : Int)) < 256) ∧ ∀ i : Nat, i < 8 → ian (ishr (io ((16 * p + q : Nat) : Int) (ishl 1 (b : Int))) (i : Int)) 1 = if i = b then 1 else ian (ishr ((16 * p + q : Nat) : Int) (i : Int)) 1 := by decide +kernel
theorem mk_0 : MK 0 (fun _ => 0) := by
  refine ⟨by omega, fun i i1 i2 => ?_, fun _ => Or.inl rfl⟩
  have h : ∀ i : Nat, i < 8 → ian (ishr 0 (i : Int)) 1 = 0 := by decide
  have := h i.toNat (by omega)
  rw [show ((i.toNat : Nat) : Int) = i by omega] at this
  exact this
theorem mk_or {w b : Int} {T : Int → Int} (h : MK w T) (hb : 0 ≤ b ∧ b < 8) : MK (io w (ishl 1 b)) (tk1 T b) := by
  obtain ⟨h1, h2, h3⟩ := h
  obtain ⟨q1, q2⟩ := mk_all (w.toNat / 16) (by omega) (w.toNat % 16) (by omega) b.toNat (by omega)
  rw [show ((16 * (w.toNat / 16) + w.toNat % 16 : Nat) : Int) = w by omega, show ((b.toNat : Nat) : Int) = b by omega] at q1 q2
  refine ⟨q1, fun i i1 i2 => ?_, tk1_01 h3 b⟩
  have := q2 i.toNat (by omega)
  rw [show ((i.toNat : Nat) : Int) = i by omega] at this
  rw [this]
  unfold tk1
  by_cases e : i = b
  · rw [if_pos e, if_pos (by omega)]
  · rw [if_neg e, if_neg (by omega), h2 i i1 i2]
theorem ishl_io (b : Int) (hb : 0 ≤ b ∧ b < 8) : ishl 1 b = io 0 (ishl 1 b) := by
  have h : ∀ i : Nat, i < 8 → ishl 1 (i : Int) = io 0 (ishl 1 (i : Int)) := by decide
  have := h b.toNat (by omega)
  rw [show ((b.toNat : Nat) : Int) = b by omega] at this
  exact this
theorem mk_1 {b : Int} (hb : 0 ≤ b ∧ b < 8) : MK (ishl 1 b) (tk1 (fun _ => 0) b) := by
  rw [ishl_io b hb]
  exact mk_or mk_0 hb
section NEE
variable {μ ν : qMu} {n q g : Nat} {N m : Int} {l T : Int → Int} {c t : Int → Int → Int} {w : Int}
/-- what the lacks are -/
def LK (μ : qMu) (A : Nat) (N : Int) (l : Int → Int) : Prop := ∀ i, 0 ≤ i → i < N → rd μ A i = l i
def L0 (N : Int) (l : Int → Int) : Prop := ∀ i, 0 ≤ i → i < N → 0 ≤ l i ∧ l i ≤ 150
/-- the value that goes with an index -/
def ndv (l : Int → Int) (r : Int) : Int := if r = -1 then 0 else l r
theorem nd_step {i r : Int} (hi : 0 ≤ i) (h : AT (fun i => if T i = 0 then -(l i) else 0) 0 i r) : (if r = -1 then 0 else (fun i => if T i = 0 then -(l i) else 0) r) = -(ndv l r) ∧ 0 ≤ ndv l r := by
  unfold ndv
  rcases h with ⟨h, -⟩ | ⟨h1, h2⟩
  · rw [if_pos h, if_pos h]
    omega
  · have := h1.1.1
    rw [if_neg (by omega), if_neg (by omega)]
    dsimp only at h2 ⊢
    by_cases q : T r = 0
    · rw [if_pos q] at h2 ⊢
      omega
    · rw [if_neg q] at h2
      omega
theorem x_neediestBut (hn : 5000 ≤ n) (hN : 0 ≤ N ∧ N ≤ 8) (h0 : rd μ q 3 = N) (h1 : LK μ (q + 3) N l) (hl : L0 N l) (hw : MK w T) : fX6_neediestBut n q w μ = some (ndi l T N) := by
  obtain ⟨y, r1, r2⟩ := lp_inv (f := fun x : Int × Int × Int => bX6_neediestBut_7 n q w x.1 x.2.1 x.2.2 μ) (fun k x => (x.2.2 = N - (k : Int) ∧ 0 ≤ x.2.2) ∧ AT (fun i => if T i = 0 then -(l i) else 0) 0 x.2.2 x.1 ∧ x.2.1 = ndv l x.1) (fun y => y = ndi l T N) (by
    rintro k ⟨r, z, i⟩ ⟨⟨h4, h5⟩, h6, h7⟩
    dsimp only at h4 h5 h6 h7
    subst h7
    by_cases hi : i < N
    · right
      have hs := AT.step h5 h6
      obtain ⟨s1, s2⟩ := nd_step h5 h6
      rw [s1] at hs
      have e1 := h1 i h5 hi
      have hli := hl i h5 hi
      have hv : ndv l r ≤ 150 := by
        unfold ndv
        split
        · omega
        · rcases h6 with ⟨q, -⟩ | ⟨q, -⟩
          · omega
          · exact (hl r q.1.1 (by have := q.1.2; omega)).2
      have hm := hw.2.1 i h5 (by omega)
      have hT := hw.2.2 i
      by_cases c1 : ndv l r < l i
      · by_cases c2 : T i = 0
        · rw [if_pos c2, if_pos (by omega)] at hs
          refine ⟨k - 1, (i, l i, i + 1), ?_, by omega, ⟨by dsimp only; omega, by dsimp only; omega⟩, hs, ?_⟩
          · rw [c2] at hm
            simp (disch := omega) only [bX6_neediestBut_7, h0, wr_id, if_pos, qLd_in, e1, Option.bind_some, hm, ite_true]
          · dsimp only
            unfold ndv
            rw [if_neg (by omega)]
        · rw [if_neg c2, if_neg (by omega)] at hs
          refine ⟨k - 1, (r, ndv l r, i + 1), ?_, by omega, ⟨by dsimp only; omega, by dsimp only; omega⟩, hs, rfl⟩
          have hT1 : T i = 1 := by omega
          rw [hT1] at hm
          simp (disch := omega) only [bX6_neediestBut_7, h0, wr_id, if_pos, if_neg, qLd_in, e1, Option.bind_some, hm]
      · have hs' : AT (fun i => if T i = 0 then -(l i) else 0) 0 (i + 1) r := by
          by_cases c2 : T i = 0
          · rw [if_pos c2, if_neg (by omega)] at hs
            exact hs
          · rw [if_neg c2, if_neg (by omega)] at hs
            exact hs
        refine ⟨k - 1, (r, ndv l r, i + 1), ?_, by omega, ⟨by dsimp only; omega, by dsimp only; omega⟩, hs', rfl⟩
        simp (disch := omega) only [bX6_neediestBut_7, h0, wr_id, if_pos, if_neg, qLd_in, e1, Option.bind_some]
    · left
      have hiN : i = N := by omega
      subst hiN
      refine ⟨r, ?_, AT.uniq h6 (ati_ok (by omega))⟩
      simp (disch := omega) only [bX6_neediestBut_7, h0, wr_id, if_neg]) n N.toNat (-1, 0, 0) ⟨⟨by dsimp only; omega, Int.le_refl _⟩, Or.inl ⟨rfl, fun i i1 i2 => by dsimp only at i2; omega⟩, rfl⟩ (by omega)
  subst r2
  simp only [fX6_neediestBut, r1, Option.bind_some]
theorem m_neediest (hn : 5000 ≤ n) (hN : 0 ≤ N ∧ N ≤ 8) (h0 : rd μ 79 0 = N) (h1 : LK μ 87 N l) (hl : L0 N l) (hw : LK μ 88 8 T) (hT : ∀ i, T i = 0 ∨ T i = 1) : fX10_neediest n μ = some (ndi l T N) := by
  obtain ⟨y, r1, r2⟩ := lp_inv (f := fun x : Int × Int => bX10_neediest_4 n x.1 x.2 μ) (fun k x => (x.2 = N - (k : Int) ∧ 0 ≤ x.2) ∧ AT (fun i => if T i = 0 then -(l i) else 0) 0 x.2 x.1) (fun y => y = ndi l T N) (by
    rintro k ⟨r, i⟩ ⟨⟨h4, h5⟩, h6⟩
    dsimp only at h4 h5 h6
    by_cases hi : i < N
    · right
      have hs := AT.step h5 h6
      obtain ⟨s1, s2⟩ := nd_step h5 h6
      rw [s1] at hs
      have e1 := h1 i h5 hi
      have e2 := hw i h5 (by omega)
      have hli := hl i h5 hi
      have hTi := hT i
      by_cases c2 : T i = 0
      · rw [c2] at e2
        rw [if_pos c2] at hs
        refine ⟨k - 1, (if ndv l r < l i then i else r, i + 1), ?_, by omega, ⟨by dsimp only; omega, by dsimp only; omega⟩, ?_⟩
        · by_cases c3 : r = -1
          · have ev : ndv l r = 0 := if_pos c3
            rw [ev, c3]
            by_cases c1 : 0 < l i
            · simp (disch := omega) only [bX10_neediest_4, h0, wr_id, if_pos, qLd_in, e1, e2, Option.bind_some, ite_true]
            · simp (disch := omega) only [bX10_neediest_4, h0, wr_id, if_pos, if_neg, qLd_in, e1, e2, Option.bind_some, ite_true]
          · have ev : ndv l r = l r := if_neg c3
            have hrr : 0 ≤ r ∧ r < i := by
              rcases h6 with ⟨q, -⟩ | ⟨q, -⟩
              · exact absurd q c3
              · exact q.1
            have e3 := h1 r (by omega) (by omega)
            have hlr := hl r (by omega) (by omega)
            rw [ev]
            by_cases c1 : l r < l i
            · simp (disch := omega) only [bX10_neediest_4, h0, wr_id, if_pos, if_neg, qLd_in, e1, e2, e3, Option.bind_some, ite_true]
            · simp (disch := omega) only [bX10_neediest_4, h0, wr_id, if_pos, if_neg, qLd_in, e1, e2, e3, Option.bind_some, ite_true]
        · dsimp only
          by_cases c1 : ndv l r < l i
          · rw [if_pos c1]
            rw [if_pos (by omega)] at hs
            exact hs
          · rw [if_neg c1]
            rw [if_neg (by omega)] at hs
            exact hs
      · have hT1 : T i = 1 := by omega
        rw [hT1] at e2
        rw [if_neg c2, if_neg (by omega)] at hs
        refine ⟨k - 1, (r, i + 1), ?_, by omega, ⟨by dsimp only; omega, by dsimp only; omega⟩, hs⟩
        simp (disch := omega) only [bX10_neediest_4, h0, wr_id, if_pos, if_neg, qLd_in, e2, Option.bind_some]
    · left
      have hiN : i = N := by omega
      subst hiN
      refine ⟨r, ?_, AT.uniq h6 (ati_ok (by omega))⟩
      simp (disch := omega) only [bX10_neediest_4, h0, wr_id, if_neg, qLd_in, Option.bind_some]) n N.toNat (-1, 0) ⟨⟨by dsimp only; omega, Int.le_refl _⟩, Or.inl ⟨rfl, fun i i1 i2 => by dsimp only at i2; omega⟩⟩ (by omega)
  subst r2
  simp only [fX10_neediest, r1, Option.bind_some]
theorem m_freesAll (hn : 5000 ≤ n) : ∃ μ', fX10_freesAll n μ = some μ' ∧ LK μ' 88 8 (fun _ => 0) ∧ Fr [88] μ μ' := by
  obtain ⟨y, r1, r2, r3⟩ := lp_inv (f := fun x : Int × qMu => bX10_freesAll_2 n x.1 x.2) (fun k x => (x.1 = 8 - (k : Int) ∧ 0 ≤ x.1) ∧ (∀ i, 0 ≤ i → i < x.1 → rd x.2 88 i = 0) ∧ Fr [88] μ x.2) (fun y => (∀ i, 0 ≤ i → i < 8 → rd y 88 i = 0) ∧ Fr [88] μ y) (by
    rintro k ⟨i, ξ⟩ ⟨⟨h4, h5⟩, h6, h7⟩
    dsimp only at h4 h5 h6 h7
    have e0 : qNr .boolean 0 = 0 := rfl
    by_cases hi : i < 8
    · right
      refine ⟨k - 1, (i + 1, up ξ 88 i 0), ?_, by omega, ⟨by dsimp only; omega, by dsimp only; omega⟩, fun j j1 j2 => ?_, h7.tr (Fr.up (by simp))⟩
      · simp (disch := omega) only [bX10_freesAll_2, wr_id, if_pos, qSa_in, Option.bind_some, e0]
      · dsimp only at j2 ⊢
        by_cases e : j = i
        · rw [e, rd_at]
          rfl
        · rw [rd_ni e]
          exact h6 j j1 (by omega)
    · left
      refine ⟨ξ, ?_, fun j j1 j2 => h6 j j1 (by omega), h7⟩
      simp (disch := omega) only [bX10_freesAll_2, wr_id, if_neg]) n 8 (0, μ) ⟨⟨rfl, Int.le_refl _⟩, fun j j1 j2 => by dsimp only at j2; omega, Fr.rf _ _⟩ (by omega)
  refine ⟨y, ?_, r2, r3⟩
  simp only [fX10_freesAll, r1, Option.bind_some]
end NEE
