/-! THE ROUNDS COME TO THEIR END -/
theorem rs_pt {N v x : Int} (hv : 0 ≤ v ∧ v < N) : rs (fun w => if w = v then x else 0) 0 N = x := by
  have e : rs (fun w => if w = v then x else 0) 0 N = if v = v then x else 0 := rs_one (f := fun w => if w = v then x else 0) hv.1 hv.2 (fun k _ _ q => if_neg q)
  rw [e, if_pos rfl]
theorem rs_upd {f f' : Int → Int} {N b : Int} (hb : 0 ≤ b ∧ b < N) (h : ∀ i, 0 ≤ i → i < N → i ≠ b → f' i = f i) : rs f' 0 N = rs f 0 N - f b + f' b := by
  have e1 : rs (fun i => f i + (if i = b then f' b - f b else 0)) 0 N = rs f 0 N + rs (fun i => if i = b then f' b - f b else 0) 0 N := rs_add
  have e2 : rs f' 0 N = rs (fun i => f i + (if i = b then f' b - f b else 0)) 0 N := rs_congr (fun i i1 i2 => by
    by_cases q : i = b
    · rw [if_pos q, q]
      omega
    · rw [if_neg q, h i i1 i2 q, Int.add_zero])
  rw [rs_pt hb] at e1
  omega
theorem rs_3 {l : Int → Int} {N a b i : Int} (hl : ∀ j, 0 ≤ j → j < N → 0 ≤ l j) (ha : 0 ≤ a ∧ a < N) (hb : 0 ≤ b ∧ b < N) (hi : 0 ≤ i ∧ i < N) (h1 : b ≠ a) (h2 : i ≠ a) (h3 : i ≠ b) : l a + l b + l i ≤ rs l 0 N := by
  have e : rs (fun j => (if j = a then l a else 0) + ((if j = b then l b else 0) + (if j = i then l i else 0))) 0 N = rs (fun j => if j = a then l a else 0) 0 N + rs (fun j => (if j = b then l b else 0) + (if j = i then l i else 0)) 0 N := rs_add
  have e2 : rs (fun j => (if j = b then l b else 0) + (if j = i then l i else 0)) 0 N = rs (fun j => if j = b then l b else 0) 0 N + rs (fun j => if j = i then l i else 0) 0 N := rs_add
  rw [rs_pt hb, rs_pt hi] at e2
  rw [rs_pt ha, e2] at e
  have e3 : rs (fun j => (if j = a then l a else 0) + ((if j = b then l b else 0) + (if j = i then l i else 0))) 0 N ≤ rs l 0 N := rs_le (fun j j1 j2 => by
    have := hl j j1 j2
    by_cases q1 : j = a
    · rw [if_pos q1, if_neg (by omega), if_neg (by omega), q1]
      omega
    · rw [if_neg q1]
      by_cases q2 : j = b
      · rw [if_pos q2, if_neg (by omega), q2]
        omega
      · rw [if_neg q2]
        by_cases q3 : j = i
        · rw [if_pos q3, q3]
          omega
        · rw [if_neg q3]
          omega)
  omega
theorem gs1 {N S0 : Int} (h32 : S0 ≤ 32) : ∀ (k : Nat) (l : Int → Int) (c : Int → Int → Int), JJ N S0 l c → rs l 0 N % 2 = 0 → (∀ i, 0 ≤ i → i < N → 2 * l i ≤ rs l 0 N) → rs l 0 N ≤ 2 * (k : Int) → GS N 1 k l c
  | 0, l, c, h, _, _, h3 => by
    have hN := h.1.N
    rcases ndi_ok (l := l) (T := T0) (by omega : 0 ≤ N) h.2.1 with ⟨q, -⟩ | ⟨q1, q2, q3, -⟩
    · exact q
    · have := rs_ge (f := l) q1.1 q1.2 h.2.1
      omega
  | k + 1, l, c, h, h1, h2, h3 => by
    have hN := h.1.N
    by_cases q : ndi l T0 N = -1
    · exact Or.inl q
    · right
      obtain ⟨g1, g2, g3⟩ := h.ji (md := 1) (Or.inl rfl) q
      generalize hA : ndi l T0 N = a at *
      have hmax : ∀ i, 0 ≤ i → i < N → l i ≤ l a := by
        rcases ndi_ok (l := l) (T := T0) (by omega : 0 ≤ N) h.2.1 with ⟨q', -⟩ | ⟨-, -, -, q4⟩
        · exact absurd (hA.symm.trans q') q
        · intro i i1 i2
          have := q4 i i1 i2 rfl
          rw [hA] at this
          exact this
      have hla := h2 a g1.1 g1.2
      rcases ndi_ok (l := l) (T := tk1 T0 a) (by omega : 0 ≤ N) h.2.1 with ⟨q', q''⟩ | ⟨b1, b2, b3, b4⟩
      · exfalso
        have e : rs l 0 N = l a := rs_one g1.1 g1.2 (fun i i1 i2 hi => q'' i i1 i2 (by unfold tk1; rw [if_neg hi]; rfl))
        omega
      · have hb : ndi l (tk1 T0 a) N ≠ -1 := by omega
        have hps : PS N a (cnt 1 l a) (l, tk1 T0 a, c) := ⟨hb, trivial⟩
        have hnx := h.next h32 (md := 1) (Or.inl rfl) (by rw [hA]; exact q) (by rw [hA]; exact hps)
        have er : (rnd N 1 l c).1 = lk1 l a (ndi l (tk1 T0 a) N) := by
          unfold rnd
          rw [hA]
          rfl
        generalize hB : ndi l (tk1 T0 a) N = b at *
        have hba : b ≠ a := fun e => by
          unfold tk1 at b2
          rw [if_pos e] at b2
          omega
        have hr := rs_lk1 (l := l) g1 b1
        refine ⟨q, hps, gs1 h32 k _ _ hnx ?_ (fun i i1 i2 => ?_) ?_⟩
        · rw [er, hr]
          omega
        · rw [er, hr]
          unfold lk1
          by_cases c1 : i = a
          · rw [if_pos c1, if_neg (by omega), c1]
            omega
          · rw [if_neg c1]
            by_cases c2 : i = b
            · rw [if_pos c2, c2]
              have := h2 b b1.1 b1.2
              omega
            · rw [if_neg c2]
              have e1 := rs_3 h.2.1 g1 b1 ⟨i1, i2⟩ hba c1 c2
              have e2 := b4 i i1 i2 (by unfold tk1; rw [if_neg c1]; rfl)
              have e3 := hmax b b1.1 b1.2
              omega
        · rw [er, hr]
          omega
/-! a small machine over sixteens: how many lack so much -/
def pm (h : Nat) : Nat := if 268435456 ≤ h then 7 else if 16777216 ≤ h then 6 else if 1048576 ≤ h then 5 else if 65536 ≤ h then 4 else if 4096 ≤ h then 3 else if 256 ≤ h then 2 else if 16 ≤ h then 1 else 0
def pkN : Nat → Nat → Nat → Option Nat
  | 0, u, t => some (u + t)
  | k + 1, u, t => if pm u = 0 then none else pkN k (u - 16 ^ pm u) (t + 16 ^ (pm u - 1))
def rnN : Nat → Nat → Bool
  | 0, h => pm h == 0
  | k + 1, h => if pm h = 0 then true else match pkN (pm h) (h - 16 ^ pm h) 1 with
    | none => false
    | some h' => rnN k h'
def pw (x : Int) : Int := ((16 ^ x.toNat : Nat) : Int)
theorem pw_nn (x : Int) : 0 ≤ pw x := Int.natCast_nonneg _
theorem pw_c (x : Int) (h : 0 ≤ x ∧ x ≤ 7) : (x = 0 ∧ pw x = 1) ∨ (x = 1 ∧ pw x = 16) ∨ (x = 2 ∧ pw x = 256) ∨ (x = 3 ∧ pw x = 4096) ∨ (x = 4 ∧ pw x = 65536) ∨ (x = 5 ∧ pw x = 1048576) ∨ (x = 6 ∧ pw x = 16777216) ∨ (x = 7 ∧ pw x = 268435456) := by
  have : x = 0 ∨ x = 1 ∨ x = 2 ∨ x = 3 ∨ x = 4 ∨ x = 5 ∨ x = 6 ∨ x = 7 := by omega
  rcases this with rfl | rfl | rfl | rfl | rfl | rfl | rfl | rfl
  · exact Or.inl ⟨rfl, rfl⟩
  · exact Or.inr (Or.inl ⟨rfl, rfl⟩)
  · exact Or.inr (Or.inr (Or.inl ⟨rfl, rfl⟩))
  · exact Or.inr (Or.inr (Or.inr (Or.inl ⟨rfl, rfl⟩)))
  · exact Or.inr (Or.inr (Or.inr (Or.inr (Or.inl ⟨rfl, rfl⟩))))
  · exact Or.inr (Or.inr (Or.inr (Or.inr (Or.inr (Or.inl ⟨rfl, rfl⟩)))))
  · exact Or.inr (Or.inr (Or.inr (Or.inr (Or.inr (Or.inr (Or.inl ⟨rfl, rfl⟩))))))
  · exact Or.inr (Or.inr (Or.inr (Or.inr (Or.inr (Or.inr (Or.inr ⟨rfl, rfl⟩))))))
theorem pw_mono {x y : Int} (h : 0 ≤ x) (hxy : x ≤ y) (hy : y ≤ 7) : 1 ≤ pw x ∧ pw x ≤ pw y := by
  have h1 := pw_c x (by omega)
  have h2 := pw_c y (by omega)
  omega
theorem pm_is {h : Nat} {x : Int} (hx : 1 ≤ x ∧ x ≤ 7) (h1 : pw x ≤ (h : Int)) (h2 : (h : Int) ≤ 8 * pw x) : (pm h : Int) = x := by
  have := pw_c x (by omega)
  unfold pm
  rcases this with ⟨rfl, e⟩ | ⟨rfl, e⟩ | ⟨rfl, e⟩ | ⟨rfl, e⟩ | ⟨rfl, e⟩ | ⟨rfl, e⟩ | ⟨rfl, e⟩ | ⟨rfl, e⟩
  · omega
  · rw [e] at h1 h2
    rw [if_neg (by omega), if_neg (by omega), if_neg (by omega), if_neg (by omega), if_neg (by omega), if_neg (by omega), if_pos (by omega)]
    rfl
  · rw [e] at h1 h2
    rw [if_neg (by omega), if_neg (by omega), if_neg (by omega), if_neg (by omega), if_neg (by omega), if_pos (by omega)]
    rfl
  · rw [e] at h1 h2
    rw [if_neg (by omega), if_neg (by omega), if_neg (by omega), if_neg (by omega), if_pos (by omega)]
    rfl
  · rw [e] at h1 h2
    rw [if_neg (by omega), if_neg (by omega), if_neg (by omega), if_pos (by omega)]
    rfl
  · rw [e] at h1 h2
    rw [if_neg (by omega), if_neg (by omega), if_pos (by omega)]
    rfl
  · rw [e] at h1 h2
    rw [if_neg (by omega), if_pos (by omega)]
    rfl
  · rw [e] at h1 h2
    rw [if_pos (by omega)]
    rfl
theorem pm_0 {h : Nat} (hh : h ≤ 8) : pm h = 0 := by
  unfold pm
  rw [if_neg (by omega), if_neg (by omega), if_neg (by omega), if_neg (by omega), if_neg (by omega), if_neg (by omega), if_neg (by omega)]
theorem rs_le8 {f : Int → Int} {N K : Int} (hN : 0 ≤ N ∧ N ≤ 8) (hK : 1 ≤ K) (h : ∀ i, 0 ≤ i → i < N → f i ≤ K) : rs f 0 N + rs (fun _ => (1 : Int)) N 8 ≤ 8 * K := by
  have h1 : rs f 0 N ≤ rs (fun _ => K) 0 N := rs_le h
  have h2 : rs (fun _ => K) 0 8 = rs (fun _ => K) 0 N + rs (fun _ => K) N 8 := rs_cut hN.1 hN.2
  have h3 : rs (fun _ => (1 : Int)) N 8 ≤ rs (fun _ => K) N 8 := rs_le (fun _ _ _ => hK)
  have h4 : rs (fun _ => K) 0 8 = K + (K + (K + (K + (K + (K + (K + K)))))) := by
    rw [rs_step (by omega), rs_step (by omega), rs_step (by omega), rs_step (by omega), rs_step (by omega), rs_step (by omega), rs_step (by omega), rs_step (by omega), rs_end (by omega), Int.add_zero]
  omega
theorem rs_z (N : Int) : 0 ≤ rs (fun _ => (1 : Int)) N 8 := rs_nn (fun _ _ _ => by omega)
/-- of those not taken; who isn't there lacks nothing -/
def HU (l T : Int → Int) (N : Int) : Int := rs (fun i => if T i = 0 then pw (l i) else 0) 0 N + rs (fun _ => (1 : Int)) N 8
def HT (l T : Int → Int) (a N : Int) : Int := rs (fun i => if T i = 0 then 0 else if i = a then 0 else pw (l i)) 0 N
theorem pm_nd {l T : Int → Int} {N : Int} {u : Nat} (hN : 0 ≤ N ∧ N ≤ 8) (hl : ∀ i, 0 ≤ i → i < N → 0 ≤ l i ∧ l i ≤ 7) (hu : HU l T N = (u : Int)) : (ndi l T N = -1 ∧ pm u = 0) ∨ ((0 ≤ ndi l T N ∧ ndi l T N < N) ∧ T (ndi l T N) = 0 ∧ (pm u : Int) = l (ndi l T N) ∧ 1 ≤ l (ndi l T N)) := by
  have hnn : ∀ i, 0 ≤ i → i < N → 0 ≤ (fun i => if T i = 0 then pw (l i) else 0) i := fun i i1 i2 => by
    dsimp only
    split
    · have := (pw_mono (hl i i1 i2).1 (Int.le_refl _) (hl i i1 i2).2).1
      omega
    · exact Int.le_refl _
  rcases ndi_ok (l := l) (T := T) hN.1 (fun i i1 i2 => (hl i i1 i2).1) with ⟨q, q'⟩ | ⟨q1, q2, q3, q4⟩
  · left
    refine ⟨q, pm_0 ?_⟩
    have : HU l T N ≤ 8 * 1 := rs_le8 hN (by omega) (fun i i1 i2 => by
      by_cases c1 : T i = 0
      · rw [if_pos c1, q' i i1 i2 c1]
        exact Int.le_refl _
      · rw [if_neg c1]
        omega)
    omega
  · right
    have h7 := hl _ q1.1 q1.2
    refine ⟨q1, q2, pm_is (by omega) ?_ ?_, by omega⟩
    · rw [← hu]
      have := rs_ge (f := fun i => if T i = 0 then pw (l i) else 0) q1.1 q1.2 hnn
      rw [if_pos q2] at this
      have hz := rs_z N
      show pw (l (ndi l T N)) ≤ rs (fun i => if T i = 0 then pw (l i) else 0) 0 N + rs (fun _ => (1 : Int)) N 8
      omega
    · rw [← hu]
      have h1 := (pw_mono h7.1 (Int.le_refl _) h7.2).1
      refine rs_le8 hN (by omega) (fun i i1 i2 => ?_)
      by_cases c1 : T i = 0
      · rw [if_pos c1]
        exact (pw_mono (hl i i1 i2).1 (q4 i i1 i2 c1) h7.2).2
      · rw [if_neg c1]
        omega
theorem pw_nat {x : Int} {p : Nat} (h : (p : Int) = x) : pw x = ((16 ^ p : Nat) : Int) := by
  subst h
  rfl
theorem lk1_le (l : Int → Int) (a b i : Int) : lk1 l a b i ≤ l i := by
  unfold lk1
  split <;> split <;> omega
theorem pks_le {N a : Int} : ∀ (k : Nat) (s : pS) (i : Int), (pks N a k s).1 i ≤ s.1 i
  | 0, s, i => Int.le_refl _
  | k + 1, s, i => Int.le_trans (pks_le k (pk N a s) i) (lk1_le s.1 a _ i)
theorem pkN_ok {N S0 a : Int} (ha : 0 ≤ a ∧ a < N) (h32 : S0 ≤ 32) : ∀ (k : Nat) (s : pS) (u t h' : Nat), JI N S0 s a k → s.1 a = (k : Int) → (∀ i, 0 ≤ i → i < N → s.1 i ≤ 7) → HU s.1 s.2.1 N = (u : Int) → 1 + HT s.1 s.2.1 a N = (t : Int) → pkN k u t = some h' → PS N a k s ∧ HU (pks N a k s).1 T0 N = (h' : Int)
  | 0, s, u, t, h', hJ, hk, h7, hu, ht, hp => by
    refine ⟨trivial, ?_⟩
    have e : u + t = h' := Option.some.inj hp
    have e1 : rs (fun i => (if s.2.1 i = 0 then pw (s.1 i) else 0) + ((if s.2.1 i = 0 then 0 else if i = a then 0 else pw (s.1 i)) + (if i = a then 1 else 0))) 0 N = rs (fun i => if s.2.1 i = 0 then pw (s.1 i) else 0) 0 N + rs (fun i => (if s.2.1 i = 0 then 0 else if i = a then 0 else pw (s.1 i)) + (if i = a then 1 else 0)) 0 N := rs_add
    have e2 : rs (fun i => (if s.2.1 i = 0 then 0 else if i = a then 0 else pw (s.1 i)) + (if i = a then 1 else 0)) 0 N = rs (fun i => if s.2.1 i = 0 then 0 else if i = a then 0 else pw (s.1 i)) 0 N + rs (fun i => if i = a then 1 else 0) 0 N := rs_add
    have e3 : rs (fun i => if T0 i = 0 then pw (s.1 i) else 0) 0 N = rs (fun i => (if s.2.1 i = 0 then pw (s.1 i) else 0) + ((if s.2.1 i = 0 then 0 else if i = a then 0 else pw (s.1 i)) + (if i = a then 1 else 0))) 0 N := rs_congr (fun i i1 i2 => by
      rw [show (if T0 i = 0 then pw (s.1 i) else 0) = pw (s.1 i) from if_pos rfl]
      by_cases c1 : i = a
      · have h5 := hJ.2.2.2.2.1
        rw [c1, if_neg (by omega), if_neg (by omega), if_pos rfl, if_pos rfl, hk]
        rfl
      · rw [if_neg c1, if_neg c1]
        split <;> omega)
    have e4 : HU s.1 s.2.1 N = rs (fun i => if s.2.1 i = 0 then pw (s.1 i) else 0) 0 N + rs (fun _ => (1 : Int)) N 8 := rfl
    have e6 : HU s.1 T0 N = rs (fun i => if T0 i = 0 then pw (s.1 i) else 0) 0 N + rs (fun _ => (1 : Int)) N 8 := rfl
    have e5 : HT s.1 s.2.1 a N = rs (fun i => if s.2.1 i = 0 then 0 else if i = a then 0 else pw (s.1 i)) 0 N := rfl
    rw [rs_inN ha] at e2
    show HU s.1 T0 N = _
    omega
  | k + 1, s, u, t, h', hJ, hk, h7, hu, ht, hp => by
    have hN := hJ.1.N
    have hl : ∀ i, 0 ≤ i → i < N → 0 ≤ s.1 i ∧ s.1 i ≤ 7 := fun i i1 i2 => ⟨hJ.2.1 i i1 i2, h7 i i1 i2⟩
    rcases pm_nd (l := s.1) (T := s.2.1) (by omega) hl hu with ⟨-, q⟩ | ⟨q1, q2, q3, q4⟩
    · exfalso
      have : pkN (k + 1) u t = none := if_pos q
      rw [this] at hp
      cases hp
    · have hp' : pkN k (u - 16 ^ pm u) (t + 16 ^ (pm u - 1)) = some h' := by
        have : pkN (k + 1) u t = pkN k (u - 16 ^ pm u) (t + 16 ^ (pm u - 1)) := if_neg (by omega)
        rw [← this]
        exact hp
      have hne : ndi s.1 s.2.1 N ≠ -1 := by omega
      obtain ⟨g1, g2, g3, g4⟩ := pk_ok hJ ha h32 hne
      generalize hB : ndi s.1 s.2.1 N = b at *
      have hpk : pk N a s = (lk1 s.1 a b, tk1 s.2.1 b, addc s.2.2 a b 1) := by
        unfold pk
        rw [hB]
      have hw1 : pw (s.1 b) = ((16 ^ pm u : Nat) : Int) := pw_nat q3
      have hw2 : pw (s.1 b - 1) = ((16 ^ (pm u - 1) : Nat) : Int) := pw_nat (by omega)
      have fa : lk1 s.1 a b a = (k : Int) := by
        unfold lk1
        rw [if_pos rfl, if_neg (fun q => g3 q.symm), hk]
        omega
      have fb : lk1 s.1 a b b = s.1 b - 1 := by
        unfold lk1
        rw [if_neg g3, if_pos rfl]
        omega
      have fi : ∀ i, i ≠ a → i ≠ b → lk1 s.1 a b i = s.1 i := fun i i1 i2 => by
        unfold lk1
        rw [if_neg i1, if_neg i2]
        omega
      have ti : ∀ i, i ≠ b → tk1 s.2.1 b i = s.2.1 i := fun i hi => if_neg hi
      have tb : tk1 s.2.1 b b = 1 := if_pos rfl
      have hTa := hJ.2.2.2.2.1
      have eU := rs_upd (f := fun i => if s.2.1 i = 0 then pw (s.1 i) else 0) (f' := fun i => if tk1 s.2.1 b i = 0 then pw (lk1 s.1 a b i) else 0) g2 (fun i _ _ hi => by
        rw [ti i hi]
        by_cases c1 : i = a
        · rw [c1, if_neg (by omega), if_neg (by omega)]
        · rw [fi i c1 hi])
      rw [tb, if_pos q2, if_neg (show ¬ ((1 : Int) = 0) by omega)] at eU
      have eT := rs_upd (f := fun i => if s.2.1 i = 0 then 0 else if i = a then 0 else pw (s.1 i)) (f' := fun i => if tk1 s.2.1 b i = 0 then 0 else if i = a then 0 else pw (lk1 s.1 a b i)) g2 (fun i _ _ hi => by
        rw [ti i hi]
        by_cases c1 : i = a
        · rw [if_pos c1, if_pos c1]
        · rw [fi i c1 hi])
      rw [tb, if_neg (show ¬ ((1 : Int) = 0) by omega), if_neg g3, if_neg g3, fb, if_pos q2] at eT
      have hu' : rs (fun i => if s.2.1 i = 0 then pw (s.1 i) else 0) 0 N + rs (fun _ => (1 : Int)) N 8 = (u : Int) := hu
      have hz := rs_z N
      have ht' : 1 + rs (fun i => if s.2.1 i = 0 then 0 else if i = a then 0 else pw (s.1 i)) 0 N = (t : Int) := ht
      have hu2 : HU (lk1 s.1 a b) (tk1 s.2.1 b) N = ((u - 16 ^ pm u : Nat) : Int) := by
        have n0 : 0 ≤ rs (fun i => if tk1 s.2.1 b i = 0 then pw (lk1 s.1 a b i) else 0) 0 N := rs_nn (fun i i1 i2 => by
          split
          · exact pw_nn _
          · exact Int.le_refl _)
        have e : HU (lk1 s.1 a b) (tk1 s.2.1 b) N = rs (fun i => if tk1 s.2.1 b i = 0 then pw (lk1 s.1 a b i) else 0) 0 N + rs (fun _ => (1 : Int)) N 8 := rfl
        omega
      have ht2 : 1 + HT (lk1 s.1 a b) (tk1 s.2.1 b) a N = ((t + 16 ^ (pm u - 1) : Nat) : Int) := by
        have e : HT (lk1 s.1 a b) (tk1 s.2.1 b) a N = rs (fun i => if s.2.1 i = 0 then 0 else if i = a then 0 else pw (s.1 i)) 0 N - 0 + pw (s.1 b - 1) := eT
        omega
      have ih := pkN_ok ha h32 k (lk1 s.1 a b, tk1 s.2.1 b, addc s.2.2 a b 1) _ _ h' (hpk ▸ g1) fa (fun i i1 i2 => Int.le_trans (lk1_le s.1 a b i) (h7 i i1 i2)) hu2 ht2 hp'
      refine ⟨⟨?_, ?_⟩, ?_⟩
      · rw [hB]
        exact hne
      · rw [hpk]
        exact ih.1
      · show HU (pks N a k (pk N a s)).1 T0 N = _
        rw [hpk]
        exact ih.2
theorem gs2 {N S0 : Int} (h32 : S0 ≤ 32) : ∀ (k : Nat) (l : Int → Int) (c : Int → Int → Int) (h : Nat), JJ N S0 l c → (∀ i, 0 ≤ i → i < N → l i ≤ 7) → HU l T0 N = (h : Int) → rnN k h = true → GS N 2 k l c
  | 0, l, c, h, hJ, h7, hu, hr => by
    have hN := hJ.1.N
    rcases pm_nd (l := l) (T := T0) (by omega) (fun i i1 i2 => ⟨hJ.2.1 i i1 i2, h7 i i1 i2⟩) hu with ⟨q, -⟩ | ⟨q1, q2, q3, q4⟩
    · exact q
    · have : pm h = 0 := by
        have e : (pm h == 0) = true := hr
        exact eq_of_beq e
      omega
  | k + 1, l, c, h, hJ, h7, hu, hr => by
    have hN := hJ.1.N
    rcases pm_nd (l := l) (T := T0) (by omega) (fun i i1 i2 => ⟨hJ.2.1 i i1 i2, h7 i i1 i2⟩) hu with ⟨q, -⟩ | ⟨q1, q2, q3, q4⟩
    · exact Or.inl q
    · have hne : ndi l T0 N ≠ -1 := by omega
      obtain ⟨g1, g2, g3⟩ := hJ.ji (md := 2) (Or.inr rfl) hne
      have ec : cnt 2 l (ndi l T0 N) = pm h := by
        unfold cnt
        rw [if_neg (by omega)]
        omega
      have e0 : rnN (k + 1) h = match pkN (pm h) (h - 16 ^ pm h) 1 with
        | none => false
        | some h' => rnN k h' := if_neg (by omega)
      rw [e0] at hr
      cases hpk : pkN (pm h) (h - 16 ^ pm h) 1 with
      | none =>
        rw [hpk] at hr
        cases hr
      | some h' =>
        rw [hpk] at hr
        have hr' : rnN k h' = true := hr
        have hw1 : pw (l (ndi l T0 N)) = ((16 ^ pm h : Nat) : Int) := pw_nat q3
        rw [ec] at g3
        have eU := rs_upd (f := fun i => if T0 i = 0 then pw (l i) else 0) (f' := fun i => if tk1 T0 (ndi l T0 N) i = 0 then pw (l i) else 0) g1 (fun i _ _ hi => by
          rw [show tk1 T0 (ndi l T0 N) i = T0 i from if_neg hi])
        rw [show tk1 T0 (ndi l T0 N) (ndi l T0 N) = 1 from if_pos rfl, if_pos q2, if_neg (show ¬ ((1 : Int) = 0) by omega)] at eU
        have hu1 : HU l (tk1 T0 (ndi l T0 N)) N = ((h - 16 ^ pm h : Nat) : Int) := by
          have hz := rs_z N
          have n0 : 0 ≤ rs (fun i => if tk1 T0 (ndi l T0 N) i = 0 then pw (l i) else 0) 0 N := rs_nn (fun i i1 i2 => by
            split
            · exact pw_nn _
            · exact Int.le_refl _)
          have e : HU l (tk1 T0 (ndi l T0 N)) N = rs (fun i => if tk1 T0 (ndi l T0 N) i = 0 then pw (l i) else 0) 0 N + rs (fun _ => (1 : Int)) N 8 := rfl
          have e' : rs (fun i => if T0 i = 0 then pw (l i) else 0) 0 N + rs (fun _ => (1 : Int)) N 8 = (h : Int) := hu
          omega
        have ht1 : 1 + HT l (tk1 T0 (ndi l T0 N)) (ndi l T0 N) N = ((1 : Nat) : Int) := by
          have : HT l (tk1 T0 (ndi l T0 N)) (ndi l T0 N) N = 0 := rs_zero (fun i i1 i2 => by
            by_cases c1 : i = ndi l T0 N
            · rw [if_neg (by rw [show tk1 T0 (ndi l T0 N) i = 1 from if_pos c1]; omega), if_pos c1]
            · exact if_pos (if_neg c1))
          omega
        obtain ⟨r1, r2⟩ := pkN_ok g1 h32 (pm h) (l, tk1 T0 (ndi l T0 N), c) _ _ h' g3 q3.symm h7 hu1 ht1 hpk
        have r1' : PS N (ndi l T0 N) (cnt 2 l (ndi l T0 N)) (l, tk1 T0 (ndi l T0 N), c) := by
          rw [ec]
          exact r1
        have hnx := hJ.next h32 (Or.inr rfl) hne r1'
        refine Or.inr ⟨hne, r1', gs2 h32 k _ _ h' hnx (fun i i1 i2 => ?_) ?_ hr'⟩
        · have := pks_le (N := N) (a := ndi l T0 N) (cnt 2 l (ndi l T0 N)) (l, tk1 T0 (ndi l T0 N), c) i
          exact Int.le_trans this (h7 i i1 i2)
        · show HU (rnd N 2 l c).1 T0 N = _
          unfold rnd
          rw [ec]
          exact r2
