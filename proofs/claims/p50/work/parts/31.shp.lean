/-! THE STATE OF NUMBERS behind the constructors: what each address holds; a number for each field and place -/
abbrev qMu : Type := Nat → Int → Int32
abbrev qSh : Type := Nat × Nat × Nat × List (Option Nat)
def qShp_0 : List qSh := [(0, 8, 0, [some 1, some 11, some 13, some 15, some 17, some 19, some 22, some 26, some 28, some 32, some 76, none]), (0, 4, 0, [some 2, some 3, some 5, some 7, none, none, none, none, none, none, none, none, none]), (1, 1, 400, []), (0, 0, 0, [some 4, none, none]), (1, 0, 64, []), (0, 0, 0, [some 6, none, none]), (1, 0, 64, []), (0, 5, 0, [some 8, some 9, some 10, none, none]), (1, 0, 8, []), (1, 0, 8, []), (1, 0, 8, []), (0, 0, 0, [some 12, none, none]), (1, 0, 64, []), (0, 0, 0, [some 14, none, none]), (1, 0, 64, []), (0, 0, 0, [some 16, none, none]), (1, 0, 64, []), (0, 0, 0, [some 18, none, none]), (1, 0, 64, []), (0, 3, 0, [some 20, some 21, none]), (1, 0, 8, []), (1, 0, 8, []), (0, 5, 0, [some 23, some 24, some 25, none, none]), (1, 0, 8, []), (1, 0, 8, []), (1, 0, 8, []), (0, 6, 0, [some 27, none]), (1, 0, 1024, []), (0, 7, 0, [some 29, some 30, none]), (1, 0, 16, []), (0, 0, 0, [some 31, none, none])]
def qShp_1 : List qSh := [(1, 0, 64, []), (0, 1, 0, [some 33, some 34, some 35, none, none]), (2, 5, 10, [some 36, some 40, some 44, some 48, some 52, some 56, some 60, some 64, some 68, some 72]), (2, 5, 10, [some 38, some 42, some 46, some 50, some 54, some 58, some 62, some 66, some 70, some 74]), (1, 0, 10, []), (0, 0, 0, [some 37, none, none]), (1, 0, 64, []), (0, 0, 0, [some 39, none, none]), (1, 0, 64, []), (0, 0, 0, [some 41, none, none]), (1, 0, 64, []), (0, 0, 0, [some 43, none, none]), (1, 0, 64, []), (0, 0, 0, [some 45, none, none]), (1, 0, 64, []), (0, 0, 0, [some 47, none, none]), (1, 0, 64, []), (0, 0, 0, [some 49, none, none]), (1, 0, 64, []), (0, 0, 0, [some 51, none, none]), (1, 0, 64, []), (0, 0, 0, [some 53, none, none]), (1, 0, 64, []), (0, 0, 0, [some 55, none, none]), (1, 0, 64, []), (0, 0, 0, [some 57, none, none]), (1, 0, 64, []), (0, 0, 0, [some 59, none, none]), (1, 0, 64, []), (0, 0, 0, [some 61, none, none]), (1, 0, 64, [])]
def qShp_2 : List qSh := [(0, 0, 0, [some 63, none, none]), (1, 0, 64, []), (0, 0, 0, [some 65, none, none]), (1, 0, 64, []), (0, 0, 0, [some 67, none, none]), (1, 0, 64, []), (0, 0, 0, [some 69, none, none]), (1, 0, 64, []), (0, 0, 0, [some 71, none, none]), (1, 0, 64, []), (0, 0, 0, [some 73, none, none]), (1, 0, 64, []), (0, 0, 0, [some 75, none, none]), (1, 0, 64, []), (0, 2, 0, [some 77, none]), (1, 2, 64, []), (0, 9, 0, [some 1001000, none, none, none, some 80]), (1, 0, 0, []), (2, 4, 6, [some 81, some 82, some 83, some 84, some 85, some 86]), (1, 0, 6, []), (1, 0, 6, []), (1, 0, 6, []), (1, 0, 6, []), (1, 0, 6, []), (1, 0, 6, [])]
def qShp : List qSh := qShp_0 ++ (qShp_1 ++ (qShp_2))
def rd (μ : qMu) (a : Nat) (i : Int) : Int := (μ a i).toInt
def up (μ : qMu) (a : Nat) (i : Int) (v : Int) : qMu := fun b => if b = a then (fun j => if j = i then Int32.ofInt v else μ a j) else μ b
def qFl (μ : qMu) (a : Nat) (fl : List (Option Nat)) : List Value := fl.mapIdx (fun k e => match e with
  | some b => Value.ref b
  | none => Value.int (μ a (k : Int)))
def qCl (μ : qMu) (a : Nat) (q : qSh) : qMC := match q with
  | (0, c, _, fl) => .inl (c, qFl μ a fl)
  | (1, t, n, _) => .inr (t, n, .inl (fun j => μ a (j : Int)))
  | (2, t, n, fl) => .inr (t, n, .inr (.inr (.inr (.inr (fun j => fl.getD j none)))))
  | (_, t, n, _) => .inr (t, n, .inr (.inl (fun j => (μ a (j : Int)).toInt64)))
/-- what is made while the law runs: cells from 87 on; their kinds, lengths and references stand at 2000000 and on -/
def qJn (μ : qMu) : Nat := (μ 2000000 0).toNatClampNeg
def qJs (μ : qMu) : Nat := (μ 2000000 1).toNatClampNeg
def qJk (μ : qMu) (a : Nat) : Nat := (μ (2000000 + a) 0).toNatClampNeg
def qJl (μ : qMu) (a : Nat) : Nat := (μ (2000000 + a) 1).toNatClampNeg
def qJf (μ : qMu) (a : Nat) : List Value := [.int (μ a 1), .int (μ a 2), .int (μ a 3)]
def qJc (μ : qMu) (a : Nat) : qMC := match qJk μ a with
  | 0 => .inr (0, qJl μ a, .inl (fun j => μ a (j : Int)))
  | 1 => .inr (1, qJl μ a, .inl (fun j => μ a (j : Int)))
  | 2 => .inl (10, .ref (qJl μ a) :: qJf μ a)
  | 3 => .inl (11, .ref (qJl μ a) :: qJf μ a)
  | 4 => .inl (10, .null :: qJf μ a)
  | _ => .inl (11, .null :: qJf μ a)
def cH (Ls : Nat) (μ : qMu) : qHp := fun a => if a = 1001000 then .inr (0, Ls, .inl (fun j => μ 1001000 (j : Int))) else match qShp[a]? with
  | some q => qCl μ a q
  | none => if a < 2000 then qJc μ a else .inr (9, 0, .inl (fun _ => 0))
def cS (Ls t : Nat) (μ : qMu) : qSt := (87 + qJn μ, t, 3504 + qJs μ + 6 * t, cH Ls μ)
def gG (g : Nat) : Prop := qShp[g]? = some (0, 0, 0, [some (g + 1), none, none]) ∧ qShp[g + 1]? = some (1, 0, 64, [])
def gS (q : Nat) : Prop := qShp[q]? = some (0, 5, 0, [some (q + 1), some (q + 2), some (q + 3), none, none]) ∧ qShp[q + 1]? = some (1, 0, 8, []) ∧ qShp[q + 2]? = some (1, 0, 8, []) ∧ qShp[q + 3]? = some (1, 0, 8, [])
theorem qShp_len : qShp.length = 87 := rfl
theorem qShp_lt {a : Nat} {q : qSh} (h : qShp[a]? = some q) : a < 87 := by
  have := (List.getElem?_eq_some_iff.mp h).1
  rwa [qShp_len] at this
theorem qShp_pm {a : Nat} {q : qSh} {μ : qMu} (h : qShp[a]? = some q) : qPm a < 87 + qJn μ := by
  have h1 : qShp.length = 87 := rfl
  have := (List.getElem?_eq_some_iff.mp h).1
  have := qPm_lo (a := a) (by omega)
  omega
theorem qShp_ok : qShp.all (fun q => decide (q.2.2.1 ≤ 5000) && (decide (q.1 ≠ 2) || decide (q.2.2.1 = q.2.2.2.length))) = true := by decide +kernel
theorem qShp_n {a : Nat} {q : qSh} (h : qShp[a]? = some q) : q.2.2.1 ≤ 5000 := by
  have := List.all_eq_true.mp qShp_ok q (List.mem_of_getElem? h)
  simp only [Bool.and_eq_true, decide_eq_true_eq] at this
  exact this.1
theorem qShp_r {a t n : Nat} {fl : List (Option Nat)} (h : qShp[a]? = some (2, t, n, fl)) : n = fl.length := by
  have := List.all_eq_true.mp qShp_ok _ (List.mem_of_getElem? h)
  simp only [Bool.and_eq_true, Bool.or_eq_true, decide_eq_true_eq] at this
  rcases this.2 with h | h
  · exact absurd rfl h
  · exact h
theorem cH_at {Ls a : Nat} {μ : qMu} {q : qSh} (h : qShp[a]? = some q) : cH Ls μ a = qCl μ a q := by
  have := qShp_lt h
  unfold cH
  rw [if_neg (by omega), h]
theorem up_ne {μ : qMu} {a b : Nat} {i v : Int} (h : b ≠ a) : up μ a i v b = μ b := by
  unfold up
  rw [if_neg h]
theorem up_at {μ : qMu} {a : Nat} {i v : Int} : up μ a i v a = fun j => if j = i then Int32.ofInt v else μ a j := by
  unfold up
  try rw [if_pos rfl]
theorem qCl_cg {μ1 μ2 : qMu} {a : Nat} {q : qSh} (h : μ1 a = μ2 a) : qCl μ1 a q = qCl μ2 a q := by
  unfold qCl qFl
  rw [h]
theorem qJc_cg {μ1 μ2 : qMu} {a : Nat} (h : μ1 a = μ2 a) (h2 : μ1 (2000000 + a) = μ2 (2000000 + a)) : qJc μ1 a = qJc μ2 a := by
  unfold qJc qJk qJl qJf
  rw [h, h2]
/-- two heaps that differ in one cell alone -/
theorem cH_at1 {Ls a : Nat} {μ μ1 : qMu} {c : qMC} (ha : a < 2000) (h1 : ∀ b : Nat, b ≠ a → b ≠ 2000000 + a → b ≠ 2000000 → μ1 b = μ b) (hc : c = cH Ls μ1 a) : qup (cH Ls μ) a c = cH Ls μ1 := by
  funext b
  unfold qup
  by_cases hb : b = a
  · subst hb
    rw [if_pos rfl, hc]
  · rw [if_neg hb]
    unfold cH
    by_cases h2 : b = 1001000
    · rw [if_pos h2, if_pos h2, h1 1001000 (by omega) (by omega) (by omega)]
    · rw [if_neg h2, if_neg h2]
      split
      · rename_i q hq
        have := qShp_lt hq
        exact qCl_cg (h1 b hb (by omega) (by omega)).symm
      · rename_i hq
        have hge : 87 ≤ b := List.getElem?_eq_none_iff.mp hq
        by_cases h3 : b < 2000
        · rw [if_pos h3, if_pos h3]
          exact qJc_cg (h1 b hb (by omega) (by omega)).symm (h1 (2000000 + b) (by omega) (by omega) (by omega)).symm
        · rw [if_neg h3, if_neg h3]
/-- one cell written -/
theorem cH_put {Ls a t : Nat} {μ : qMu} {i v : Int} {q : qSh} {c : qMC} (h : qShp[a]? = some q) (hc : c = qCl (up μ a i v) a q) : qput (cS Ls t μ) a c = cS Ls t (up μ a i v) := by
  have hlt := qShp_lt h
  have e := cH_at1 (Ls := Ls) (a := a) (μ := μ) (μ1 := up μ a i v) (c := c) (by omega) (fun b hb _ _ => up_ne hb) (by rw [cH_at h]; exact hc)
  have e2 : up μ a i v 2000000 = μ 2000000 := up_ne (by omega)
  unfold qput cS
  show (87 + qJn μ, t, 3504 + qJs μ + 6 * t, qup (cH Ls μ) a c) = _
  rw [e]
  unfold qJn qJs
  rw [e2]
theorem cS_ob {Ls t a c n : Nat} {μ : qMu} {fl : List (Option Nat)} (h : qShp[a]? = some (0, c, n, fl)) : qob (cS Ls t μ) a c = some (qFl μ a fl) := by
  unfold qob
  show (match cH Ls μ a with
    | .inl (c', fs) => if c' = c ∧ qPm a < 87 + qJn μ then some fs else none
    | _ => none) = _
  rw [cH_at h]
  show (if c = c ∧ qPm a < 87 + qJn μ then some (qFl μ a fl) else none) = _
  rw [if_pos ⟨rfl, qShp_pm h⟩]
theorem cS_cls {Ls t a c n : Nat} {μ : qMu} {fl : List (Option Nat)} (h : qShp[a]? = some (0, c, n, fl)) : qcls (cS Ls t μ) a = some c := by
  unfold qcls
  show (match cH Ls μ a with
    | .inl (c', _) => if qPm a < 87 + qJn μ then some c' else none
    | _ => none) = _
  rw [cH_at h]
  show (if qPm a < 87 + qJn μ then some c else none) = _
  rw [if_pos (qShp_pm h)]
theorem cS_ai {Ls t a ty n : Nat} {μ : qMu} {fl : List (Option Nat)} (h : qShp[a]? = some (1, ty, n, fl)) (ty' : Nat) : qai (cS Ls t μ) a ty' = if ty = ty' then some (n, fun j : Nat => μ a (j : Int)) else none := by
  unfold qai
  show (match cH Ls μ a with
    | .inr (t', n, .inl f) => if t' = ty' ∧ (qPm a < 87 + qJn μ ∨ a = 1001000) then some (n, f) else none
    | _ => none) = _
  rw [cH_at h]
  show (if ty = ty' ∧ (qPm a < 87 + qJn μ ∨ a = 1001000) then some (n, fun j : Nat => μ a (j : Int)) else none) = _
  by_cases hh : ty = ty'
  · rw [if_pos hh, if_pos ⟨hh, Or.inl (qShp_pm h)⟩]
  · rw [if_neg hh, if_neg (fun q => hh q.1)]
theorem qFl_at {μ : qMu} {a k : Nat} {fl : List (Option Nat)} : (qFl μ a fl)[k]? = (fl[k]?).map (fun e => match e with
  | some b => Value.ref b
  | none => Value.int (μ a (k : Int))) := by
  unfold qFl
  rw [List.getElem?_mapIdx]
theorem iv_rd {μ : qMu} {a : Nat} {i : Int} : iv (rd μ a i) = .int (μ a i) := iv_to _
/-- the place of an array -/
def qLd (μ : qMu) (a n : Nat) (i : Int) : Option Int := if 0 ≤ i ∧ i < (n : Int) then some (rd μ a i) else none
def qSa (μ : qMu) (a n : Nat) (i v : Int) : Option qMu := if 0 ≤ i ∧ i < (n : Int) then some (up μ a i v) else none
def qPf (μ : qMu) (a : Nat) (i v : Int) : Option qMu := some (up μ a i v)
def qNr (ty : FieldType) (v : Int) : Int := (vp_nar ty (Int32.ofInt v)).toInt
def qLa (fl : List (Option Nat)) (i : Int) : Option Nat := if 0 ≤ i then (fl.getD i.toNat none) else none
theorem qin {n : Nat} {i : Int} (hn : n ≤ 5000) (h : 0 ≤ i ∧ i < (n : Int)) : (Int32.ofInt i).toNatClampNeg = i.toNat ∧ ¬ (Int32.ofInt i < 0 ∨ n ≤ (Int32.ofInt i).toNatClampNeg) ∧ ((i.toNat : Nat) : Int) = i := by
  have e1 : (Int32.ofInt i).toNatClampNeg = i.toNat := Int32.toNatClampNeg_ofInt_of_le (by omega) (by omega)
  refine ⟨e1, ?_, by omega⟩
  rintro (q | q)
  · have : (Int32.ofInt i).toInt < (0 : Int32).toInt := Int32.lt_iff_toInt_lt.mp q
    rw [Int32.toInt_ofInt_of_le (by omega) (by omega)] at this
    have e0 : (0 : Int32).toInt = 0 := rfl
    omega
  · rw [e1] at q
    omega
section EVH
variable {d : Nat} {M : qM} {pc pc' : Nat} {L : qLo} {st : List Value} {o : qO} {s' : qSt} {Ls t : Nat} {μ μ1 : qMu}
theorem ev_getr {i ci k a n b : Nat} {fl : List (Option Nat)} (hd : decode M.2.2.1 pc = .ok (.getfield i, 3)) (hp : pc + 3 = pc') (hf : qTf M.1 i = some (ci, k)) (ha : qShp[a]? = some (0, ci, n, fl)) (hk : fl[k]? = some (some b)) (kk : Ev d M pc' L (.ref b :: st) (cS Ls t μ) o s') : Ev d M pc L (.ref a :: st) (cS Ls t μ) o s' := by
  subst hp
  refine ev_pu hd (fun L' => ?_) kk
  dsimp only [qStep]
  try rw [if_pos rfl]
  try dsimp only
  rw [hf]
  try dsimp only
  rw [cS_ob ha]
  try dsimp only
  rw [qFl_at, hk]
  rfl
theorem ev_geti {i ci k a n : Nat} {ki : Int} {fl : List (Option Nat)} (hd : decode M.2.2.1 pc = .ok (.getfield i, 3)) (hp : pc + 3 = pc') (hf : qTf M.1 i = some (ci, k)) (ha : qShp[a]? = some (0, ci, n, fl)) (hk : fl[k]? = some none) (hki : (k : Int) = ki) (kk : Ev d M pc' L (iv (rd μ a ki) :: st) (cS Ls t μ) o s') : Ev d M pc L (.ref a :: st) (cS Ls t μ) o s' := by
  subst hp hki
  refine ev_pu hd (fun L' => ?_) kk
  rw [iv_rd]
  dsimp only [qStep]
  try rw [if_pos rfl]
  try dsimp only
  rw [hf]
  try dsimp only
  rw [cS_ob ha]
  try dsimp only
  rw [qFl_at, hk]
  rfl
theorem qFl_set {a k : Nat} {fl : List (Option Nat)} {v : Int} (hk : fl[k]? = some none) : (qFl μ a fl).set k (iv v) = qFl (up μ a (k : Int) v) a fl := by
  apply List.ext_getElem?
  intro j
  rw [List.getElem?_set]
  have hlen : (qFl μ a fl).length = fl.length := by unfold qFl; rw [List.length_mapIdx]
  have hkl : k < fl.length := (List.getElem?_eq_some_iff.mp hk).1
  rw [hlen]
  by_cases hkj : k = j
  · subst hkj
    try try rw [if_pos rfl]
    rw [if_pos hkl, qFl_at, hk, up_at]
    show some (iv v) = some (Value.int (if (k : Int) = (k : Int) then Int32.ofInt v else _))
    try rw [if_pos rfl]
    rfl
  · rw [if_neg hkj, qFl_at, qFl_at, up_at]
    congr 1
    funext e
    cases e with
    | some b => rfl
    | none =>
      show Value.int _ = Value.int (if (j : Int) = (k : Int) then _ else _)
      rw [if_neg (by omega)]
theorem ev_puti {i ci k a n : Nat} {v : Int} {fl : List (Option Nat)} (hd : decode M.2.2.1 pc = .ok (.putfield i, 3)) (hp : pc + 3 = pc') (hf : qTf M.1 i = some (ci, k)) (ha : qShp[a]? = some (0, ci, n, fl)) (hk : fl[k]? = some none) (hy : qty ci k = .int) (hw : qwr M ci k = true) {ki : Int} (hki : (k : Int) = ki) (hx : qPf μ a ki v = some μ1) (kk : Ev d M pc' L st (cS Ls t μ1) o s') : Ev d M pc L (iv v :: .ref a :: st) (cS Ls t μ) o s' := by
  subst hp hki
  cases hx
  refine ev_pu hd (fun L' => ?_) kk
  have hlen : (qFl μ a fl).length = fl.length := by unfold qFl; rw [List.length_mapIdx]
  have hkl : k < fl.length := (List.getElem?_eq_some_iff.mp hk).1
  dsimp only [qStep]
  try rw [if_pos rfl]
  try dsimp only
  rw [hf]
  try dsimp only
  rw [cS_ob ha]
  try dsimp only
  rw [if_pos ⟨by rw [hy]; rfl, by rw [hy]; rfl, by rw [hlen]; exact hkl, hw⟩, qFl_set hk, cH_put (c := Sum.inl (ci, qFl (up μ a (k : Int) v) a fl)) (i := (k : Int)) (v := v) ha rfl]
  rfl
theorem ev_iald {a n : Nat} {i x : Int} {fl : List (Option Nat)} (hd : decode M.2.2.1 pc = .ok (.iaload, 1)) (hp : pc + 1 = pc') (ha : qShp[a]? = some (1, 0, n, fl)) (hx : qLd μ a n i = some x) (kk : Ev d M pc' L (iv x :: st) (cS Ls t μ) o s') : Ev d M pc L (iv i :: .ref a :: st) (cS Ls t μ) o s' := by
  subst hp
  unfold qLd at hx
  split at hx
  · rename_i h0
    cases hx
    obtain ⟨e1, e2, e3⟩ := qin (qShp_n ha) h0
    refine ev_pu hd (fun L' => ?_) kk
    rw [iv_rd]
    unfold iv
    dsimp only [qStep]
    try rw [if_pos rfl]
    try dsimp only
    rw [cS_ai ha, if_pos rfl]
    try dsimp only
    rw [if_neg e2, e1, e3]
    rfl
  · cases hx
theorem ev_bald1 {a n : Nat} {i x : Int} {fl : List (Option Nat)} (hd : decode M.2.2.1 pc = .ok (.baload, 1)) (hp : pc + 1 = pc') (ha : qShp[a]? = some (1, 1, n, fl)) (hx : qLd μ a n i = some x) (kk : Ev d M pc' L (iv x :: st) (cS Ls t μ) o s') : Ev d M pc L (iv i :: .ref a :: st) (cS Ls t μ) o s' := by
  subst hp
  unfold qLd at hx
  split at hx
  · rename_i h0
    cases hx
    obtain ⟨e1, e2, e3⟩ := qin (qShp_n ha) h0
    refine ev_pu hd (fun L' => ?_) kk
    rw [iv_rd]
    unfold iv
    dsimp only [qStep]
    try rw [if_pos rfl]
    try dsimp only
    rw [show qby (cS Ls t μ) a = some (n, fun j : Nat => μ a (j : Int)) by unfold qby; rw [cS_ai ha, if_pos rfl]]
    try dsimp only
    rw [if_neg e2, e1, e3]
    rfl
  · cases hx
theorem ev_cald {a n : Nat} {i x : Int} {fl : List (Option Nat)} (hd : decode M.2.2.1 pc = .ok (.caload, 1)) (hp : pc + 1 = pc') (ha : qShp[a]? = some (1, 2, n, fl)) (hx : qLd μ a n i = some x) (kk : Ev d M pc' L (iv x :: st) (cS Ls t μ) o s') : Ev d M pc L (iv i :: .ref a :: st) (cS Ls t μ) o s' := by
  subst hp
  unfold qLd at hx
  split at hx
  · rename_i h0
    cases hx
    obtain ⟨e1, e2, e3⟩ := qin (qShp_n ha) h0
    refine ev_pu hd (fun L' => ?_) kk
    rw [iv_rd]
    unfold iv
    dsimp only [qStep]
    try rw [if_pos rfl]
    try dsimp only
    rw [cS_ai ha, if_pos rfl]
    try dsimp only
    rw [if_neg e2, e1, e3]
    rfl
  · cases hx
theorem qCl_st {a ty n : Nat} {i v : Int} {fl : List (Option Nat)} (h0 : 0 ≤ i) : (Sum.inr (ty, n, .inl (upd (fun j : Nat => μ a (j : Int)) i.toNat (Int32.ofInt v))) : qMC) = qCl (up μ a i v) a (1, ty, n, fl) := by
  show _ = Sum.inr (ty, n, Sum.inl (fun j : Nat => up μ a i v a (j : Int)))
  congr 4
  funext j
  rw [up_at]
  unfold upd
  by_cases hj : j = i.toNat
  · rw [if_pos hj]
    show Int32.ofInt v = (if (j : Int) = i then Int32.ofInt v else μ a (j : Int))
    rw [if_pos (by omega)]
  · rw [if_neg hj]
    show μ a (j : Int) = (if (j : Int) = i then Int32.ofInt v else μ a (j : Int))
    rw [if_neg (by omega)]
theorem ev_iast {a n : Nat} {i v : Int} {fl : List (Option Nat)} (hd : decode M.2.2.1 pc = .ok (.iastore, 1)) (hp : pc + 1 = pc') (ha : qShp[a]? = some (1, 0, n, fl)) (hx : qSa μ a n i v = some μ1) (kk : Ev d M pc' L st (cS Ls t μ1) o s') : Ev d M pc L (iv v :: iv i :: .ref a :: st) (cS Ls t μ) o s' := by
  subst hp
  unfold qSa at hx
  split at hx
  · rename_i h0
    cases hx
    obtain ⟨e1, e2, e3⟩ := qin (qShp_n ha) h0
    have hlt := qShp_pm (μ := μ) ha
    refine ev_pu hd (fun L' => ?_) kk
    unfold iv
    dsimp only [qStep]
    try rw [if_pos rfl]
    try dsimp only
    rw [cS_ai ha, if_pos rfl]
    try dsimp only
    rw [if_neg (by rintro (q | q); · exact e2 q
                   · exact q hlt), e1, cH_put ha (qCl_st (fl := fl) h0.1)]
    rfl
  · cases hx
theorem ev_bast1 {a n : Nat} {i v : Int} {fl : List (Option Nat)} (hd : decode M.2.2.1 pc = .ok (.bastore, 1)) (hp : pc + 1 = pc') (ha : qShp[a]? = some (1, 1, n, fl)) (hx : qSa μ a n i (qNr .byte v) = some μ1) (kk : Ev d M pc' L st (cS Ls t μ1) o s') : Ev d M pc L (iv v :: iv i :: .ref a :: st) (cS Ls t μ) o s' := by
  subst hp
  unfold qSa at hx
  split at hx
  · rename_i h0
    cases hx
    obtain ⟨e1, e2, e3⟩ := qin (qShp_n ha) h0
    have hlt := qShp_pm (μ := μ) ha
    refine ev_pu hd (fun L' => ?_) kk
    unfold iv
    dsimp only [qStep]
    try rw [if_pos rfl]
    try dsimp only
    rw [cS_ai ha, if_pos rfl]
    try dsimp only
    rw [if_neg (by rintro (q | q); · exact e2 q
                   · exact q hlt), e1, show vp_nar .byte (Int32.ofInt v) = Int32.ofInt (qNr .byte v) by unfold qNr; rw [Int32.ofInt_toInt], cH_put ha (qCl_st (fl := fl) h0.1)]
    rfl
  · cases hx
theorem ev_cast {a n : Nat} {i v : Int} {fl : List (Option Nat)} (hd : decode M.2.2.1 pc = .ok (.castore, 1)) (hp : pc + 1 = pc') (ha : qShp[a]? = some (1, 2, n, fl)) (hx : qSa μ a n i (qNr .char v) = some μ1) (kk : Ev d M pc' L st (cS Ls t μ1) o s') : Ev d M pc L (iv v :: iv i :: .ref a :: st) (cS Ls t μ) o s' := by
  subst hp
  unfold qSa at hx
  split at hx
  · rename_i h0
    cases hx
    obtain ⟨e1, e2, e3⟩ := qin (qShp_n ha) h0
    have hlt := qShp_pm (μ := μ) ha
    refine ev_pu hd (fun L' => ?_) kk
    unfold iv
    dsimp only [qStep]
    try rw [if_pos rfl]
    try dsimp only
    rw [cS_ai ha, if_pos rfl]
    try dsimp only
    rw [if_neg (by rintro (q | q); · exact e2 q
                   · exact q hlt), e1, show vp_nar .char (Int32.ofInt v) = Int32.ofInt (qNr .char v) by unfold qNr; rw [Int32.ofInt_toInt], cH_put ha (qCl_st (fl := fl) h0.1)]
    rfl
  · cases hx
theorem cS_aq {a ty n : Nat} {fl : List (Option Nat)} (ha : qShp[a]? = some (2, ty, n, fl)) (k : Nat) : qaq (cS Ls t μ) a k = if ty = k then some (n, fun j => fl.getD j none) else none := by
  unfold qaq
  show (match cH Ls μ a with
    | .inr (t', n, .inr (.inr (.inr (.inr f)))) => if t' = k ∧ qPm a < 87 + qJn μ then some (n, f) else none
    | _ => none) = _
  rw [cH_at ha]
  show (if ty = k ∧ qPm a < 87 + qJn μ then some (n, fun j : Nat => fl.getD j none) else none) = _
  by_cases h : ty = k
  · rw [if_pos h, if_pos ⟨h, qShp_pm ha⟩]
  · rw [if_neg h, if_neg (fun q => h q.1)]
theorem ev_aald {a ty n b : Nat} {i : Int} {fl : List (Option Nat)} (hty : ty = 5 ∨ ty = 4) (hd : decode M.2.2.1 pc = .ok (.aaload, 1)) (hp : pc + 1 = pc') (ha : qShp[a]? = some (2, ty, n, fl)) (hx : qLa fl i = some b) (kk : Ev d M pc' L (.ref b :: st) (cS Ls t μ) o s') : Ev d M pc L (iv i :: .ref a :: st) (cS Ls t μ) o s' := by
  subst hp
  unfold qLa at hx
  split at hx
  · rename_i h0
    have hn := qShp_r ha
    have hlt := qShp_lt ha
    have hil : i.toNat < fl.length := by
      rw [List.getD_eq_getElem?_getD] at hx
      by_cases h : i.toNat < fl.length
      · exact h
      · rw [List.getElem?_eq_none (by omega)] at hx
        cases hx
    have h00 : 0 ≤ i ∧ i < (n : Int) := ⟨h0, by omega⟩
    obtain ⟨e1, e2, e3⟩ := qin (qShp_n ha) h00
    refine ev_pu hd (fun L' => ?_) kk
    unfold iv
    dsimp only [qStep]
    try rw [if_pos rfl]
    try dsimp only
    rcases hty with rfl | rfl
    · rw [cS_aq ha, if_pos rfl]
      try dsimp only
      rw [if_neg e2, e1, hx]
      rfl
    · rw [cS_aq ha, if_neg (by decide), cS_aq ha, if_pos rfl]
      try dsimp only
      rw [if_neg e2, e1, hx]
      rfl
  · cases hx
theorem ev_alen {a ty n : Nat} {fl : List (Option Nat)} (hd : decode M.2.2.1 pc = .ok (.arraylength, 1)) (hp : pc + 1 = pc') (ha : qShp[a]? = some (1, ty, n, fl)) (hty : ty = 0 ∨ ty = 2) (kk : Ev d M pc' L (iv (n : Int) :: st) (cS Ls t μ) o s') : Ev d M pc L (.ref a :: st) (cS Ls t μ) o s' := by
  subst hp
  refine ev_pu hd (fun L' => ?_) kk
  unfold iv
  dsimp only [qStep]
  try rw [if_pos rfl]
  try dsimp only
  rw [Int32.ofInt_eq_ofNat]
  rcases hty with rfl | rfl
  · rw [cS_ai ha, if_pos rfl]
    rfl
  · rw [cS_ai ha 0, if_neg (by decide), cS_ai ha 2, if_pos rfl]
    rfl
/-! the script -/
theorem cS_scr : qai (cS Ls t μ) 1001000 0 = some (Ls, fun j : Nat => μ 1001000 (j : Int)) := by
  unfold qai
  show (match cH Ls μ 1001000 with
    | .inr (t', n, .inl f) => if t' = 0 ∧ (qPm 1001000 < 87 + qJn μ ∨ 1001000 = 1001000) then some (n, f) else none
    | _ => none) = _
  unfold cH
  try rw [if_pos rfl]
  show (if 0 = 0 ∧ (qPm 1001000 < 87 + qJn μ ∨ 1001000 = 1001000) then some (Ls, fun j : Nat => μ 1001000 (j : Int)) else none) = _
  rw [if_pos ⟨rfl, Or.inr rfl⟩]
theorem ev_slen0 (hd : decode M.2.2.1 pc = .ok (.arraylength, 1)) (hp : pc + 1 = pc') (kk : Ev d M pc' L (iv (Ls : Int) :: st) (cS Ls t μ) o s') : Ev d M pc L (.ref 1001000 :: st) (cS Ls t μ) o s' := by
  subst hp
  refine ev_pu hd (fun L' => ?_) kk
  unfold iv
  dsimp only [qStep]
  try rw [if_pos rfl]
  try dsimp only
  rw [Int32.ofInt_eq_ofNat, cS_scr]
  rfl
theorem ev_sald {i x : Int} (hLs : Ls ≤ 5000) (hd : decode M.2.2.1 pc = .ok (.iaload, 1)) (hp : pc + 1 = pc') (hx : qLd μ 1001000 Ls i = some x) (kk : Ev d M pc' L (iv x :: st) (cS Ls t μ) o s') : Ev d M pc L (iv i :: .ref 1001000 :: st) (cS Ls t μ) o s' := by
  subst hp
  unfold qLd at hx
  split at hx
  · rename_i h0
    cases hx
    obtain ⟨e1, e2, e3⟩ := qin hLs h0
    refine ev_pu hd (fun L' => ?_) kk
    rw [iv_rd]
    unfold iv
    dsimp only [qStep]
    try rw [if_pos rfl]
    try dsimp only
    rw [cS_scr]
    try dsimp only
    rw [if_neg e2, e1, e3]
    rfl
  · cases hx
/-! cells that the law makes on its way -/
def qJo (μ : qMu) (a : Nat) : Prop := 87 ≤ a ∧ a < 87 + qJn μ ∧ a < 1500
theorem cH_j {Ls a : Nat} {μ : qMu} (h : 87 ≤ a ∧ a < 2000) : cH Ls μ a = qJc μ a := by
  unfold cH
  rw [if_neg (by omega), List.getElem?_eq_none (by show qShp.length ≤ a; rw [qShp_len]; omega)]
  show (if a < 2000 then qJc μ a else _) = _
  rw [if_pos h.2]
theorem cH_x {Ls a : Nat} {μ : qMu} (h : 2000 ≤ a) (h2 : a ≠ 1001000) : cH Ls μ a = .inr (9, 0, .inl (fun _ => 0)) := by
  unfold cH
  rw [if_neg h2, List.getElem?_eq_none (by show qShp.length ≤ a; rw [qShp_len]; omega)]
  show (if a < 2000 then qJc μ a else _) = _
  rw [if_neg (by omega)]
theorem qJo_pm {a : Nat} (h : qJo μ a) : qPm a < 87 + qJn μ := by
  rw [qPm_hi h.1]
  exact h.2.1
theorem cS_jp {a : Nat} {c : qMC} (h : qJo μ a) (h1 : ∀ b : Nat, b ≠ a → b ≠ 2000000 + a → μ1 b = μ b) (hc : c = qJc μ1 a) : qput (cS Ls t μ) a c = cS Ls t μ1 := by
  have e := cH_at1 (Ls := Ls) (a := a) (μ := μ) (μ1 := μ1) (c := c) (by have := h.2.2; omega) (fun b hb hb2 _ => h1 b hb hb2) (by rw [cH_j ⟨h.1, by have := h.2.2; omega⟩]; exact hc)
  have e2 : μ1 2000000 = μ 2000000 := h1 _ (by have := h.2.2; omega) (by have := h.1; omega)
  unfold qput cS
  show (87 + qJn μ, t, _, qup (cH Ls μ) a c) = _
  rw [e]
  unfold qJn qJs
  rw [e2]
/-- a new cell: what it holds, its kind, its length, its slots -/
def qNewm (μ : qMu) (f : Int → Int32) (k len sl : Nat) : qMu := fun b => if b = 87 + qJn μ then f else if b = 2000000 + (87 + qJn μ) then (fun i => if i = 0 then Int32.ofNat k else if i = 1 then Int32.ofNat len else 0) else if b = 2000000 then (fun i => if i = 0 then Int32.ofNat (qJn μ + 1) else if i = 1 then Int32.ofNat (qJs μ + sl) else μ b i) else μ b
theorem qofN {k : Nat} (h : k < 2 ^ 31) : (Int32.ofNat k).toNatClampNeg = k := Int32.toNatClampNeg_ofNat_of_lt h
theorem qNewm_f {f : Int → Int32} {k len sl : Nat} : qNewm μ f k len sl (87 + qJn μ) = f := by
  unfold qNewm
  rw [if_pos rfl]
theorem qNewm_o {f : Int → Int32} {k len sl b : Nat} (h1 : b ≠ 87 + qJn μ) (h2 : b ≠ 2000000 + (87 + qJn μ)) (h3 : b ≠ 2000000) : qNewm μ f k len sl b = μ b := by
  unfold qNewm
  rw [if_neg h1, if_neg h2, if_neg h3]
theorem qNewm_k {f : Int → Int32} {k len sl : Nat} (hk : k < 10) (hn : qJn μ < 900) : qJk (qNewm μ f k len sl) (87 + qJn μ) = k := by
  unfold qJk qNewm
  rw [if_neg (by omega), if_pos rfl, if_pos rfl]
  exact qofN (by omega)
theorem qNewm_l {f : Int → Int32} {k len sl : Nat} (hk : len ≤ 5000) (hn : qJn μ < 900) : qJl (qNewm μ f k len sl) (87 + qJn μ) = len := by
  unfold qJl qNewm
  rw [if_neg (by omega), if_pos rfl, if_neg (by decide), if_pos rfl]
  exact qofN (by omega)
theorem qNewm_n {f : Int → Int32} {k len sl : Nat} (hn : qJn μ < 900) : qJn (qNewm μ f k len sl) = qJn μ + 1 := by
  show (qNewm μ f k len sl 2000000 0).toNatClampNeg = _
  unfold qNewm
  rw [if_neg (by omega), if_neg (by omega), if_pos rfl, if_pos rfl]
  exact qofN (by omega)
theorem qNewm_s {f : Int → Int32} {k len sl : Nat} (hn : qJn μ < 900) (hs : qJs μ < 90000) (hl : sl ≤ 5000) : qJs (qNewm μ f k len sl) = qJs μ + sl := by
  show (qNewm μ f k len sl 2000000 1).toNatClampNeg = _
  unfold qNewm
  rw [if_neg (by omega), if_neg (by omega), if_pos rfl, if_neg (by decide), if_pos rfl]
  exact qofN (by omega)
theorem cS_new {f : Int → Int32} {k len sl : Nat} {c : qMC} (hn : qJn μ < 900) (hs : qJs μ < 90000) (hl : sl ≤ 5000) (hc : c = qJc (qNewm μ f k len sl) (87 + qJn μ)) : qnew (cS Ls t μ) c sl = cS Ls t (qNewm μ f k len sl) := by
  have e := cH_at1 (Ls := Ls) (a := 87 + qJn μ) (μ := μ) (μ1 := qNewm μ f k len sl) (c := c) (by omega) (fun b h1 h2 h3 => qNewm_o h1 h2 h3) (by rw [cH_j ⟨by omega, by omega⟩]; exact hc)
  unfold qnew cS
  show (87 + qJn μ + 1, t, _ + sl, qup (cH Ls μ) (qPi (87 + qJn μ)) c) = _
  rw [qPi_hi (by omega), e, qNewm_n hn, qNewm_s hn hs hl]
  refine Prod.ext (by show 87 + qJn μ + 1 = 87 + (qJn μ + 1); omega) (Prod.ext rfl (Prod.ext ?_ rfl))
  show _ + qJs μ + 6 * t + sl = _ + (qJs μ + sl) + 6 * t
  omega
def qNw (μ : qMu) (k : Nat) (n : Int) : Option (Nat × qMu) := if (0 ≤ n ∧ n ≤ 1000) ∧ qJn μ < 900 ∧ qJs μ < 90000 then some (87 + qJn μ, qNewm μ (fun _ => 0) k n.toNat n.toNat) else none
theorem ev_newa {at_ : ArrayType} {n : Int} {k : Nat} {x : Nat × qMu} (ht : t = 0) (hk : k = 0 ∨ k = 1) (hd : decode M.2.2.1 pc = .ok (.newarray at_, 2)) (hp : pc + 2 = pc') (hq : qatype at_ = some k) (hx : qNw μ k n = some x) (kk : Ev d M pc' L (.ref x.1 :: st) (cS Ls t x.2) o s') : Ev d M pc L (iv n :: st) (cS Ls t μ) o s' := by
  subst hp
  unfold qNw at hx
  split at hx
  · rename_i h0
    obtain ⟨h0, hn, hs⟩ := h0
    cases hx
    obtain ⟨e1, e2, e3⟩ := qin (n := n.toNat + 1) (by omega) (show 0 ≤ n ∧ n < ((n.toNat + 1 : Nat) : Int) by omega)
    refine ev_pu hd (fun L' => ?_) kk
    unfold iv
    dsimp only [qStep]
    try rw [if_pos rfl]
    try dsimp only
    rw [hq]
    try dsimp only
    have e4 : ¬ Int32.ofInt n < 0 := fun q => e2 (Or.inl q)
    rw [if_neg (by
      rintro (q | q | q | q)
      · exact e4 q
      · rw [e1] at q; omega
      · exact q ht
      · have q : 1000 ≤ 87 + qJn μ := q
        omega), e1]
    rw [cS_new (f := fun _ => 0) (k := k) (len := n.toNat) hn hs (by omega)]
    · show qgo _ _ (.ref (qPi (87 + qJn μ)) :: st) _ = _
      rw [qPi_hi (by omega)]
      rfl
    · unfold qJc
      rw [qNewm_k (by omega) hn, qNewm_l (by omega) hn, qNewm_f]
      rcases hk with rfl | rfl <;> rfl
  · cases hx
def qNo (μ : qMu) (ci : Nat) : Option (Nat × qMu) := if (ci = 10 ∨ ci = 11) ∧ qJn μ < 900 ∧ qJs μ < 90000 then some (87 + qJn μ, qNewm μ (fun _ => 0) (if ci = 10 then 4 else 5) 0 4) else none
theorem ev_newo {i ci : Nat} {x : Nat × qMu} (ht : t = 0) (hd : decode M.2.2.1 pc = .ok (.new i, 3)) (hp : pc + 3 = pc') (hq : qTn M.1 i = some ci) (hx : qNo μ ci = some x) (kk : Ev d M pc' L (.ref x.1 :: st) (cS Ls t x.2) o s') : Ev d M pc L st (cS Ls t μ) o s' := by
  subst hp
  unfold qNo at hx
  split at hx
  · rename_i h0
    obtain ⟨h0, hn, hs⟩ := h0
    cases hx
    refine ev_pu hd (fun L' => ?_) kk
    dsimp only [qStep]
    try rw [if_pos rfl]
    try dsimp only
    rw [hq]
    try dsimp only
    rw [if_pos ⟨ht, by show 87 + qJn μ < 1000; omega⟩]
    have hl : (qdef ci).length = 4 := by rcases h0 with rfl | rfl <;> rfl
    rw [hl, cS_new (f := fun _ => 0) (k := if ci = 10 then 4 else 5) (len := 0) hn hs (by omega)]
    · show qgo _ _ (.ref (qPi (87 + qJn μ)) :: st) _ = _
      rw [qPi_hi (by omega)]
      rfl
    · unfold qJc
      rw [qNewm_k (by split <;> omega) hn]
      unfold qJf
      rw [qNewm_f]
      rcases h0 with rfl | rfl <;> rfl
  · cases hx
/-- arrays of bytes: made on the way, or there before -/
def qSrc (μ : qMu) (b : Nat) : Option (Nat × (Nat → Int32)) := if 2000 ≤ b then qxb b else if (87 ≤ b ∧ b < 87 + qJn μ ∧ b < 1500) ∧ qJk μ b = 1 then some (qJl μ b, fun j => μ b (j : Int)) else none
theorem cS_aij {a k : Nat} (h : qJo μ a) (hk : k = 0 ∨ k = 1) (hq : qJk μ a = k) (k2 : Nat) : qai (cS Ls t μ) a k2 = if k = k2 then some (qJl μ a, fun j : Nat => μ a (j : Int)) else none := by
  unfold qai
  show (match cH Ls μ a with
    | .inr (t', n, .inl f) => if t' = k2 ∧ (qPm a < 87 + qJn μ ∨ a = 1001000) then some (n, f) else none
    | _ => none) = _
  rw [cH_j ⟨h.1, by have := h.2.2; omega⟩]
  unfold qJc
  rw [hq]
  rcases hk with rfl | rfl
  · show (if 0 = k2 ∧ (qPm a < 87 + qJn μ ∨ a = 1001000) then some (qJl μ a, fun j : Nat => μ a (j : Int)) else none) = _
    by_cases e : 0 = k2
    · rw [if_pos e, if_pos ⟨e, Or.inl (qJo_pm h)⟩]
    · rw [if_neg e, if_neg (fun q => e q.1)]
  · show (if 1 = k2 ∧ (qPm a < 87 + qJn μ ∨ a = 1001000) then some (qJl μ a, fun j : Nat => μ a (j : Int)) else none) = _
    by_cases e : 1 = k2
    · rw [if_pos e, if_pos ⟨e, Or.inl (qJo_pm h)⟩]
    · rw [if_neg e, if_neg (fun q => e q.1)]
theorem qxb_rg {b : Nat} {q : Nat × (Nat → Int32)} (h : qxb b = some q) : 1000100 ≤ b ∧ b ≤ 1000300 := by
  unfold qxb at h
  split at h
  · omega
  · split at h
    · omega
    · cases h
theorem cS_aix {a : Nat} (h : 2000 ≤ a) (h2 : a ≠ 1001000) {k2 : Nat} (hk : k2 < 9) : qai (cS Ls t μ) a k2 = none := by
  unfold qai
  show (match cH Ls μ a with
    | .inr (t', n, .inl f) => if t' = k2 ∧ (qPm a < 87 + qJn μ ∨ a = 1001000) then some (n, f) else none
    | _ => none) = _
  rw [cH_x h h2]
  show (if 9 = k2 ∧ (qPm a < 87 + qJn μ ∨ a = 1001000) then some (0, fun _ : Nat => (0 : Int32)) else none) = _
  rw [if_neg (by omega)]
theorem qSrc_by {b : Nat} {q : Nat × (Nat → Int32)} (h : qSrc μ b = some q) : qby (cS Ls t μ) b = some q ∧ b ≠ 1001000 := by
  unfold qSrc at h
  split at h
  · rename_i h0
    have hr := qxb_rg h
    refine ⟨?_, by omega⟩
    unfold qby
    rw [cS_aix h0 (by omega) (by decide)]
    exact h
  · rename_i h0
    split at h
    · rename_i h1
      cases h
      refine ⟨?_, by omega⟩
      unfold qby
      rw [cS_aij h1.1 (Or.inr rfl) h1.2, if_pos rfl]
    · cases h
def qLb (μ : qMu) (a : Nat) (i : Int) : Option Int := (qSrc μ a).bind fun q => if (0 ≤ i ∧ i < (q.1 : Int)) ∧ q.1 ≤ 5000 then some (q.2 i.toNat).toInt else none
theorem ev_baldj {a : Nat} {i x : Int} (hd : decode M.2.2.1 pc = .ok (.baload, 1)) (hp : pc + 1 = pc') (hx : qLb μ a i = some x) (kk : Ev d M pc' L (iv x :: st) (cS Ls t μ) o s') : Ev d M pc L (iv i :: .ref a :: st) (cS Ls t μ) o s' := by
  subst hp
  unfold qLb at hx
  cases hq : qSrc μ a with
  | none => rw [hq] at hx; cases hx
  | some q =>
    rw [hq] at hx
    have hx : (if (0 ≤ i ∧ i < (q.1 : Int)) ∧ q.1 ≤ 5000 then some (q.2 i.toNat).toInt else none) = some x := hx
    split at hx
    · rename_i h0
      cases hx
      obtain ⟨e1, e2, e3⟩ := qin h0.2 h0.1
      refine ev_pu hd (fun L' => ?_) kk
      rw [iv_to]
      unfold iv
      dsimp only [qStep]
      try rw [if_pos rfl]
      try dsimp only
      rw [(qSrc_by hq).1]
      try dsimp only
      rw [if_neg e2, e1]
      rfl
    · cases hx
def qSb (μ : qMu) (a : Nat) (i v : Int) : Option qMu := if ((87 ≤ a ∧ a < 87 + qJn μ ∧ a < 1500) ∧ qJk μ a = 1) ∧ (0 ≤ i ∧ i < (qJl μ a : Int)) ∧ qJl μ a ≤ 5000 then some (up μ a i (qNr .byte v)) else none
theorem qJc_up {a : Nat} {i v : Int} (h : qJo μ a) (hk : qJk μ a = 0 ∨ qJk μ a = 1) (h0 : 0 ≤ i) : (Sum.inr (qJk μ a, qJl μ a, .inl (upd (fun j : Nat => μ a (j : Int)) i.toNat (Int32.ofInt v))) : qMC) = qJc (up μ a i v) a := by
  have e : up μ a i v (2000000 + a) = μ (2000000 + a) := up_ne (by omega)
  have hc := qCl_st (μ := μ) (a := a) (ty := qJk μ a) (n := qJl μ a) (v := v) (fl := []) h0
  rw [hc]
  unfold qJc
  have ek : qJk (up μ a i v) a = qJk μ a := by unfold qJk; rw [e]
  have el : qJl (up μ a i v) a = qJl μ a := by unfold qJl; rw [e]
  rw [ek, el]
  rcases hk with hk | hk <;> rw [hk] <;> rfl
theorem ev_bastj {a : Nat} {i v : Int} (hd : decode M.2.2.1 pc = .ok (.bastore, 1)) (hp : pc + 1 = pc') (hx : qSb μ a i v = some μ1) (kk : Ev d M pc' L st (cS Ls t μ1) o s') : Ev d M pc L (iv v :: iv i :: .ref a :: st) (cS Ls t μ) o s' := by
  subst hp
  unfold qSb at hx
  split at hx
  · rename_i h0
    cases hx
    obtain ⟨⟨ho, hk⟩, h1, h2⟩ := h0
    obtain ⟨e1, e2, e3⟩ := qin h2 h1
    have hc := qJc_up (μ := μ) (v := qNr .byte v) ho (Or.inr hk) h1.1
    rw [hk] at hc
    refine ev_pu hd (fun L' => ?_) kk
    unfold iv
    dsimp only [qStep]
    try rw [if_pos rfl]
    try dsimp only
    rw [cS_aij ho (Or.inr rfl) hk, if_pos rfl]
    try dsimp only
    rw [if_neg (by rintro (q | q); · exact e2 q
                   · exact q (qJo_pm ho)), e1, show vp_nar .byte (Int32.ofInt v) = Int32.ofInt (qNr .byte v) by unfold qNr; rw [Int32.ofInt_toInt], cS_jp ho (fun b hb _ => up_ne hb) hc]
    rfl
  · cases hx
def qLi (μ : qMu) (a : Nat) (i : Int) : Option Int := if ((87 ≤ a ∧ a < 87 + qJn μ ∧ a < 1500) ∧ qJk μ a = 0) ∧ (0 ≤ i ∧ i < (qJl μ a : Int)) ∧ qJl μ a ≤ 5000 then some (rd μ a i) else none
theorem ev_ialdj {a : Nat} {i x : Int} (hd : decode M.2.2.1 pc = .ok (.iaload, 1)) (hp : pc + 1 = pc') (hx : qLi μ a i = some x) (kk : Ev d M pc' L (iv x :: st) (cS Ls t μ) o s') : Ev d M pc L (iv i :: .ref a :: st) (cS Ls t μ) o s' := by
  subst hp
  unfold qLi at hx
  split at hx
  · rename_i h0
    cases hx
    obtain ⟨⟨ho, hk⟩, h1, h2⟩ := h0
    obtain ⟨e1, e2, e3⟩ := qin h2 h1
    refine ev_pu hd (fun L' => ?_) kk
    rw [iv_rd]
    unfold iv
    dsimp only [qStep]
    try rw [if_pos rfl]
    try dsimp only
    rw [cS_aij ho (Or.inl rfl) hk, if_pos rfl]
    try dsimp only
    rw [if_neg e2, e1, e3]
    rfl
  · cases hx
def qSi (μ : qMu) (a : Nat) (i v : Int) : Option qMu := if ((87 ≤ a ∧ a < 87 + qJn μ ∧ a < 1500) ∧ qJk μ a = 0) ∧ (0 ≤ i ∧ i < (qJl μ a : Int)) ∧ qJl μ a ≤ 5000 then some (up μ a i v) else none
theorem ev_iastj {a : Nat} {i v : Int} (hd : decode M.2.2.1 pc = .ok (.iastore, 1)) (hp : pc + 1 = pc') (hx : qSi μ a i v = some μ1) (kk : Ev d M pc' L st (cS Ls t μ1) o s') : Ev d M pc L (iv v :: iv i :: .ref a :: st) (cS Ls t μ) o s' := by
  subst hp
  unfold qSi at hx
  split at hx
  · rename_i h0
    cases hx
    obtain ⟨⟨ho, hk⟩, h1, h2⟩ := h0
    obtain ⟨e1, e2, e3⟩ := qin h2 h1
    have hc := qJc_up (μ := μ) (v := v) ho (Or.inl hk) h1.1
    rw [hk] at hc
    refine ev_pu hd (fun L' => ?_) kk
    unfold iv
    dsimp only [qStep]
    try rw [if_pos rfl]
    try dsimp only
    rw [cS_aij ho (Or.inl rfl) hk, if_pos rfl]
    try dsimp only
    rw [if_neg (by rintro (q | q); · exact e2 q
                   · exact q (qJo_pm ho)), e1, cS_jp ho (fun b hb _ => up_ne hb) hc]
    rfl
  · cases hx
def qAn (μ : qMu) (a : Nat) : Option Int := if ((87 ≤ a ∧ a < 87 + qJn μ ∧ a < 1500) ∧ qJk μ a = 0) then some (qJl μ a : Int) else (qSrc μ a).map (fun q => (q.1 : Int))
theorem ev_alenj {a : Nat} {x : Int} (hd : decode M.2.2.1 pc = .ok (.arraylength, 1)) (hp : pc + 1 = pc') (hx : qAn μ a = some x) (kk : Ev d M pc' L (iv x :: st) (cS Ls t μ) o s') : Ev d M pc L (.ref a :: st) (cS Ls t μ) o s' := by
  subst hp
  unfold qAn at hx
  refine ev_pu hd (fun L' => ?_) kk
  unfold iv
  dsimp only [qStep]
  try rw [if_pos rfl]
  try dsimp only
  split at hx
  · rename_i h0
    cases hx
    rw [cS_aij h0.1 (Or.inl rfl) h0.2, if_pos rfl, Int32.ofInt_eq_ofNat]
    rfl
  · rename_i h0
    cases hq : qSrc μ a with
    | none => rw [hq] at hx; cases hx
    | some q =>
      rw [hq] at hx
      cases hx
      have hn : ∀ k, k = 0 ∨ k = 2 → qai (cS Ls t μ) a k = none := by
        intro k hk
        unfold qSrc at hq
        split at hq
        · rename_i h1
          have hr := qxb_rg hq
          exact cS_aix h1 (by omega) (by omega)
        · split at hq
          · rename_i h1
            rw [cS_aij h1.1 (Or.inr rfl) h1.2, if_neg (by omega)]
          · cases hq
      rw [hn 0 (Or.inl rfl), hn 2 (Or.inr rfl), (qSrc_by hq).1, Int32.ofInt_eq_ofNat]
      rfl
/-- the class of a cell: 10 a string, 11 a builder -/
def qCk (μ : qMu) (a ci : Nat) : Option Unit := if ci = 10 ∧ qistr a = true then some () else if ((87 ≤ a ∧ a < 87 + qJn μ ∧ a < 1500) ∧ ((ci = 10 ∧ (qJk μ a = 2 ∨ qJk μ a = 4)) ∨ (ci = 11 ∧ (qJk μ a = 3 ∨ qJk μ a = 5)))) then some () else none
theorem qistr_rg {a : Nat} (h : qistr a = true) : 1000000 ≤ a ∧ a < 1000010 := by
  unfold qistr at h
  simp only [Bool.and_eq_true, decide_eq_true_eq] at h
  exact h
theorem cS_clj {a ci : Nat} (h : qJo μ a) (hk : (ci = 10 ∧ (qJk μ a = 2 ∨ qJk μ a = 4)) ∨ (ci = 11 ∧ (qJk μ a = 3 ∨ qJk μ a = 5))) : qcls (cS Ls t μ) a = some ci := by
  unfold qcls
  show (match cH Ls μ a with
    | .inl (c', _) => if qPm a < 87 + qJn μ then some c' else none
    | _ => none) = _
  rw [cH_j ⟨h.1, by have := h.2.2; omega⟩]
  unfold qJc
  rcases hk with ⟨rfl, hk | hk⟩ | ⟨rfl, hk | hk⟩ <;> rw [hk] <;> exact if_pos (qJo_pm h)
theorem qCk_x {a ci : Nat} {u : Unit} (h : qCk μ a ci = some u) : qclx (cS Ls t μ) a = some ci := by
  unfold qCk at h
  split at h
  · rename_i h0
    have hr := qistr_rg h0.2
    unfold qclx
    have : qcls (cS Ls t μ) a = none := by
      unfold qcls
      show (match cH Ls μ a with
        | .inl (c', _) => if qPm a < 87 + qJn μ then some c' else none
        | _ => none) = _
      rw [cH_x (by omega) (by omega)]
    rw [this, if_pos h0.2, h0.1]
  · split at h
    · rename_i h0
      exact qclx_of (cS_clj h0.1 h0.2)
    · cases h
theorem qCk_s {a : Nat} {u : Unit} (h : qCk μ a 11 = some u) : qcls (cS Ls t μ) a = some 11 := by
  unfold qCk at h
  split at h
  · rename_i h0
    exact absurd h0.1 (by decide)
  · split at h
    · rename_i h0
      exact cS_clj h0.1 h0.2
    · cases h
def qGi (μ : qMu) (a ci : Nat) (k : Int) : Option Int := if ci = 10 ∧ qistr a = true ∧ k = 1 then some 0 else if ((87 ≤ a ∧ a < 87 + qJn μ ∧ a < 1500) ∧ ((ci = 10 ∧ (qJk μ a = 2 ∨ qJk μ a = 4)) ∨ (ci = 11 ∧ (qJk μ a = 3 ∨ qJk μ a = 5)))) ∧ (1 ≤ k ∧ k ≤ 3) then some (rd μ a k) else none
def qGr (μ : qMu) (a ci : Nat) : Option Nat := if ci = 10 ∧ qistr a = true then some (a + 100) else if (87 ≤ a ∧ a < 87 + qJn μ ∧ a < 1500) ∧ ((ci = 10 ∧ qJk μ a = 2) ∨ (ci = 11 ∧ qJk μ a = 3)) then some (qJl μ a) else none
def qJh (μ : qMu) (a : Nat) : Value := if qJk μ a = 2 ∨ qJk μ a = 3 then .ref (qJl μ a) else .null
theorem qJc_ob {a ci : Nat} (hk : (ci = 10 ∧ (qJk μ a = 2 ∨ qJk μ a = 4)) ∨ (ci = 11 ∧ (qJk μ a = 3 ∨ qJk μ a = 5))) : qJc μ a = .inl (ci, qJh μ a :: qJf μ a) := by
  unfold qJc qJh
  rcases hk with ⟨rfl, hk | hk⟩ | ⟨rfl, hk | hk⟩ <;> rw [hk] <;> rfl
theorem cS_obj {a ci : Nat} (h : qJo μ a) (hk : (ci = 10 ∧ (qJk μ a = 2 ∨ qJk μ a = 4)) ∨ (ci = 11 ∧ (qJk μ a = 3 ∨ qJk μ a = 5))) : qob (cS Ls t μ) a ci = some (qJh μ a :: qJf μ a) := by
  unfold qob
  show (match cH Ls μ a with
    | .inl (c', fs) => if c' = ci ∧ qPm a < 87 + qJn μ then some fs else none
    | _ => none) = _
  rw [cH_j ⟨h.1, by have := h.2.2; omega⟩, qJc_ob hk]
  show (if ci = ci ∧ qPm a < 87 + qJn μ then some (qJh μ a :: qJf μ a) else none) = _
  rw [if_pos ⟨rfl, qJo_pm h⟩]
theorem cS_obx {a ci : Nat} (h : 2000 ≤ a) (h2 : a ≠ 1001000) : qob (cS Ls t μ) a ci = none := by
  unfold qob
  show (match cH Ls μ a with
    | .inl (c', fs) => if c' = ci ∧ qPm a < 87 + qJn μ then some fs else none
    | _ => none) = _
  rw [cH_x h h2]
theorem ev_getij {i ci k a : Nat} {ki x : Int} (hd : decode M.2.2.1 pc = .ok (.getfield i, 3)) (hp : pc + 3 = pc') (hf : qTf M.1 i = some (ci, k)) (hki : (k : Int) = ki) (hx : qGi μ a ci ki = some x) (kk : Ev d M pc' L (iv x :: st) (cS Ls t μ) o s') : Ev d M pc L (.ref a :: st) (cS Ls t μ) o s' := by
  subst hp hki
  unfold qGi at hx
  refine ev_pu hd (fun L' => ?_) kk
  dsimp only [qStep]
  try rw [if_pos rfl]
  try dsimp only
  rw [hf]
  try dsimp only
  split at hx
  · rename_i h0
    cases hx
    have hr := qistr_rg h0.2.1
    have hk1 : k = 1 := by have := h0.2.2; omega
    subst hk1
    rw [cS_obx (by omega) (by omega)]
    try dsimp only
    rw [if_neg (fun q => absurd q.2.2 (by decide)), if_pos ⟨h0.2.1, h0.1, rfl⟩]
    rfl
  · split at hx
    · rename_i h0
      cases hx
      rw [cS_obj h0.1.1 h0.1.2]
      try dsimp only
      have h3 : k = 1 ∨ k = 2 ∨ k = 3 := by have := h0.2; omega
      rcases h3 with rfl | rfl | rfl <;> rw [iv_rd] <;> rfl
    · cases hx
theorem ev_getrj {i ci a b : Nat} (hd : decode M.2.2.1 pc = .ok (.getfield i, 3)) (hp : pc + 3 = pc') (hf : qTf M.1 i = some (ci, 0)) (hx : qGr μ a ci = some b) (kk : Ev d M pc' L (.ref b :: st) (cS Ls t μ) o s') : Ev d M pc L (.ref a :: st) (cS Ls t μ) o s' := by
  subst hp
  unfold qGr at hx
  refine ev_pu hd (fun L' => ?_) kk
  dsimp only [qStep]
  try rw [if_pos rfl]
  try dsimp only
  rw [hf]
  try dsimp only
  split at hx
  · rename_i h0
    cases hx
    have hr := qistr_rg h0.2
    rw [cS_obx (by omega) (by omega)]
    try dsimp only
    rw [if_pos ⟨h0.2, h0.1, rfl⟩]
    rfl
  · split at hx
    · rename_i h0
      cases hx
      obtain ⟨ho, hk⟩ := h0
      rw [cS_obj ho (by rcases hk with ⟨h1, h2⟩ | ⟨h1, h2⟩; · exact Or.inl ⟨h1, Or.inl h2⟩
                        · exact Or.inr ⟨h1, Or.inl h2⟩)]
      try dsimp only
      unfold qJh
      rw [if_pos (by rcases hk with ⟨h1, h2⟩ | ⟨h1, h2⟩; · exact Or.inl h2
                     · exact Or.inr h2)]
      rfl
    · cases hx
/-- a number into a field: the count, or a 0 into the coder -/
def qPj (μ : qMu) (a ci : Nat) (k v : Int) : Option qMu := if ((87 ≤ a ∧ a < 87 + qJn μ ∧ a < 1500) ∧ ((ci = 10 ∧ (qJk μ a = 2 ∨ qJk μ a = 4)) ∨ (ci = 11 ∧ (qJk μ a = 3 ∨ qJk μ a = 5)))) ∧ ((k = 1 ∧ v = 0) ∨ (ci = 11 ∧ k = 3)) then some (up μ a k v) else none
theorem qJf_up {a k : Nat} {v : Int} (hk : k = 1 ∨ k = 2 ∨ k = 3) : (qJh μ a :: qJf μ a).set k (iv v) = qJh μ a :: qJf (up μ a (k : Int) v) a := by
  unfold qJf
  rw [up_at]
  rcases hk with rfl | rfl | rfl <;> rfl
theorem ev_putij {i ci k a : Nat} {ki v : Int} (hd : decode M.2.2.1 pc = .ok (.putfield i, 3)) (hp : pc + 3 = pc') (hf : qTf M.1 i = some (ci, k)) (hki : (k : Int) = ki) (hw : qwr M ci k = true) (hx : qPj μ a ci ki v = some μ1) (kk : Ev d M pc' L st (cS Ls t μ1) o s') : Ev d M pc L (iv v :: .ref a :: st) (cS Ls t μ) o s' := by
  subst hp hki
  unfold qPj at hx
  split at hx
  · rename_i h0
    cases hx
    obtain ⟨⟨ho, hc⟩, hk⟩ := h0
    refine ev_pu hd (fun L' => ?_) kk
    dsimp only [qStep]
    try rw [if_pos rfl]
    try dsimp only
    rw [hf]
    try dsimp only
    rw [cS_obj ho hc]
    try dsimp only
    have h3 : k = 1 ∨ k = 2 ∨ k = 3 := by omega
    have hn : narrow (qty ci k) (iv v) = iv v ∧ fits (qty ci k) (iv v) = true := by
      rcases hk with ⟨h1, rfl⟩ | ⟨rfl, h1⟩
      · have h1 : k = 1 := by omega
        subst h1
        rcases hc with ⟨rfl, -⟩ | ⟨rfl, -⟩ <;> exact ⟨rfl, rfl⟩
      · have h1 : k = 3 := by omega
        subst h1
        exact ⟨rfl, rfl⟩
    rw [if_pos ⟨hn.1, hn.2, by show k < 4; omega, hw⟩, qJf_up h3]
    have e : up μ a (k : Int) v (2000000 + a) = μ (2000000 + a) := up_ne (by omega)
    have ek : qJk (up μ a (k : Int) v) a = qJk μ a := by unfold qJk; rw [e]
    have el : qJl (up μ a (k : Int) v) a = qJl μ a := by unfold qJl; rw [e]
    have eh : qJh (up μ a (k : Int) v) a = qJh μ a := by unfold qJh; rw [ek, el]
    rw [cS_jp (μ1 := up μ a (k : Int) v) ho (fun b hb _ => up_ne hb) (by rw [qJc_ob (ci := ci) (by rw [ek]; exact hc), eh])]
    rfl
  · cases hx
/-- a row of bytes into the field value -/
def qSv (μ : qMu) (a b : Nat) : qMu := fun c => if c = 2000000 + a then (fun i => if i = 0 then Int32.ofNat (if qJk μ a = 2 ∨ qJk μ a = 4 then 2 else 3) else if i = 1 then Int32.ofNat b else μ c i) else μ c
def qPr (μ : qMu) (a ci b : Nat) : Option qMu := if ((87 ≤ a ∧ a < 87 + qJn μ ∧ a < 1500) ∧ ((ci = 10 ∧ (qJk μ a = 2 ∨ qJk μ a = 4)) ∨ (ci = 11 ∧ (qJk μ a = 3 ∨ qJk μ a = 5)))) ∧ b < 5000 then some (qSv μ a b) else none
theorem ev_putrj {i ci a b : Nat} (hd : decode M.2.2.1 pc = .ok (.putfield i, 3)) (hp : pc + 3 = pc') (hf : qTf M.1 i = some (ci, 0)) (hw : qwr M ci 0 = true) (hx : qPr μ a ci b = some μ1) (kk : Ev d M pc' L st (cS Ls t μ1) o s') : Ev d M pc L (.ref b :: .ref a :: st) (cS Ls t μ) o s' := by
  subst hp
  unfold qPr at hx
  split at hx
  · rename_i h0
    cases hx
    obtain ⟨⟨ho, hc⟩, hb⟩ := h0
    refine ev_pu hd (fun L' => ?_) kk
    dsimp only [qStep]
    try rw [if_pos rfl]
    try dsimp only
    rw [hf]
    try dsimp only
    rw [cS_obj ho hc]
    try dsimp only
    have hn : narrow (qty ci 0) (.ref b) = .ref b ∧ fits (qty ci 0) (.ref b) = true := by
      rcases hc with ⟨rfl, -⟩ | ⟨rfl, -⟩ <;> exact ⟨rfl, rfl⟩
    rw [if_pos ⟨hn.1, hn.2, by show 0 < 4; omega, hw⟩]
    have ea : qSv μ a b a = μ a := by unfold qSv; rw [if_neg (by omega)]
    have ek : qJk (qSv μ a b) a = if qJk μ a = 2 ∨ qJk μ a = 4 then 2 else 3 := by
      unfold qJk qSv
      rw [if_pos rfl, if_pos rfl]
      refine qofN ?_
      split <;> omega
    have el : qJl (qSv μ a b) a = b := by
      unfold qJl qSv
      rw [if_pos rfl, if_neg (by decide), if_pos rfl]
      exact qofN (by omega)
    rw [cS_jp (μ1 := qSv μ a b) ho (fun c _ h2 => by unfold qSv; rw [if_neg h2]) (by
      have hf' : qJf (qSv μ a b) a = qJf μ a := by unfold qJf; rw [ea]
      rw [qJc_ob (ci := ci) (by rw [ek]; rcases hc with ⟨rfl, h | h⟩ | ⟨rfl, h | h⟩ <;> rw [h] <;> decide)]
      have eh : qJh (qSv μ a b) a = .ref b := by
        unfold qJh
        rw [if_pos (by rw [ek]; by_cases hq : qJk μ a = 2 ∨ qJk μ a = 4; · rw [if_pos hq]; exact Or.inl rfl
                       · rw [if_neg hq]; exact Or.inr rfl), el]
      rw [hf', eh]
      rfl)]
    rfl
  · cases hx
/-- System.arraycopy -/
def qCpm (μ : qMu) (f : Nat → Int32) (sp : Int) (a : Nat) (dp w : Int) : qMu := fun c => if c = a then (fun j => if dp ≤ j ∧ j < dp + w then f (sp + (j - dp)).toNat else μ a j) else μ c
def qCp (μ : qMu) (b : Nat) (sp : Int) (a : Nat) (dp w : Int) : Option qMu := (qSrc μ b).bind fun q => if (0 ≤ sp ∧ 0 ≤ dp ∧ 0 ≤ w ∧ sp + w ≤ (q.1 : Int) ∧ q.1 ≤ 5000) ∧ ((87 ≤ a ∧ a < 87 + qJn μ ∧ a < 1500) ∧ qJk μ a = 1) ∧ (dp + w ≤ (qJl μ a : Int) ∧ qJl μ a ≤ 5000) ∧ b ≠ a ∧ (List.range w.toNat).all (fun i => fits .byte (.int (q.2 (sp.toNat + i)))) = true then some (qCpm μ q.2 sp a dp w) else none
theorem ev_acp {i a b : Nat} {sp dp w : Int} {C : qM} (hd : decode M.2.2.1 pc = .ok (.invokestatic i, 3)) (hp : pc + 3 = pc') (ht : qTc M.1 i = some (14, C, 5)) (hc : qcat st = true) (hx : qCp μ b sp a dp w = some μ1) (kk : Ev d M pc' L st (cS Ls t μ1) o s') : Ev d M pc L (iv w :: iv dp :: .ref a :: iv sp :: .ref b :: st) (cS Ls t μ) o s' := by
  subst hp
  unfold qCp at hx
  cases hq : qSrc μ b with
  | none => rw [hq] at hx; cases hx
  | some q =>
    obtain ⟨nb, f⟩ := q
    rw [hq] at hx
    have hx : (if (0 ≤ sp ∧ 0 ≤ dp ∧ 0 ≤ w ∧ sp + w ≤ (nb : Int) ∧ nb ≤ 5000) ∧ ((87 ≤ a ∧ a < 87 + qJn μ ∧ a < 1500) ∧ qJk μ a = 1) ∧ (dp + w ≤ (qJl μ a : Int) ∧ qJl μ a ≤ 5000) ∧ b ≠ a ∧ (List.range w.toNat).all (fun i => fits .byte (.int (f (sp.toNat + i)))) = true then some (qCpm μ f sp a dp w) else none) = some μ1 := hx
    split at hx
    · rename_i h0
      cases hx
      obtain ⟨⟨h1, h2, h3, h4, h5⟩, ⟨ho, hk⟩, ⟨h6, h7⟩, h8, h9⟩ := h0
      obtain ⟨hby, hb1⟩ := qSrc_by (Ls := Ls) (t := t) hq
      have nn : ∀ x : Int, 0 ≤ x → x ≤ 6000 → ¬ Int32.ofInt x < 0 ∧ (Int32.ofInt x).toNatClampNeg = x.toNat := fun x hx1 hx2 => by
        refine ⟨fun q => ?_, Int32.toNatClampNeg_ofInt_of_le (by omega) (by omega)⟩
        have : (Int32.ofInt x).toInt < (0 : Int32).toInt := Int32.lt_iff_toInt_lt.mp q
        rw [Int32.toInt_ofInt_of_le (by omega) (by omega)] at this
        have e0 : (0 : Int32).toInt = 0 := rfl
        omega
      obtain ⟨s1, s2⟩ := nn sp h1 (by omega)
      obtain ⟨d1, d2⟩ := nn dp h2 (by omega)
      obtain ⟨w1, w2⟩ := nn w h3 (by omega)
      refine ev_pu hd (fun L' => ?_) kk
      dsimp only [qStep]
      try rw [if_pos rfl]
      rw [ht]
      try dsimp only
      rw [show qargs 5 (iv w :: iv dp :: Value.ref a :: iv sp :: .ref b :: st) = some ([.ref b, iv sp, .ref a, iv dp, iv w], st) by unfold qargs; rw [if_pos (by simp)]; rfl]
      try dsimp only
      rw [if_pos hc, if_neg (by decide), if_neg (by decide), if_neg (by decide), if_neg (by decide), if_pos rfl]
      unfold iv
      try dsimp only
      rw [hby, cS_aij ho (Or.inr rfl) hk, if_pos rfl]
      try dsimp only
      rw [if_neg (by
        rw [s2, d2, w2]
        have := ho.2.2
        rintro ((q | q | q | q | q) | q | q | q | q)
        · exact s1 q
        · exact d1 q
        · exact w1 q
        · omega
        · omega
        · have q' : (a : Nat) = 1001000 := q
          omega
        · exact hb1 q
        · exact h8 q
        · exact q h9), s2, d2, w2]
      rw [cS_jp (μ1 := qCpm μ f sp a dp w) ho (fun c h _ => by unfold qCpm; rw [if_neg h]) (by
        have e : qCpm μ f sp a dp w (2000000 + a) = μ (2000000 + a) := by unfold qCpm; rw [if_neg (by omega)]
        have ek : qJk (qCpm μ f sp a dp w) a = 1 := by rw [← hk]; unfold qJk; rw [e]
        have el : qJl (qCpm μ f sp a dp w) a = qJl μ a := by unfold qJl; rw [e]
        unfold qJc
        rw [ek, el]
        show _ = Sum.inr (1, qJl μ a, Sum.inl (fun j : Nat => qCpm μ f sp a dp w a (j : Int)))
        congr 4
        funext j
        unfold va_cpy qCpm
        rw [if_pos rfl]
        by_cases hj : dp ≤ (j : Int) ∧ (j : Int) < dp + w
        · rw [if_pos hj, if_pos (by omega)]
          congr 1
          omega
        · rw [if_neg hj, if_neg (by omega)])]
      rfl
    · cases hx
/-- clone of a row of bytes -/
def qCo (μ : qMu) (a : Nat) : Option (Nat × qMu) := if ((87 ≤ a ∧ a < 87 + qJn μ ∧ a < 1500) ∧ qJk μ a = 1) ∧ qJl μ a ≤ 1000 ∧ qJn μ < 900 ∧ qJs μ < 90000 ∧ (List.range (qJl μ a)).all (fun i => fits .byte (.int (μ a (i : Int)))) = true then some (87 + qJn μ, qNewm μ (μ a) 1 (qJl μ a) (qJl μ a)) else none
theorem ev_cln {i a : Nat} {C : qM} {x : Nat × qMu} (ht0 : t = 0) (hd : decode M.2.2.1 pc = .ok (.invokevirtual i, 3)) (hp : pc + 3 = pc') (ht : qTc M.1 i = some (17, C, 0)) (hc : qcat st = true) (hx : qCo μ a = some x) (kk : Ev d M pc' L (.ref x.1 :: st) (cS Ls t x.2) o s') : Ev d M pc L (.ref a :: st) (cS Ls t μ) o s' := by
  subst hp
  unfold qCo at hx
  split at hx
  · rename_i h0
    obtain ⟨⟨ho, hk⟩, hl, hn, hs, hfb⟩ := h0
    cases hx
    refine ev_pu hd (fun L' => ?_) kk
    dsimp only [qStep]
    try rw [if_pos rfl]
    rw [ht]
    try dsimp only
    rw [show qargs 0 (Value.ref a :: st) = some ([], .ref a :: st) by unfold qargs; rw [if_pos (Nat.zero_le _)]; rfl]
    try dsimp only
    rw [if_pos hc, if_neg (by decide), if_neg (by decide), if_neg (by decide), if_neg (by decide), if_pos rfl, cS_aij ho (Or.inr rfl) hk, if_pos rfl]
    try dsimp only
    rw [if_pos ⟨rfl, fun q => by have q' : (a : Nat) = 1001000 := q; have := ho.2.2; omega, ht0, by show 87 + qJn μ < 1000; omega, hfb⟩]
    rw [cS_new (f := μ a) (k := 1) (len := qJl μ a) hn hs (by omega)]
    · show qgo _ _ (.ref (qPi (87 + qJn μ)) :: st) _ = _
      rw [qPi_hi (by omega)]
      rfl
    · unfold qJc
      rw [qNewm_k (by omega) hn, qNewm_l (by omega) hn, qNewm_f]
      rfl
  · cases hx
def qCb (μ : qMu) (a : Nat) : Option Unit := if (87 ≤ a ∧ a < 87 + qJn μ ∧ a < 1500) ∧ qJk μ a = 1 then some () else none
theorem ev_chkc {i a : Nat} {u : Unit} (hd : decode M.2.2.1 pc = .ok (.checkcast i, 3)) (hp : pc + 3 = pc') (hM : M.1 = 16 ∧ i = 311) (hx : qCb μ a = some u) (kk : Ev d M pc' L (.ref a :: st) (cS Ls t μ) o s') : Ev d M pc L (.ref a :: st) (cS Ls t μ) o s' := by
  subst hp
  unfold qCb at hx
  split at hx
  · rename_i h0
    refine ev_pu hd (fun L' => ?_) kk
    dsimp only [qStep]
    try rw [if_pos rfl]
    try dsimp only
    rw [if_pos ⟨hM.1, hM.2, by rw [cS_aij h0.1 (Or.inr rfl) h0.2, if_pos rfl]; rfl, fun q => by have q' : (a : Nat) = 1001000 := q; have := h0.1.2.2; omega⟩]
    rfl
  · cases hx
/-- the class of a cell that was made on the way -/
def qCn (μ : qMu) (a ci : Nat) : Option Unit := if (87 ≤ a ∧ a < 87 + qJn μ ∧ a < 1500) ∧ ((ci = 10 ∧ (qJk μ a = 2 ∨ qJk μ a = 4)) ∨ (ci = 11 ∧ (qJk μ a = 3 ∨ qJk μ a = 5))) then some () else none
theorem qCn_s {a ci : Nat} {u : Unit} (h : qCn μ a ci = some u) : qcls (cS Ls t μ) a = some ci := by
  unfold qCn at h
  split at h
  · rename_i h0
    exact cS_clj h0.1 h0.2
  · cases h
def qIx (x y : Int) : Option Unit := if ¬ (wr x < 0 ∨ wr y ≤ wr x) then some () else none
theorem qIx_ok {x y : Int} {u : Unit} (h : qIx x y = some u) : ¬ (wr x < 0 ∨ wr y ≤ wr x) := by
  unfold qIx at h
  split at h
  · rename_i h0
    exact h0
  · cases h
def qnz (y : Int) : Option Unit := if wr y = 0 then none else some ()
theorem qnz_ok {y : Int} {u : Unit} (h : qnz y = some u) : Int32.ofInt y ≠ 0 := by
  unfold qnz at h
  split at h
  · cases h
  · rename_i h0
    intro q
    exact h0 (by unfold wr; rw [q]; rfl)
end EVH
/-! numbers -/
theorem wr_id {x : Int} (h1 : -2147483648 ≤ x) (h2 : x ≤ 2147483647) : wr x = x := Int32.toInt_ofInt_of_le (by omega) (by omega)
theorem wr_rd (μ : qMu) (a : Nat) (i : Int) : wr (rd μ a i) = rd μ a i := by
  unfold wr rd
  rw [Int32.ofInt_toInt]
theorem rd_up (μ : qMu) (a b : Nat) (i j v : Int) : rd (up μ a i v) b j = if b = a ∧ j = i then wr v else rd μ b j := by
  unfold rd up
  by_cases h : b = a
  · subst h
    try rw [if_pos rfl]
    by_cases h2 : j = i
    · rw [if_pos h2, if_pos ⟨rfl, h2⟩]
      rfl
    · rw [if_neg h2, if_neg (fun q => h2 q.2)]
  · rw [if_neg h, if_neg (fun q => h q.1)]
/-! loops -/
def lp {α β : Type} (f : α → Option (α ⊕ β)) : Nat → α → Option β
  | 0, _ => none
  | n + 1, x => (f x).bind fun y => match y with
    | .inl z => lp f n z
    | .inr b => some b
theorem lp_s {α β : Type} {f : α → Option (α ⊕ β)} {n : Nat} {x : α} : lp f (n + 1) x = (f x).bind fun y => match y with
    | .inl z => lp f n z
    | .inr b => some b := rfl
theorem qbd {α β : Type} {o : Option α} {f : α → Option β} {r : β} (h : o.bind f = some r) : ∃ x, o = some x ∧ f x = some r := by
  cases o with
  | none => cases h
  | some x => exact ⟨x, rfl, h⟩
theorem qit {α : Type} {C : Prop} {i : Decidable C} {a b r : α} (c : C) (h : (@ite α C i a b) = r) : a = r := by rwa [if_pos c] at h
theorem qif' {α : Type} {C : Prop} {i : Decidable C} {a b r : α} (c : ¬ C) (h : (@ite α C i a b) = r) : b = r := by rwa [if_neg c] at h
theorem qel {α β γ : Type} {f : α → γ} {g : β → γ} {x : α} {r : γ} (h : Sum.elim f g (.inl x) = r) : f x = r := h
theorem qer {α β γ : Type} {f : α → γ} {g : β → γ} {x : β} {r : γ} (h : Sum.elim f g (.inr x) = r) : g x = r := h
theorem qet {α : Type} {C : Prop} {i : Decidable C} {a b v : α} (c : C) (h : v = a) : v = (@ite α C i a b) := by rw [if_pos c]; exact h
theorem qef {α : Type} {C : Prop} {i : Decidable C} {a b v : α} (c : ¬ C) (h : v = b) : v = (@ite α C i a b) := by rw [if_neg c]; exact h
/-- ends of methods that throw -/
def qRi (x : Int ⊕ Nat) : qO := match x with
  | .inl v => .inl (some (iv v))
  | .inr E => .inr E
def qRv (x : Int ⊕ Nat) : qO := match x with
  | .inl _ => .inl none
  | .inr E => .inr E
def qTt (t : Nat) (x : Int ⊕ Nat) : Nat := match x with
  | .inl _ => t
  | .inr _ => t + 1
theorem cS_thr {Ls t : Nat} {μ : qMu} : qthr (cS Ls t μ) = cS Ls (t + 1) μ := rfl
/-- a number that is a truth value, or a sign -/
def qbl (x : Int) : Option Int := if x = 0 ∨ x = 1 then some x else none
def qch (x : Int) : Option Int := if 0 ≤ x ∧ x < 128 then some x else none
theorem qbl_n {x y : Int} (h : qbl x = some y) : y = x ∧ narrow .boolean (iv x) = iv x := by
  unfold qbl at h
  split at h
  · rename_i h0
    cases h
    refine ⟨rfl, ?_⟩
    rcases h0 with rfl | rfl <;> rfl
  · cases h
theorem qch_all : ∀ k : Nat, k < 128 → narrow .char (iv (k : Int)) = iv (k : Int) := by decide +kernel
theorem qch_n {x y : Int} (h : qch x = some y) : y = x ∧ narrow .char (iv x) = iv x := by
  unfold qch at h
  split at h
  · rename_i h0
    cases h
    refine ⟨rfl, ?_⟩
    have := qch_all x.toNat (by omega)
    rw [show ((x.toNat : Nat) : Int) = x by omega] at this
    exact this
  · cases h
def qTw (t : Nat) (x : Int) : Nat := if x = 0 then t else t + 1
theorem sh0 : qShp[0]? = some (0, 8, 0, [some 1, some 11, some 13, some 15, some 17, some 19, some 22, some 26, some 28, some 32, some 76, none]) := rfl
theorem sh1 : qShp[1]? = some (0, 4, 0, [some 2, some 3, some 5, some 7, none, none, none, none, none, none, none, none, none]) := rfl
theorem sh2 : qShp[2]? = some (1, 1, 400, []) := rfl
theorem sh3 : qShp[3]? = some (0, 0, 0, [some 4, none, none]) := rfl
theorem sh4 : qShp[4]? = some (1, 0, 64, []) := rfl
theorem sh5 : qShp[5]? = some (0, 0, 0, [some 6, none, none]) := rfl
theorem sh6 : qShp[6]? = some (1, 0, 64, []) := rfl
theorem sh7 : qShp[7]? = some (0, 5, 0, [some 8, some 9, some 10, none, none]) := rfl
theorem sh8 : qShp[8]? = some (1, 0, 8, []) := rfl
theorem sh9 : qShp[9]? = some (1, 0, 8, []) := rfl
theorem sh10 : qShp[10]? = some (1, 0, 8, []) := rfl
theorem sh11 : qShp[11]? = some (0, 0, 0, [some 12, none, none]) := rfl
theorem sh12 : qShp[12]? = some (1, 0, 64, []) := rfl
theorem sh13 : qShp[13]? = some (0, 0, 0, [some 14, none, none]) := rfl
theorem sh14 : qShp[14]? = some (1, 0, 64, []) := rfl
theorem sh15 : qShp[15]? = some (0, 0, 0, [some 16, none, none]) := rfl
theorem sh16 : qShp[16]? = some (1, 0, 64, []) := rfl
theorem sh17 : qShp[17]? = some (0, 0, 0, [some 18, none, none]) := rfl
theorem sh18 : qShp[18]? = some (1, 0, 64, []) := rfl
theorem sh19 : qShp[19]? = some (0, 3, 0, [some 20, some 21, none]) := rfl
theorem sh20 : qShp[20]? = some (1, 0, 8, []) := rfl
theorem sh21 : qShp[21]? = some (1, 0, 8, []) := rfl
theorem sh22 : qShp[22]? = some (0, 5, 0, [some 23, some 24, some 25, none, none]) := rfl
theorem sh23 : qShp[23]? = some (1, 0, 8, []) := rfl
theorem sh24 : qShp[24]? = some (1, 0, 8, []) := rfl
theorem sh25 : qShp[25]? = some (1, 0, 8, []) := rfl
theorem sh26 : qShp[26]? = some (0, 6, 0, [some 27, none]) := rfl
theorem sh27 : qShp[27]? = some (1, 0, 1024, []) := rfl
theorem sh28 : qShp[28]? = some (0, 7, 0, [some 29, some 30, none]) := rfl
theorem sh29 : qShp[29]? = some (1, 0, 16, []) := rfl
theorem sh30 : qShp[30]? = some (0, 0, 0, [some 31, none, none]) := rfl
theorem sh31 : qShp[31]? = some (1, 0, 64, []) := rfl
theorem sh32 : qShp[32]? = some (0, 1, 0, [some 33, some 34, some 35, none, none]) := rfl
theorem sh33 : qShp[33]? = some (2, 5, 10, [some 36, some 40, some 44, some 48, some 52, some 56, some 60, some 64, some 68, some 72]) := rfl
theorem sh34 : qShp[34]? = some (2, 5, 10, [some 38, some 42, some 46, some 50, some 54, some 58, some 62, some 66, some 70, some 74]) := rfl
theorem sh35 : qShp[35]? = some (1, 0, 10, []) := rfl
theorem sh36 : qShp[36]? = some (0, 0, 0, [some 37, none, none]) := rfl
theorem sh37 : qShp[37]? = some (1, 0, 64, []) := rfl
theorem sh38 : qShp[38]? = some (0, 0, 0, [some 39, none, none]) := rfl
theorem sh39 : qShp[39]? = some (1, 0, 64, []) := rfl
theorem sh40 : qShp[40]? = some (0, 0, 0, [some 41, none, none]) := rfl
theorem sh41 : qShp[41]? = some (1, 0, 64, []) := rfl
theorem sh42 : qShp[42]? = some (0, 0, 0, [some 43, none, none]) := rfl
theorem sh43 : qShp[43]? = some (1, 0, 64, []) := rfl
theorem sh44 : qShp[44]? = some (0, 0, 0, [some 45, none, none]) := rfl
theorem sh45 : qShp[45]? = some (1, 0, 64, []) := rfl
theorem sh46 : qShp[46]? = some (0, 0, 0, [some 47, none, none]) := rfl
theorem sh47 : qShp[47]? = some (1, 0, 64, []) := rfl
theorem sh48 : qShp[48]? = some (0, 0, 0, [some 49, none, none]) := rfl
theorem sh49 : qShp[49]? = some (1, 0, 64, []) := rfl
theorem sh50 : qShp[50]? = some (0, 0, 0, [some 51, none, none]) := rfl
theorem sh51 : qShp[51]? = some (1, 0, 64, []) := rfl
theorem sh52 : qShp[52]? = some (0, 0, 0, [some 53, none, none]) := rfl
theorem sh53 : qShp[53]? = some (1, 0, 64, []) := rfl
theorem sh54 : qShp[54]? = some (0, 0, 0, [some 55, none, none]) := rfl
theorem sh55 : qShp[55]? = some (1, 0, 64, []) := rfl
theorem sh56 : qShp[56]? = some (0, 0, 0, [some 57, none, none]) := rfl
theorem sh57 : qShp[57]? = some (1, 0, 64, []) := rfl
theorem sh58 : qShp[58]? = some (0, 0, 0, [some 59, none, none]) := rfl
theorem sh59 : qShp[59]? = some (1, 0, 64, []) := rfl
theorem sh60 : qShp[60]? = some (0, 0, 0, [some 61, none, none]) := rfl
theorem sh61 : qShp[61]? = some (1, 0, 64, []) := rfl
theorem sh62 : qShp[62]? = some (0, 0, 0, [some 63, none, none]) := rfl
theorem sh63 : qShp[63]? = some (1, 0, 64, []) := rfl
theorem sh64 : qShp[64]? = some (0, 0, 0, [some 65, none, none]) := rfl
theorem sh65 : qShp[65]? = some (1, 0, 64, []) := rfl
theorem sh66 : qShp[66]? = some (0, 0, 0, [some 67, none, none]) := rfl
theorem sh67 : qShp[67]? = some (1, 0, 64, []) := rfl
theorem sh68 : qShp[68]? = some (0, 0, 0, [some 69, none, none]) := rfl
theorem sh69 : qShp[69]? = some (1, 0, 64, []) := rfl
theorem sh70 : qShp[70]? = some (0, 0, 0, [some 71, none, none]) := rfl
theorem sh71 : qShp[71]? = some (1, 0, 64, []) := rfl
theorem sh72 : qShp[72]? = some (0, 0, 0, [some 73, none, none]) := rfl
theorem sh73 : qShp[73]? = some (1, 0, 64, []) := rfl
theorem sh74 : qShp[74]? = some (0, 0, 0, [some 75, none, none]) := rfl
theorem sh75 : qShp[75]? = some (1, 0, 64, []) := rfl
theorem sh76 : qShp[76]? = some (0, 2, 0, [some 77, none]) := rfl
theorem sh77 : qShp[77]? = some (1, 2, 64, []) := rfl
theorem sh78 : qShp[78]? = some (0, 9, 0, [some 1001000, none, none, none, some 80]) := rfl
theorem sh79 : qShp[79]? = some (1, 0, 0, []) := rfl
theorem sh80 : qShp[80]? = some (2, 4, 6, [some 81, some 82, some 83, some 84, some 85, some 86]) := rfl
theorem sh81 : qShp[81]? = some (1, 0, 6, []) := rfl
theorem sh82 : qShp[82]? = some (1, 0, 6, []) := rfl
theorem sh83 : qShp[83]? = some (1, 0, 6, []) := rfl
theorem sh84 : qShp[84]? = some (1, 0, 6, []) := rfl
theorem sh85 : qShp[85]? = some (1, 0, 6, []) := rfl
theorem sh86 : qShp[86]? = some (1, 0, 6, []) := rfl
theorem gG3 : gG 3 := ⟨rfl, rfl⟩
theorem gG5 : gG 5 := ⟨rfl, rfl⟩
theorem gG11 : gG 11 := ⟨rfl, rfl⟩
theorem gG13 : gG 13 := ⟨rfl, rfl⟩
theorem gG15 : gG 15 := ⟨rfl, rfl⟩
theorem gG17 : gG 17 := ⟨rfl, rfl⟩
theorem gG30 : gG 30 := ⟨rfl, rfl⟩
theorem gG36 : gG 36 := ⟨rfl, rfl⟩
theorem gG38 : gG 38 := ⟨rfl, rfl⟩
theorem gG40 : gG 40 := ⟨rfl, rfl⟩
theorem gG42 : gG 42 := ⟨rfl, rfl⟩
theorem gG44 : gG 44 := ⟨rfl, rfl⟩
theorem gG46 : gG 46 := ⟨rfl, rfl⟩
theorem gG48 : gG 48 := ⟨rfl, rfl⟩
theorem gG50 : gG 50 := ⟨rfl, rfl⟩
theorem gG52 : gG 52 := ⟨rfl, rfl⟩
theorem gG54 : gG 54 := ⟨rfl, rfl⟩
theorem gG56 : gG 56 := ⟨rfl, rfl⟩
theorem gG58 : gG 58 := ⟨rfl, rfl⟩
theorem gG60 : gG 60 := ⟨rfl, rfl⟩
theorem gG62 : gG 62 := ⟨rfl, rfl⟩
theorem gG64 : gG 64 := ⟨rfl, rfl⟩
theorem gG66 : gG 66 := ⟨rfl, rfl⟩
theorem gG68 : gG 68 := ⟨rfl, rfl⟩
theorem gG70 : gG 70 := ⟨rfl, rfl⟩
theorem gG72 : gG 72 := ⟨rfl, rfl⟩
theorem gG74 : gG 74 := ⟨rfl, rfl⟩
theorem gS7 : gS 7 := ⟨rfl, rfl, rfl, rfl⟩
theorem gS22 : gS 22 := ⟨rfl, rfl, rfl, rfl⟩
theorem tf_1_9 : qTf 1 9 = some (0, 0) := by decide +kernel
theorem tf_1_15 : qTf 1 15 = some (0, 1) := by decide +kernel
theorem tf_1_19 : qTf 1 19 = some (0, 2) := by decide +kernel
theorem tf_2_11 : qTf 2 11 = some (1, 0) := by decide +kernel
theorem tf_2_15 : qTf 2 15 = some (1, 1) := by decide +kernel
theorem tf_2_18 : qTf 2 18 = some (1, 2) := by decide +kernel
theorem tf_2_22 : qTf 2 22 = some (1, 3) := by decide +kernel
theorem tf_2_26 : qTf 2 26 = some (1, 4) := by decide +kernel
theorem tf_3_9 : qTf 3 9 = some (2, 0) := by decide +kernel
theorem tf_3_15 : qTf 3 15 = some (2, 1) := by decide +kernel
theorem tf_4_9 : qTf 4 9 = some (3, 0) := by decide +kernel
theorem tf_4_15 : qTf 4 15 = some (3, 1) := by decide +kernel
theorem tf_4_18 : qTf 4 18 = some (3, 2) := by decide +kernel
theorem tf_5_11 : qTf 5 11 = some (4, 0) := by decide +kernel
theorem tf_5_18 : qTf 5 18 = some (4, 1) := by decide +kernel
theorem tf_5_22 : qTf 5 22 = some (4, 2) := by decide +kernel
theorem tf_5_28 : qTf 5 28 = some (4, 3) := by decide +kernel
theorem tf_5_32 : qTf 5 32 = some (4, 4) := by decide +kernel
theorem tf_5_36 : qTf 5 36 = some (4, 5) := by decide +kernel
theorem tf_5_39 : qTf 5 39 = some (4, 6) := by decide +kernel
theorem tf_5_42 : qTf 5 42 = some (4, 7) := by decide +kernel
theorem tf_5_45 : qTf 5 45 = some (4, 8) := by decide +kernel
theorem tf_5_48 : qTf 5 48 = some (4, 9) := by decide +kernel
theorem tf_5_51 : qTf 5 51 = some (4, 10) := by decide +kernel
theorem tf_5_54 : qTf 5 54 = some (4, 11) := by decide +kernel
theorem tf_5_57 : qTf 5 57 = some (4, 12) := by decide +kernel
theorem tf_6_9 : qTf 6 9 = some (5, 0) := by decide +kernel
theorem tf_6_15 : qTf 6 15 = some (5, 1) := by decide +kernel
theorem tf_6_18 : qTf 6 18 = some (5, 2) := by decide +kernel
theorem tf_6_21 : qTf 6 21 = some (5, 3) := by decide +kernel
theorem tf_6_25 : qTf 6 25 = some (5, 4) := by decide +kernel
theorem tf_7_9 : qTf 7 9 = some (6, 0) := by decide +kernel
theorem tf_7_15 : qTf 7 15 = some (6, 1) := by decide +kernel
theorem tf_8_9 : qTf 8 9 = some (7, 0) := by decide +kernel
theorem tf_8_18 : qTf 8 18 = some (7, 1) := by decide +kernel
theorem tf_8_22 : qTf 8 22 = some (7, 2) := by decide +kernel
theorem tf_9_10 : qTf 9 10 = some (8, 0) := by decide +kernel
theorem tf_9_19 : qTf 9 19 = some (8, 1) := by decide +kernel
theorem tf_9_23 : qTf 9 23 = some (8, 2) := by decide +kernel
theorem tf_9_26 : qTf 9 26 = some (8, 3) := by decide +kernel
theorem tf_9_29 : qTf 9 29 = some (8, 4) := by decide +kernel
theorem tf_9_35 : qTf 9 35 = some (8, 5) := by decide +kernel
theorem tf_9_42 : qTf 9 42 = some (8, 6) := by decide +kernel
theorem tf_9_49 : qTf 9 49 = some (8, 7) := by decide +kernel
theorem tf_9_56 : qTf 9 56 = some (8, 8) := by decide +kernel
theorem tf_9_63 : qTf 9 63 = some (8, 9) := by decide +kernel
theorem tf_9_70 : qTf 9 70 = some (8, 10) := by decide +kernel
theorem tf_9_74 : qTf 9 74 = some (8, 11) := by decide +kernel
theorem tf_10_7 : qTf 10 7 = some (9, 0) := by decide +kernel
theorem tf_10_15 : qTf 10 15 = some (9, 4) := by decide +kernel
theorem tf_10_42 : qTf 10 42 = some (9, 1) := by decide +kernel
theorem tf_10_75 : qTf 10 75 = some (9, 2) := by decide +kernel
theorem tf_10_100 : qTf 10 100 = some (9, 3) := by decide +kernel
theorem tf_11_9 : qTf 11 9 = some (10, 0) := by decide +kernel
theorem tf_11_15 : qTf 11 15 = some (10, 1) := by decide +kernel
theorem tf_11_1048 : qTf 11 1048 = some (11, 2) := by decide +kernel
theorem tf_13_15 : qTf 13 15 = some (11, 0) := by decide +kernel
theorem tf_13_22 : qTf 13 22 = some (11, 1) := by decide +kernel
theorem tf_13_79 : qTf 13 79 = some (11, 3) := by decide +kernel
theorem tc_1_3 : qTc 1 3 = some (7, mX0_of, 0) := rfl
theorem tc_1_32 : qTc 1 32 = some (0, mX1_between, 2) := rfl
theorem tc_1_35 : qTc 1 35 = some (0, mX1_loopCount, 0) := rfl
theorem tc_1_39 : qTc 1 39 = some (5, mX0_of, 2) := rfl
theorem tc_1_44 : qTc 1 44 = some (0, mX1_commonNeighboursBehind, 2) := rfl
theorem tc_2_1 : qTc 2 1 = some (7, mX0_of, 0) := rfl
theorem tc_2_29 : qTc 2 29 = some (3, mX1_init, 0) := rfl
theorem tc_2_30 : qTc 2 30 = some (0, mX1_become, 1) := rfl
theorem tc_2_34 : qTc 2 34 = some (6, mX0_of, 2) := rfl
theorem tc_3_3 : qTc 3 3 = some (7, mX0_of, 0) := rfl
theorem tc_4_3 : qTc 4 3 = some (7, mX0_of, 0) := rfl
theorem tc_4_22 : qTc 4 22 = some (0, mX1_vertexCount, 0) := rfl
theorem tc_4_28 : qTc 4 28 = some (0, mX1_between, 2) := rfl
theorem tc_4_32 : qTc 4 32 = some (0, mX4_merge, 2) := rfl
theorem tc_4_36 : qTc 4 36 = some (5, mX0_of, 2) := rfl
theorem tc_4_41 : qTc 4 41 = some (6, mX0_of, 2) := rfl
theorem tc_4_44 : qTc 4 44 = some (0, mX4_countBefore, 1) := rfl
theorem tc_5_3 : qTc 5 3 = some (7, mX0_of, 0) := rfl
theorem tc_5_17 : qTc 5 17 = some (3, mX1_init, 0) := rfl
theorem tc_5_27 : qTc 5 27 = some (3, mX6_init, 0) := rfl
theorem tc_5_60 : qTc 5 60 = some (6, mX0_of, 2) := rfl
theorem tc_5_66 : qTc 5 66 = some (0, mX5_advance, 0) := rfl
theorem tc_5_69 : qTc 5 69 = some (0, mX5_readFirst, 0) := rfl
theorem tc_5_73 : qTc 5 73 = some (0, mX5_readOther, 0) := rfl
theorem tc_5_76 : qTc 5 76 = some (0, mX5_begin, 1) := rfl
theorem tc_5_82 : qTc 5 82 = some (0, mX5_isWord, 1) := rfl
theorem tc_5_86 : qTc 5 86 = some (0, mX5_readVertices, 0) := rfl
theorem tc_5_91 : qTc 5 91 = some (0, mX5_readDegrees, 0) := rfl
theorem tc_5_94 : qTc 5 94 = some (0, mX5_fail, 1) := rfl
theorem tc_5_100 : qTc 5 100 = some (0, mX5_readEdge, 1) := rfl
theorem tc_5_106 : qTc 5 106 = some (0, mX5_readModeNumber, 0) := rfl
theorem tc_5_109 : qTc 5 109 = some (0, mX5_expectNumber, 2) := rfl
theorem tc_5_113 : qTc 5 113 = some (0, mX5_expectSemicolon, 0) := rfl
theorem tc_5_116 : qTc 5 116 = some (0, mX6_clear, 0) := rfl
theorem tc_5_119 : qTc 5 119 = some (0, mX6_isFull, 0) := rfl
theorem tc_5_122 : qTc 5 122 = some (0, mX6_append, 1) := rfl
theorem tc_5_125 : qTc 5 125 = some (0, mX6_total, 0) := rfl
theorem tc_5_129 : qTc 5 129 = some (0, mX6_length, 0) := rfl
theorem tc_5_131 : qTc 5 131 = some (0, mX6_build, 2) := rfl
theorem tc_5_135 : qTc 5 135 = some (0, mX1_vertexCount, 0) := rfl
theorem tc_5_138 : qTc 5 138 = some (0, mX1_edgeCount, 0) := rfl
theorem tc_5_141 : qTc 5 141 = some (0, mX1_put, 3) := rfl
theorem tc_5_145 : qTc 5 145 = some (0, mX1_clear, 1) := rfl
theorem tc_5_147 : qTc 5 147 = some (8, mX0_of, 0) := rfl
theorem tc_5_150 : qTc 5 150 = some (0, mX5_byteAt, 1) := rfl
theorem tc_5_154 : qTc 5 154 = some (9, mX0_of, 1) := rfl
theorem tc_5_158 : qTc 5 158 = some (1, mX5_isBlank, 1) := rfl
theorem tc_5_161 : qTc 5 161 = some (1, mX5_isLetter, 1) := rfl
theorem tc_5_164 : qTc 5 164 = some (0, mX5_takeWord, 0) := rfl
theorem tc_5_167 : qTc 5 167 = some (1, mX5_isDigit, 1) := rfl
theorem tc_5_170 : qTc 5 170 = some (0, mX5_takeNumber, 0) := rfl
theorem tc_6_3 : qTc 6 3 = some (7, mX0_of, 0) := rfl
theorem tc_6_28 : qTc 6 28 = some (0, mX6_isFull, 0) := rfl
theorem tc_6_32 : qTc 6 32 = some (0, mX6_insertFalling, 1) := rfl
theorem tc_6_36 : qTc 6 36 = some (0, mX6_clear, 0) := rfl
theorem tc_6_39 : qTc 6 39 = some (0, mX1_vertexCount, 0) := rfl
theorem tc_6_45 : qTc 6 45 = some (0, mX1_degreeOf, 1) := rfl
theorem tc_6_49 : qTc 6 49 = some (0, mX6_append, 1) := rfl
theorem tc_6_52 : qTc 6 52 = some (6, mX0_of, 2) := rfl
theorem tc_6_58 : qTc 6 58 = some (0, mX6_hasNoNegativeSlack, 0) := rfl
theorem tc_6_61 : qTc 6 61 = some (0, mX6_slackOf, 1) := rfl
theorem tc_6_64 : qTc 6 64 = some (0, mX1_clear, 1) := rfl
theorem tc_6_66 : qTc 6 66 = some (0, mX6_buildWithLoops, 1) := rfl
theorem tc_6_70 : qTc 6 70 = some (0, mX6_buildWithoutLoops, 1) := rfl
theorem tc_6_73 : qTc 6 73 = some (0, mX6_buildSimple, 1) := rfl
theorem tc_6_76 : qTc 6 76 = some (0, mX1_put, 3) := rfl
theorem tc_6_80 : qTc 6 80 = some (0, mX6_neediestBut, 1) := rfl
theorem tc_6_83 : qTc 6 83 = some (0, mX6_join, 3) := rfl
theorem tc_7_3 : qTc 7 3 = some (7, mX0_of, 0) := rfl
theorem tc_8_3 : qTc 8 3 = some (7, mX0_of, 0) := rfl
theorem tc_8_17 : qTc 8 17 = some (3, mX1_init, 0) := rfl
theorem tc_9_1 : qTc 9 1 = some (7, mX0_of, 0) := rfl
theorem tc_9_9 : qTc 9 9 = some (3, mX5_init, 0) := rfl
theorem tc_9_18 : qTc 9 18 = some (3, mX1_init, 0) := rfl
theorem tc_9_34 : qTc 9 34 = some (3, mX4_init, 0) := rfl
theorem tc_9_41 : qTc 9 41 = some (3, mX6_init, 0) := rfl
theorem tc_9_48 : qTc 9 48 = some (3, mX7_init, 0) := rfl
theorem tc_9_55 : qTc 9 55 = some (3, mX8_init, 0) := rfl
theorem tc_9_62 : qTc 9 62 = some (2, mX2_init, 0) := rfl
theorem tc_9_69 : qTc 9 69 = some (3, mX3_init, 0) := rfl
theorem tc_9_78 : qTc 9 78 = some (0, mX5_hasRoom, 0) := rfl
theorem tc_9_82 : qTc 9 82 = some (0, mX5_append, 1) := rfl
theorem tc_9_86 : qTc 9 86 = some (0, mX5_fedBytes, 0) := rfl
theorem tc_9_97 : qTc 9 97 = some (0, mX5_readText, 1) := rfl
theorem tc_9_101 : qTc 9 101 = some (0, mX5_readGraph, 0) := rfl
theorem tc_9_105 : qTc 9 105 = some (0, mX1_become, 1) := rfl
theorem tc_9_109 : qTc 9 109 = some (0, mX5_readTarget, 0) := rfl
theorem tc_9_112 : qTc 9 112 = some (0, mX5_readMode, 0) := rfl
theorem tc_9_115 : qTc 9 115 = some (0, mX2_forget, 0) := rfl
theorem tc_9_118 : qTc 9 118 = some (0, mX1_edgeCount, 0) := rfl
theorem tc_9_121 : qTc 9 121 = some (0, mX5_kindOfError, 0) := rfl
theorem tc_9_127 : qTc 9 127 = some (0, mX1_vertexCount, 0) := rfl
theorem tc_9_130 : qTc 9 130 = some (0, mX9_choose, 1) := rfl
theorem tc_9_134 : qTc 9 134 = some (0, mX9_checkVertex, 1) := rfl
theorem tc_9_137 : qTc 9 137 = some (0, mX1_between, 2) := rfl
theorem tc_9_141 : qTc 9 141 = some (0, mX1_degreeOf, 1) := rfl
theorem tc_9_145 : qTc 9 145 = some (0, mX1_loopCount, 0) := rfl
theorem tc_9_148 : qTc 9 148 = some (0, mX1_defectCount, 0) := rfl
theorem tc_9_154 : qTc 9 154 = some (0, mX1_triangleCount, 0) := rfl
theorem tc_9_157 : qTc 9 157 = some (0, mX4_find, 1) := rfl
theorem tc_9_160 : qTc 9 160 = some (0, mX4_count, 0) := rfl
theorem tc_9_170 : qTc 9 170 = some (0, mX9_checkEdge, 2) := rfl
theorem tc_9_182 : qTc 9 182 = some (0, mX6_take, 1) := rfl
theorem tc_9_185 : qTc 9 185 = some (0, mX6_greatest, 1) := rfl
theorem tc_9_193 : qTc 9 193 = some (0, mX6_slackOf, 1) := rfl
theorem tc_9_196 : qTc 9 196 = some (0, mX9_checkMode, 1) := rfl
theorem tc_9_199 : qTc 9 199 = some (0, mX6_allows, 1) := rfl
theorem tc_9_202 : qTc 9 202 = some (0, mX9_checkVertices, 4) := rfl
theorem tc_9_206 : qTc 9 206 = some (0, mX1_reasonAgainst, 5) := rfl
theorem tc_9_273 : qTc 9 273 = some (0, mX9_remember, 0) := rfl
theorem tc_9_276 : qTc 9 276 = some (0, mX1_put, 3) := rfl
theorem tc_9_328 : qTc 9 328 = some (0, mX2_remember, 3) := rfl
theorem tc_10_1 : qTc 10 1 = some (7, mX0_of, 0) := rfl
theorem tc_10_18 : qTc 10 18 = some (0, mJ0_length_8abf5, 0) := rfl
theorem tc_10_24 : qTc 10 24 = some (0, mJ0_charAt_5068e, 1) := rfl
theorem tc_10_28 : qTc 10 28 = some (1, mL_four, 2) := rfl
theorem tc_10_32 : qTc 10 32 = some (0, mX9_feed, 5) := rfl
theorem tc_10_38 : qTc 10 38 = some (0, mX9_load, 1) := rfl
theorem tc_10_46 : qTc 10 46 = some (1, mL_cell, 2) := rfl
theorem tc_10_50 : qTc 10 50 = some (1, mL_among, 2) := rfl
theorem tc_10_54 : qTc 10 54 = some (0, mL_chosen, 1) := rfl
theorem tc_10_57 : qTc 10 57 = some (2, mL_init, 0) := rfl
theorem tc_10_58 : qTc 10 58 = some (2, mX9_init, 0) := rfl
theorem tc_10_59 : qTc 10 59 = some (0, mL_told, 0) := rfl
theorem tc_10_63 : qTc 10 63 = some (1, mL_load, 2) := rfl
theorem tc_10_66 : qTc 10 66 = some (0, mL_edges, 0) := rfl
theorem tc_10_69 : qTc 10 69 = some (0, mX9_errorKind, 0) := rfl
theorem tc_10_72 : qTc 10 72 = some (0, mX9_vertices, 0) := rfl
theorem tc_10_78 : qTc 10 78 = some (0, mL_isGraph, 1) := rfl
theorem tc_10_82 : qTc 10 82 = some (0, mL_isSequence, 1) := rfl
theorem tc_10_85 : qTc 10 85 = some (0, mL_isReason, 1) := rfl
theorem tc_10_88 : qTc 10 88 = some (4, mL_isNoVertex, 1) := rfl
theorem tc_10_91 : qTc 10 91 = some (4, mL_isBad, 1) := rfl
theorem tc_10_94 : qTc 10 94 = some (15, mL_isNoEdge, 1) := rfl
theorem tc_10_97 : qTc 10 97 = some (0, mL_from, 2) := rfl
theorem tc_10_107 : qTc 10 107 = some (2, mJ4_init_da8c8, 0) := rfl
theorem tc_10_108 : qTc 10 108 = some (0, mJ4_append_15ec4, 1) := rfl
theorem tc_10_114 : qTc 10 114 = some (0, mJ4_append_bf812, 1) := rfl
theorem tc_10_117 : qTc 10 117 = some (0, mJ4_toString_0e30d, 0) := rfl
theorem tc_10_126 : qTc 10 126 = some (6, mX0_of, 2) := rfl
theorem tc_10_131 : qTc 10 131 = some (5, mX0_of, 2) := rfl
theorem tc_10_134 : qTc 10 134 = some (0, mL_many, 2) := rfl
theorem tc_10_137 : qTc 10 137 = some (0, mX9_degree, 2) := rfl
theorem tc_10_141 : qTc 10 141 = some (0, mL_degree, 1) := rfl
theorem tc_10_143 : qTc 10 143 = some (0, mX9_times, 3) := rfl
theorem tc_10_147 : qTc 10 147 = some (0, mX9_loops, 0) := rfl
theorem tc_10_150 : qTc 10 150 = some (0, mX9_defects, 0) := rfl
theorem tc_10_153 : qTc 10 153 = some (0, mX9_isSimple, 0) := rfl
theorem tc_10_157 : qTc 10 157 = some (0, mX9_triangles, 0) := rfl
theorem tc_10_160 : qTc 10 160 = some (0, mX9_components, 0) := rfl
theorem tc_10_163 : qTc 10 163 = some (0, mX9_meanDegree, 0) := rfl
theorem tc_10_169 : qTc 10 169 = some (0, mX9_sorted, 1) := rfl
theorem tc_10_172 : qTc 10 172 = some (0, mX9_slack, 1) := rfl
theorem tc_10_175 : qTc 10 175 = some (0, mX9_isPossible, 1) := rfl
theorem tc_10_179 : qTc 10 179 = some (1, mL_isSame, 4) := rfl
theorem tc_10_183 : qTc 10 183 = some (0, mX9_reason, 4) := rfl
theorem tc_10_189 : qTc 10 189 = some (0, mX9_setMode, 1) := rfl
theorem tc_10_194 : qTc 10 194 = some (0, mX9_removeEdge, 2) := rfl
theorem tc_11_1 : qTc 11 1 = some (7, mX0_of, 0) := rfl
theorem tc_11_54 : qTc 11 54 = some (1, mJ7_copyOfRange_39247, 3) := rfl
theorem tc_11_212 : qTc 11 212 = some (14, mX0_of, 5) := rfl
theorem tc_11_335 : qTc 11 335 = some (0, mJ0_coder_7d493, 0) := rfl
theorem tc_11_489 : qTc 11 489 = some (2, mJ0_init_db425, 2) := rfl
theorem tc_11_492 : qTc 11 492 = some (0, mJ0_isLatin1_aae02, 0) := rfl
theorem tc_11_495 : qTc 11 495 = some (1, mJ1_charAt_3b067, 2) := rfl
theorem tc_11_549 : qTc 11 549 = some (16, mJ4_length_8abf5, 0) := rfl
theorem tc_11_552 : qTc 11 552 = some (10, mJ5_getValue_6d5f1, 0) := rfl
theorem tc_11_1047 : qTc 11 1047 = some (10, mJ5_isLatin1_aae02, 0) := rfl
theorem tc_12_1 : qTc 12 1 = some (12, mJ5_init_d00df, 1) := rfl
theorem tc_12_29 : qTc 12 29 = some (11, mJ5_append_cf1ce, 1) := rfl
theorem tc_12_53 : qTc 12 53 = some (11, mJ5_append_c97b9, 1) := rfl
theorem tc_12_137 : qTc 12 137 = some (2, mJ0_init_81219, 1) := rfl
theorem tc_12_343 : qTc 12 343 = some (11, mJ5_length_8abf5, 0) := rfl
theorem tc_13_3 : qTc 13 3 = some (7, mX0_of, 0) := rfl
theorem tc_13_32 : qTc 13 32 = some (0, mJ0_length_8abf5, 0) := rfl
theorem tc_13_40 : qTc 13 40 = some (0, mJ0_coder_7d493, 0) := rfl
theorem tc_13_83 : qTc 13 83 = some (10, mJ5_isLatin1_aae02, 0) := rfl
theorem tc_13_100 : qTc 13 100 = some (10, mJ5_ensureCapacityInternal_d00df, 1) := rfl
theorem tc_13_104 : qTc 13 104 = some (10, mJ5_newCapacity_0f7a4, 1) := rfl
theorem tc_13_108 : qTc 13 108 = some (1, mJ7_copyOf_9075b, 2) := rfl
theorem tc_13_114 : qTc 13 114 = some (1, mJ8_newLength_cabcc, 3) := rfl
theorem tc_13_208 : qTc 13 208 = some (10, mJ5_putStringAt_47b60, 2) := rfl
theorem tc_13_245 : qTc 13 245 = some (1, mJ6_stringSize_0f7a4, 1) := rfl
theorem tc_13_248 : qTc 13 248 = some (1, mJ6_getChars_ba4f3, 3) := rfl
theorem tc_13_397 : qTc 13 397 = some (10, mJ5_inflateIfNeededFor_a7421, 1) := rfl
theorem tc_13_399 : qTc 13 399 = some (0, mJ0_getBytes_840e7, 3) := rfl
theorem tc_15_9 : qTc 15 9 = some (13, mX0_of, 2) := rfl
theorem tc_16_150 : qTc 16 150 = some (14, mX0_of, 5) := rfl
theorem tc_16_304 : qTc 16 304 = some (6, mX0_of, 2) := rfl
theorem tc_16_310 : qTc 16 310 = some (17, mX0_of, 0) := rfl
theorem tc_16_339 : qTc 16 339 = some (1, mJ7_copyOfRangeByte_39247, 3) := rfl
theorem tc_16_343 : qTc 16 343 = some (1, mJ7_checkLength_df160, 2) := rfl
theorem tc_17_194 : qTc 17 194 = some (5, mX0_of, 2) := rfl
theorem ts_5_80 : qTs 5 80 = some 0 := rfl
theorem ts_5_89 : qTs 5 89 = some 1 := rfl
theorem ts_5_98 : qTs 5 98 = some 2 := rfl
theorem ts_5_104 : qTs 5 104 = some 3 := rfl
theorem ts_5_105 : qTs 5 105 = some 4 := rfl
theorem ts_10_103 : qTs 10 103 = some 5 := rfl
theorem ts_10_112 : qTs 10 112 = some 6 := rfl
theorem ts_10_120 : qTs 10 120 = some 7 := rfl
theorem ts_10_122 : qTs 10 122 = some 8 := rfl
theorem ts_10_124 : qTs 10 124 = some 9 := rfl
theorem tx_9_90_92 : qTx 9 90 92 94 false = some 1 := rfl
theorem tx_9_90_320 : qTx 9 90 320 94 true = some 1 := rfl
theorem tx_9_188_190 : qTx 9 188 190 192 false = some 0 := rfl
theorem tx_9_188_316 : qTx 9 188 316 192 true = some 0 := rfl
theorem tx_9_240_318 : qTx 9 240 318 244 true = some 2 := rfl
theorem tn_9_188 : qTn 9 188 = none := rfl
theorem tn_9_240 : qTn 9 240 = none := rfl
theorem tn_9_90 : qTn 9 90 = none := rfl
theorem tg_11_38 : qTg 11 38 = some 0 := rfl
theorem tg_13_18 : qTg 13 18 = some 0 := rfl
theorem tg_14_83 : qTg 14 83 = some 1 := rfl
theorem to_13_39 : qTo 13 39 = some 2147483647 := rfl
theorem tz_13_39 : qTs 13 39 = none := rfl
theorem to_17_200 : qTo 17 200 = some 2147483639 := rfl
theorem tz_17_200 : qTs 17 200 = none := rfl
theorem tn_2_9 : qTn 2 9 = some 0 := rfl
theorem tn_5_15 : qTn 5 15 = some 0 := rfl
theorem tn_5_25 : qTn 5 25 = some 5 := rfl
theorem tn_8_15 : qTn 8 15 = some 0 := rfl
theorem tn_9_7 : qTn 9 7 = some 4 := rfl
theorem tn_9_16 : qTn 9 16 = some 0 := rfl
theorem tn_9_32 : qTn 9 32 = some 3 := rfl
theorem tn_9_39 : qTn 9 39 = some 5 := rfl
theorem tn_9_46 : qTn 9 46 = some 6 := rfl
theorem tn_9_53 : qTn 9 53 = some 7 := rfl
theorem tn_9_60 : qTn 9 60 = some 1 := rfl
theorem tn_9_67 : qTn 9 67 = some 2 := rfl
theorem tn_10_8 : qTn 10 8 = some 9 := rfl
theorem tn_10_33 : qTn 10 33 = some 8 := rfl
theorem tn_10_105 : qTn 10 105 = some 11 := rfl
theorem tn_12_18 : qTn 12 18 = some 10 := rfl
