/-! THE STATE OF NUMBERS behind the constructors: what each address holds; a number for each field and place -/
abbrev qMu : Type := Nat → Int → Int32
abbrev qSh : Type := Nat × Nat × Nat × List (Option Nat)
def qShp_0 : List qSh := [(0, 8, 0, [some 1, some 11, some 13, some 15, some 17, some 19, some 22, some 26, some 28, some 32, some 76, none]), (0, 4, 0, [some 2, some 3, some 5, some 7, none, none, none, none, none, none, none, none, none]), (1, 1, 400, []), (0, 0, 0, [some 4, none, none]), (1, 0, 64, []), (0, 0, 0, [some 6, none, none]), (1, 0, 64, []), (0, 5, 0, [some 8, some 9, some 10, none, none]), (1, 0, 8, []), (1, 0, 8, []), (1, 0, 8, []), (0, 0, 0, [some 12, none, none]), (1, 0, 64, []), (0, 0, 0, [some 14, none, none]), (1, 0, 64, []), (0, 0, 0, [some 16, none, none]), (1, 0, 64, []), (0, 0, 0, [some 18, none, none]), (1, 0, 64, []), (0, 3, 0, [some 20, some 21, none]), (1, 0, 8, []), (1, 0, 8, []), (0, 5, 0, [some 23, some 24, some 25, none, none]), (1, 0, 8, []), (1, 0, 8, []), (1, 0, 8, []), (0, 6, 0, [some 27, none]), (1, 0, 1024, []), (0, 7, 0, [some 29, some 30, none]), (1, 0, 16, []), (0, 0, 0, [some 31, none, none])]
def qShp_1 : List qSh := [(1, 0, 64, []), (0, 1, 0, [some 33, some 34, some 35, none, none]), (2, 5, 10, [some 36, some 40, some 44, some 48, some 52, some 56, some 60, some 64, some 68, some 72]), (2, 5, 10, [some 38, some 42, some 46, some 50, some 54, some 58, some 62, some 66, some 70, some 74]), (1, 0, 10, []), (0, 0, 0, [some 37, none, none]), (1, 0, 64, []), (0, 0, 0, [some 39, none, none]), (1, 0, 64, []), (0, 0, 0, [some 41, none, none]), (1, 0, 64, []), (0, 0, 0, [some 43, none, none]), (1, 0, 64, []), (0, 0, 0, [some 45, none, none]), (1, 0, 64, []), (0, 0, 0, [some 47, none, none]), (1, 0, 64, []), (0, 0, 0, [some 49, none, none]), (1, 0, 64, []), (0, 0, 0, [some 51, none, none]), (1, 0, 64, []), (0, 0, 0, [some 53, none, none]), (1, 0, 64, []), (0, 0, 0, [some 55, none, none]), (1, 0, 64, []), (0, 0, 0, [some 57, none, none]), (1, 0, 64, []), (0, 0, 0, [some 59, none, none]), (1, 0, 64, []), (0, 0, 0, [some 61, none, none]), (1, 0, 64, [])]
def qShp_2 : List qSh := [(0, 0, 0, [some 63, none, none]), (1, 0, 64, []), (0, 0, 0, [some 65, none, none]), (1, 0, 64, []), (0, 0, 0, [some 67, none, none]), (1, 0, 64, []), (0, 0, 0, [some 69, none, none]), (1, 0, 64, []), (0, 0, 0, [some 71, none, none]), (1, 0, 64, []), (0, 0, 0, [some 73, none, none]), (1, 0, 64, []), (0, 0, 0, [some 75, none, none]), (1, 0, 64, []), (0, 2, 0, [some 77, none]), (1, 2, 64, []), (0, 9, 0, [some 79, some 80, some 81, none, none, some 82, none, none, none, none, none, none, none, none, none, none, none, some 83, some 84, some 85, some 86, some 87, some 88, some 89, some 90, some 91, none]), (1, 0, 130, []), (1, 0, 130, []), (1, 0, 1300, []), (1, 0, 400, []), (1, 0, 8, []), (1, 0, 8, []), (1, 0, 8, []), (1, 0, 8, []), (1, 0, 8, []), (1, 3, 8, []), (1, 0, 4096, []), (1, 0, 64, []), (1, 0, 160, []), (3, 4, 1, [])]
def qShp : List qSh := qShp_0 ++ (qShp_1 ++ (qShp_2))
def rd (μ : qMu) (a : Nat) (i : Int) : Int := (μ a i).toInt
def up (μ : qMu) (a : Nat) (i : Int) (v : Int) : qMu := fun b => if b = a then (fun j => if j = i then Int32.ofInt v else μ a j) else μ b
def qFl (μ : qMu) (a : Nat) (fl : List (Option Nat)) : List Value := fl.mapIdx (fun k e => match e with
  | some b => Value.ref b
  | none => Value.int (μ a (k : Int)))
def qCl (μ : qMu) (a : Nat) (q : qSh) : qMC := match q with
  | (0, c, _, fl) => .inl (c, qFl μ a fl)
  | (1, t, n, _) => .inr (t, n, .inl (fun j => μ a (j : Int)))
  | (2, t, n, fl) => .inr (t, n, .inr (.inr (.inr (.inr (fun j => fl.getD j none)))))
  | (_, t, n, _) => .inr (t, n, .inr (.inl (fun j => (μ a (j : Int)).toInt64)))
def cH (Ls : Nat) (μ : qMu) : qHp := fun a => if a = 1001000 then .inr (0, Ls, .inl (fun j => μ 1001000 (j : Int))) else match qShp[a]? with
  | some q => qCl μ a q
  | none => .inl (0, [])
def cS (Ls t : Nat) (μ : qMu) : qSt := (93, t, 9813 + 6 * t, cH Ls μ)
def gG (g : Nat) : Prop := qShp[g]? = some (0, 0, 0, [some (g + 1), none, none]) ∧ qShp[g + 1]? = some (1, 0, 64, [])
def gS (q : Nat) : Prop := qShp[q]? = some (0, 5, 0, [some (q + 1), some (q + 2), some (q + 3), none, none]) ∧ qShp[q + 1]? = some (1, 0, 8, []) ∧ qShp[q + 2]? = some (1, 0, 8, []) ∧ qShp[q + 3]? = some (1, 0, 8, [])
theorem qShp_len : qShp.length = 93 := rfl
theorem qShp_lt {a : Nat} {q : qSh} (h : qShp[a]? = some q) : a < 93 := by
  have := (List.getElem?_eq_some_iff.mp h).1
  rwa [qShp_len] at this
theorem qShp_ok : qShp.all (fun q => decide (q.2.2.1 ≤ 5000) && (decide (q.1 ≠ 2) || decide (q.2.2.1 = q.2.2.2.length))) = true := by decide +kernel
theorem qShp_n {a : Nat} {q : qSh} (h : qShp[a]? = some q) : q.2.2.1 ≤ 5000 := by
  have := List.all_eq_true.mp qShp_ok q (List.mem_of_getElem? h)
  simp only [Bool.and_eq_true, decide_eq_true_eq] at this
  exact this.1
theorem qShp_r {a t n : Nat} {fl : List (Option Nat)} (h : qShp[a]? = some (2, t, n, fl)) : n = fl.length := by
  have := List.all_eq_true.mp qShp_ok _ (List.mem_of_getElem? h)
  simp only [Bool.and_eq_true, Bool.or_eq_true, decide_eq_true_eq] at this
  rcases this.2 with h | h
  · exact absurd rfl h
  · exact h
theorem cH_at {Ls a : Nat} {μ : qMu} {q : qSh} (h : qShp[a]? = some q) : cH Ls μ a = qCl μ a q := by
  have := qShp_lt h
  unfold cH
  rw [if_neg (by omega), h]
theorem up_ne {μ : qMu} {a b : Nat} {i v : Int} (h : b ≠ a) : up μ a i v b = μ b := by
  unfold up
  rw [if_neg h]
theorem up_at {μ : qMu} {a : Nat} {i v : Int} : up μ a i v a = fun j => if j = i then Int32.ofInt v else μ a j := by
  unfold up
  try rw [if_pos rfl]
theorem qCl_cg {μ1 μ2 : qMu} {a : Nat} {q : qSh} (h : μ1 a = μ2 a) : qCl μ1 a q = qCl μ2 a q := by
  unfold qCl qFl
  rw [h]
/-- one cell written -/
theorem cH_put {Ls a t : Nat} {μ : qMu} {i v : Int} {q : qSh} {c : qMC} (h : qShp[a]? = some q) (hc : c = qCl (up μ a i v) a q) : qput (cS Ls t μ) a c = cS Ls t (up μ a i v) := by
  have hlt := qShp_lt h
  have : qup (cH Ls μ) a c = cH Ls (up μ a i v) := by
    funext b
    unfold qup
    by_cases hb : b = a
    · subst hb
      try try rw [if_pos rfl]
      rw [cH_at h, hc]
    · rw [if_neg hb]
      unfold cH
      by_cases h1 : b = 1001000
      · rw [if_pos h1, if_pos h1, up_ne (by omega)]
      · rw [if_neg h1, if_neg h1]
        split
        · exact qCl_cg (up_ne hb).symm
        · rfl
  show (_, _, _, qup (cH Ls μ) a c) = _
  rw [this]
  rfl
theorem cS_ob {Ls t a c n : Nat} {μ : qMu} {fl : List (Option Nat)} (h : qShp[a]? = some (0, c, n, fl)) : qob (cS Ls t μ) a c = some (qFl μ a fl) := by
  unfold qob
  show (match cH Ls μ a with
    | .inl (c', fs) => if c' = c ∧ a < 93 then some fs else none
    | _ => none) = _
  rw [cH_at h]
  show (if c = c ∧ a < 93 then some (qFl μ a fl) else none) = _
  rw [if_pos ⟨rfl, qShp_lt h⟩]
theorem cS_cls {Ls t a c n : Nat} {μ : qMu} {fl : List (Option Nat)} (h : qShp[a]? = some (0, c, n, fl)) : qcls (cS Ls t μ) a = some c := by
  unfold qcls
  show (match cH Ls μ a with
    | .inl (c', _) => if a < 93 then some c' else none
    | _ => none) = _
  rw [cH_at h]
  show (if a < 93 then some c else none) = _
  rw [if_pos (qShp_lt h)]
theorem cS_ai {Ls t a ty n : Nat} {μ : qMu} {fl : List (Option Nat)} (h : qShp[a]? = some (1, ty, n, fl)) (ty' : Nat) : qai (cS Ls t μ) a ty' = if ty = ty' then some (n, fun j : Nat => μ a (j : Int)) else none := by
  unfold qai
  show (match cH Ls μ a with
    | .inr (t', n, .inl f) => if t' = ty' ∧ (a < 93 ∨ a = 1001000) then some (n, f) else none
    | _ => none) = _
  rw [cH_at h]
  show (if ty = ty' ∧ (a < 93 ∨ a = 1001000) then some (n, fun j : Nat => μ a (j : Int)) else none) = _
  by_cases hh : ty = ty'
  · rw [if_pos hh, if_pos ⟨hh, Or.inl (qShp_lt h)⟩]
  · rw [if_neg hh, if_neg (fun q => hh q.1)]
theorem qFl_at {μ : qMu} {a k : Nat} {fl : List (Option Nat)} : (qFl μ a fl)[k]? = (fl[k]?).map (fun e => match e with
  | some b => Value.ref b
  | none => Value.int (μ a (k : Int))) := by
  unfold qFl
  rw [List.getElem?_mapIdx]
theorem iv_rd {μ : qMu} {a : Nat} {i : Int} : iv (rd μ a i) = .int (μ a i) := iv_to _
/-- the place of an array -/
def qLd (μ : qMu) (a n : Nat) (i : Int) : Option Int := if 0 ≤ i ∧ i < (n : Int) then some (rd μ a i) else none
def qSa (μ : qMu) (a n : Nat) (i v : Int) : Option qMu := if 0 ≤ i ∧ i < (n : Int) then some (up μ a i v) else none
def qPf (μ : qMu) (a : Nat) (i v : Int) : Option qMu := some (up μ a i v)
def qNr (ty : FieldType) (v : Int) : Int := (vp_nar ty (Int32.ofInt v)).toInt
def qLa (fl : List (Option Nat)) (i : Int) : Option Nat := if 0 ≤ i then (fl.getD i.toNat none) else none
theorem qin {n : Nat} {i : Int} (hn : n ≤ 5000) (h : 0 ≤ i ∧ i < (n : Int)) : (Int32.ofInt i).toNatClampNeg = i.toNat ∧ ¬ (Int32.ofInt i < 0 ∨ n ≤ (Int32.ofInt i).toNatClampNeg) ∧ ((i.toNat : Nat) : Int) = i := by
  have e1 : (Int32.ofInt i).toNatClampNeg = i.toNat := Int32.toNatClampNeg_ofInt_of_le (by omega) (by omega)
  refine ⟨e1, ?_, by omega⟩
  rintro (q | q)
  · have : (Int32.ofInt i).toInt < (0 : Int32).toInt := Int32.lt_iff_toInt_lt.mp q
    rw [Int32.toInt_ofInt_of_le (by omega) (by omega)] at this
    have e0 : (0 : Int32).toInt = 0 := rfl
    omega
  · rw [e1] at q
    omega
section EVH
variable {d : Nat} {M : qM} {pc pc' : Nat} {L : qLo} {st : List Value} {o : qO} {s' : qSt} {Ls t : Nat} {μ μ1 : qMu}
theorem ev_getr {i ci k a n b : Nat} {fl : List (Option Nat)} (hd : decode M.2.2.1 pc = .ok (.getfield i, 3)) (hp : pc + 3 = pc') (hf : qTf M.1 i = some (ci, k)) (ha : qShp[a]? = some (0, ci, n, fl)) (hk : fl[k]? = some (some b)) (kk : Ev d M pc' L (.ref b :: st) (cS Ls t μ) o s') : Ev d M pc L (.ref a :: st) (cS Ls t μ) o s' := by
  subst hp
  refine ev_pu hd (fun L' => ?_) kk
  dsimp only [qStep]
  try rw [if_pos rfl]
  try dsimp only
  rw [hf]
  try dsimp only
  rw [cS_ob ha]
  try dsimp only
  rw [qFl_at, hk]
  rfl
theorem ev_geti {i ci k a n : Nat} {ki : Int} {fl : List (Option Nat)} (hd : decode M.2.2.1 pc = .ok (.getfield i, 3)) (hp : pc + 3 = pc') (hf : qTf M.1 i = some (ci, k)) (ha : qShp[a]? = some (0, ci, n, fl)) (hk : fl[k]? = some none) (hki : (k : Int) = ki) (kk : Ev d M pc' L (iv (rd μ a ki) :: st) (cS Ls t μ) o s') : Ev d M pc L (.ref a :: st) (cS Ls t μ) o s' := by
  subst hp hki
  refine ev_pu hd (fun L' => ?_) kk
  rw [iv_rd]
  dsimp only [qStep]
  try rw [if_pos rfl]
  try dsimp only
  rw [hf]
  try dsimp only
  rw [cS_ob ha]
  try dsimp only
  rw [qFl_at, hk]
  rfl
theorem qFl_set {a k : Nat} {fl : List (Option Nat)} {v : Int} (hk : fl[k]? = some none) : (qFl μ a fl).set k (iv v) = qFl (up μ a (k : Int) v) a fl := by
  apply List.ext_getElem?
  intro j
  rw [List.getElem?_set]
  have hlen : (qFl μ a fl).length = fl.length := by unfold qFl; rw [List.length_mapIdx]
  have hkl : k < fl.length := (List.getElem?_eq_some_iff.mp hk).1
  rw [hlen]
  by_cases hkj : k = j
  · subst hkj
    try try rw [if_pos rfl]
    rw [if_pos hkl, qFl_at, hk, up_at]
    show some (iv v) = some (Value.int (if (k : Int) = (k : Int) then Int32.ofInt v else _))
    try rw [if_pos rfl]
    rfl
  · rw [if_neg hkj, qFl_at, qFl_at, up_at]
    congr 1
    funext e
    cases e with
    | some b => rfl
    | none =>
      show Value.int _ = Value.int (if (j : Int) = (k : Int) then _ else _)
      rw [if_neg (by omega)]
theorem ev_puti {i ci k a n : Nat} {v : Int} {fl : List (Option Nat)} (hd : decode M.2.2.1 pc = .ok (.putfield i, 3)) (hp : pc + 3 = pc') (hf : qTf M.1 i = some (ci, k)) (ha : qShp[a]? = some (0, ci, n, fl)) (hk : fl[k]? = some none) (hy : qty ci k = .int) (hw : qwr M ci k = true) {ki : Int} (hki : (k : Int) = ki) (hx : qPf μ a ki v = some μ1) (kk : Ev d M pc' L st (cS Ls t μ1) o s') : Ev d M pc L (iv v :: .ref a :: st) (cS Ls t μ) o s' := by
  subst hp hki
  cases hx
  refine ev_pu hd (fun L' => ?_) kk
  have hlen : (qFl μ a fl).length = fl.length := by unfold qFl; rw [List.length_mapIdx]
  have hkl : k < fl.length := (List.getElem?_eq_some_iff.mp hk).1
  dsimp only [qStep]
  try rw [if_pos rfl]
  try dsimp only
  rw [hf]
  try dsimp only
  rw [cS_ob ha]
  try dsimp only
  rw [if_pos ⟨by rw [hy]; rfl, by rw [hy]; rfl, by rw [hlen]; exact hkl, hw⟩, qFl_set hk, cH_put (c := Sum.inl (ci, qFl (up μ a (k : Int) v) a fl)) (i := (k : Int)) (v := v) ha rfl]
  rfl
theorem ev_iald {a n : Nat} {i x : Int} {fl : List (Option Nat)} (hd : decode M.2.2.1 pc = .ok (.iaload, 1)) (hp : pc + 1 = pc') (ha : qShp[a]? = some (1, 0, n, fl)) (hx : qLd μ a n i = some x) (kk : Ev d M pc' L (iv x :: st) (cS Ls t μ) o s') : Ev d M pc L (iv i :: .ref a :: st) (cS Ls t μ) o s' := by
  subst hp
  unfold qLd at hx
  split at hx
  · rename_i h0
    cases hx
    obtain ⟨e1, e2, e3⟩ := qin (qShp_n ha) h0
    refine ev_pu hd (fun L' => ?_) kk
    rw [iv_rd]
    unfold iv
    dsimp only [qStep]
    try rw [if_pos rfl]
    try dsimp only
    rw [cS_ai ha, if_pos rfl]
    try dsimp only
    rw [if_neg e2, e1, e3]
    rfl
  · cases hx
theorem ev_bald1 {a n : Nat} {i x : Int} {fl : List (Option Nat)} (hd : decode M.2.2.1 pc = .ok (.baload, 1)) (hp : pc + 1 = pc') (ha : qShp[a]? = some (1, 1, n, fl)) (hx : qLd μ a n i = some x) (kk : Ev d M pc' L (iv x :: st) (cS Ls t μ) o s') : Ev d M pc L (iv i :: .ref a :: st) (cS Ls t μ) o s' := by
  subst hp
  unfold qLd at hx
  split at hx
  · rename_i h0
    cases hx
    obtain ⟨e1, e2, e3⟩ := qin (qShp_n ha) h0
    refine ev_pu hd (fun L' => ?_) kk
    rw [iv_rd]
    unfold iv
    dsimp only [qStep]
    try rw [if_pos rfl]
    try dsimp only
    rw [cS_ai ha, if_pos rfl]
    try dsimp only
    rw [if_neg e2, e1, e3]
    rfl
  · cases hx
theorem ev_bald3 {a n : Nat} {i x : Int} {fl : List (Option Nat)} (hd : decode M.2.2.1 pc = .ok (.baload, 1)) (hp : pc + 1 = pc') (ha : qShp[a]? = some (1, 3, n, fl)) (hx : qLd μ a n i = some x) (kk : Ev d M pc' L (iv x :: st) (cS Ls t μ) o s') : Ev d M pc L (iv i :: .ref a :: st) (cS Ls t μ) o s' := by
  subst hp
  unfold qLd at hx
  split at hx
  · rename_i h0
    cases hx
    obtain ⟨e1, e2, e3⟩ := qin (qShp_n ha) h0
    refine ev_pu hd (fun L' => ?_) kk
    rw [iv_rd]
    unfold iv
    dsimp only [qStep]
    try rw [if_pos rfl]
    try dsimp only
    rw [cS_ai ha 1, if_neg (by decide), cS_ai ha 3, if_pos rfl]
    try dsimp only
    rw [if_neg e2, e1, e3]
    rfl
  · cases hx
theorem ev_cald {a n : Nat} {i x : Int} {fl : List (Option Nat)} (hd : decode M.2.2.1 pc = .ok (.caload, 1)) (hp : pc + 1 = pc') (ha : qShp[a]? = some (1, 2, n, fl)) (hx : qLd μ a n i = some x) (kk : Ev d M pc' L (iv x :: st) (cS Ls t μ) o s') : Ev d M pc L (iv i :: .ref a :: st) (cS Ls t μ) o s' := by
  subst hp
  unfold qLd at hx
  split at hx
  · rename_i h0
    cases hx
    obtain ⟨e1, e2, e3⟩ := qin (qShp_n ha) h0
    refine ev_pu hd (fun L' => ?_) kk
    rw [iv_rd]
    unfold iv
    dsimp only [qStep]
    try rw [if_pos rfl]
    try dsimp only
    rw [cS_ai ha, if_pos rfl]
    try dsimp only
    rw [if_neg e2, e1, e3]
    rfl
  · cases hx
theorem qCl_st {a ty n : Nat} {i v : Int} {fl : List (Option Nat)} (h0 : 0 ≤ i) : (Sum.inr (ty, n, .inl (upd (fun j : Nat => μ a (j : Int)) i.toNat (Int32.ofInt v))) : qMC) = qCl (up μ a i v) a (1, ty, n, fl) := by
  show _ = Sum.inr (ty, n, Sum.inl (fun j : Nat => up μ a i v a (j : Int)))
  congr 4
  funext j
  rw [up_at]
  unfold upd
  by_cases hj : j = i.toNat
  · rw [if_pos hj]
    show Int32.ofInt v = (if (j : Int) = i then Int32.ofInt v else μ a (j : Int))
    rw [if_pos (by omega)]
  · rw [if_neg hj]
    show μ a (j : Int) = (if (j : Int) = i then Int32.ofInt v else μ a (j : Int))
    rw [if_neg (by omega)]
theorem ev_iast {a n : Nat} {i v : Int} {fl : List (Option Nat)} (hd : decode M.2.2.1 pc = .ok (.iastore, 1)) (hp : pc + 1 = pc') (ha : qShp[a]? = some (1, 0, n, fl)) (hx : qSa μ a n i v = some μ1) (kk : Ev d M pc' L st (cS Ls t μ1) o s') : Ev d M pc L (iv v :: iv i :: .ref a :: st) (cS Ls t μ) o s' := by
  subst hp
  unfold qSa at hx
  split at hx
  · rename_i h0
    cases hx
    obtain ⟨e1, e2, e3⟩ := qin (qShp_n ha) h0
    have hlt := qShp_lt ha
    refine ev_pu hd (fun L' => ?_) kk
    unfold iv
    dsimp only [qStep]
    try rw [if_pos rfl]
    try dsimp only
    rw [cS_ai ha, if_pos rfl]
    try dsimp only
    rw [if_neg (by rintro (q | q); · exact e2 q
                   · exact q hlt), e1, cH_put ha (qCl_st (fl := fl) h0.1)]
    rfl
  · cases hx
theorem ev_bast1 {a n : Nat} {i v : Int} {fl : List (Option Nat)} (hd : decode M.2.2.1 pc = .ok (.bastore, 1)) (hp : pc + 1 = pc') (ha : qShp[a]? = some (1, 1, n, fl)) (hx : qSa μ a n i (qNr .byte v) = some μ1) (kk : Ev d M pc' L st (cS Ls t μ1) o s') : Ev d M pc L (iv v :: iv i :: .ref a :: st) (cS Ls t μ) o s' := by
  subst hp
  unfold qSa at hx
  split at hx
  · rename_i h0
    cases hx
    obtain ⟨e1, e2, e3⟩ := qin (qShp_n ha) h0
    have hlt := qShp_lt ha
    refine ev_pu hd (fun L' => ?_) kk
    unfold iv
    dsimp only [qStep]
    try rw [if_pos rfl]
    try dsimp only
    rw [cS_ai ha, if_pos rfl]
    try dsimp only
    rw [if_neg (by rintro (q | q); · exact e2 q
                   · exact q hlt), e1, show vp_nar .byte (Int32.ofInt v) = Int32.ofInt (qNr .byte v) by unfold qNr; rw [Int32.ofInt_toInt], cH_put ha (qCl_st (fl := fl) h0.1)]
    rfl
  · cases hx
theorem ev_bast3 {a n : Nat} {i v : Int} {fl : List (Option Nat)} (hd : decode M.2.2.1 pc = .ok (.bastore, 1)) (hp : pc + 1 = pc') (ha : qShp[a]? = some (1, 3, n, fl)) (hx : qSa μ a n i (qNr .boolean v) = some μ1) (kk : Ev d M pc' L st (cS Ls t μ1) o s') : Ev d M pc L (iv v :: iv i :: .ref a :: st) (cS Ls t μ) o s' := by
  subst hp
  unfold qSa at hx
  split at hx
  · rename_i h0
    cases hx
    obtain ⟨e1, e2, e3⟩ := qin (qShp_n ha) h0
    have hlt := qShp_lt ha
    refine ev_pu hd (fun L' => ?_) kk
    unfold iv
    dsimp only [qStep]
    try rw [if_pos rfl]
    try dsimp only
    rw [cS_ai ha 1, if_neg (by decide), cS_ai ha 3, if_pos rfl]
    try dsimp only
    rw [if_neg (by rintro (q | q); · exact e2 q
                   · exact q hlt), e1, show vp_nar .boolean (Int32.ofInt v) = Int32.ofInt (qNr .boolean v) by unfold qNr; rw [Int32.ofInt_toInt], cH_put ha (qCl_st (fl := fl) h0.1)]
    rfl
  · cases hx
theorem ev_cast {a n : Nat} {i v : Int} {fl : List (Option Nat)} (hd : decode M.2.2.1 pc = .ok (.castore, 1)) (hp : pc + 1 = pc') (ha : qShp[a]? = some (1, 2, n, fl)) (hx : qSa μ a n i (qNr .char v) = some μ1) (kk : Ev d M pc' L st (cS Ls t μ1) o s') : Ev d M pc L (iv v :: iv i :: .ref a :: st) (cS Ls t μ) o s' := by
  subst hp
  unfold qSa at hx
  split at hx
  · rename_i h0
    cases hx
    obtain ⟨e1, e2, e3⟩ := qin (qShp_n ha) h0
    have hlt := qShp_lt ha
    refine ev_pu hd (fun L' => ?_) kk
    unfold iv
    dsimp only [qStep]
    try rw [if_pos rfl]
    try dsimp only
    rw [cS_ai ha, if_pos rfl]
    try dsimp only
    rw [if_neg (by rintro (q | q); · exact e2 q
                   · exact q hlt), e1, show vp_nar .char (Int32.ofInt v) = Int32.ofInt (qNr .char v) by unfold qNr; rw [Int32.ofInt_toInt], cH_put ha (qCl_st (fl := fl) h0.1)]
    rfl
  · cases hx
theorem ev_aald {a ty n b : Nat} {i : Int} {fl : List (Option Nat)} (hd : decode M.2.2.1 pc = .ok (.aaload, 1)) (hp : pc + 1 = pc') (ha : qShp[a]? = some (2, 5, n, fl)) (hx : qLa fl i = some b) (kk : Ev d M pc' L (.ref b :: st) (cS Ls t μ) o s') : Ev d M pc L (iv i :: .ref a :: st) (cS Ls t μ) o s' := by
  subst hp
  unfold qLa at hx
  split at hx
  · rename_i h0
    have hn := qShp_r ha
    have hlt := qShp_lt ha
    have hil : i.toNat < fl.length := by
      rw [List.getD_eq_getElem?_getD] at hx
      by_cases h : i.toNat < fl.length
      · exact h
      · rw [List.getElem?_eq_none (by omega)] at hx
        cases hx
    have h00 : 0 ≤ i ∧ i < (n : Int) := ⟨h0, by omega⟩
    obtain ⟨e1, e2, e3⟩ := qin (qShp_n ha) h00
    refine ev_pu hd (fun L' => ?_) kk
    unfold iv
    dsimp only [qStep]
    try rw [if_pos rfl]
    try dsimp only
    rw [show qaq (cS Ls t μ) a = some (n, fun j => fl.getD j none) by
      unfold qaq
      show (match cH Ls μ a with
        | .inr (t', n, .inr (.inr (.inr (.inr f)))) => if t' = 5 ∧ a < 93 then some (n, f) else none
        | _ => none) = _
      rw [cH_at ha]
      show (if 5 = 5 ∧ a < 93 then some (n, fun j : Nat => fl.getD j none) else none) = _
      rw [if_pos ⟨rfl, hlt⟩]]
    try dsimp only
    rw [if_neg e2, e1, hx]
    rfl
  · cases hx
theorem ev_alen {a ty n : Nat} {fl : List (Option Nat)} (hd : decode M.2.2.1 pc = .ok (.arraylength, 1)) (hp : pc + 1 = pc') (ha : qShp[a]? = some (1, ty, n, fl)) (hty : ty = 0 ∨ ty = 2) (kk : Ev d M pc' L (iv (n : Int) :: st) (cS Ls t μ) o s') : Ev d M pc L (.ref a :: st) (cS Ls t μ) o s' := by
  subst hp
  refine ev_pu hd (fun L' => ?_) kk
  unfold iv
  dsimp only [qStep]
  try rw [if_pos rfl]
  try dsimp only
  rw [Int32.ofInt_eq_ofNat]
  rcases hty with rfl | rfl
  · rw [cS_ai ha, if_pos rfl]
    rfl
  · rw [cS_ai ha 0, if_neg (by decide), cS_ai ha 2, if_pos rfl]
    rfl
/-! the script -/
theorem cS_scr : qai (cS Ls t μ) 1001000 0 = some (Ls, fun j : Nat => μ 1001000 (j : Int)) := by
  unfold qai
  show (match cH Ls μ 1001000 with
    | .inr (t', n, .inl f) => if t' = 0 ∧ (1001000 < 93 ∨ 1001000 = 1001000) then some (n, f) else none
    | _ => none) = _
  unfold cH
  try rw [if_pos rfl]
  show (if 0 = 0 ∧ (1001000 < 93 ∨ 1001000 = 1001000) then some (Ls, fun j : Nat => μ 1001000 (j : Int)) else none) = _
  rw [if_pos ⟨rfl, Or.inr rfl⟩]
theorem ev_slen0 (hd : decode M.2.2.1 pc = .ok (.arraylength, 1)) (hp : pc + 1 = pc') (kk : Ev d M pc' L (iv (Ls : Int) :: st) (cS Ls t μ) o s') : Ev d M pc L (.ref 1001000 :: st) (cS Ls t μ) o s' := by
  subst hp
  refine ev_pu hd (fun L' => ?_) kk
  unfold iv
  dsimp only [qStep]
  try rw [if_pos rfl]
  try dsimp only
  rw [Int32.ofInt_eq_ofNat, cS_scr]
  rfl
theorem ev_sald {i x : Int} (hLs : Ls ≤ 5000) (hd : decode M.2.2.1 pc = .ok (.iaload, 1)) (hp : pc + 1 = pc') (hx : qLd μ 1001000 Ls i = some x) (kk : Ev d M pc' L (iv x :: st) (cS Ls t μ) o s') : Ev d M pc L (iv i :: .ref 1001000 :: st) (cS Ls t μ) o s' := by
  subst hp
  unfold qLd at hx
  split at hx
  · rename_i h0
    cases hx
    obtain ⟨e1, e2, e3⟩ := qin hLs h0
    refine ev_pu hd (fun L' => ?_) kk
    rw [iv_rd]
    unfold iv
    dsimp only [qStep]
    try rw [if_pos rfl]
    try dsimp only
    rw [cS_scr]
    try dsimp only
    rw [if_neg e2, e1, e3]
    rfl
  · cases hx
/-! the row of long numbers -/
theorem cS_al {a n : Nat} {fl : List (Option Nat)} (h : qShp[a]? = some (3, 4, n, fl)) : qal (cS Ls t μ) a = some (n, fun j : Nat => (μ a (j : Int)).toInt64) := by
  unfold qal
  show (match cH Ls μ a with
    | .inr (t', n, .inr (.inl f)) => if t' = 4 ∧ a < 93 then some (n, f) else none
    | _ => none) = _
  rw [cH_at h]
  show (if 4 = 4 ∧ a < 93 then some (n, fun j : Nat => (μ a (j : Int)).toInt64) else none) = _
  rw [if_pos ⟨rfl, qShp_lt h⟩]
theorem ev_lald {a n : Nat} {i x : Int} {fl : List (Option Nat)} (hd : decode M.2.2.1 pc = .ok (.laload, 1)) (hp : pc + 1 = pc') (ha : qShp[a]? = some (3, 4, n, fl)) (hx : qLd μ a n i = some x) (kk : Ev d M pc' L (ql x :: st) (cS Ls t μ) o s') : Ev d M pc L (iv i :: .ref a :: st) (cS Ls t μ) o s' := by
  subst hp
  unfold qLd at hx
  split at hx
  · rename_i h0
    cases hx
    obtain ⟨e1, e2, e3⟩ := qin (qShp_n ha) h0
    refine ev_pu hd (fun L' => ?_) kk
    unfold ql rd
    rw [Int32.ofInt_toInt]
    unfold iv
    dsimp only [qStep]
    try rw [if_pos rfl]
    try dsimp only
    rw [cS_al ha]
    try dsimp only
    rw [if_neg e2, e1, e3]
    rfl
  · cases hx
theorem ev_last {a n : Nat} {i v : Int} {fl : List (Option Nat)} (hd : decode M.2.2.1 pc = .ok (.lastore, 1)) (hp : pc + 1 = pc') (ha : qShp[a]? = some (3, 4, n, fl)) (hx : qSa μ a n i v = some μ1) (kk : Ev d M pc' L st (cS Ls t μ1) o s') : Ev d M pc L (ql v :: iv i :: .ref a :: st) (cS Ls t μ) o s' := by
  subst hp
  unfold qSa at hx
  split at hx
  · rename_i h0
    cases hx
    obtain ⟨e1, e2, e3⟩ := qin (qShp_n ha) h0
    refine ev_pu hd (fun L' => ?_) kk
    unfold iv ql
    dsimp only [qStep]
    try rw [if_pos rfl]
    try dsimp only
    rw [cS_al ha]
    try dsimp only
    rw [if_neg e2, e1, cH_put (v := v) (i := i) ha ?_]
    · rfl
    · show _ = Sum.inr (4, n, Sum.inr (Sum.inl (fun j : Nat => (up μ a i v a (j : Int)).toInt64)))
      congr 5
      funext j
      rw [up_at]
      unfold vp_updL
      by_cases hj : j = i.toNat
      · rw [if_pos hj]
        show (Int32.ofInt v).toInt64 = (if (j : Int) = i then Int32.ofInt v else μ a (j : Int)).toInt64
        rw [if_pos (by omega)]
      · rw [if_neg hj]
        show (μ a (j : Int)).toInt64 = (if (j : Int) = i then Int32.ofInt v else μ a (j : Int)).toInt64
        rw [if_neg (by omega)]
  · cases hx
end EVH
/-! numbers -/
theorem wr_id {x : Int} (h1 : -2147483648 ≤ x) (h2 : x ≤ 2147483647) : wr x = x := Int32.toInt_ofInt_of_le (by omega) (by omega)
theorem wr_rd (μ : qMu) (a : Nat) (i : Int) : wr (rd μ a i) = rd μ a i := by
  unfold wr rd
  rw [Int32.ofInt_toInt]
theorem rd_up (μ : qMu) (a b : Nat) (i j v : Int) : rd (up μ a i v) b j = if b = a ∧ j = i then wr v else rd μ b j := by
  unfold rd up
  by_cases h : b = a
  · subst h
    try rw [if_pos rfl]
    by_cases h2 : j = i
    · rw [if_pos h2, if_pos ⟨rfl, h2⟩]
      rfl
    · rw [if_neg h2, if_neg (fun q => h2 q.2)]
  · rw [if_neg h, if_neg (fun q => h q.1)]
/-! loops -/
def lp {α β : Type} (f : α → Option (α ⊕ β)) : Nat → α → Option β
  | 0, _ => none
  | n + 1, x => (f x).bind fun y => match y with
    | .inl z => lp f n z
    | .inr b => some b
theorem lp_s {α β : Type} {f : α → Option (α ⊕ β)} {n : Nat} {x : α} : lp f (n + 1) x = (f x).bind fun y => match y with
    | .inl z => lp f n z
    | .inr b => some b := rfl
theorem qbd {α β : Type} {o : Option α} {f : α → Option β} {r : β} (h : o.bind f = some r) : ∃ x, o = some x ∧ f x = some r := by
  cases o with
  | none => cases h
  | some x => exact ⟨x, rfl, h⟩
theorem qit {α : Type} {C : Prop} {i : Decidable C} {a b r : α} (c : C) (h : (@ite α C i a b) = r) : a = r := by rwa [if_pos c] at h
theorem qif' {α : Type} {C : Prop} {i : Decidable C} {a b r : α} (c : ¬ C) (h : (@ite α C i a b) = r) : b = r := by rwa [if_neg c] at h
theorem qel {α β γ : Type} {f : α → γ} {g : β → γ} {x : α} {r : γ} (h : Sum.elim f g (.inl x) = r) : f x = r := h
theorem qer {α β γ : Type} {f : α → γ} {g : β → γ} {x : β} {r : γ} (h : Sum.elim f g (.inr x) = r) : g x = r := h
theorem qet {α : Type} {C : Prop} {i : Decidable C} {a b v : α} (c : C) (h : v = a) : v = (@ite α C i a b) := by rw [if_pos c]; exact h
theorem qef {α : Type} {C : Prop} {i : Decidable C} {a b v : α} (c : ¬ C) (h : v = b) : v = (@ite α C i a b) := by rw [if_neg c]; exact h
/-- ends of methods that throw -/
def qRi (x : Int ⊕ Nat) : qO := match x with
  | .inl v => .inl (some (iv v))
  | .inr E => .inr E
def qRv (x : Int ⊕ Nat) : qO := match x with
  | .inl _ => .inl none
  | .inr E => .inr E
def qTt (t : Nat) (x : Int ⊕ Nat) : Nat := match x with
  | .inl _ => t
  | .inr _ => t + 1
theorem cS_thr {Ls t : Nat} {μ : qMu} : qthr (cS Ls t μ) = cS Ls (t + 1) μ := rfl
/-- a number that is a truth value, or a sign -/
def qbl (x : Int) : Option Int := if x = 0 ∨ x = 1 then some x else none
def qch (x : Int) : Option Int := if 0 ≤ x ∧ x < 128 then some x else none
theorem qbl_n {x y : Int} (h : qbl x = some y) : y = x ∧ narrow .boolean (iv x) = iv x := by
  unfold qbl at h
  split at h
  · rename_i h0
    cases h
    refine ⟨rfl, ?_⟩
    rcases h0 with rfl | rfl <;> rfl
  · cases h
theorem qch_all : ∀ k : Nat, k < 128 → narrow .char (iv (k : Int)) = iv (k : Int) := by decide +kernel
theorem qch_n {x y : Int} (h : qch x = some y) : y = x ∧ narrow .char (iv x) = iv x := by
  unfold qch at h
  split at h
  · rename_i h0
    cases h
    refine ⟨rfl, ?_⟩
    have := qch_all x.toNat (by omega)
    rw [show ((x.toNat : Nat) : Int) = x by omega] at this
    exact this
  · cases h
def qTw (t : Nat) (x : Int) : Nat := if x = 0 then t else t + 1
theorem sh0 : qShp[0]? = some (0, 8, 0, [some 1, some 11, some 13, some 15, some 17, some 19, some 22, some 26, some 28, some 32, some 76, none]) := rfl
theorem sh1 : qShp[1]? = some (0, 4, 0, [some 2, some 3, some 5, some 7, none, none, none, none, none, none, none, none, none]) := rfl
theorem sh2 : qShp[2]? = some (1, 1, 400, []) := rfl
theorem sh3 : qShp[3]? = some (0, 0, 0, [some 4, none, none]) := rfl
theorem sh4 : qShp[4]? = some (1, 0, 64, []) := rfl
theorem sh5 : qShp[5]? = some (0, 0, 0, [some 6, none, none]) := rfl
theorem sh6 : qShp[6]? = some (1, 0, 64, []) := rfl
theorem sh7 : qShp[7]? = some (0, 5, 0, [some 8, some 9, some 10, none, none]) := rfl
theorem sh8 : qShp[8]? = some (1, 0, 8, []) := rfl
theorem sh9 : qShp[9]? = some (1, 0, 8, []) := rfl
theorem sh10 : qShp[10]? = some (1, 0, 8, []) := rfl
theorem sh11 : qShp[11]? = some (0, 0, 0, [some 12, none, none]) := rfl
theorem sh12 : qShp[12]? = some (1, 0, 64, []) := rfl
theorem sh13 : qShp[13]? = some (0, 0, 0, [some 14, none, none]) := rfl
theorem sh14 : qShp[14]? = some (1, 0, 64, []) := rfl
theorem sh15 : qShp[15]? = some (0, 0, 0, [some 16, none, none]) := rfl
theorem sh16 : qShp[16]? = some (1, 0, 64, []) := rfl
theorem sh17 : qShp[17]? = some (0, 0, 0, [some 18, none, none]) := rfl
theorem sh18 : qShp[18]? = some (1, 0, 64, []) := rfl
theorem sh19 : qShp[19]? = some (0, 3, 0, [some 20, some 21, none]) := rfl
theorem sh20 : qShp[20]? = some (1, 0, 8, []) := rfl
theorem sh21 : qShp[21]? = some (1, 0, 8, []) := rfl
theorem sh22 : qShp[22]? = some (0, 5, 0, [some 23, some 24, some 25, none, none]) := rfl
theorem sh23 : qShp[23]? = some (1, 0, 8, []) := rfl
theorem sh24 : qShp[24]? = some (1, 0, 8, []) := rfl
theorem sh25 : qShp[25]? = some (1, 0, 8, []) := rfl
theorem sh26 : qShp[26]? = some (0, 6, 0, [some 27, none]) := rfl
theorem sh27 : qShp[27]? = some (1, 0, 1024, []) := rfl
theorem sh28 : qShp[28]? = some (0, 7, 0, [some 29, some 30, none]) := rfl
theorem sh29 : qShp[29]? = some (1, 0, 16, []) := rfl
theorem sh30 : qShp[30]? = some (0, 0, 0, [some 31, none, none]) := rfl
theorem sh31 : qShp[31]? = some (1, 0, 64, []) := rfl
theorem sh32 : qShp[32]? = some (0, 1, 0, [some 33, some 34, some 35, none, none]) := rfl
theorem sh33 : qShp[33]? = some (2, 5, 10, [some 36, some 40, some 44, some 48, some 52, some 56, some 60, some 64, some 68, some 72]) := rfl
theorem sh34 : qShp[34]? = some (2, 5, 10, [some 38, some 42, some 46, some 50, some 54, some 58, some 62, some 66, some 70, some 74]) := rfl
theorem sh35 : qShp[35]? = some (1, 0, 10, []) := rfl
theorem sh36 : qShp[36]? = some (0, 0, 0, [some 37, none, none]) := rfl
theorem sh37 : qShp[37]? = some (1, 0, 64, []) := rfl
theorem sh38 : qShp[38]? = some (0, 0, 0, [some 39, none, none]) := rfl
theorem sh39 : qShp[39]? = some (1, 0, 64, []) := rfl
theorem sh40 : qShp[40]? = some (0, 0, 0, [some 41, none, none]) := rfl
theorem sh41 : qShp[41]? = some (1, 0, 64, []) := rfl
theorem sh42 : qShp[42]? = some (0, 0, 0, [some 43, none, none]) := rfl
theorem sh43 : qShp[43]? = some (1, 0, 64, []) := rfl
theorem sh44 : qShp[44]? = some (0, 0, 0, [some 45, none, none]) := rfl
theorem sh45 : qShp[45]? = some (1, 0, 64, []) := rfl
theorem sh46 : qShp[46]? = some (0, 0, 0, [some 47, none, none]) := rfl
theorem sh47 : qShp[47]? = some (1, 0, 64, []) := rfl
theorem sh48 : qShp[48]? = some (0, 0, 0, [some 49, none, none]) := rfl
theorem sh49 : qShp[49]? = some (1, 0, 64, []) := rfl
theorem sh50 : qShp[50]? = some (0, 0, 0, [some 51, none, none]) := rfl
theorem sh51 : qShp[51]? = some (1, 0, 64, []) := rfl
theorem sh52 : qShp[52]? = some (0, 0, 0, [some 53, none, none]) := rfl
theorem sh53 : qShp[53]? = some (1, 0, 64, []) := rfl
theorem sh54 : qShp[54]? = some (0, 0, 0, [some 55, none, none]) := rfl
theorem sh55 : qShp[55]? = some (1, 0, 64, []) := rfl
theorem sh56 : qShp[56]? = some (0, 0, 0, [some 57, none, none]) := rfl
theorem sh57 : qShp[57]? = some (1, 0, 64, []) := rfl
theorem sh58 : qShp[58]? = some (0, 0, 0, [some 59, none, none]) := rfl
theorem sh59 : qShp[59]? = some (1, 0, 64, []) := rfl
theorem sh60 : qShp[60]? = some (0, 0, 0, [some 61, none, none]) := rfl
theorem sh61 : qShp[61]? = some (1, 0, 64, []) := rfl
theorem sh62 : qShp[62]? = some (0, 0, 0, [some 63, none, none]) := rfl
theorem sh63 : qShp[63]? = some (1, 0, 64, []) := rfl
theorem sh64 : qShp[64]? = some (0, 0, 0, [some 65, none, none]) := rfl
theorem sh65 : qShp[65]? = some (1, 0, 64, []) := rfl
theorem sh66 : qShp[66]? = some (0, 0, 0, [some 67, none, none]) := rfl
theorem sh67 : qShp[67]? = some (1, 0, 64, []) := rfl
theorem sh68 : qShp[68]? = some (0, 0, 0, [some 69, none, none]) := rfl
theorem sh69 : qShp[69]? = some (1, 0, 64, []) := rfl
theorem sh70 : qShp[70]? = some (0, 0, 0, [some 71, none, none]) := rfl
theorem sh71 : qShp[71]? = some (1, 0, 64, []) := rfl
theorem sh72 : qShp[72]? = some (0, 0, 0, [some 73, none, none]) := rfl
theorem sh73 : qShp[73]? = some (1, 0, 64, []) := rfl
theorem sh74 : qShp[74]? = some (0, 0, 0, [some 75, none, none]) := rfl
theorem sh75 : qShp[75]? = some (1, 0, 64, []) := rfl
theorem sh76 : qShp[76]? = some (0, 2, 0, [some 77, none]) := rfl
theorem sh77 : qShp[77]? = some (1, 2, 64, []) := rfl
theorem sh78 : qShp[78]? = some (0, 9, 0, [some 79, some 80, some 81, none, none, some 82, none, none, none, none, none, none, none, none, none, none, none, some 83, some 84, some 85, some 86, some 87, some 88, some 89, some 90, some 91, none]) := rfl
theorem sh79 : qShp[79]? = some (1, 0, 130, []) := rfl
theorem sh80 : qShp[80]? = some (1, 0, 130, []) := rfl
theorem sh81 : qShp[81]? = some (1, 0, 1300, []) := rfl
theorem sh82 : qShp[82]? = some (1, 0, 400, []) := rfl
theorem sh83 : qShp[83]? = some (1, 0, 8, []) := rfl
theorem sh84 : qShp[84]? = some (1, 0, 8, []) := rfl
theorem sh85 : qShp[85]? = some (1, 0, 8, []) := rfl
theorem sh86 : qShp[86]? = some (1, 0, 8, []) := rfl
theorem sh87 : qShp[87]? = some (1, 0, 8, []) := rfl
theorem sh88 : qShp[88]? = some (1, 3, 8, []) := rfl
theorem sh89 : qShp[89]? = some (1, 0, 4096, []) := rfl
theorem sh90 : qShp[90]? = some (1, 0, 64, []) := rfl
theorem sh91 : qShp[91]? = some (1, 0, 160, []) := rfl
theorem sh92 : qShp[92]? = some (3, 4, 1, []) := rfl
theorem gG3 : gG 3 := ⟨rfl, rfl⟩
theorem gG5 : gG 5 := ⟨rfl, rfl⟩
theorem gG11 : gG 11 := ⟨rfl, rfl⟩
theorem gG13 : gG 13 := ⟨rfl, rfl⟩
theorem gG15 : gG 15 := ⟨rfl, rfl⟩
theorem gG17 : gG 17 := ⟨rfl, rfl⟩
theorem gG30 : gG 30 := ⟨rfl, rfl⟩
theorem gG36 : gG 36 := ⟨rfl, rfl⟩
theorem gG38 : gG 38 := ⟨rfl, rfl⟩
theorem gG40 : gG 40 := ⟨rfl, rfl⟩
theorem gG42 : gG 42 := ⟨rfl, rfl⟩
theorem gG44 : gG 44 := ⟨rfl, rfl⟩
theorem gG46 : gG 46 := ⟨rfl, rfl⟩
theorem gG48 : gG 48 := ⟨rfl, rfl⟩
theorem gG50 : gG 50 := ⟨rfl, rfl⟩
theorem gG52 : gG 52 := ⟨rfl, rfl⟩
theorem gG54 : gG 54 := ⟨rfl, rfl⟩
theorem gG56 : gG 56 := ⟨rfl, rfl⟩
theorem gG58 : gG 58 := ⟨rfl, rfl⟩
theorem gG60 : gG 60 := ⟨rfl, rfl⟩
theorem gG62 : gG 62 := ⟨rfl, rfl⟩
theorem gG64 : gG 64 := ⟨rfl, rfl⟩
theorem gG66 : gG 66 := ⟨rfl, rfl⟩
theorem gG68 : gG 68 := ⟨rfl, rfl⟩
theorem gG70 : gG 70 := ⟨rfl, rfl⟩
theorem gG72 : gG 72 := ⟨rfl, rfl⟩
theorem gG74 : gG 74 := ⟨rfl, rfl⟩
theorem gS7 : gS 7 := ⟨rfl, rfl, rfl, rfl⟩
theorem gS22 : gS 22 := ⟨rfl, rfl, rfl, rfl⟩
theorem tf_1_9 : qTf 1 9 = some (0, 0) := by decide +kernel
theorem tf_1_15 : qTf 1 15 = some (0, 1) := by decide +kernel
theorem tf_1_19 : qTf 1 19 = some (0, 2) := by decide +kernel
theorem tf_2_11 : qTf 2 11 = some (1, 0) := by decide +kernel
theorem tf_2_15 : qTf 2 15 = some (1, 1) := by decide +kernel
theorem tf_2_18 : qTf 2 18 = some (1, 2) := by decide +kernel
theorem tf_2_22 : qTf 2 22 = some (1, 3) := by decide +kernel
theorem tf_2_26 : qTf 2 26 = some (1, 4) := by decide +kernel
theorem tf_3_9 : qTf 3 9 = some (2, 0) := by decide +kernel
theorem tf_3_15 : qTf 3 15 = some (2, 1) := by decide +kernel
theorem tf_4_9 : qTf 4 9 = some (3, 0) := by decide +kernel
theorem tf_4_15 : qTf 4 15 = some (3, 1) := by decide +kernel
theorem tf_4_18 : qTf 4 18 = some (3, 2) := by decide +kernel
theorem tf_5_11 : qTf 5 11 = some (4, 0) := by decide +kernel
theorem tf_5_18 : qTf 5 18 = some (4, 1) := by decide +kernel
theorem tf_5_22 : qTf 5 22 = some (4, 2) := by decide +kernel
theorem tf_5_28 : qTf 5 28 = some (4, 3) := by decide +kernel
theorem tf_5_32 : qTf 5 32 = some (4, 4) := by decide +kernel
theorem tf_5_36 : qTf 5 36 = some (4, 5) := by decide +kernel
theorem tf_5_39 : qTf 5 39 = some (4, 6) := by decide +kernel
theorem tf_5_42 : qTf 5 42 = some (4, 7) := by decide +kernel
theorem tf_5_45 : qTf 5 45 = some (4, 8) := by decide +kernel
theorem tf_5_48 : qTf 5 48 = some (4, 9) := by decide +kernel
theorem tf_5_51 : qTf 5 51 = some (4, 10) := by decide +kernel
theorem tf_5_54 : qTf 5 54 = some (4, 11) := by decide +kernel
theorem tf_5_57 : qTf 5 57 = some (4, 12) := by decide +kernel
theorem tf_6_9 : qTf 6 9 = some (5, 0) := by decide +kernel
theorem tf_6_15 : qTf 6 15 = some (5, 1) := by decide +kernel
theorem tf_6_18 : qTf 6 18 = some (5, 2) := by decide +kernel
theorem tf_6_21 : qTf 6 21 = some (5, 3) := by decide +kernel
theorem tf_6_25 : qTf 6 25 = some (5, 4) := by decide +kernel
theorem tf_7_9 : qTf 7 9 = some (6, 0) := by decide +kernel
theorem tf_7_15 : qTf 7 15 = some (6, 1) := by decide +kernel
theorem tf_8_9 : qTf 8 9 = some (7, 0) := by decide +kernel
theorem tf_8_18 : qTf 8 18 = some (7, 1) := by decide +kernel
theorem tf_8_22 : qTf 8 22 = some (7, 2) := by decide +kernel
theorem tf_9_10 : qTf 9 10 = some (8, 0) := by decide +kernel
theorem tf_9_19 : qTf 9 19 = some (8, 1) := by decide +kernel
theorem tf_9_23 : qTf 9 23 = some (8, 2) := by decide +kernel
theorem tf_9_26 : qTf 9 26 = some (8, 3) := by decide +kernel
theorem tf_9_29 : qTf 9 29 = some (8, 4) := by decide +kernel
theorem tf_9_35 : qTf 9 35 = some (8, 5) := by decide +kernel
theorem tf_9_42 : qTf 9 42 = some (8, 6) := by decide +kernel
theorem tf_9_49 : qTf 9 49 = some (8, 7) := by decide +kernel
theorem tf_9_56 : qTf 9 56 = some (8, 8) := by decide +kernel
theorem tf_9_63 : qTf 9 63 = some (8, 9) := by decide +kernel
theorem tf_9_70 : qTf 9 70 = some (8, 10) := by decide +kernel
theorem tf_9_74 : qTf 9 74 = some (8, 11) := by decide +kernel
theorem tf_10_7 : qTf 10 7 = some (9, 0) := by decide +kernel
theorem tf_10_13 : qTf 10 13 = some (9, 1) := by decide +kernel
theorem tf_10_16 : qTf 10 16 = some (9, 2) := by decide +kernel
theorem tf_10_19 : qTf 10 19 = some (9, 5) := by decide +kernel
theorem tf_10_22 : qTf 10 22 = some (9, 8) := by decide +kernel
theorem tf_10_26 : qTf 10 26 = some (9, 17) := by decide +kernel
theorem tf_10_29 : qTf 10 29 = some (9, 18) := by decide +kernel
theorem tf_10_32 : qTf 10 32 = some (9, 19) := by decide +kernel
theorem tf_10_35 : qTf 10 35 = some (9, 20) := by decide +kernel
theorem tf_10_38 : qTf 10 38 = some (9, 21) := by decide +kernel
theorem tf_10_41 : qTf 10 41 = some (9, 22) := by decide +kernel
theorem tf_10_45 : qTf 10 45 = some (9, 23) := by decide +kernel
theorem tf_10_48 : qTf 10 48 = some (9, 24) := by decide +kernel
theorem tf_10_51 : qTf 10 51 = some (9, 25) := by decide +kernel
theorem tf_10_54 : qTf 10 54 = some (9, 4) := by decide +kernel
theorem tf_10_61 : qTf 10 61 = some (9, 3) := by decide +kernel
theorem tf_10_71 : qTf 10 71 = some (9, 6) := by decide +kernel
theorem tf_10_78 : qTf 10 78 = some (9, 9) := by decide +kernel
theorem tf_10_81 : qTf 10 81 = some (9, 11) := by decide +kernel
theorem tf_10_92 : qTf 10 92 = some (9, 10) := by decide +kernel
theorem tf_10_95 : qTf 10 95 = some (9, 12) := by decide +kernel
theorem tf_10_98 : qTf 10 98 = some (9, 13) := by decide +kernel
theorem tf_10_119 : qTf 10 119 = some (9, 14) := by decide +kernel
theorem tf_10_122 : qTf 10 122 = some (9, 15) := by decide +kernel
theorem tf_10_132 : qTf 10 132 = some (9, 16) := by decide +kernel
theorem tf_10_197 : qTf 10 197 = some (9, 7) := by decide +kernel
theorem tf_10_349 : qTf 10 349 = some (9, 26) := by decide +kernel
theorem tc_0_9 : qTc 0 9 = some (1, mX0_vertexOf, 2) := rfl
theorem tc_0_13 : qTc 0 13 = some (1, mX0_of, 4) := rfl
theorem tc_1_3 : qTc 1 3 = some (7, mX0_of, 0) := rfl
theorem tc_1_22 : qTc 1 22 = some (1, mX0_vertexOf, 2) := rfl
theorem tc_1_28 : qTc 1 28 = some (0, mX1_put, 3) := rfl
theorem tc_1_32 : qTc 1 32 = some (0, mX1_between, 2) := rfl
theorem tc_1_35 : qTc 1 35 = some (0, mX1_loopCount, 0) := rfl
theorem tc_1_39 : qTc 1 39 = some (5, mX0_of, 2) := rfl
theorem tc_1_44 : qTc 1 44 = some (0, mX1_commonNeighboursBehind, 2) := rfl
theorem tc_1_47 : qTc 1 47 = some (0, mX1_degreeOf, 1) := rfl
theorem tc_2_1 : qTc 2 1 = some (7, mX0_of, 0) := rfl
theorem tc_2_29 : qTc 2 29 = some (3, mX1_init, 0) := rfl
theorem tc_2_30 : qTc 2 30 = some (0, mX1_become, 1) := rfl
theorem tc_2_34 : qTc 2 34 = some (6, mX0_of, 2) := rfl
theorem tc_2_40 : qTc 2 40 = some (5, mX0_of, 2) := rfl
theorem tc_3_3 : qTc 3 3 = some (7, mX0_of, 0) := rfl
theorem tc_3_19 : qTc 3 19 = some (0, mX1_vertexCount, 0) := rfl
theorem tc_3_25 : qTc 3 25 = some (0, mX1_between, 2) := rfl
theorem tc_3_29 : qTc 3 29 = some (0, mX3_printEdges, 3) := rfl
theorem tc_3_33 : qTc 3 33 = some (0, mX3_append, 1) := rfl
theorem tc_3_37 : qTc 3 37 = some (0, mX3_printDigit, 1) := rfl
theorem tc_4_3 : qTc 4 3 = some (7, mX0_of, 0) := rfl
theorem tc_4_22 : qTc 4 22 = some (0, mX1_vertexCount, 0) := rfl
theorem tc_4_28 : qTc 4 28 = some (0, mX1_between, 2) := rfl
theorem tc_4_32 : qTc 4 32 = some (0, mX4_merge, 2) := rfl
theorem tc_4_36 : qTc 4 36 = some (5, mX0_of, 2) := rfl
theorem tc_4_41 : qTc 4 41 = some (6, mX0_of, 2) := rfl
theorem tc_4_44 : qTc 4 44 = some (0, mX4_countBefore, 1) := rfl
theorem tc_4_48 : qTc 4 48 = some (0, mX1_degreeOf, 1) := rfl
theorem tc_4_51 : qTc 4 51 = some (0, mX4_stepOn, 2) := rfl
theorem tc_5_3 : qTc 5 3 = some (7, mX0_of, 0) := rfl
theorem tc_5_17 : qTc 5 17 = some (3, mX1_init, 0) := rfl
theorem tc_5_27 : qTc 5 27 = some (3, mX6_init, 0) := rfl
theorem tc_5_60 : qTc 5 60 = some (6, mX0_of, 2) := rfl
theorem tc_5_66 : qTc 5 66 = some (0, mX5_advance, 0) := rfl
theorem tc_5_69 : qTc 5 69 = some (0, mX5_readFirst, 0) := rfl
theorem tc_5_73 : qTc 5 73 = some (0, mX5_readOther, 0) := rfl
theorem tc_5_76 : qTc 5 76 = some (0, mX5_begin, 1) := rfl
theorem tc_5_82 : qTc 5 82 = some (0, mX5_isWord, 1) := rfl
theorem tc_5_86 : qTc 5 86 = some (0, mX5_readVertices, 0) := rfl
theorem tc_5_91 : qTc 5 91 = some (0, mX5_readDegrees, 0) := rfl
theorem tc_5_94 : qTc 5 94 = some (0, mX5_fail, 1) := rfl
theorem tc_5_100 : qTc 5 100 = some (0, mX5_readEdge, 1) := rfl
theorem tc_5_106 : qTc 5 106 = some (0, mX5_readModeNumber, 0) := rfl
theorem tc_5_109 : qTc 5 109 = some (0, mX5_expectNumber, 2) := rfl
theorem tc_5_113 : qTc 5 113 = some (0, mX5_expectSemicolon, 0) := rfl
theorem tc_5_116 : qTc 5 116 = some (0, mX6_clear, 0) := rfl
theorem tc_5_119 : qTc 5 119 = some (0, mX6_isFull, 0) := rfl
theorem tc_5_122 : qTc 5 122 = some (0, mX6_append, 1) := rfl
theorem tc_5_125 : qTc 5 125 = some (0, mX6_total, 0) := rfl
theorem tc_5_129 : qTc 5 129 = some (0, mX6_length, 0) := rfl
theorem tc_5_131 : qTc 5 131 = some (0, mX6_build, 2) := rfl
theorem tc_5_135 : qTc 5 135 = some (0, mX1_vertexCount, 0) := rfl
theorem tc_5_138 : qTc 5 138 = some (0, mX1_edgeCount, 0) := rfl
theorem tc_5_141 : qTc 5 141 = some (0, mX1_put, 3) := rfl
theorem tc_5_145 : qTc 5 145 = some (0, mX1_clear, 1) := rfl
theorem tc_5_147 : qTc 5 147 = some (8, mX0_of, 0) := rfl
theorem tc_5_150 : qTc 5 150 = some (0, mX5_byteAt, 1) := rfl
theorem tc_5_154 : qTc 5 154 = some (9, mX0_of, 1) := rfl
theorem tc_5_158 : qTc 5 158 = some (1, mX5_isBlank, 1) := rfl
theorem tc_5_161 : qTc 5 161 = some (1, mX5_isLetter, 1) := rfl
theorem tc_5_164 : qTc 5 164 = some (0, mX5_takeWord, 0) := rfl
theorem tc_5_167 : qTc 5 167 = some (1, mX5_isDigit, 1) := rfl
theorem tc_5_170 : qTc 5 170 = some (0, mX5_takeNumber, 0) := rfl
theorem tc_6_3 : qTc 6 3 = some (7, mX0_of, 0) := rfl
theorem tc_6_28 : qTc 6 28 = some (0, mX6_isFull, 0) := rfl
theorem tc_6_32 : qTc 6 32 = some (0, mX6_insertFalling, 1) := rfl
theorem tc_6_36 : qTc 6 36 = some (0, mX6_clear, 0) := rfl
theorem tc_6_39 : qTc 6 39 = some (0, mX1_vertexCount, 0) := rfl
theorem tc_6_45 : qTc 6 45 = some (0, mX1_degreeOf, 1) := rfl
theorem tc_6_49 : qTc 6 49 = some (0, mX6_append, 1) := rfl
theorem tc_6_52 : qTc 6 52 = some (6, mX0_of, 2) := rfl
theorem tc_6_58 : qTc 6 58 = some (0, mX6_hasNoNegativeSlack, 0) := rfl
theorem tc_6_61 : qTc 6 61 = some (0, mX6_slackOf, 1) := rfl
theorem tc_6_64 : qTc 6 64 = some (0, mX1_clear, 1) := rfl
theorem tc_6_66 : qTc 6 66 = some (0, mX6_buildWithLoops, 1) := rfl
theorem tc_6_70 : qTc 6 70 = some (0, mX6_buildWithoutLoops, 1) := rfl
theorem tc_6_73 : qTc 6 73 = some (0, mX6_buildSimple, 1) := rfl
theorem tc_6_76 : qTc 6 76 = some (0, mX1_put, 3) := rfl
theorem tc_6_80 : qTc 6 80 = some (0, mX6_neediestBut, 1) := rfl
theorem tc_6_83 : qTc 6 83 = some (0, mX6_join, 3) := rfl
theorem tc_7_3 : qTc 7 3 = some (7, mX0_of, 0) := rfl
theorem tc_7_19 : qTc 7 19 = some (0, mX1_vertexCount, 0) := rfl
theorem tc_7_25 : qTc 7 25 = some (0, mX1_between, 2) := rfl
theorem tc_7_29 : qTc 7 29 = some (0, mX7_fillFrom, 4) := rfl
theorem tc_7_33 : qTc 7 33 = some (1, mX0_isFirstOfFour, 4) := rfl
theorem tc_7_39 : qTc 7 39 = some (0, mX1_reasonAgainst, 5) := rfl
theorem tc_7_43 : qTc 7 43 = some (1, mX0_of, 4) := rfl
theorem tc_7_47 : qTc 7 47 = some (0, mX7_append, 1) := rfl
theorem tc_8_3 : qTc 8 3 = some (7, mX0_of, 0) := rfl
theorem tc_8_17 : qTc 8 17 = some (3, mX1_init, 0) := rfl
theorem tc_8_26 : qTc 8 26 = some (0, mX1_become, 1) := rfl
theorem tc_8_30 : qTc 8 30 = some (0, mX8_nextTowards, 1) := rfl
theorem tc_8_34 : qTc 8 34 = some (0, mX1_exchangeEdges, 1) := rfl
theorem tc_8_38 : qTc 8 38 = some (0, mX1_vertexCount, 0) := rfl
theorem tc_8_42 : qTc 8 42 = some (0, mX1_between, 2) := rfl
theorem tc_8_46 : qTc 8 46 = some (0, mX8_codeThatJoins, 3) := rfl
theorem tc_8_50 : qTc 8 50 = some (0, mX8_endOfSurplus, 3) := rfl
theorem tc_8_53 : qTc 8 53 = some (1, mX0_of, 4) := rfl
theorem tc_9_1 : qTc 9 1 = some (7, mX0_of, 0) := rfl
theorem tc_9_9 : qTc 9 9 = some (3, mX5_init, 0) := rfl
theorem tc_9_18 : qTc 9 18 = some (3, mX1_init, 0) := rfl
theorem tc_9_34 : qTc 9 34 = some (3, mX4_init, 0) := rfl
theorem tc_9_41 : qTc 9 41 = some (3, mX6_init, 0) := rfl
theorem tc_9_48 : qTc 9 48 = some (3, mX7_init, 0) := rfl
theorem tc_9_55 : qTc 9 55 = some (3, mX8_init, 0) := rfl
theorem tc_9_62 : qTc 9 62 = some (2, mX2_init, 0) := rfl
theorem tc_9_69 : qTc 9 69 = some (3, mX3_init, 0) := rfl
theorem tc_9_78 : qTc 9 78 = some (0, mX5_hasRoom, 0) := rfl
theorem tc_9_82 : qTc 9 82 = some (0, mX5_append, 1) := rfl
theorem tc_9_86 : qTc 9 86 = some (0, mX5_fedBytes, 0) := rfl
theorem tc_9_97 : qTc 9 97 = some (0, mX5_readText, 1) := rfl
theorem tc_9_101 : qTc 9 101 = some (0, mX5_readGraph, 0) := rfl
theorem tc_9_105 : qTc 9 105 = some (0, mX1_become, 1) := rfl
theorem tc_9_109 : qTc 9 109 = some (0, mX5_readTarget, 0) := rfl
theorem tc_9_112 : qTc 9 112 = some (0, mX5_readMode, 0) := rfl
theorem tc_9_115 : qTc 9 115 = some (0, mX2_forget, 0) := rfl
theorem tc_9_118 : qTc 9 118 = some (0, mX1_edgeCount, 0) := rfl
theorem tc_9_121 : qTc 9 121 = some (0, mX5_kindOfError, 0) := rfl
theorem tc_9_124 : qTc 9 124 = some (0, mX5_placeOfError, 0) := rfl
theorem tc_9_127 : qTc 9 127 = some (0, mX1_vertexCount, 0) := rfl
theorem tc_9_130 : qTc 9 130 = some (0, mX9_choose, 1) := rfl
theorem tc_9_134 : qTc 9 134 = some (0, mX9_checkVertex, 1) := rfl
theorem tc_9_137 : qTc 9 137 = some (0, mX1_between, 2) := rfl
theorem tc_9_141 : qTc 9 141 = some (0, mX1_degreeOf, 1) := rfl
theorem tc_9_145 : qTc 9 145 = some (0, mX1_loopCount, 0) := rfl
theorem tc_9_148 : qTc 9 148 = some (0, mX1_defectCount, 0) := rfl
theorem tc_9_151 : qTc 9 151 = some (0, mX1_neighbourCount, 1) := rfl
theorem tc_9_154 : qTc 9 154 = some (0, mX1_triangleCount, 0) := rfl
theorem tc_9_157 : qTc 9 157 = some (0, mX4_find, 1) := rfl
theorem tc_9_160 : qTc 9 160 = some (0, mX4_count, 0) := rfl
theorem tc_9_163 : qTc 9 163 = some (0, mX4_numberOf, 1) := rfl
theorem tc_9_166 : qTc 9 166 = some (0, mX9_partsWithEdges, 1) := rfl
theorem tc_9_170 : qTc 9 170 = some (0, mX9_checkEdge, 2) := rfl
theorem tc_9_174 : qTc 9 174 = some (0, mX9_separates, 2) := rfl
theorem tc_9_178 : qTc 9 178 = some (0, mX4_stepsBetween, 3) := rfl
theorem tc_9_182 : qTc 9 182 = some (0, mX6_take, 1) := rfl
theorem tc_9_185 : qTc 9 185 = some (0, mX6_greatest, 1) := rfl
theorem tc_9_193 : qTc 9 193 = some (0, mX6_slackOf, 1) := rfl
theorem tc_9_196 : qTc 9 196 = some (0, mX9_checkMode, 1) := rfl
theorem tc_9_199 : qTc 9 199 = some (0, mX6_allows, 1) := rfl
theorem tc_9_202 : qTc 9 202 = some (0, mX9_checkVertices, 4) := rfl
theorem tc_9_206 : qTc 9 206 = some (0, mX1_reasonAgainst, 5) := rfl
theorem tc_9_210 : qTc 9 210 = some (0, mX7_fill, 2) := rfl
theorem tc_9_214 : qTc 9 214 = some (0, mX7_length, 0) := rfl
theorem tc_9_219 : qTc 9 219 = some (0, mX9_checkWhat, 1) := rfl
theorem tc_9_222 : qTc 9 222 = some (0, mX7_codeAt, 1) := rfl
theorem tc_9_225 : qTc 9 225 = some (1, mX0_vertexOf, 2) := rfl
theorem tc_9_230 : qTc 9 230 = some (0, mX9_checkPossible, 4) := rfl
theorem tc_9_233 : qTc 9 233 = some (1, mX0_of, 4) := rfl
theorem tc_9_237 : qTc 9 237 = some (0, mX1_exchangeEdges, 1) := rfl
theorem tc_9_245 : qTc 9 245 = some (0, mX1_surplusOver, 1) := rfl
theorem tc_9_248 : qTc 9 248 = some (1, mX0_backOf, 1) := rfl
theorem tc_9_251 : qTc 9 251 = some (0, mX1_hasDegreesOf, 1) := rfl
theorem tc_9_255 : qTc 9 255 = some (0, mX9_checkAlike, 0) := rfl
theorem tc_9_258 : qTc 9 258 = some (0, mX8_find, 2) := rfl
theorem tc_9_261 : qTc 9 261 = some (0, mX8_length, 0) := rfl
theorem tc_9_264 : qTc 9 264 = some (0, mX8_codeAt, 1) := rfl
theorem tc_9_265 : qTc 9 265 = some (0, mX9_oneSwitchLeadsBeside, 0) := rfl
theorem tc_9_273 : qTc 9 273 = some (0, mX9_remember, 0) := rfl
theorem tc_9_276 : qTc 9 276 = some (0, mX1_put, 3) := rfl
theorem tc_9_282 : qTc 9 282 = some (0, mX6_build, 2) := rfl
theorem tc_9_287 : qTc 9 287 = some (0, mX9_firstConnecting, 0) := rfl
theorem tc_9_290 : qTc 9 290 = some (0, mX9_mostSimplifying, 0) := rfl
theorem tc_9_293 : qTc 9 293 = some (0, mX2_length, 0) := rfl
theorem tc_9_294 : qTc 9 294 = some (0, mX2_stepBack, 0) := rfl
theorem tc_9_297 : qTc 9 297 = some (0, mX2_lastGraph, 0) := rfl
theorem tc_9_300 : qTc 9 300 = some (0, mX2_lastTarget, 0) := rfl
theorem tc_9_303 : qTc 9 303 = some (0, mX2_lastMode, 0) := rfl
theorem tc_9_306 : qTc 9 306 = some (0, mX3_print, 1) := rfl
theorem tc_9_309 : qTc 9 309 = some (0, mX3_length, 0) := rfl
theorem tc_9_312 : qTc 9 312 = some (0, mX3_signAt, 1) := rfl
theorem tc_9_328 : qTc 9 328 = some (0, mX2_remember, 3) := rfl
theorem tc_9_331 : qTc 9 331 = some (0, mX4_countWithEdges, 1) := rfl
theorem tc_9_334 : qTc 9 334 = some (0, mX4_areTogether, 2) := rfl
theorem tc_10_1 : qTc 10 1 = some (7, mX0_of, 0) := rfl
theorem tc_10_57 : qTc 10 57 = some (0, mX10_good__, 3) := rfl
theorem tc_10_64 : qTc 10 64 = some (1, mX10_at, 3) := rfl
theorem tc_10_68 : qTc 10 68 = some (0, mX10_many, 3) := rfl
theorem tc_10_74 : qTc 10 74 = some (0, mX10_append, 1) := rfl
theorem tc_10_84 : qTc 10 84 = some (0, mX10_byteAt, 1) := rfl
theorem tc_10_88 : qTc 10 88 = some (1, mX10_isLetter, 1) := rfl
theorem tc_10_101 : qTc 10 101 = some (1, mX10_isDigit, 1) := rfl
theorem tc_10_104 : qTc 10 104 = some (0, mX10_readWord, 0) := rfl
theorem tc_10_107 : qTc 10 107 = some (0, mX10_readNumber, 0) := rfl
theorem tc_10_110 : qTc 10 110 = some (8, mX0_of, 0) := rfl
theorem tc_10_115 : qTc 10 115 = some (9, mX0_of, 1) := rfl
theorem tc_10_125 : qTc 10 125 = some (0, mX10_fail, 1) := rfl
theorem tc_10_128 : qTc 10 128 = some (1, mX10_isIn, 3) := rfl
theorem tc_10_135 : qTc 10 135 = some (0, mX10_advance, 0) := rfl
theorem tc_10_139 : qTc 10 139 = some (0, mX10_number, 2) := rfl
theorem tc_10_143 : qTc 10 143 = some (0, mX10_realisesByLoops, 0) := rfl
theorem tc_10_146 : qTc 10 146 = some (0, mX10_edgesOf, 1) := rfl
theorem tc_10_149 : qTc 10 149 = some (0, mX10_adds, 4) := rfl
theorem tc_10_155 : qTc 10 155 = some (0, mX10_isWord, 1) := rfl
theorem tc_10_159 : qTc 10 159 = some (0, mX10_verticesStatement, 0) := rfl
theorem tc_10_164 : qTc 10 164 = some (0, mX10_degreesStatement, 0) := rfl
theorem tc_10_169 : qTc 10 169 = some (0, mX10_edgeStatement, 1) := rfl
theorem tc_10_176 : qTc 10 176 = some (0, mX10_modeStatement, 0) := rfl
theorem tc_10_179 : qTc 10 179 = some (0, mX10_firstStatement, 0) := rfl
theorem tc_10_182 : qTc 10 182 = some (0, mX10_closed, 0) := rfl
theorem tc_10_185 : qTc 10 185 = some (0, mX10_statement, 0) := rfl
theorem tc_10_188 : qTc 10 188 = some (0, mX10_good, 1) := rfl
theorem tc_10_191 : qTc 10 191 = some (0, mX10_putAside, 0) := rfl
theorem tc_10_194 : qTc 10 194 = some (0, mX10_parse, 1) := rfl
theorem tc_10_200 : qTc 10 200 = some (0, mX10_layBack, 0) := rfl
theorem tc_10_203 : qTc 10 203 = some (0, mX10_isVertex, 1) := rfl
theorem tc_10_206 : qTc 10 206 = some (1, mX10_table, 1) := rfl
theorem tc_10_210 : qTc 10 210 = some (0, mX10_areVertices, 2) := rfl
theorem tc_10_213 : qTc 10 213 = some (0, mX10_degreeOf, 2) := rfl
theorem tc_10_217 : qTc 10 217 = some (0, mX10_loopsNow, 0) := rfl
theorem tc_10_220 : qTc 10 220 = some (5, mX0_of, 2) := rfl
theorem tc_10_225 : qTc 10 225 = some (0, mX10_defectsNow, 0) := rfl
theorem tc_10_228 : qTc 10 228 = some (0, mX10_areJoined, 2) := rfl
theorem tc_10_231 : qTc 10 231 = some (0, mX10_spreads, 2) := rfl
theorem tc_10_235 : qTc 10 235 = some (0, mX10_laysParts, 0) := rfl
theorem tc_10_238 : qTc 10 238 = some (6, mX0_of, 2) := rfl
theorem tc_10_241 : qTc 10 241 = some (0, mX10_partsWithEdges, 0) := rfl
theorem tc_10_244 : qTc 10 244 = some (0, mX10_good_, 2) := rfl
theorem tc_10_247 : qTc 10 247 = some (0, mX10_isBridgeNow, 2) := rfl
theorem tc_10_250 : qTc 10 250 = some (0, mX10_ordersDegrees, 0) := rfl
theorem tc_10_253 : qTc 10 253 = some (0, mX10_slackOf, 1) := rfl
theorem tc_10_256 : qTc 10 256 = some (0, mX10_isPossibleIn, 1) := rfl
theorem tc_10_259 : qTc 10 259 = some (0, mX10_empties, 1) := rfl
theorem tc_10_262 : qTc 10 262 = some (0, mX10_freesAll, 0) := rfl
theorem tc_10_265 : qTc 10 265 = some (0, mX10_neediest, 0) := rfl
theorem tc_10_268 : qTc 10 268 = some (0, mX10_joins, 2) := rfl
theorem tc_10_271 : qTc 10 271 = some (0, mX10_isSamePair, 4) := rfl
theorem tc_10_275 : qTc 10 275 = some (0, mX10_wouldDouble, 4) := rfl
theorem tc_10_278 : qTc 10 278 = some (1, mX10_partOf, 2) := rfl
theorem tc_10_281 : qTc 10 281 = some (0, mX10_switches, 4) := rfl
theorem tc_10_284 : qTc 10 284 = some (0, mX10_takesBack, 4) := rfl
theorem tc_10_287 : qTc 10 287 = some (1, mX10_codeOf, 4) := rfl
theorem tc_10_291 : qTc 10 291 = some (1, mX10_isFirstOf, 4) := rfl
theorem tc_10_294 : qTc 10 294 = some (0, mX10_reasonBy, 5) := rfl
theorem tc_10_298 : qTc 10 298 = some (0, mX10_laysList, 1) := rfl
theorem tc_10_301 : qTc 10 301 = some (0, mX10_canSwitch, 4) := rfl
theorem tc_10_304 : qTc 10 304 = some (0, mX10_switchesBy, 1) := rfl
theorem tc_10_307 : qTc 10 307 = some (0, mX10_differenceNow, 0) := rfl
theorem tc_10_310 : qTc 10 310 = some (0, mX10_takesBackBy, 1) := rfl
theorem tc_10_313 : qTc 10 313 = some (0, mX10_areAlike, 0) := rfl
theorem tc_10_316 : qTc 10 316 = some (0, mX10_beyond, 2) := rfl
theorem tc_10_319 : qTc 10 319 = some (0, mX10_firstLacking, 0) := rfl
theorem tc_10_322 : qTc 10 322 = some (0, mX10_firstBeyond, 3) := rfl
theorem tc_10_325 : qTc 10 325 = some (0, mX10_goesPath, 0) := rfl
theorem tc_10_328 : qTc 10 328 = some (0, mX10_laysPath, 0) := rfl
theorem tc_10_331 : qTc 10 331 = some (0, mX10_isOneAway, 0) := rfl
theorem tc_10_334 : qTc 10 334 = some (0, mX10_isTwoAway, 0) := rfl
theorem tc_10_337 : qTc 10 337 = some (0, mX10_remember, 0) := rfl
theorem tc_10_340 : qTc 10 340 = some (0, mX10_realises, 1) := rfl
theorem tc_10_343 : qTc 10 343 = some (0, mX10_connecting, 0) := rfl
theorem tc_10_346 : qTc 10 346 = some (0, mX10_simplifying, 0) := rfl
theorem tc_10_352 : qTc 10 352 = some (0, mX10_saysNumber, 1) := rfl
theorem tc_10_355 : qTc 10 355 = some (0, mX10_says, 1) := rfl
theorem tc_10_358 : qTc 10 358 = some (0, mX10_saysEdges, 3) := rfl
theorem tc_11_7 : qTc 11 7 = some (0, mX9_load, 1) := rfl
theorem tc_11_15 : qTc 11 15 = some (0, mX9_times, 3) := rfl
theorem tc_11_21 : qTc 11 21 = some (0, mX9_degree, 2) := rfl
theorem tc_11_25 : qTc 11 25 = some (0, mX9_neighbours, 1) := rfl
theorem tc_11_28 : qTc 11 28 = some (0, mX9_component, 1) := rfl
theorem tc_11_31 : qTc 11 31 = some (0, mX9_isBridge, 2) := rfl
theorem tc_11_37 : qTc 11 37 = some (0, mX9_way, 2) := rfl
theorem tc_11_41 : qTc 11 41 = some (0, mX9_sorted, 1) := rfl
theorem tc_11_44 : qTc 11 44 = some (0, mX9_slack, 1) := rfl
theorem tc_11_47 : qTc 11 47 = some (0, mX9_isPossible, 1) := rfl
theorem tc_11_51 : qTc 11 51 = some (0, mX9_reason, 4) := rfl
theorem tc_11_55 : qTc 11 55 = some (0, mX9_switchAt, 2) := rfl
theorem tc_11_58 : qTc 11 58 = some (0, mX9_componentsBehind, 4) := rfl
theorem tc_11_63 : qTc 11 63 = some (0, mX9_nearest, 0) := rfl
theorem tc_11_67 : qTc 11 67 = some (0, mX9_pathLength, 0) := rfl
theorem tc_11_70 : qTc 11 70 = some (0, mX9_path, 2) := rfl
theorem tc_11_73 : qTc 11 73 = some (0, mX9_distance, 0) := rfl
theorem tc_11_76 : qTc 11 76 = some (0, mX9_addEdge, 2) := rfl
theorem tc_11_79 : qTc 11 79 = some (0, mX9_removeEdge, 2) := rfl
theorem tc_11_82 : qTc 11 82 = some (0, mX9_switchEdges, 4) := rfl
theorem tc_11_85 : qTc 11 85 = some (0, mX9_realise, 1) := rfl
theorem tc_11_88 : qTc 11 88 = some (0, mX9_follow, 1) := rfl
theorem tc_11_91 : qTc 11 91 = some (0, mX9_setMode, 1) := rfl
theorem tc_11_94 : qTc 11 94 = some (0, mX9_written, 1) := rfl
theorem tc_11_98 : qTc 11 98 = some (2, mX9_init, 0) := rfl
theorem tc_11_101 : qTc 11 101 = some (2, mX10_init, 0) := rfl
theorem tc_11_102 : qTc 11 102 = some (0, mX9_feed, 5) := rfl
theorem tc_11_106 : qTc 11 106 = some (0, mX10_feed, 5) := rfl
theorem tc_11_107 : qTc 11 107 = some (4, mL_load, 3) := rfl
theorem tc_11_112 : qTc 11 112 = some (0, mX10_load, 1) := rfl
theorem tc_11_113 : qTc 11 113 = some (0, mX10_thrown, 0) := rfl
theorem tc_11_116 : qTc 11 116 = some (0, mX9_errorKind, 0) := rfl
theorem tc_11_119 : qTc 11 119 = some (0, mX10_errorKind, 0) := rfl
theorem tc_11_120 : qTc 11 120 = some (0, mX9_errorPosition, 0) := rfl
theorem tc_11_123 : qTc 11 123 = some (0, mX10_errorPosition, 0) := rfl
theorem tc_11_124 : qTc 11 124 = some (0, mX9_vertices, 0) := rfl
theorem tc_11_127 : qTc 11 127 = some (0, mX10_vertices, 0) := rfl
theorem tc_11_128 : qTc 11 128 = some (0, mX9_mode, 0) := rfl
theorem tc_11_131 : qTc 11 131 = some (0, mX10_mode, 0) := rfl
theorem tc_11_132 : qTc 11 132 = some (0, mX9_edges, 1) := rfl
theorem tc_11_136 : qTc 11 136 = some (0, mX10_edges, 1) := rfl
theorem tc_11_137 : qTc 11 137 = some (4, mL_times, 5) := rfl
theorem tc_11_140 : qTc 11 140 = some (0, mX10_times, 3) := rfl
theorem tc_11_141 : qTc 11 141 = some (4, mL_degree, 4) := rfl
theorem tc_11_144 : qTc 11 144 = some (0, mX10_degree, 2) := rfl
theorem tc_11_145 : qTc 11 145 = some (0, mX9_loops, 0) := rfl
theorem tc_11_148 : qTc 11 148 = some (0, mX10_loops, 0) := rfl
theorem tc_11_149 : qTc 11 149 = some (0, mX9_defects, 0) := rfl
theorem tc_11_152 : qTc 11 152 = some (0, mX10_defects, 0) := rfl
theorem tc_11_153 : qTc 11 153 = some (0, mX9_isSimple, 0) := rfl
theorem tc_11_157 : qTc 11 157 = some (0, mX10_isSimple, 0) := rfl
theorem tc_11_158 : qTc 11 158 = some (4, mL_neighbours, 3) := rfl
theorem tc_11_160 : qTc 11 160 = some (0, mX10_neighbours, 1) := rfl
theorem tc_11_161 : qTc 11 161 = some (0, mX9_triangles, 0) := rfl
theorem tc_11_164 : qTc 11 164 = some (0, mX10_triangles, 0) := rfl
theorem tc_11_165 : qTc 11 165 = some (0, mX9_components, 0) := rfl
theorem tc_11_168 : qTc 11 168 = some (0, mX10_components, 0) := rfl
theorem tc_11_169 : qTc 11 169 = some (4, mL_component, 3) := rfl
theorem tc_11_171 : qTc 11 171 = some (0, mX10_component, 1) := rfl
theorem tc_11_172 : qTc 11 172 = some (0, mX9_isConnected, 0) := rfl
theorem tc_11_175 : qTc 11 175 = some (0, mX10_isConnected, 0) := rfl
theorem tc_11_176 : qTc 11 176 = some (4, mL_isBridge, 4) := rfl
theorem tc_11_179 : qTc 11 179 = some (0, mX10_isBridge, 2) := rfl
theorem tc_11_180 : qTc 11 180 = some (0, mX9_bridges, 0) := rfl
theorem tc_11_183 : qTc 11 183 = some (0, mX10_bridges, 0) := rfl
theorem tc_11_184 : qTc 11 184 = some (4, mL_way, 4) := rfl
theorem tc_11_186 : qTc 11 186 = some (0, mX10_way, 2) := rfl
theorem tc_11_187 : qTc 11 187 = some (4, mL_sorted, 3) := rfl
theorem tc_11_189 : qTc 11 189 = some (0, mX10_sorted, 1) := rfl
theorem tc_11_190 : qTc 11 190 = some (4, mL_slack, 3) := rfl
theorem tc_11_192 : qTc 11 192 = some (0, mX10_slack, 1) := rfl
theorem tc_11_193 : qTc 11 193 = some (4, mL_isPossible, 3) := rfl
theorem tc_11_195 : qTc 11 195 = some (0, mX10_isPossible, 1) := rfl
theorem tc_11_196 : qTc 11 196 = some (0, mX9_meanDegree, 0) := rfl
theorem tc_11_200 : qTc 11 200 = some (0, mX10_meanDegree, 0) := rfl
theorem tc_11_201 : qTc 11 201 = some (4, mL_reason, 6) := rfl
theorem tc_11_204 : qTc 11 204 = some (0, mX10_reason, 4) := rfl
theorem tc_11_205 : qTc 11 205 = some (0, mX9_switches, 0) := rfl
theorem tc_11_208 : qTc 11 208 = some (0, mX10_switches_, 0) := rfl
theorem tc_11_209 : qTc 11 209 = some (4, mL_switchAt, 4) := rfl
theorem tc_11_211 : qTc 11 211 = some (0, mX10_switchAt, 2) := rfl
theorem tc_11_212 : qTc 11 212 = some (4, mL_componentsBehind, 6) := rfl
theorem tc_11_214 : qTc 11 214 = some (0, mX10_componentsBehind, 4) := rfl
theorem tc_11_215 : qTc 11 215 = some (4, mL_nearest, 2) := rfl
theorem tc_11_218 : qTc 11 218 = some (0, mX10_nearest, 0) := rfl
theorem tc_11_219 : qTc 11 219 = some (0, mX9_isAlike, 0) := rfl
theorem tc_11_222 : qTc 11 222 = some (0, mX10_isAlike, 0) := rfl
theorem tc_11_223 : qTc 11 223 = some (0, mX9_difference, 0) := rfl
theorem tc_11_226 : qTc 11 226 = some (0, mX10_difference, 0) := rfl
theorem tc_11_227 : qTc 11 227 = some (4, mL_pathLength, 2) := rfl
theorem tc_11_229 : qTc 11 229 = some (0, mX10_pathLength, 0) := rfl
theorem tc_11_230 : qTc 11 230 = some (4, mL_path, 4) := rfl
theorem tc_11_232 : qTc 11 232 = some (0, mX10_path, 2) := rfl
theorem tc_11_233 : qTc 11 233 = some (4, mL_distance, 2) := rfl
theorem tc_11_235 : qTc 11 235 = some (0, mX10_distance, 0) := rfl
theorem tc_11_236 : qTc 11 236 = some (4, mL_addEdge, 4) := rfl
theorem tc_11_238 : qTc 11 238 = some (0, mX10_addEdge, 2) := rfl
theorem tc_11_239 : qTc 11 239 = some (4, mL_removeEdge, 4) := rfl
theorem tc_11_241 : qTc 11 241 = some (0, mX10_removeEdge, 2) := rfl
theorem tc_11_242 : qTc 11 242 = some (4, mL_switchEdges, 6) := rfl
theorem tc_11_244 : qTc 11 244 = some (0, mX10_switchEdges, 4) := rfl
theorem tc_11_245 : qTc 11 245 = some (4, mL_realise, 3) := rfl
theorem tc_11_247 : qTc 11 247 = some (0, mX10_realise, 1) := rfl
theorem tc_11_248 : qTc 11 248 = some (4, mL_follow, 3) := rfl
theorem tc_11_250 : qTc 11 250 = some (0, mX10_follow, 1) := rfl
theorem tc_11_251 : qTc 11 251 = some (0, mX9_connect, 0) := rfl
theorem tc_11_254 : qTc 11 254 = some (0, mX10_connect, 0) := rfl
theorem tc_11_255 : qTc 11 255 = some (0, mX9_simplify, 0) := rfl
theorem tc_11_258 : qTc 11 258 = some (0, mX10_simplify, 0) := rfl
theorem tc_11_259 : qTc 11 259 = some (0, mX9_exchange, 0) := rfl
theorem tc_11_262 : qTc 11 262 = some (0, mX10_exchange, 0) := rfl
theorem tc_11_263 : qTc 11 263 = some (0, mX9_copyToTarget, 0) := rfl
theorem tc_11_266 : qTc 11 266 = some (0, mX10_copyToTarget, 0) := rfl
theorem tc_11_267 : qTc 11 267 = some (4, mL_setMode, 3) := rfl
theorem tc_11_269 : qTc 11 269 = some (0, mX10_setMode, 1) := rfl
theorem tc_11_270 : qTc 11 270 = some (0, mX9_undo, 0) := rfl
theorem tc_11_273 : qTc 11 273 = some (0, mX10_undo, 0) := rfl
theorem tc_11_274 : qTc 11 274 = some (0, mX9_write, 1) := rfl
theorem tc_11_277 : qTc 11 277 = some (0, mX10_write, 1) := rfl
theorem tc_11_278 : qTc 11 278 = some (4, mL_written, 3) := rfl
theorem tc_11_280 : qTc 11 280 = some (0, mX10_written, 1) := rfl
theorem ts_5_80 : qTs 5 80 = some 0 := rfl
theorem ts_5_89 : qTs 5 89 = some 1 := rfl
theorem ts_5_98 : qTs 5 98 = some 2 := rfl
theorem ts_5_104 : qTs 5 104 = some 3 := rfl
theorem ts_5_105 : qTs 5 105 = some 4 := rfl
theorem ts_10_153 : qTs 10 153 = some 5 := rfl
theorem ts_10_162 : qTs 10 162 = some 6 := rfl
theorem ts_10_167 : qTs 10 167 = some 7 := rfl
theorem ts_10_172 : qTs 10 172 = some 8 := rfl
theorem ts_10_174 : qTs 10 174 = some 9 := rfl
theorem tx_9_90_92 : qTx 9 90 92 94 false = some 1 := rfl
theorem tx_9_90_285 : qTx 9 90 285 94 true = some 1 := rfl
theorem tx_9_90_320 : qTx 9 90 320 94 true = some 1 := rfl
theorem tx_9_90_322 : qTx 9 90 322 94 true = some 1 := rfl
theorem tx_9_188_190 : qTx 9 188 190 192 false = some 0 := rfl
theorem tx_9_188_217 : qTx 9 188 217 192 false = some 0 := rfl
theorem tx_9_188_262 : qTx 9 188 262 192 true = some 0 := rfl
theorem tx_9_188_310 : qTx 9 188 310 192 true = some 0 := rfl
theorem tx_9_188_316 : qTx 9 188 316 192 true = some 0 := rfl
theorem tx_9_240_242 : qTx 9 240 242 244 false = some 2 := rfl
theorem tx_9_240_318 : qTx 9 240 318 244 true = some 2 := rfl
theorem tx_9_268_270 : qTx 9 268 270 272 true = some 3 := rfl
theorem tx_9_268_280 : qTx 9 268 280 272 true = some 3 := rfl
theorem tx_9_268_324 : qTx 9 268 324 272 true = some 3 := rfl
theorem tx_9_268_326 : qTx 9 268 326 272 true = some 3 := rfl
theorem tn_9_188 : qTn 9 188 = none := rfl
theorem tn_9_240 : qTn 9 240 = none := rfl
theorem tn_9_268 : qTn 9 268 = none := rfl
theorem tn_9_90 : qTn 9 90 = none := rfl
