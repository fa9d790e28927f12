/-! RUNS OF THE SMALL MACHINE, whatever the slots hold that are not told -/
def qLe (L L' : qLo) : Prop := L.length = L'.length ∧ ∀ (k : Nat) (v : Value), L[k]? = some (some v) → L'[k]? = some (some v)
theorem qLe_rf (L : qLo) : qLe L L := ⟨rfl, fun _ _ h => h⟩
theorem qLe_tr {L1 L2 L3 : qLo} (h1 : qLe L1 L2) (h2 : qLe L2 L3) : qLe L1 L3 := ⟨h1.1.trans h2.1, fun k v h => h2.2 k v (h1.2 k v h)⟩
theorem qLe_nil : qLe [] [] := qLe_rf []
theorem qLe_eq {a : Option Value} {l l' : qLo} (h : qLe l l') : qLe (a :: l) (a :: l') := by
  refine ⟨by rw [List.length_cons, List.length_cons, h.1], fun k v hk => ?_⟩
  cases k with
  | zero => exact hk
  | succ k => rw [List.getElem?_cons_succ] at hk ⊢; exact h.2 k v hk
theorem qLe_sk {b : Option Value} {l l' : qLo} (h : qLe l l') : qLe (none :: l) (b :: l') := by
  refine ⟨by rw [List.length_cons, List.length_cons, h.1], fun k v hk => ?_⟩
  cases k with
  | zero => cases hk
  | succ k => rw [List.getElem?_cons_succ] at hk ⊢; exact h.2 k v hk
theorem qLe_ld {L L' : qLo} {k : Nat} {v : Value} (h : qLe L L') (hv : qld L k = some v) : qld L' k = some v := qld_eq.mpr (h.2 k v (qld_eq.mp hv))
theorem qkl_kp {L : qLo} {i j : Nat} {v : Value} (h : L[j]? = some (some v)) (hn : ¬ (j + 1 = i ∧ v.category = 2)) : (qkl L i)[j]? = some (some v) := by
  unfold qkl
  split
  · exact h
  · rename_i k
    split
    · rename_i w hw
      rw [List.getElem?_set]
      split
      · rename_i hkj
        subst hkj
        rw [h] at hw
        cases hw
        exact absurd ⟨rfl, rfl⟩ hn
      · exact h
    · rename_i w hw
      rw [List.getElem?_set]
      split
      · rename_i hkj
        subst hkj
        rw [h] at hw
        cases hw
        exact absurd ⟨rfl, rfl⟩ hn
      · exact h
    · exact h
theorem qLe_set {L L' : qLo} (h : qLe L L') (i : Nat) (x : Option Value) : qLe (L.set i x) (L'.set i x) := by
  refine ⟨by rw [List.length_set, List.length_set, h.1], fun k v hk => ?_⟩
  rw [List.getElem?_set] at hk ⊢
  by_cases hik : i = k
  · rw [if_pos hik] at hk ⊢
    rw [← h.1]
    exact hk
  · rw [if_neg hik] at hk ⊢
    exact h.2 k v hk
theorem qLe_kset {L L' : qLo} (h : qLe L L') (i : Nat) (x : Option Value) : qLe ((qkl L i).set i x) ((qkl L' i).set i x) := by
  refine ⟨by rw [List.length_set, List.length_set, qkl_len, qkl_len, h.1], fun k v hk => ?_⟩
  rw [List.getElem?_set] at hk ⊢
  by_cases hik : i = k
  · rw [if_pos hik] at hk ⊢
    rw [qkl_len] at hk ⊢
    rw [← h.1]
    exact hk
  · rw [if_neg hik] at hk ⊢
    obtain ⟨h1, h2⟩ := qkl_ld hk
    exact qkl_kp (h.2 k v h1) h2
theorem qLe_st1 {L L' L1 : qLo} {i : Nat} {v : Value} (h : qLe L L') (hs : qs1 L i v = some L1) : ∃ L1', qs1 L' i v = some L1' ∧ qLe L1 L1' := by
  unfold qs1 at hs
  split at hs
  · rename_i hi
    cases hs
    refine ⟨(qkl L' i).set i (some v), ?_, qLe_kset h i _⟩
    unfold qs1
    rw [if_pos (by rw [← h.1]; exact hi)]
  · cases hs
theorem qLe_st2 {L L' L1 : qLo} {i : Nat} {v : Value} (h : qLe L L') (hs : qs2 L i v = some L1) : ∃ L1', qs2 L' i v = some L1' ∧ qLe L1 L1' := by
  unfold qs2 at hs
  split at hs
  · rename_i hi
    cases hs
    refine ⟨((qkl L' i).set i (some v)).set (i + 1) none, ?_, qLe_set (qLe_kset h i _) _ _⟩
    unfold qs2
    rw [if_pos (by rw [← h.1]; exact hi)]
  · cases hs
theorem qexec_up : ∀ (n m d : Nat) (M : qM) (pc : Nat) (L : qLo) (st : List Value) (s : qSt) (r : qO × qSt), n ≤ m → qExec n d M pc L st s = some r → qExec m d M pc L st s = some r := by
  intro n
  induction n with
  | zero => intro m d M pc L st s r _ h; cases h
  | succ n ih =>
    intro m d M pc L st s r hm h
    cases m with
    | zero => omega
    | succ m =>
      have hm : n ≤ m := by omega
      unfold qExec at h ⊢
      split at h
      · cases h
      · rename_i ins len hd
        try rw [hd]
        try dsimp only
        split at h
        · cases h
        · rename_i pc2 L2 st2 s2 hs
          try rw [hs]
          exact ih m d M pc2 L2 st2 s2 r hm h
        · rename_i o2 s2 hs
          try rw [hs]
          exact h
        · rename_i i C as rest hs
          try rw [hs]
          try dsimp only
          split at h
          · rename_i hok
            rw [if_pos hok]
            split at h
            · cases h
            · rename_i d'
              try dsimp only
              split at h
              · cases h
              · rename_i v s2 hcal
                rw [ih m d' C 0 _ _ s _ hm hcal]
                exact ih m _ M _ _ _ _ r hm h
              · rename_i E s2 hcal
                rw [ih m d' C 0 _ _ s _ hm hcal]
                try dsimp only
                split at h
                · rename_i hM
                  try rw [hM]
                  exact h
                · rename_i hd0 tl0 hM
                  try rw [hM]
                  try dsimp only
                  split at h
                  · cases h
                  · rename_i hpc hhan
                    try rw [hhan]
                    try dsimp only
                    split at h
                    · rename_i kk hdh
                      try rw [hdh]
                      try dsimp only
                      split at h
                      · rename_i hlt
                        rw [if_pos hlt]
                        exact ih m _ M _ _ _ _ r hm h
                      · cases h
                    · rename_i kk hdh
                      try rw [hdh]
                      try dsimp only
                      split at h
                      · rename_i hlt
                        rw [if_pos hlt]
                        exact ih m _ M _ _ _ _ r hm h
                      · cases h
                    · cases h
          · cases h
def Ev (d : Nat) (M : qM) (pc : Nat) (L : qLo) (st : List Value) (s : qSt) (o : qO) (s' : qSt) : Prop := ∀ L' : qLo, qLe L L' → ∃ n, qExec n d M pc L' st s = some (o, s')
def iv (x : Int) : Value := .int (Int32.ofInt x)
def wr (x : Int) : Int := (Int32.ofInt x).toInt
section EV
variable {d : Nat} {M : qM} {pc pc' : Nat} {L L1 : qLo} {st : List Value} {s s1 : qSt} {o : qO} {s' : qSt}
theorem ev_wk {L0 : qLo} (h : qLe L0 L) (k : Ev d M pc L0 st s o s') : Ev d M pc L st s o s' := fun L' hL => k L' (qLe_tr h hL)
theorem ev_one {ins : Instr} {len : Nat} {st' : List Value} (hd : decode M.2.2.1 pc = .ok (ins, len)) (hs : ∀ L', qLe L L' → ∃ L1', qStep M pc ins len L' st s = some (.inl (pc', L1', st', s1)) ∧ qLe L1 L1') (k : Ev d M pc' L1 st' s1 o s') : Ev d M pc L st s o s' := by
  intro L' h
  obtain ⟨L1', h1, h2⟩ := hs L' h
  obtain ⟨n, hn⟩ := k L1' h2
  refine ⟨n + 1, ?_⟩
  unfold qExec
  rw [hd]
  try dsimp only
  rw [h1]
  exact hn
theorem ev_pu {ins : Instr} {len : Nat} {st' : List Value} (hd : decode M.2.2.1 pc = .ok (ins, len)) (hs : ∀ L', qStep M pc ins len L' st s = some (.inl (pc', L', st', s1))) (k : Ev d M pc' L st' s1 o s') : Ev d M pc L st s o s' :=
  ev_one hd (fun L' h => ⟨L', hs L', h⟩) k
theorem ev_end {ins : Instr} {len : Nat} (hd : decode M.2.2.1 pc = .ok (ins, len)) (hs : ∀ L', qStep M pc ins len L' st s = some (.inr (.inl (o, s')))) : Ev d M pc L st s o s' := by
  intro L' h
  refine ⟨1, ?_⟩
  unfold qExec
  rw [hd]
  try dsimp only
  rw [hs L']
/-! slots and numbers -/
theorem ev_iload_n {k : Fin 4} {x : Int} (hd : decode M.2.2.1 pc = .ok (.iload_n k, 1)) (hp : pc + 1 = pc') (hL : qld L k = some (iv x)) (kk : Ev d M pc' L (iv x :: st) s o s') : Ev d M pc L st s o s' := by
  subst hp
  exact ev_one hd (fun L' h => ⟨L', by dsimp only [qStep]; (try rw [if_pos rfl]); rw [qLe_ld h hL]; rfl, h⟩) kk
theorem ev_iload {k : Nat} {x : Int} (hd : decode M.2.2.1 pc = .ok (.iload k, 2)) (hp : pc + 2 = pc') (hL : qld L k = some (iv x)) (kk : Ev d M pc' L (iv x :: st) s o s') : Ev d M pc L st s o s' := by
  subst hp
  exact ev_one hd (fun L' h => ⟨L', by dsimp only [qStep]; (try rw [if_pos rfl]); rw [qLe_ld h hL]; rfl, h⟩) kk
theorem ev_aload_n {k : Fin 4} {a : Nat} (hd : decode M.2.2.1 pc = .ok (.aload_n k, 1)) (hp : pc + 1 = pc') (hL : qld L k = some (.ref a)) (kk : Ev d M pc' L (.ref a :: st) s o s') : Ev d M pc L st s o s' := by
  subst hp
  exact ev_one hd (fun L' h => ⟨L', by dsimp only [qStep]; (try rw [if_pos rfl]); rw [qLe_ld h hL]; rfl, h⟩) kk
theorem ev_aload {k : Nat} {a : Nat} (hd : decode M.2.2.1 pc = .ok (.aload k, 2)) (hp : pc + 2 = pc') (hL : qld L k = some (.ref a)) (kk : Ev d M pc' L (.ref a :: st) s o s') : Ev d M pc L st s o s' := by
  subst hp
  exact ev_one hd (fun L' h => ⟨L', by dsimp only [qStep]; (try rw [if_pos rfl]); rw [qLe_ld h hL]; rfl, h⟩) kk
theorem ev_dload {k : Nat} {x : UInt64} (hd : decode M.2.2.1 pc = .ok (.dload k, 2)) (hp : pc + 2 = pc') (hL : qld L k = some (.double x)) (kk : Ev d M pc' L (.double x :: st) s o s') : Ev d M pc L st s o s' := by
  subst hp
  exact ev_one hd (fun L' h => ⟨L', by dsimp only [qStep]; (try rw [if_pos rfl]); rw [qLe_ld h hL]; rfl, h⟩) kk
theorem ev_istore_n {k : Fin 4} {x : Int} (hd : decode M.2.2.1 pc = .ok (.istore_n k, 1)) (hp : pc + 1 = pc') (hL : qs1 L k (iv x) = some L1) (kk : Ev d M pc' L1 st s o s') : Ev d M pc L (iv x :: st) s o s' := by
  subst hp
  refine ev_one hd (fun L' h => ?_) kk
  obtain ⟨L1', h1, h2⟩ := qLe_st1 h hL
  refine ⟨L1', ?_, h2⟩
  unfold iv
  dsimp only [qStep]
  unfold iv at h1
  try rw [if_pos rfl]
  try dsimp only
  rw [h1]
  rfl
theorem ev_istore {k : Nat} {x : Int} (hd : decode M.2.2.1 pc = .ok (.istore k, 2)) (hp : pc + 2 = pc') (hL : qs1 L k (iv x) = some L1) (kk : Ev d M pc' L1 st s o s') : Ev d M pc L (iv x :: st) s o s' := by
  subst hp
  refine ev_one hd (fun L' h => ?_) kk
  obtain ⟨L1', h1, h2⟩ := qLe_st1 h hL
  refine ⟨L1', ?_, h2⟩
  unfold iv
  dsimp only [qStep]
  unfold iv at h1
  try rw [if_pos rfl]
  try dsimp only
  rw [h1]
  rfl
theorem ev_astore_n {k : Fin 4} {x : Nat} (hd : decode M.2.2.1 pc = .ok (.astore_n k, 1)) (hp : pc + 1 = pc') (hL : qs1 L k (.ref x) = some L1) (kk : Ev d M pc' L1 st s o s') : Ev d M pc L (.ref x :: st) s o s' := by
  subst hp
  refine ev_one hd (fun L' h => ?_) kk
  obtain ⟨L1', h1, h2⟩ := qLe_st1 h hL
  refine ⟨L1', ?_, h2⟩
  dsimp only [qStep]
  try rw [if_pos rfl]
  try dsimp only
  rw [h1]
  rfl
theorem ev_dstore {k : Nat} {x : UInt64} (hd : decode M.2.2.1 pc = .ok (.dstore k, 2)) (hp : pc + 2 = pc') (hL : qs2 L k (.double x) = some L1) (kk : Ev d M pc' L1 st s o s') : Ev d M pc L (.double x :: st) s o s' := by
  subst hp
  refine ev_one hd (fun L' h => ?_) kk
  obtain ⟨L1', h1, h2⟩ := qLe_st2 h hL
  refine ⟨L1', ?_, h2⟩
  dsimp only [qStep]
  try rw [if_pos rfl]
  try dsimp only
  rw [h1]
  rfl
theorem ev_iinc {k : Nat} {x c : Int} (hd : decode M.2.2.1 pc = .ok (.iinc k c, 3)) (hp : pc + 3 = pc') (hx : qld L k = some (iv x)) (hL : qs1 L k (iv (x + c)) = some L1) (kk : Ev d M pc' L1 st s o s') : Ev d M pc L st s o s' := by
  subst hp
  refine ev_one hd (fun L' h => ?_) kk
  obtain ⟨L1', h1, h2⟩ := qLe_st1 h hL
  refine ⟨L1', ?_, h2⟩
  have hx' := qLe_ld h hx
  unfold iv at h1 hx'
  dsimp only [qStep]
  try try rw [if_pos rfl]
  rw [hx']
  try dsimp only
  rw [← Int32.ofInt_add, h1]
  rfl
theorem ev_iconst {c : Int} (hd : decode M.2.2.1 pc = .ok (.iconst c, 1)) (hp : pc + 1 = pc') (kk : Ev d M pc' L (iv c :: st) s o s') : Ev d M pc L st s o s' := by
  subst hp
  exact ev_pu hd (fun L' => rfl) kk
theorem ev_bipush {c : Int} (hd : decode M.2.2.1 pc = .ok (.bipush c, 2)) (hp : pc + 2 = pc') (hc : (Int8.ofInt c).toInt32 = Int32.ofInt c) (kk : Ev d M pc' L (iv c :: st) s o s') : Ev d M pc L st s o s' := by
  subst hp
  refine ev_pu hd (fun L' => ?_) kk
  unfold iv
  dsimp only [qStep]
  try try rw [if_pos rfl]
  rw [hc]
  rfl
theorem ev_sipush {c : Int} (hd : decode M.2.2.1 pc = .ok (.sipush c, 3)) (hp : pc + 3 = pc') (hc : (Int16.ofInt c).toInt32 = Int32.ofInt c) (kk : Ev d M pc' L (iv c :: st) s o s') : Ev d M pc L st s o s' := by
  subst hp
  refine ev_pu hd (fun L' => ?_) kk
  unfold iv
  dsimp only [qStep]
  try try rw [if_pos rfl]
  rw [hc]
  rfl
theorem ev_iadd {x y : Int} (hd : decode M.2.2.1 pc = .ok (.iadd, 1)) (hp : pc + 1 = pc') (kk : Ev d M pc' L (iv (x + y) :: st) s o s') : Ev d M pc L (iv y :: iv x :: st) s o s' := by
  subst hp
  refine ev_pu hd (fun L' => ?_) kk
  unfold iv
  dsimp only [qStep]
  try try rw [if_pos rfl]
  rw [Int32.ofInt_add]
  rfl
theorem ev_isub {x y : Int} (hd : decode M.2.2.1 pc = .ok (.isub, 1)) (hp : pc + 1 = pc') (kk : Ev d M pc' L (iv (x - y) :: st) s o s') : Ev d M pc L (iv y :: iv x :: st) s o s' := by
  subst hp
  refine ev_pu hd (fun L' => ?_) kk
  unfold iv
  dsimp only [qStep]
  try try rw [if_pos rfl]
  rw [Int32.ofInt_sub]
  rfl
theorem ev_imul {x y : Int} (hd : decode M.2.2.1 pc = .ok (.imul, 1)) (hp : pc + 1 = pc') (kk : Ev d M pc' L (iv (x * y) :: st) s o s') : Ev d M pc L (iv y :: iv x :: st) s o s' := by
  subst hp
  refine ev_pu hd (fun L' => ?_) kk
  unfold iv
  dsimp only [qStep]
  try try rw [if_pos rfl]
  rw [Int32.ofInt_mul]
  rfl
theorem ev_ineg {x : Int} (hd : decode M.2.2.1 pc = .ok (.ineg, 1)) (hp : pc + 1 = pc') (kk : Ev d M pc' L (iv (-x) :: st) s o s') : Ev d M pc L (iv x :: st) s o s' := by
  subst hp
  refine ev_pu hd (fun L' => ?_) kk
  unfold iv
  dsimp only [qStep]
  try try rw [if_pos rfl]
  rw [Int32.ofInt_neg]
  rfl
theorem iv_to (X : Int32) : iv X.toInt = .int X := by
  unfold iv
  rw [Int32.ofInt_toInt]
def ian (x y : Int) : Int := (Int32.ofInt x &&& Int32.ofInt y).toInt
def io (x y : Int) : Int := (Int32.ofInt x ||| Int32.ofInt y).toInt
def ishl (x y : Int) : Int := (Int32.ofInt x <<< (Int32.ofInt y &&& 31)).toInt
def ishr (x y : Int) : Int := (Int32.ofInt x >>> (Int32.ofInt y &&& 31)).toInt
def iush (x y : Int) : Int := (((Int32.ofInt x).toUInt32 >>> ((Int32.ofInt y).toUInt32 &&& Int32.toUInt32 31)).toInt32).toInt
def idv (x y : Int) : Int := (Int32.ofInt x / Int32.ofInt y).toInt
def irm (x y : Int) : Int := (Int32.ofInt x - Int32.ofInt x / Int32.ofInt y * Int32.ofInt y).toInt
def i2b (x : Int) : Int := ((Int32.ofInt x).toInt8.toInt32).toInt
def i2c (x : Int) : Int := (((Int32.ofInt x).toUInt32 % 65536).toInt32).toInt
def mx (x y : Int) : Int := if wr x < wr y then y else x
def mn (x y : Int) : Int := if wr y < wr x then y else x
theorem ev_iand {x y : Int} (hd : decode M.2.2.1 pc = .ok (.iand, 1)) (hp : pc + 1 = pc') (kk : Ev d M pc' L (iv (ian x y) :: st) s o s') : Ev d M pc L (iv y :: iv x :: st) s o s' := by
  subst hp
  refine ev_pu hd (fun L' => ?_) kk
  unfold ian
  rw [iv_to]
  rfl
theorem ev_ior {x y : Int} (hd : decode M.2.2.1 pc = .ok (.ior, 1)) (hp : pc + 1 = pc') (kk : Ev d M pc' L (iv (io x y) :: st) s o s') : Ev d M pc L (iv y :: iv x :: st) s o s' := by
  subst hp
  refine ev_pu hd (fun L' => ?_) kk
  unfold io
  rw [iv_to]
  rfl
theorem ev_ishl {x y : Int} (hd : decode M.2.2.1 pc = .ok (.ishl, 1)) (hp : pc + 1 = pc') (kk : Ev d M pc' L (iv (ishl x y) :: st) s o s') : Ev d M pc L (iv y :: iv x :: st) s o s' := by
  subst hp
  refine ev_pu hd (fun L' => ?_) kk
  unfold ishl
  rw [iv_to]
  rfl
theorem ev_ishr {x y : Int} (hd : decode M.2.2.1 pc = .ok (.ishr, 1)) (hp : pc + 1 = pc') (kk : Ev d M pc' L (iv (ishr x y) :: st) s o s') : Ev d M pc L (iv y :: iv x :: st) s o s' := by
  subst hp
  refine ev_pu hd (fun L' => ?_) kk
  unfold ishr
  rw [iv_to]
  rfl
theorem ev_iushr {x y : Int} (hd : decode M.2.2.1 pc = .ok (.iushr, 1)) (hp : pc + 1 = pc') (kk : Ev d M pc' L (iv (iush x y) :: st) s o s') : Ev d M pc L (iv y :: iv x :: st) s o s' := by
  subst hp
  refine ev_pu hd (fun L' => ?_) kk
  unfold iush
  rw [iv_to]
  rfl
theorem ev_idiv {x y : Int} (hd : decode M.2.2.1 pc = .ok (.idiv, 1)) (hp : pc + 1 = pc') (hy : Int32.ofInt y ≠ 0) (kk : Ev d M pc' L (iv (idv x y) :: st) s o s') : Ev d M pc L (iv y :: iv x :: st) s o s' := by
  subst hp
  refine ev_pu hd (fun L' => ?_) kk
  unfold idv
  rw [iv_to]
  unfold iv
  dsimp only [qStep]
  try rw [if_pos rfl]
  try dsimp only
  rw [if_neg hy]
  rfl
theorem ev_irem {x y : Int} (hd : decode M.2.2.1 pc = .ok (.irem, 1)) (hp : pc + 1 = pc') (hy : Int32.ofInt y ≠ 0) (kk : Ev d M pc' L (iv (irm x y) :: st) s o s') : Ev d M pc L (iv y :: iv x :: st) s o s' := by
  subst hp
  refine ev_pu hd (fun L' => ?_) kk
  unfold irm
  rw [iv_to]
  unfold iv
  dsimp only [qStep]
  try rw [if_pos rfl]
  try dsimp only
  rw [if_neg hy]
  rfl
theorem ev_i2b {x : Int} (hd : decode M.2.2.1 pc = .ok (.i2b, 1)) (hp : pc + 1 = pc') (kk : Ev d M pc' L (iv (i2b x) :: st) s o s') : Ev d M pc L (iv x :: st) s o s' := by
  subst hp
  refine ev_pu hd (fun L' => ?_) kk
  unfold i2b
  rw [iv_to]
  rfl
theorem ev_i2c {x : Int} (hd : decode M.2.2.1 pc = .ok (.i2c, 1)) (hp : pc + 1 = pc') (kk : Ev d M pc' L (iv (i2c x) :: st) s o s') : Ev d M pc L (iv x :: st) s o s' := by
  subst hp
  refine ev_pu hd (fun L' => ?_) kk
  unfold i2c
  rw [iv_to]
  rfl
theorem ev_dup {v : Value} (hd : decode M.2.2.1 pc = .ok (.dup, 1)) (hp : pc + 1 = pc') (hv : v.category = 1) (kk : Ev d M pc' L (v :: v :: st) s o s') : Ev d M pc L (v :: st) s o s' := by
  subst hp
  refine ev_pu hd (fun L' => ?_) kk
  dsimp only [qStep]
  try rw [if_pos rfl]
  try dsimp only
  rw [if_pos hv]
  rfl
theorem ev_dup2 {v w : Value} (hd : decode M.2.2.1 pc = .ok (.dup2, 1)) (hp : pc + 1 = pc') (hv : v.category = 1 ∧ w.category = 1) (kk : Ev d M pc' L (v :: w :: v :: w :: st) s o s') : Ev d M pc L (v :: w :: st) s o s' := by
  subst hp
  refine ev_pu hd (fun L' => ?_) kk
  dsimp only [qStep]
  try rw [if_pos rfl]
  try dsimp only
  rw [if_pos hv]
  rfl
theorem ev_pop {v : Value} (hd : decode M.2.2.1 pc = .ok (.pop, 1)) (hp : pc + 1 = pc') (hv : v.category = 1) (kk : Ev d M pc' L st s o s') : Ev d M pc L (v :: st) s o s' := by
  subst hp
  refine ev_pu hd (fun L' => ?_) kk
  dsimp only [qStep]
  try rw [if_pos rfl]
  try dsimp only
  rw [if_pos hv]
  rfl
/-! long and double numbers -/
def dcm (x y : UInt64) (op : CmpOp) : Int := (Op.cmpValue (FP.dcmp x y) op).toInt
theorem ev_dcmp {x y : UInt64} {op : CmpOp} (hd : decode M.2.2.1 pc = .ok (.dcmp op, 1)) (hp : pc + 1 = pc') (kk : Ev d M pc' L (iv (dcm x y op) :: st) s o s') : Ev d M pc L (.double y :: .double x :: st) s o s' := by
  subst hp
  refine ev_pu hd (fun L' => ?_) kk
  unfold dcm
  rw [iv_to]
  rfl
def i2d (x : Int) : UInt64 := FP.i2d (Int32.ofInt x)
theorem ev_i2d {x : Int} (hd : decode M.2.2.1 pc = .ok (.i2d, 1)) (hp : pc + 1 = pc') (kk : Ev d M pc' L (.double (i2d x) :: st) s o s') : Ev d M pc L (iv x :: st) s o s' := by
  subst hp
  exact ev_pu hd (fun L' => rfl) kk
def ddv (x y : UInt64) : Option UInt64 := if (FP.ddiv x y) &&& 0x7fffffffffffffff ≤ 0x7ff0000000000000 then some (FP.ddiv x y) else none
theorem ev_ddiv {x y z : UInt64} (hd : decode M.2.2.1 pc = .ok (.ddiv, 1)) (hp : pc + 1 = pc') (hz : ddv x y = some z) (kk : Ev d M pc' L (.double z :: st) s o s') : Ev d M pc L (.double y :: .double x :: st) s o s' := by
  subst hp
  unfold ddv at hz
  split at hz
  · rename_i hc
    cases hz
    refine ev_pu hd (fun L' => ?_) kk
    dsimp only [qStep]
    try rw [if_pos rfl]
    try dsimp only
    rw [if_pos hc]
    rfl
  · cases hz
theorem ev_dconst0 (hd : decode M.2.2.1 pc = .ok (.dconst 0, 1)) (hp : pc + 1 = pc') (kk : Ev d M pc' L (.double FP.dconst0 :: st) s o s') : Ev d M pc L st s o s' := by
  subst hp
  exact ev_pu hd (fun L' => by dsimp only [qStep]; rw [if_pos ⟨rfl, rfl⟩]; rfl) kk
/-! jumps -/
theorem wr_lt {x y : Int} : Int32.ofInt x < Int32.ofInt y ↔ wr x < wr y := Int32.lt_iff_toInt_lt
theorem wr_le {x y : Int} : Int32.ofInt x ≤ Int32.ofInt y ↔ wr x ≤ wr y := Int32.le_iff_toInt_le
theorem wr_eq {x y : Int} : Int32.ofInt x = Int32.ofInt y ↔ wr x = wr y := Int32.toInt_inj.symm
theorem ev_goto {off : Int} (hd : decode M.2.2.1 pc = .ok (.goto off, 3)) (ht : (pc : Int) + off = (pc' : Int)) (kk : Ev d M pc' L st s o s') : Ev d M pc L st s o s' := by
  refine ev_pu hd (fun L' => ?_) kk
  dsimp only [qStep]
  try try rw [if_pos rfl]
  rw [if_pos (by omega), ht]
  rfl
theorem ev_br {op : ClassFile.Cond} {off : Int} {x y : Int} {tgt : Nat} {p : Prop} (hd : decode M.2.2.1 pc = .ok (.if_icmp op off, 3)) (ht : (pc : Int) + off = (tgt : Int)) (hp : pc + 3 = pc') (hc : qif op (Int32.ofInt x) (Int32.ofInt y) = true ↔ p) (k1 : p → Ev d M tgt L st s o s') (k2 : ¬ p → Ev d M pc' L st s o s') : Ev d M pc L (iv y :: iv x :: st) s o s' := by
  subst hp
  by_cases h : p
  · refine ev_pu hd (fun L' => ?_) (k1 h)
    unfold iv
    dsimp only [qStep]
    try rw [if_pos rfl]
    try dsimp only
    unfold qbr
    rw [if_pos (by omega), if_pos (hc.mpr h), ht]
    rfl
  · refine ev_pu hd (fun L' => ?_) (k2 h)
    unfold iv
    dsimp only [qStep]
    try rw [if_pos rfl]
    try dsimp only
    unfold qbr
    rw [if_pos (by omega), if_neg (fun q => h (hc.mp q))]
    rfl
theorem ev_br0 {op : ClassFile.Cond} {off : Int} {x : Int} {tgt : Nat} {p : Prop} (hd : decode M.2.2.1 pc = .ok (.ifCond op off, 3)) (ht : (pc : Int) + off = (tgt : Int)) (hp : pc + 3 = pc') (hc : qif op (Int32.ofInt x) (Int32.ofInt 0) = true ↔ p) (k1 : p → Ev d M tgt L st s o s') (k2 : ¬ p → Ev d M pc' L st s o s') : Ev d M pc L (iv x :: st) s o s' := by
  subst hp
  have hc : qif op (Int32.ofInt x) 0 = true ↔ p := hc
  by_cases h : p
  · refine ev_pu hd (fun L' => ?_) (k1 h)
    unfold iv
    dsimp only [qStep]
    try rw [if_pos rfl]
    try dsimp only
    unfold qbr
    rw [if_pos (by omega), if_pos (hc.mpr h), ht]
    rfl
  · refine ev_pu hd (fun L' => ?_) (k2 h)
    unfold iv
    dsimp only [qStep]
    try rw [if_pos rfl]
    try dsimp only
    unfold qbr
    rw [if_pos (by omega), if_neg (fun q => h (hc.mp q))]
    rfl
theorem qc_eq {x y : Int} : qif .eq (Int32.ofInt x) (Int32.ofInt y) = true ↔ wr x = wr y := decide_eq_true_iff.trans wr_eq
theorem qc_ne {x y : Int} : qif .ne (Int32.ofInt x) (Int32.ofInt y) = true ↔ ¬ wr x = wr y := decide_eq_true_iff.trans (not_congr wr_eq)
theorem qc_lt {x y : Int} : qif .lt (Int32.ofInt x) (Int32.ofInt y) = true ↔ wr x < wr y := decide_eq_true_iff.trans wr_lt
theorem qc_ge {x y : Int} : qif .ge (Int32.ofInt x) (Int32.ofInt y) = true ↔ ¬ wr x < wr y := decide_eq_true_iff.trans (wr_le.trans Int.not_lt.symm)
theorem qc_gt {x y : Int} : qif .gt (Int32.ofInt x) (Int32.ofInt y) = true ↔ wr y < wr x := decide_eq_true_iff.trans wr_lt
theorem qc_le {x y : Int} : qif .le (Int32.ofInt x) (Int32.ofInt y) = true ↔ ¬ wr y < wr x := decide_eq_true_iff.trans (wr_le.trans Int.not_lt.symm)
theorem ev_icmpeq {off : Int} {x y : Int} {x1 y1 : Int} {tgt : Nat} (hd : decode M.2.2.1 pc = .ok (.if_icmp .eq off, 3)) (ht : (pc : Int) + off = (tgt : Int)) (hp : pc + 3 = pc') (hx : wr x = x1) (hy : wr y = y1) (k1 : x1 = y1 → Ev d M tgt L st s o s') (k2 : ¬ x1 = y1 → Ev d M pc' L st s o s') : Ev d M pc L (iv y :: iv x :: st) s o s' := by
  subst hx hy
  exact ev_br hd ht hp qc_eq k1 k2
theorem ev_icmpne {off : Int} {x y : Int} {x1 y1 : Int} {tgt : Nat} (hd : decode M.2.2.1 pc = .ok (.if_icmp .ne off, 3)) (ht : (pc : Int) + off = (tgt : Int)) (hp : pc + 3 = pc') (hx : wr x = x1) (hy : wr y = y1) (k1 : x1 = y1 → Ev d M pc' L st s o s') (k2 : ¬ x1 = y1 → Ev d M tgt L st s o s') : Ev d M pc L (iv y :: iv x :: st) s o s' := by
  subst hx hy
  exact ev_br hd ht hp qc_ne k2 (fun h => k1 (Decidable.not_not.mp h))
theorem ev_icmplt {off : Int} {x y : Int} {x1 y1 : Int} {tgt : Nat} (hd : decode M.2.2.1 pc = .ok (.if_icmp .lt off, 3)) (ht : (pc : Int) + off = (tgt : Int)) (hp : pc + 3 = pc') (hx : wr x = x1) (hy : wr y = y1) (k1 : x1 < y1 → Ev d M tgt L st s o s') (k2 : ¬ x1 < y1 → Ev d M pc' L st s o s') : Ev d M pc L (iv y :: iv x :: st) s o s' := by
  subst hx hy
  exact ev_br hd ht hp qc_lt k1 k2
theorem ev_icmpge {off : Int} {x y : Int} {x1 y1 : Int} {tgt : Nat} (hd : decode M.2.2.1 pc = .ok (.if_icmp .ge off, 3)) (ht : (pc : Int) + off = (tgt : Int)) (hp : pc + 3 = pc') (hx : wr x = x1) (hy : wr y = y1) (k1 : x1 < y1 → Ev d M pc' L st s o s') (k2 : ¬ x1 < y1 → Ev d M tgt L st s o s') : Ev d M pc L (iv y :: iv x :: st) s o s' := by
  subst hx hy
  exact ev_br hd ht hp qc_ge k2 (fun h => k1 (Decidable.not_not.mp h))
theorem ev_icmpgt {off : Int} {x y : Int} {x1 y1 : Int} {tgt : Nat} (hd : decode M.2.2.1 pc = .ok (.if_icmp .gt off, 3)) (ht : (pc : Int) + off = (tgt : Int)) (hp : pc + 3 = pc') (hx : wr x = x1) (hy : wr y = y1) (k1 : y1 < x1 → Ev d M tgt L st s o s') (k2 : ¬ y1 < x1 → Ev d M pc' L st s o s') : Ev d M pc L (iv y :: iv x :: st) s o s' := by
  subst hx hy
  exact ev_br hd ht hp qc_gt k1 k2
theorem ev_icmple {off : Int} {x y : Int} {x1 y1 : Int} {tgt : Nat} (hd : decode M.2.2.1 pc = .ok (.if_icmp .le off, 3)) (ht : (pc : Int) + off = (tgt : Int)) (hp : pc + 3 = pc') (hx : wr x = x1) (hy : wr y = y1) (k1 : y1 < x1 → Ev d M pc' L st s o s') (k2 : ¬ y1 < x1 → Ev d M tgt L st s o s') : Ev d M pc L (iv y :: iv x :: st) s o s' := by
  subst hx hy
  exact ev_br hd ht hp qc_le k2 (fun h => k1 (Decidable.not_not.mp h))
theorem ev_ifeq {off : Int} {x : Int} {x1 : Int} {tgt : Nat} (hd : decode M.2.2.1 pc = .ok (.ifCond .eq off, 3)) (ht : (pc : Int) + off = (tgt : Int)) (hp : pc + 3 = pc') (hx : wr x = x1) (k1 : x1 = 0 → Ev d M tgt L st s o s') (k2 : ¬ x1 = 0 → Ev d M pc' L st s o s') : Ev d M pc L (iv x :: st) s o s' := by
  subst hx
  exact ev_br0 hd ht hp qc_eq k1 k2
theorem ev_ifne {off : Int} {x : Int} {x1 : Int} {tgt : Nat} (hd : decode M.2.2.1 pc = .ok (.ifCond .ne off, 3)) (ht : (pc : Int) + off = (tgt : Int)) (hp : pc + 3 = pc') (hx : wr x = x1) (k1 : x1 = 0 → Ev d M pc' L st s o s') (k2 : ¬ x1 = 0 → Ev d M tgt L st s o s') : Ev d M pc L (iv x :: st) s o s' := by
  subst hx
  exact ev_br0 hd ht hp qc_ne k2 (fun h => k1 (Decidable.not_not.mp h))
theorem ev_iflt {off : Int} {x : Int} {x1 : Int} {tgt : Nat} (hd : decode M.2.2.1 pc = .ok (.ifCond .lt off, 3)) (ht : (pc : Int) + off = (tgt : Int)) (hp : pc + 3 = pc') (hx : wr x = x1) (k1 : x1 < 0 → Ev d M tgt L st s o s') (k2 : ¬ x1 < 0 → Ev d M pc' L st s o s') : Ev d M pc L (iv x :: st) s o s' := by
  subst hx
  exact ev_br0 hd ht hp qc_lt k1 k2
theorem ev_ifge {off : Int} {x : Int} {x1 : Int} {tgt : Nat} (hd : decode M.2.2.1 pc = .ok (.ifCond .ge off, 3)) (ht : (pc : Int) + off = (tgt : Int)) (hp : pc + 3 = pc') (hx : wr x = x1) (k1 : x1 < 0 → Ev d M pc' L st s o s') (k2 : ¬ x1 < 0 → Ev d M tgt L st s o s') : Ev d M pc L (iv x :: st) s o s' := by
  subst hx
  exact ev_br0 hd ht hp qc_ge k2 (fun h => k1 (Decidable.not_not.mp h))
theorem ev_ifgt {off : Int} {x : Int} {x1 : Int} {tgt : Nat} (hd : decode M.2.2.1 pc = .ok (.ifCond .gt off, 3)) (ht : (pc : Int) + off = (tgt : Int)) (hp : pc + 3 = pc') (hx : wr x = x1) (k1 : 0 < x1 → Ev d M tgt L st s o s') (k2 : ¬ 0 < x1 → Ev d M pc' L st s o s') : Ev d M pc L (iv x :: st) s o s' := by
  subst hx
  exact ev_br0 hd ht hp qc_gt k1 k2
theorem ev_ifle {off : Int} {x : Int} {x1 : Int} {tgt : Nat} (hd : decode M.2.2.1 pc = .ok (.ifCond .le off, 3)) (ht : (pc : Int) + off = (tgt : Int)) (hp : pc + 3 = pc') (hx : wr x = x1) (k1 : 0 < x1 → Ev d M pc' L st s o s') (k2 : ¬ 0 < x1 → Ev d M tgt L st s o s') : Ev d M pc L (iv x :: st) s o s' := by
  subst hx
  exact ev_br0 hd ht hp qc_le k2 (fun h => k1 (Decidable.not_not.mp h))
theorem ev_switch {df lo hi : Int} {offs : Array Int} {len : Nat} {x off : Int} {tgt : Nat} (hd : decode M.2.2.1 pc = .ok (.tableswitch df lo hi offs, len)) (h1 : lo ≤ wr x) (h2 : wr x ≤ hi) (ho : offs[(wr x - lo).toNat]? = some off) (ht : (pc : Int) + off = (tgt : Int)) (kk : Ev d M tgt L st s o s') : Ev d M pc L (iv x :: st) s o s' := by
  refine ev_pu hd (fun L' => ?_) kk
  unfold iv
  dsimp only [qStep]
  try dsimp only
  rw [if_neg (by show ¬ (wr x < lo ∨ hi < wr x); omega), show (Int32.ofInt x).toInt = wr x from rfl, ho]
  try dsimp only
  rw [if_pos (by omega), ht]
  rfl
theorem ev_switchd {df lo hi : Int} {offs : Array Int} {len : Nat} {x : Int} {tgt : Nat} (hd : decode M.2.2.1 pc = .ok (.tableswitch df lo hi offs, len)) (h1 : wr x < lo ∨ hi < wr x) (ht : (pc : Int) + df = (tgt : Int)) (kk : Ev d M tgt L st s o s') : Ev d M pc L (iv x :: st) s o s' := by
  refine ev_pu hd (fun L' => ?_) kk
  unfold iv
  dsimp only [qStep]
  try dsimp only
  rw [if_pos (show (Int32.ofInt x).toInt < lo ∨ hi < (Int32.ofInt x).toInt from h1), if_pos (by omega), ht]
  rfl
/-! ends -/
theorem ev_ireturn {x : Int} {rt : FieldType} (hd : decode M.2.2.1 pc = .ok (.ireturn, 1)) (hr : M.2.2.2.2.1 = some rt) (hn : narrow rt (iv x) = iv x) : Ev d M pc L [iv x] s (.inl (some (iv x))) s := by
  refine ev_end hd (fun L' => ?_)
  unfold iv at hn ⊢
  dsimp only [qStep]
  try rw [if_pos rfl]
  try dsimp only
  rw [hr]
  try dsimp only
  rw [if_pos hn]
theorem ev_dreturn {x : UInt64} (hd : decode M.2.2.1 pc = .ok (.dreturn, 1)) (hr : M.2.2.2.2.1 = some .double) : Ev d M pc L [.double x] s (.inl (some (.double x))) s := by
  refine ev_end hd (fun L' => ?_)
  dsimp only [qStep]
  try rw [if_pos rfl]
  try dsimp only
  rw [if_pos hr]
theorem ev_areturn {x : Nat} {nn : String} (hd : decode M.2.2.1 pc = .ok (.areturn, 1)) (hr : M.2.2.2.2.1 = some (.object nn)) : Ev d M pc L [.ref x] s (.inl (some (.ref x))) s := by
  refine ev_end hd (fun L' => ?_)
  dsimp only [qStep]
  try rw [if_pos rfl]
  try dsimp only
  rw [hr]
theorem ev_return (hd : decode M.2.2.1 pc = .ok (.return_, 1)) (hr : M.2.2.2.2.1 = none) : Ev d M pc L [] s (.inl none) s := by
  refine ev_end hd (fun L' => ?_)
  dsimp only [qStep]
  try rw [if_pos rfl]
  try dsimp only
  rw [if_pos hr]
theorem ev_throw {ik js jc E : Nat} (hd : decode M.2.2.1 pc = .ok (.new ik, 3)) (hn : qTn M.1 ik = none) (h3 : decode M.2.2.1 (pc + 3) = .ok (.dup, 1)) (h4 : decode M.2.2.1 (pc + 4) = .ok (.ldc js, 2)) (h6 : decode M.2.2.1 (pc + 6) = .ok (.invokespecial jc, 3)) (h9 : decode M.2.2.1 (pc + 9) = .ok (.athrow, 1)) (hx : qTx M.1 ik js jc false = some E) (hc : qcat st = true) (hh : M.2.2.2.2.2 = []) : Ev d M pc L st s (.inr E) (qthr s) := by
  refine ev_end hd (fun L' => ?_)
  dsimp only [qStep]
  try try rw [if_pos rfl]
  rw [hn]
  try dsimp only
  rw [h3, h4]
  try dsimp only
  rw [h6, h9]
  show (match qTx M.1 ik js jc false with
    | some E => (if qcat st = true ∧ M.2.2.2.2.2.isEmpty = true then some (Sum.inr (Sum.inl (Sum.inr E, qthr s))) else none)
    | none => none) = _
  rw [hx]
  try dsimp only
  rw [if_pos ⟨hc, by rw [hh]; rfl⟩]
theorem ev_throww {ik js jc E : Nat} (hd : decode M.2.2.1 pc = .ok (.new ik, 3)) (hn : qTn M.1 ik = none) (h3 : decode M.2.2.1 (pc + 3) = .ok (.dup, 1)) (h4 : decode M.2.2.1 (pc + 4) = .ok (.ldc_w js, 3)) (h6 : decode M.2.2.1 (pc + 7) = .ok (.invokespecial jc, 3)) (h9 : decode M.2.2.1 (pc + 10) = .ok (.athrow, 1)) (hx : qTx M.1 ik js jc true = some E) (hc : qcat st = true) (hh : M.2.2.2.2.2 = []) : Ev d M pc L st s (.inr E) (qthr s) := by
  refine ev_end hd (fun L' => ?_)
  dsimp only [qStep]
  try try rw [if_pos rfl]
  rw [hn]
  try dsimp only
  rw [h3, h4]
  try dsimp only
  rw [h6, h9]
  show (match qTx M.1 ik js jc true with
    | some E => (if qcat st = true ∧ M.2.2.2.2.2.isEmpty = true then some (Sum.inr (Sum.inl (Sum.inr E, qthr s))) else none)
    | none => none) = _
  rw [hx]
  try dsimp only
  rw [if_pos ⟨hc, by rw [hh]; rfl⟩]
/-! calls -/
theorem ev_callg {ins : Instr} {len i : Nat} {C : qM} {as rest : List Value} {v : Option Value} {L0 : qLo} (hd : decode M.2.2.1 pc = .ok (ins, len)) (hs : ∀ L', qStep M pc ins len L' st s = some (.inr (.inr (i, C, as, rest)))) (hp : pc + 3 = pc') (hok : qok C as = true) (hc : Ev d C 0 L0 [] s (.inl v) s1) (hL : qen C.2.2.2.1 as = L0) {st2 : List Value} (hv : v.toList ++ rest = st2) (kk : Ev (d + 1) M pc' L st2 s1 o s') : Ev (d + 1) M pc L st s o s' := by
  intro L' h
  subst hp hL hv
  obtain ⟨n1, h1⟩ := hc _ (qLe_rf _)
  obtain ⟨n2, h2⟩ := kk L' h
  refine ⟨max n1 n2 + 1, ?_⟩
  unfold qExec
  rw [hd]
  try dsimp only
  rw [hs L']
  try dsimp only
  rw [if_pos hok, qexec_up n1 (max n1 n2) _ _ _ _ _ _ _ (Nat.le_max_left _ _) h1]
  try dsimp only
  exact qexec_up n2 (max n1 n2) _ _ _ _ _ _ _ (Nat.le_max_right _ _) h2
theorem ev_callx {ins : Instr} {len i E : Nat} {C : qM} {as rest : List Value} {L0 : qLo} (hd : decode M.2.2.1 pc = .ok (ins, len)) (hs : ∀ L', qStep M pc ins len L' st s = some (.inr (.inr (i, C, as, rest)))) (hok : qok C as = true) (hc : Ev d C 0 L0 [] s (.inr E) s1) (hL : qen C.2.2.2.1 as = L0) (hh : M.2.2.2.2.2 = []) : Ev (d + 1) M pc L st s (.inr E) s1 := by
  intro L' h
  subst hL
  obtain ⟨n1, h1⟩ := hc _ (qLe_rf _)
  refine ⟨n1 + 1, ?_⟩
  unfold qExec
  rw [hd]
  try dsimp only
  rw [hs L']
  try dsimp only
  rw [if_pos hok, h1]
  try dsimp only
  rw [hh]
theorem ev_callh {ins : Instr} {len i E hpc k : Nat} {C : qM} {as rest : List Value} {L0 : qLo} (hd : decode M.2.2.1 pc = .ok (ins, len)) (hs : ∀ L', qStep M pc ins len L' st s = some (.inr (.inr (i, C, as, rest)))) (hok : qok C as = true) (hc : Ev d C 0 L0 [] s (.inr E) s1) (hL : qen C.2.2.2.1 as = L0) {a0 : Nat × Nat × Nat × Nat} {t0 : List (Nat × Nat × Nat × Nat)} (hh : M.2.2.2.2.2 = a0 :: t0) (hq : qhan M pc E (a0 :: t0) = some hpc) (hdh : decode M.2.2.1 hpc = .ok (.astore k, 2)) (hk : k < L.length) (hL1 : (qkl L k).set k none = L1) (hp : hpc + 2 = pc') (kk : Ev (d + 1) M pc' L1 [] s1 o s') : Ev (d + 1) M pc L st s o s' := by
  intro L' h
  subst hp hL hL1
  obtain ⟨n1, h1⟩ := hc _ (qLe_rf _)
  obtain ⟨n2, h2⟩ := kk _ (qLe_kset h k none)
  refine ⟨max n1 n2 + 1, ?_⟩
  unfold qExec
  rw [hd]
  try dsimp only
  rw [hs L']
  try dsimp only
  rw [if_pos hok, qexec_up n1 (max n1 n2) _ _ _ _ _ _ _ (Nat.le_max_left _ _) h1]
  try dsimp only
  rw [hh]
  try dsimp only
  rw [hq]
  try dsimp only
  rw [hdh]
  show (if k < List.length L' then qExec (max n1 n2) (d + 1) M (hpc + 2) (List.set (qkl L' k) k none) [] s1 else none) = _
  rw [if_pos (by rw [← h.1]; exact hk)]
  exact qexec_up n2 (max n1 n2) _ _ _ _ _ _ _ (Nat.le_max_right _ _) h2
theorem ev_callhn {ins : Instr} {len i E hpc : Nat} {k : Fin 4} {C : qM} {as rest : List Value} {L0 : qLo} (hd : decode M.2.2.1 pc = .ok (ins, len)) (hs : ∀ L', qStep M pc ins len L' st s = some (.inr (.inr (i, C, as, rest)))) (hok : qok C as = true) (hc : Ev d C 0 L0 [] s (.inr E) s1) (hL : qen C.2.2.2.1 as = L0) {a0 : Nat × Nat × Nat × Nat} {t0 : List (Nat × Nat × Nat × Nat)} (hh : M.2.2.2.2.2 = a0 :: t0) (hq : qhan M pc E (a0 :: t0) = some hpc) (hdh : decode M.2.2.1 hpc = .ok (.astore_n k, 1)) (hk : (k : Nat) < L.length) (hL1 : (qkl L k).set k none = L1) (hp : hpc + 1 = pc') (kk : Ev (d + 1) M pc' L1 [] s1 o s') : Ev (d + 1) M pc L st s o s' := by
  intro L' h
  subst hp hL hL1
  obtain ⟨n1, h1⟩ := hc _ (qLe_rf _)
  obtain ⟨n2, h2⟩ := kk _ (qLe_kset h k none)
  refine ⟨max n1 n2 + 1, ?_⟩
  unfold qExec
  rw [hd]
  try dsimp only
  rw [hs L']
  try dsimp only
  rw [if_pos hok, qexec_up n1 (max n1 n2) _ _ _ _ _ _ _ (Nat.le_max_left _ _) h1]
  try dsimp only
  rw [hh]
  try dsimp only
  rw [hq]
  try dsimp only
  rw [hdh]
  show (if (k : Nat) < List.length L' then qExec (max n1 n2) (d + 1) M (hpc + 1) (List.set (qkl L' k) k none) [] s1 else none) = _
  rw [if_pos (by rw [← h.1]; exact hk)]
  exact qexec_up n2 (max n1 n2) _ _ _ _ _ _ _ (Nat.le_max_right _ _) h2
/-- the call's step: a static method -/
theorem qs_S {i n mo : Nat} {C : qM} {as rest : List Value} (ht : qTc M.1 i = some (mo, C, n)) (hmo : mo = 1 ∨ mo = 4) (ha : qargs n st = some (as, rest)) (hc : qcat rest = true) : ∀ L' : qLo, qStep M pc (.invokestatic i) 3 L' st s = some (.inr (.inr (i, C, as, rest))) := by
  intro L'
  dsimp only [qStep]
  try try rw [if_pos rfl]
  rw [ht]
  try dsimp only
  rw [ha]
  try dsimp only
  rw [if_pos hc, if_pos hmo]
theorem qs_Vx {i n a ci mo : Nat} {C : qM} {as rest : List Value} (ht : qTc M.1 i = some (mo, C, n)) (hmo : mo = 0 ∨ mo = 15 ∨ mo = 16) (ha : qargs n st = some (as, .ref a :: rest)) (hc : qcat rest = true) (hr : qclx s a = some ci) (hC : ci + 1 = C.1) : ∀ L' : qLo, qStep M pc (.invokevirtual i) 3 L' st s = some (.inr (.inr (i, C, .ref a :: as, rest))) := by
  intro L'
  dsimp only [qStep]
  try try rw [if_pos rfl]
  rw [ht]
  try dsimp only
  rw [ha]
  try dsimp only
  rw [if_pos hc, if_pos hmo, hr]
  try dsimp only
  rw [if_pos hC]
theorem qclx_of {a ci : Nat} (h : qcls s a = some ci) : qclx s a = some ci := by
  unfold qclx
  rw [h]
theorem qs_V {i n a ci : Nat} {C : qM} {as rest : List Value} (ht : qTc M.1 i = some (0, C, n)) (ha : qargs n st = some (as, .ref a :: rest)) (hc : qcat rest = true) (hr : qcls s a = some ci) (hC : ci + 1 = C.1) : ∀ L' : qLo, qStep M pc (.invokevirtual i) 3 L' st s = some (.inr (.inr (i, C, .ref a :: as, rest))) :=
  qs_Vx ht (Or.inl rfl) ha hc (qclx_of hr) hC
theorem qs_VH {i n a ci : Nat} {C : qM} {as rest : List Value} (ht : qTc M.1 i = some (15, C, n)) (ha : qargs n st = some (as, .ref a :: rest)) (hc : qcat rest = true) (hr : qcls s a = some ci) (hC : ci + 1 = C.1) : ∀ L' : qLo, qStep M pc (.invokevirtual i) 3 L' st s = some (.inr (.inr (i, C, .ref a :: as, rest))) :=
  qs_Vx ht (Or.inr (Or.inl rfl)) ha hc (qclx_of hr) hC
/-- a method of the builder's superclass -/
theorem qs_U {i n a : Nat} {C : qM} {as rest : List Value} (ht : qTc M.1 i = some (10, C, n)) (ha : qargs n st = some (as, .ref a :: rest)) (hc : qcat rest = true) (hr : qcls s a = some 11) : ∀ L' : qLo, qStep M pc (.invokevirtual i) 3 L' st s = some (.inr (.inr (i, C, .ref a :: as, rest))) := by
  intro L'
  dsimp only [qStep]
  try try rw [if_pos rfl]
  rw [ht]
  try dsimp only
  rw [ha]
  try dsimp only
  rw [if_pos hc, if_neg (by decide), if_neg (by decide), if_neg (by decide), if_pos rfl, hr]
  try dsimp only
  try rw [if_pos rfl]
theorem qs_W {i n a mo : Nat} {C : qM} {as rest : List Value} (ht : qTc M.1 i = some (mo, C, n)) (hmo : mo = 11 ∨ mo = 12) (ha : qargs n st = some (as, .ref a :: rest)) (hc : qcat rest = true) (hr : qcls s a = some 11) : ∀ L' : qLo, qStep M pc (.invokespecial i) 3 L' st s = some (.inr (.inr (i, C, .ref a :: as, rest))) := by
  intro L'
  dsimp only [qStep]
  try try rw [if_pos rfl]
  rw [ht]
  try dsimp only
  rw [ha]
  try dsimp only
  rw [if_pos hc, if_neg (by omega), if_neg (by omega), if_pos hmo, hr]
  try dsimp only
  try rw [if_pos rfl]
theorem qs_I {i n a ci mo : Nat} {C : qM} {as rest : List Value} (ht : qTc M.1 i = some (mo, C, n)) (hmo : mo = 2 ∨ mo = 3) (ha : qargs n st = some (as, .ref a :: rest)) (hc : qcat rest = true) (hr : qcls s a = some ci) (hC : ci + 1 = C.1) : ∀ L' : qLo, qStep M pc (.invokespecial i) 3 L' st s = some (.inr (.inr (i, C, .ref a :: as, rest))) := by
  intro L'
  dsimp only [qStep]
  try try rw [if_pos rfl]
  rw [ht]
  try dsimp only
  rw [ha]
  try dsimp only
  rw [if_pos hc, if_pos hmo, hr]
  try dsimp only
  rw [if_pos hC]
theorem ev_oinit {i a mo n : Nat} {C : qM} (hd : decode M.2.2.1 pc = .ok (.invokespecial i, 3)) (hp : pc + 3 = pc') (ht : qTc M.1 i = some (7, C, 0)) (hc : qcat st = true) (kk : Ev d M pc' L st s o s') : Ev d M pc L (.ref a :: st) s o s' := by
  subst hp
  refine ev_pu hd (fun L' => ?_) kk
  dsimp only [qStep]
  try try rw [if_pos rfl]
  rw [ht]
  try dsimp only
  rw [show qargs 0 (Value.ref a :: st) = some ([], .ref a :: st) by unfold qargs; rw [if_pos (Nat.zero_le _)]; rfl]
  try dsimp only
  rw [if_pos hc, if_neg (by decide), if_pos rfl, if_pos rfl]
  rfl
theorem ev_max {i : Nat} {x y : Int} {C : qM} (hd : decode M.2.2.1 pc = .ok (.invokestatic i, 3)) (hp : pc + 3 = pc') (ht : qTc M.1 i = some (5, C, 2)) (hc : qcat st = true) (kk : Ev d M pc' L (iv (mx x y) :: st) s o s') : Ev d M pc L (iv y :: iv x :: st) s o s' := by
  subst hp
  refine ev_pu hd (fun L' => ?_) kk
  dsimp only [qStep]
  try try rw [if_pos rfl]
  rw [ht]
  try dsimp only
  rw [show qargs 2 (iv y :: iv x :: st) = some ([iv x, iv y], st) by unfold qargs; rw [if_pos (by simp)]; rfl]
  try dsimp only
  rw [if_pos hc, if_neg (by decide), if_pos rfl]
  unfold iv mx
  try dsimp only
  by_cases h : wr x < wr y
  · rw [if_pos h, if_pos (wr_lt.mpr h)]
    rfl
  · rw [if_neg h, if_neg (fun q => h (wr_lt.mp q))]
    rfl
theorem ev_min {i : Nat} {x y : Int} {C : qM} (hd : decode M.2.2.1 pc = .ok (.invokestatic i, 3)) (hp : pc + 3 = pc') (ht : qTc M.1 i = some (6, C, 2)) (hc : qcat st = true) (kk : Ev d M pc' L (iv (mn x y) :: st) s o s') : Ev d M pc L (iv y :: iv x :: st) s o s' := by
  subst hp
  refine ev_pu hd (fun L' => ?_) kk
  dsimp only [qStep]
  try try rw [if_pos rfl]
  rw [ht]
  try dsimp only
  rw [show qargs 2 (iv y :: iv x :: st) = some ([iv x, iv y], st) by unfold qargs; rw [if_pos (by simp)]; rfl]
  try dsimp only
  rw [if_pos hc, if_neg (by decide), if_neg (by decide), if_pos rfl]
  unfold iv mn
  try dsimp only
  by_cases h : wr y < wr x
  · rw [if_pos h, if_pos (wr_lt.mpr h)]
    rfl
  · rw [if_neg h, if_neg (fun q => h (wr_lt.mp q))]
    rfl
theorem ev_ldc {i j : Nat} (hd : decode M.2.2.1 pc = .ok (.ldc i, 2)) (hp : pc + 2 = pc') (ht : qTs M.1 i = some j) (kk : Ev d M pc' L (.ref (1000000 + j) :: st) s o s') : Ev d M pc L st s o s' := by
  subst hp
  refine ev_pu hd (fun L' => ?_) kk
  dsimp only [qStep]
  try try rw [if_pos rfl]
  rw [ht]
  rfl
def qsl (a : Nat) : Int := ((qStr (a - 1000000)).length : Int)
def qsc (a : Nat) (k : Int) : Option Int := if 0 ≤ k ∧ k < qsl a then some (wr ((qStr (a - 1000000)).getD k.toNat 0)) else none
theorem ev_slen {i a : Nat} {C : qM} (hd : decode M.2.2.1 pc = .ok (.invokevirtual i, 3)) (hp : pc + 3 = pc') (ht : qTc M.1 i = some (8, C, 0)) (hc : qcat st = true) (ha : 1000000 ≤ a ∧ a < 1000010) (kk : Ev d M pc' L (iv (qsl a) :: st) s o s') : Ev d M pc L (.ref a :: st) s o s' := by
  subst hp
  refine ev_pu hd (fun L' => ?_) kk
  dsimp only [qStep]
  try try rw [if_pos rfl]
  rw [ht]
  try dsimp only
  rw [show qargs 0 (Value.ref a :: st) = some ([], .ref a :: st) by unfold qargs; rw [if_pos (Nat.zero_le _)]; rfl]
  try dsimp only
  rw [if_pos hc, if_neg (by decide), if_pos rfl, if_pos ⟨ha, rfl⟩]
  unfold iv qsl
  rw [Int32.ofInt_eq_ofNat]
  rfl
theorem qsl_sm (a : Nat) : qsl a < 2 ^ 31 := by
  have h : ∀ j, j < 10 → (qStr j).length < 100 := by decide +kernel
  unfold qsl
  by_cases hj : a - 1000000 < 10
  · have := h _ hj
    omega
  · have e : qStr (a - 1000000) = [] := by
      unfold qStr
      rw [List.getD_eq_getElem?_getD, List.getElem?_eq_none (by show qTxB.length ≤ _; have : qTxB.length = 10 := by decide +kernel
                                                                omega)]
      rfl
    rw [e]
    show ((0 : Nat) : Int) < _
    omega
set_option maxRecDepth 20000 in
theorem ev_charAt {i a : Nat} {k x : Int} {C : qM} (hd : decode M.2.2.1 pc = .ok (.invokevirtual i, 3)) (hp : pc + 3 = pc') (ht : qTc M.1 i = some (9, C, 1)) (hc : qcat st = true) (ha : 1000000 ≤ a ∧ a < 1000010) (hk : qsc a k = some x) (kk : Ev d M pc' L (iv x :: st) s o s') : Ev d M pc L (iv k :: .ref a :: st) s o s' := by
  subst hp
  unfold qsc at hk
  split at hk
  · rename_i h0
    replace hk := Option.some.inj hk
    subst hk
    have hs := qsl_sm a
    have e1 : (Int32.ofInt k).toNatClampNeg = k.toNat := Int32.toNatClampNeg_ofInt_of_le (by omega) (by omega)
    have e2 : ¬ Int32.ofInt k < 0 := by
      intro q
      have : (Int32.ofInt k).toInt < (0 : Int32).toInt := Int32.lt_iff_toInt_lt.mp q
      rw [Int32.toInt_ofInt_of_le (by omega) (by omega)] at this
      have e0 : (0 : Int32).toInt = 0 := rfl
      omega
    refine ev_pu hd (fun L' => ?_) kk
    dsimp only [qStep]
    try try rw [if_pos rfl]
    rw [ht]
    try dsimp only
    rw [show qargs 1 (iv k :: Value.ref a :: st) = some ([iv k], .ref a :: st) by unfold qargs; rw [if_pos (by simp)]; rfl]
    try dsimp only
    rw [if_pos hc, if_neg (by decide), if_neg (by decide), if_pos rfl]
    unfold iv
    try dsimp only
    rw [if_pos ⟨ha, by rintro (q | q); · exact e2 q
                       · rw [e1] at q; have := h0.2; unfold qsl at this; omega⟩, e1]
    unfold wr
    rw [Int32.ofInt_toInt]
    rfl
  · cases hk
theorem ev_areturnA {x : Nat} {nn : FieldType} (hd : decode M.2.2.1 pc = .ok (.areturn, 1)) (hr : M.2.2.2.2.1 = some (.array nn)) : Ev d M pc L [.ref x] s (.inl (some (.ref x))) s := by
  refine ev_end hd (fun L' => ?_)
  dsimp only [qStep]
  try rw [if_pos rfl]
  try dsimp only
  rw [hr]
theorem ev_gst0 {i : Nat} (hd : decode M.2.2.1 pc = .ok (.getstatic i, 3)) (hp : pc + 3 = pc') (ht : qTg M.1 i = some 0) (kk : Ev d M pc' L (iv 1 :: st) s o s') : Ev d M pc L st s o s' := by
  subst hp
  refine ev_pu hd (fun L' => ?_) kk
  dsimp only [qStep]
  try try rw [if_pos rfl]
  rw [ht]
  rfl
theorem ev_gst1 {i : Nat} (hd : decode M.2.2.1 pc = .ok (.getstatic i, 3)) (hp : pc + 3 = pc') (ht : qTg M.1 i = some 1) (kk : Ev d M pc' L (.ref 1000300 :: st) s o s') : Ev d M pc L st s o s' := by
  subst hp
  refine ev_pu hd (fun L' => ?_) kk
  dsimp only [qStep]
  try try rw [if_pos rfl]
  rw [ht]
  rfl
theorem ev_null (hd : decode M.2.2.1 pc = .ok (.aconst_null, 1)) (hp : pc + 1 = pc') (kk : Ev d M pc' L (.null :: st) s o s') : Ev d M pc L st s o s' := by
  subst hp
  exact ev_pu hd (fun L' => rfl) kk
theorem ev_ifnn {a : Nat} {off : Int} (hd : decode M.2.2.1 pc = .ok (.ifnonnull off, 3)) (ht : (pc : Int) + off = (pc' : Int)) (kk : Ev d M pc' L st s o s') : Ev d M pc L (.ref a :: st) s o s' := by
  refine ev_pu hd (fun L' => ?_) kk
  dsimp only [qStep]
  try try rw [if_pos rfl]
  try dsimp only
  rw [if_pos (by omega), ht]
  rfl
theorem ev_ldci {i : Nat} {v : Int} (hd : decode M.2.2.1 pc = .ok (.ldc i, 2)) (hp : pc + 2 = pc') (hs : qTs M.1 i = none) (ht : qTo M.1 i = some v) (kk : Ev d M pc' L (iv v :: st) s o s') : Ev d M pc L st s o s' := by
  subst hp
  refine ev_pu hd (fun L' => ?_) kk
  dsimp only [qStep]
  try try rw [if_pos rfl]
  rw [hs, ht]
  rfl
theorem ev_ldcd {i : Nat} (hd : decode M.2.2.1 pc = .ok (.ldc2_w i, 3)) (hp : pc + 3 = pc') (hM : M.1 = 10 ∧ i = 167) (kk : Ev d M pc' L (.double 4611686018427387904 :: st) s o s') : Ev d M pc L st s o s' := by
  subst hp
  refine ev_pu hd (fun L' => ?_) kk
  dsimp only [qStep]
  rw [if_pos ⟨rfl, hM⟩]
  rfl
def dmu (x y : UInt64) : Option UInt64 := if (FP.dmul x y) &&& 0x7fffffffffffffff ≤ 0x7ff0000000000000 then some (FP.dmul x y) else none
theorem ev_dmul {x y z : UInt64} (hd : decode M.2.2.1 pc = .ok (.dmul, 1)) (hp : pc + 1 = pc') (hz : dmu x y = some z) (kk : Ev d M pc' L (.double z :: st) s o s') : Ev d M pc L (.double y :: .double x :: st) s o s' := by
  subst hp
  unfold dmu at hz
  split at hz
  · rename_i hc
    cases hz
    refine ev_pu hd (fun L' => ?_) kk
    dsimp only [qStep]
    try rw [if_pos rfl]
    try dsimp only
    rw [if_pos hc]
    rfl
  · cases hz
theorem ev_chkix {i : Nat} {x y : Int} {C : qM} (hd : decode M.2.2.1 pc = .ok (.invokestatic i, 3)) (hp : pc + 3 = pc') (ht : qTc M.1 i = some (13, C, 2)) (hc : qcat st = true) (hx : ¬ (wr x < 0 ∨ wr y ≤ wr x)) (kk : Ev d M pc' L st s o s') : Ev d M pc L (iv y :: iv x :: st) s o s' := by
  subst hp
  refine ev_pu hd (fun L' => ?_) kk
  dsimp only [qStep]
  try try rw [if_pos rfl]
  rw [ht]
  try dsimp only
  rw [show qargs 2 (iv y :: iv x :: st) = some ([iv x, iv y], st) by unfold qargs; rw [if_pos (by simp)]; rfl]
  try dsimp only
  rw [if_pos hc, if_neg (by decide), if_neg (by decide), if_neg (by decide), if_pos rfl]
  unfold iv
  try dsimp only
  rw [if_pos (fun q => hx (q.imp (fun h => by
    have : (Int32.ofInt x).toInt < (0 : Int32).toInt := Int32.lt_iff_toInt_lt.mp h
    exact this) (fun h => wr_le.mp h)))]
  rfl
end EV
