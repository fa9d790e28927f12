/-! what the small machine's state is in the heap. G: the law's first size, the addresses of strings and script, those of the strings' bytes, the tables, the array classes, the first heap, the script -/
abbrev qG : Type := Nat × (Nat → Nat) × (Nat → Nat) × va_G × (Nat → ClassId) × Heap × Nat × (Nat → Int32)
def qad (G : qG) (i : Nat) : Nat := if i < 1000000 then G.1 + qPm i else G.2.1 (i - 1000000)
def qV (G : qG) (v : Value) : Value := match v with
  | .ref i => .ref (qad G i)
  | w => w
def qAm (G : qG) (a : vp_A) : vp_A := match a with
  | (n, .inr (.inr (.inr (.inr f)))) => (n, .inr (.inr (.inr (.inr (fun j => (f j).map (qad G))))))
  | a => a
def qE (G : qG) (c : qMC) : va_E := match c with
  | .inl (ci, fs) => .inr (ci, fs.map (qV G))
  | .inr (t, a) => .inl (G.2.2.2.2.1 t, qAm G a)
def qW (G : qG) (s : qSt) : va_W := (List.range s.1).map fun i => (G.1 + i, qE G (s.2.2.2 (qPi i)))
def qtys (G : qG) : List (ClassId × FieldType) := [(G.2.2.2.2.1 0, .int), (G.2.2.2.2.1 1, .byte), (G.2.2.2.2.1 2, .char), (G.2.2.2.2.1 0, .int), (G.2.2.2.2.1 4, .array .int), (G.2.2.2.2.1 5, .object RX1)]
def qA (G : qG) : Nat → Prop := fun q => G.1 ≤ q
def qRel (G : qG) (s : qSt) (H : Heap) : Prop := s.1 ≤ 1000 ∧ (s.2.1 = 0 → H.size = G.1 + s.1) ∧ G.1 + s.1 ≤ H.size ∧ va_P G.2.2.2.1 qKs (qW G s) H ∧ (∀ q, q < G.1 → H[q]? = G.2.2.2.2.2.1[q]?) ∧ s.2.2.2 1001000 = .inr (0, G.2.2.2.2.2.2.1, .inl G.2.2.2.2.2.2.2)
def qpairs (G : qG) (L : qLo) : List (Nat × Value) := (List.range L.length).filterMap fun i => (qld L i).map fun v => (i, qV G v)
def qLs (G : qG) (ls : Array Slot) (nL : Nat) (L : qLo) : Prop := L.length = nL ∧ lv_has ls nL (qpairs G L)
theorem qld_lt {L : qLo} {i : Nat} {v : Value} (h : qld L i = some v) : i < L.length := by
  unfold qld at h
  split at h
  · rename_i w hw
    exact (List.getElem?_eq_some_iff.mp hw).1
  · cases h
theorem mem_qpairs {G : qG} {L : qLo} {q : Nat × Value} : q ∈ qpairs G L ↔ ∃ v, qld L q.1 = some v ∧ q.2 = qV G v := by
  unfold qpairs
  rw [List.mem_filterMap]
  constructor
  · rintro ⟨i, hi, h⟩
    cases hv : qld L i with
    | none => rw [hv] at h; cases h
    | some v => rw [hv] at h; cases h; exact ⟨v, hv, rfl⟩
  · rintro ⟨v, h1, h2⟩
    refine ⟨q.1, List.mem_range.mpr (qld_lt h1), ?_⟩
    rw [h1]
    show some (q.1, qV G v) = some q
    rw [← h2]
theorem qLs_get {G : qG} {ls : Array Slot} {nL i : Nat} {L : qLo} {v : Value} (h : qLs G ls nL L) (hv : qld L i = some v) : ls[i]? = some (.val (qV G v)) := h.2.2.2 (i, qV G v) (mem_qpairs.mpr ⟨v, hv, rfl⟩)
theorem qV_cat (G : qG) (v : Value) : (qV G v).category = v.category := by cases v <;> rfl
theorem qld_eq {L : qLo} {i : Nat} {v : Value} : qld L i = some v ↔ L[i]? = some (some v) := by
  unfold qld
  constructor
  · intro h
    split at h
    · rename_i w hw
      cases h
      exact hw
    · cases h
  · intro h
    rw [h]
theorem qkl_len (L : qLo) (i : Nat) : (qkl L i).length = L.length := by
  unfold qkl
  split
  · rfl
  · split <;> simp
theorem qkl_ld {L : qLo} {i j : Nat} {v : Value} (h : (qkl L i)[j]? = some (some v)) : L[j]? = some (some v) ∧ ¬ (j + 1 = i ∧ v.category = 2) := by
  unfold qkl at h
  split at h
  · exact ⟨h, fun q => by omega⟩
  · rename_i k
    split at h
    · rename_i w hw
      rw [List.getElem?_set] at h
      split at h
      · split at h <;> cases h
      · rename_i hne
        exact ⟨h, fun q => hne (by omega)⟩
    · rename_i w hw
      rw [List.getElem?_set] at h
      split at h
      · split at h <;> cases h
      · rename_i hne
        exact ⟨h, fun q => hne (by omega)⟩
    · rename_i h1 h2
      refine ⟨h, fun q => ?_⟩
      have hj : j = k := by omega
      subst hj
      obtain ⟨-, q2⟩ := q
      cases v with
      | long x => exact h1 x h
      | double x => exact h2 x h
      | _ => cases q2
theorem qLs_st1 {G : qG} {ls ls' : Array Slot} {nL i : Nat} {L L' : qLo} {v : Value} (h : qLs G ls nL L) (hs : qs1 L i v = some L') (h' : lv_has ls' nL ((i, qV G v) :: (qpairs G L).filter (fun q => !(q.1 == i) && !(q.1 + 1 == i && q.2.category == 2)))) : qLs G ls' nL L' := by
  unfold qs1 at hs
  split at hs
  · cases hs
    refine ⟨by rw [List.length_set, qkl_len]; exact h.1, h'.1, h'.2.1, fun q hq => ?_⟩
    obtain ⟨w, hw, hq2⟩ := mem_qpairs.mp hq
    have hw := qld_eq.mp hw
    rw [List.getElem?_set] at hw
    by_cases hqi : i = q.1
    · rw [if_pos hqi] at hw
      split at hw
      · cases hw
        refine h'.2.2 q (List.mem_cons.mpr (Or.inl ?_))
        rw [hqi, ← hq2]
      · cases hw
    · rw [if_neg hqi] at hw
      obtain ⟨h1, h2⟩ := qkl_ld hw
      refine h'.2.2 q (List.mem_cons_of_mem _ (List.mem_filter.mpr ⟨mem_qpairs.mpr ⟨w, qld_eq.mpr h1, hq2⟩, ?_⟩))
      rw [hq2, qV_cat]
      simp only [Bool.and_eq_true, Bool.not_eq_true', beq_eq_false_iff_ne, ne_eq, Bool.and_eq_false_iff]
      refine ⟨fun z => hqi z.symm, ?_⟩
      by_cases z : q.1 + 1 = i
      · exact Or.inr (fun z2 => h2 ⟨z, z2⟩)
      · exact Or.inl z
  · cases hs
theorem qLs_st0 {G : qG} {ls ls' : Array Slot} {nL i : Nat} {L : qLo} {v : Value} (h : qLs G ls nL L) (h' : lv_has ls' nL ((i, v) :: (qpairs G L).filter (fun q => !(q.1 == i) && !(q.1 + 1 == i && q.2.category == 2)))) : qLs G ls' nL ((qkl L i).set i none) := by
  refine ⟨by rw [List.length_set, qkl_len]; exact h.1, h'.1, h'.2.1, fun q hq => ?_⟩
  obtain ⟨w, hw, hq2⟩ := mem_qpairs.mp hq
  have hw := qld_eq.mp hw
  rw [List.getElem?_set] at hw
  by_cases hqi : i = q.1
  · rw [if_pos hqi] at hw
    split at hw <;> cases hw
  · rw [if_neg hqi] at hw
    obtain ⟨h1, h2⟩ := qkl_ld hw
    refine h'.2.2 q (List.mem_cons_of_mem _ (List.mem_filter.mpr ⟨mem_qpairs.mpr ⟨w, qld_eq.mpr h1, hq2⟩, ?_⟩))
    rw [hq2, qV_cat]
    simp only [Bool.and_eq_true, Bool.not_eq_true', beq_eq_false_iff_ne, ne_eq, Bool.and_eq_false_iff]
    refine ⟨fun z => hqi z.symm, ?_⟩
    by_cases z : q.1 + 1 = i
    · exact Or.inr (fun z2 => h2 ⟨z, z2⟩)
    · exact Or.inl z
theorem qLs_st2 {G : qG} {ls ls' : Array Slot} {nL i : Nat} {L L' : qLo} {v : Value} (h : qLs G ls nL L) (hs : qs2 L i v = some L') (h' : lv_has ls' nL ((i, qV G v) :: (qpairs G L).filter (fun q => !(q.1 == i) && (!(q.1 == i + 1) && !(q.1 + 1 == i && q.2.category == 2))))) : qLs G ls' nL L' := by
  unfold qs2 at hs
  split at hs
  · cases hs
    refine ⟨by rw [List.length_set, List.length_set, qkl_len]; exact h.1, h'.1, h'.2.1, fun q hq => ?_⟩
    obtain ⟨w, hw, hq2⟩ := mem_qpairs.mp hq
    have hw := qld_eq.mp hw
    rw [List.getElem?_set] at hw
    by_cases hq1 : i + 1 = q.1
    · rw [if_pos hq1] at hw
      split at hw <;> cases hw
    · rw [if_neg hq1, List.getElem?_set] at hw
      by_cases hqi : i = q.1
      · rw [if_pos hqi] at hw
        split at hw
        · cases hw
          refine h'.2.2 q (List.mem_cons.mpr (Or.inl ?_))
          rw [hqi, ← hq2]
        · cases hw
      · rw [if_neg hqi] at hw
        obtain ⟨h1, h2⟩ := qkl_ld hw
        refine h'.2.2 q (List.mem_cons_of_mem _ (List.mem_filter.mpr ⟨mem_qpairs.mpr ⟨w, qld_eq.mpr h1, hq2⟩, ?_⟩))
        rw [hq2, qV_cat]
        simp only [Bool.and_eq_true, Bool.not_eq_true', beq_eq_false_iff_ne, ne_eq, Bool.and_eq_false_iff]
        refine ⟨fun z => hqi z.symm, fun z => hq1 z.symm, ?_⟩
        by_cases z : q.1 + 1 = i
        · exact Or.inr (fun z2 => h2 ⟨z, z2⟩)
        · exact Or.inl z
  · cases hs
/-! the world as a list -/
theorem qW_pi {G : qG} {s : qSt} {k : Nat} (h : k < s.1) : (qW G s)[k]? = some (G.1 + k, qE G (s.2.2.2 (qPi k))) := by
  unfold qW
  rw [List.getElem?_map, List.getElem?_range h]
  rfl
theorem qW_at {G : qG} {s : qSt} {i : Nat} (h : qPm i < s.1) : (qW G s)[qPm i]? = some (G.1 + qPm i, qE G (s.2.2.2 i)) := by
  rw [qW_pi h, qPi_Pm]
theorem qW_lt {G : qG} {s : qSt} {k : Nat} {q : Nat × va_E} (h : (qW G s)[k]? = some q) : k < s.1 ∧ q = (G.1 + k, qE G (s.2.2.2 (qPi k))) := by
  have hk : k < s.1 := by
    have := (List.getElem?_eq_some_iff.mp h).1
    unfold qW at this
    rwa [List.length_map, List.length_range] at this
  rw [qW_pi hk] at h
  exact ⟨hk, (Option.some.inj h).symm⟩
theorem qW_D (G : qG) (s : qSt) : va_D (qA G) (qW G s) := by
  refine ⟨fun i j p q hi hj hpq => ?_, fun k q hk => ?_⟩
  · obtain ⟨-, rfl⟩ := qW_lt hi
    obtain ⟨-, rfl⟩ := qW_lt hj
    have : G.1 + i = G.1 + j := hpq
    omega
  · obtain ⟨-, rfl⟩ := qW_lt hk
    exact Nat.le_add_right _ _
theorem qad_lt (G : qG) {a : Nat} (h : a < 1000000) : qad G a = G.1 + qPm a := by
  unfold qad
  rw [if_pos h]
theorem qRel_lt {G : qG} {s : qSt} {H : Heap} (h : qRel G s H) {a : Nat} (ha : qPm a < s.1) : qad G a = G.1 + qPm a := qad_lt G (by have := h.1; have := qPm_le ha; omega)
theorem qRel_put {G : qG} {s : qSt} {H H1 : Heap} {a : Nat} {c : qMC} (h : qRel G s H) (ha : qPm a < s.1) (he : va_at G.2.2.2.1 qKs (G.1 + qPm a, qE G c) H1) (hz : H1.size = H.size) (oq : ∀ q : Nat, q ≠ G.1 + qPm a → H1[q]? = H[q]?) : qRel G (qput s a c) H1 := by
  obtain ⟨h1, h2, h3, h4, h5, h6⟩ := h
  refine ⟨h1, fun z => by rw [hz]; exact h2 z, by rw [hz]; exact h3, fun k q hk => ?_, fun q hq => by rw [oq q (by omega)]; exact h5 q hq, ?_⟩
  · obtain ⟨hks, rfl⟩ := qW_lt hk
    by_cases hka : k = qPm a
    · subst hka
      show va_at _ _ (_, qE G (qup s.2.2.2 a c (qPi (qPm a)))) H1
      rw [qPi_Pm, qup, if_pos rfl]
      exact he
    · show va_at _ _ (_, qE G (qup s.2.2.2 a c (qPi k))) H1
      rw [qup, if_neg (fun z => hka (by rw [← z, qPm_Pi]))]
      exact (h4 k _ (qW_pi hks)).kept (oq _ (by show G.1 + k ≠ _; omega))
  · show qup s.2.2.2 a c 1001000 = _
    have := qPm_le ha
    rw [qup, if_neg (by omega)]
    exact h6
theorem qRel_new {G : qG} {s : qSt} {H H1 : Heap} {c : qMC} {n : Nat} (h : qRel G s H) (h0 : s.2.1 = 0) (hs : s.1 < 1000) (he : va_at G.2.2.2.1 qKs (H.size, qE G c) H1) (hz : H1.size = H.size + 1) (oq : ∀ q : Nat, q < H.size → H1[q]? = H[q]?) : qRel G (qnew s c n) H1 := by
  obtain ⟨h1, h2, h3, h4, h5, h6⟩ := h
  have hsz := h2 h0
  refine ⟨Nat.succ_le_of_lt hs, fun _ => by rw [hz, hsz]; rfl, by rw [hz, hsz]; exact Nat.le_refl _, fun k q hk => ?_, fun q hq => by rw [oq q (by omega)]; exact h5 q hq, ?_⟩
  · obtain ⟨hks, rfl⟩ := qW_lt hk
    have hks : k < s.1 + 1 := hks
    by_cases hka : k = s.1
    · subst hka
      show va_at _ _ (_, qE G (qup s.2.2.2 (qPi s.1) c (qPi s.1))) H1
      rw [qup, if_pos rfl, ← hsz]
      exact he
    · show va_at _ _ (_, qE G (qup s.2.2.2 (qPi s.1) c (qPi k))) H1
      rw [qup, if_neg (fun z => hka (qPi_inj z))]
      exact (h4 k _ (qW_pi (by omega))).kept (oq _ (by show G.1 + k < _; omega))
  · show qup s.2.2.2 (qPi s.1) c 1001000 = _
    have : qPi s.1 < 1001000 := by
      unfold qPi
      split <;> (try split) <;> omega
    rw [qup, if_neg (by omega)]
    exact h6
theorem qRel_thr {G : qG} {s : qSt} {H H1 : Heap} (h : qRel G s H) (hz : H.size ≤ H1.size) (oq : ∀ q : Nat, q < H.size → H1[q]? = H[q]?) : qRel G (qthr s) H1 := by
  obtain ⟨h1, h2, h3, h4, h5, h6⟩ := h
  refine ⟨h1, (fun z => by cases z), Nat.le_trans h3 hz, fun k q hk => ?_, fun q hq => by rw [oq q (by omega)]; exact h5 q hq, h6⟩
  obtain ⟨hks, rfl⟩ := qW_lt hk
  have hks : k < s.1 := hks
  exact (h4 k _ (qW_pi hks)).kept (oq _ (by show G.1 + k < _; omega))
theorem qRel_S {G : qG} {s : qSt} {H H0 : Heap} {locs : List Loc} (h : qRel G s H) (hb : ∀ q, q < G.1 → H0[q]? = G.2.2.2.2.2.1[q]?) (hz : H0.size ≤ H.size) (hl : ∀ z ∈ locs, G.1 ≤ z.base) : va_S (qA G) H0 H locs :=
  ⟨hz, fun q _ h2 => by
    have hq : q < G.1 := Nat.not_le.mp h2
    rw [h.2.2.2.2.1 q hq, hb q hq], hl⟩
theorem qV_nar {G : qG} {ty : FieldType} {v : Value} (h : narrow ty v = v) : narrow ty (qV G v) = qV G v := by
  cases v <;> first | exact h | (cases ty <;> rfl)
theorem qV_fit {G : qG} {ty : FieldType} {v : Value} (h : fits ty v = true) : fits ty (qV G v) = true := by
  cases v <;> first | exact h | (cases ty <;> first | rfl | exact h)
theorem qV_int (G : qG) (x : Int32) : qV G (.int x) = .int x := rfl
