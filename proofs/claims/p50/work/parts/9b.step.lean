theorem qs1_lt {L L' : qLo} {i : Nat} {v : Value} (h : qs1 L i v = some L') : i < L.length := by
  unfold qs1 at h
  split at h
  · assumption
  · cases h
theorem qs2_lt {L L' : qLo} {i : Nat} {v : Value} (h : qs2 L i v = some L') : i + 1 < L.length := by
  unfold qs2 at h
  split at h
  · assumption
  · cases h
theorem qgo_eq {pc pc' : Nat} {L L' : qLo} {st st' : List Value} {s s' : qSt} (h : qgo pc L st s = some (.inl (pc', L', st', s'))) : pc = pc' ∧ L = L' ∧ st = st' ∧ s = s' := by
  unfold qgo at h
  have h1 := Sum.inl.inj (Option.some.inj h)
  exact ⟨congrArg (·.1) h1, congrArg (·.2.1) h1, congrArg (·.2.2.1) h1, congrArg (·.2.2.2) h1⟩
theorem qai_ok {s : qSt} {a t n : Nat} {f : Nat → Int32} (h : qai s a t = some (n, f)) : s.2.2.2 a = .inr (t, n, .inl f) ∧ (qPm a < s.1 ∨ a = 1001000) := by
  unfold qai at h
  split at h
  · rename_i t' n' f' he
    split at h
    · rename_i hc
      cases h
      rw [he, hc.1]
      exact ⟨rfl, hc.2⟩
    · cases h
  · cases h
theorem qaq_ok {s : qSt} {a ty n : Nat} {f : Nat → Option Nat} (h : qaq s a ty = some (n, f)) : s.2.2.2 a = .inr (ty, n, .inr (.inr (.inr (.inr f)))) ∧ qPm a < s.1 := by
  unfold qaq at h
  split at h
  · rename_i t' n' f' he
    split at h
    · rename_i hc
      cases h
      rw [he, hc.1]
      exact ⟨rfl, hc.2⟩
    · cases h
  · cases h
theorem qob_ok {s : qSt} {a ci : Nat} {fs : List Value} (h : qob s a ci = some fs) : s.2.2.2 a = .inl (ci, fs) ∧ qPm a < s.1 := by
  unfold qob at h
  split at h
  · rename_i t' f' he
    split at h
    · rename_i hc
      cases h
      rw [he, hc.1]
      exact ⟨rfl, hc.2⟩
    · cases h
  · cases h
theorem qcls_ok {s : qSt} {a ci : Nat} (h : qcls s a = some ci) : ∃ fs, s.2.2.2 a = .inl (ci, fs) ∧ qPm a < s.1 := by
  unfold qcls at h
  split at h
  · rename_i t' f' he
    split at h
    · rename_i hc
      cases h
      exact ⟨_, he, hc⟩
    · cases h
  · cases h
section QS
variable {G : qG} {M : qM} {p : Program} {l : Launch} {e : Env} {R : Room} {s0 : State} {m : MethodId} {args : Array Value} {below : List Frame} {meth : Method} {c : Code} {H : Heap} {locs : List Loc} {cells slots : Nat} {Q : State → Prop}
/-- it goes on at pc' from any machine that is in the small machine's state s2 -/
def qK (G : qG) (M : qM) (p : Program) (l : Launch) (e : Env) (R : Room) (s0 : State) (m : MethodId) (args : Array Value) (below : List Frame) (meth : Method) (c : Code) (H : Heap) (cells slots : Nat) (s : qSt) (Q : State → Prop) (pc' : Nat) (L' : qLo) (st' : List Value) (s2 : qSt) : Prop :=
  ∀ (ls : Array Slot) (H2 : Heap) (locs2 : List Loc) (cells2 slots2 : Nat), qLs G ls M.2.2.2.1 L' → qRel G s2 H2 → H.size ≤ H2.size → (∀ z ∈ locs2, G.1 ≤ z.base) → cells2 + (s.1 + s.2.1) = cells + (s2.1 + s2.2.1) → slots2 + s.2.2.1 = slots + s2.2.2.1 →
    W p l e R s0 m args below meth c H2 locs2 cells2 slots2 Q (F0 m pc' ls (st'.map (qV G)))
theorem qlocs {a i : Nat} (h : ∀ z ∈ locs, G.1 ≤ z.base) : ∀ z ∈ locs ++ [⟨G.1 + qPm a, i⟩], G.1 ≤ z.base := by
  intro z hz
  rcases List.mem_append.mp hz with h1 | h1
  · exact h z h1
  · rw [List.mem_singleton.mp h1]; exact Nat.le_add_right _ _

theorem qx_iadd {pc pc' : Nat} {L L' : qLo} {st st' : List Value} {s s2 : qSt} {ls : Array Slot} (hC : qCx G M p s0 m args meth c) (hfr : 6 ≤ R.frames) (hlo : 200 ≤ R.locals) (hL : qLs G ls M.2.2.2.1 L) (hR : qRel G s H) (hz : s0.heap.size ≤ H.size) (hlc : ∀ z ∈ locs, G.1 ≤ z.base) (hcs : cells + (s2.1 + s2.2.1) ≤ R.cells + (s.1 + s.2.1)) (hss : slots + s2.2.2.1 ≤ R.slots + s.2.2.1) (hcc : cells ≤ R.cells ∧ slots ≤ R.slots) {len : Nat}  (hd : decode M.2.2.1 pc = .ok (.iadd, len)) (hs : qStep M pc (.iadd) len L st s = some (.inl (pc', L', st', s2))) (k : qK G M p l e R s0 m args below meth c H cells slots s Q pc' L' st' s2) : W p l e R s0 m args below meth c H locs cells slots Q (F0 m pc ls (st.map (qV G))) := by
  obtain ⟨hx, hb, hml, hnm, hown, hts, hret, hlk, hTB, hH0⟩ := hC
  dsimp only [qStep] at hs
  split at hs
  · rename_i hlen; subst hlen
    split at hs
    · 
      obtain ⟨rfl, rfl, rfl, rfl⟩ := qgo_eq hs
      exact lv_iadd hx hb hd (k ls H locs cells slots hL hR (Nat.le_refl _) hlc rfl rfl)
    · cases hs
  · cases hs

theorem qx_isub {pc pc' : Nat} {L L' : qLo} {st st' : List Value} {s s2 : qSt} {ls : Array Slot} (hC : qCx G M p s0 m args meth c) (hfr : 6 ≤ R.frames) (hlo : 200 ≤ R.locals) (hL : qLs G ls M.2.2.2.1 L) (hR : qRel G s H) (hz : s0.heap.size ≤ H.size) (hlc : ∀ z ∈ locs, G.1 ≤ z.base) (hcs : cells + (s2.1 + s2.2.1) ≤ R.cells + (s.1 + s.2.1)) (hss : slots + s2.2.2.1 ≤ R.slots + s.2.2.1) (hcc : cells ≤ R.cells ∧ slots ≤ R.slots) {len : Nat}  (hd : decode M.2.2.1 pc = .ok (.isub, len)) (hs : qStep M pc (.isub) len L st s = some (.inl (pc', L', st', s2))) (k : qK G M p l e R s0 m args below meth c H cells slots s Q pc' L' st' s2) : W p l e R s0 m args below meth c H locs cells slots Q (F0 m pc ls (st.map (qV G))) := by
  obtain ⟨hx, hb, hml, hnm, hown, hts, hret, hlk, hTB, hH0⟩ := hC
  dsimp only [qStep] at hs
  split at hs
  · rename_i hlen; subst hlen
    split at hs
    · 
      obtain ⟨rfl, rfl, rfl, rfl⟩ := qgo_eq hs
      exact lv_isub hx hb hd (k ls H locs cells slots hL hR (Nat.le_refl _) hlc rfl rfl)
    · cases hs
  · cases hs

theorem qx_imul {pc pc' : Nat} {L L' : qLo} {st st' : List Value} {s s2 : qSt} {ls : Array Slot} (hC : qCx G M p s0 m args meth c) (hfr : 6 ≤ R.frames) (hlo : 200 ≤ R.locals) (hL : qLs G ls M.2.2.2.1 L) (hR : qRel G s H) (hz : s0.heap.size ≤ H.size) (hlc : ∀ z ∈ locs, G.1 ≤ z.base) (hcs : cells + (s2.1 + s2.2.1) ≤ R.cells + (s.1 + s.2.1)) (hss : slots + s2.2.2.1 ≤ R.slots + s.2.2.1) (hcc : cells ≤ R.cells ∧ slots ≤ R.slots) {len : Nat}  (hd : decode M.2.2.1 pc = .ok (.imul, len)) (hs : qStep M pc (.imul) len L st s = some (.inl (pc', L', st', s2))) (k : qK G M p l e R s0 m args below meth c H cells slots s Q pc' L' st' s2) : W p l e R s0 m args below meth c H locs cells slots Q (F0 m pc ls (st.map (qV G))) := by
  obtain ⟨hx, hb, hml, hnm, hown, hts, hret, hlk, hTB, hH0⟩ := hC
  dsimp only [qStep] at hs
  split at hs
  · rename_i hlen; subst hlen
    split at hs
    · 
      obtain ⟨rfl, rfl, rfl, rfl⟩ := qgo_eq hs
      exact lv_imul hx hb hd (k ls H locs cells slots hL hR (Nat.le_refl _) hlc rfl rfl)
    · cases hs
  · cases hs

theorem qx_iand {pc pc' : Nat} {L L' : qLo} {st st' : List Value} {s s2 : qSt} {ls : Array Slot} (hC : qCx G M p s0 m args meth c) (hfr : 6 ≤ R.frames) (hlo : 200 ≤ R.locals) (hL : qLs G ls M.2.2.2.1 L) (hR : qRel G s H) (hz : s0.heap.size ≤ H.size) (hlc : ∀ z ∈ locs, G.1 ≤ z.base) (hcs : cells + (s2.1 + s2.2.1) ≤ R.cells + (s.1 + s.2.1)) (hss : slots + s2.2.2.1 ≤ R.slots + s.2.2.1) (hcc : cells ≤ R.cells ∧ slots ≤ R.slots) {len : Nat}  (hd : decode M.2.2.1 pc = .ok (.iand, len)) (hs : qStep M pc (.iand) len L st s = some (.inl (pc', L', st', s2))) (k : qK G M p l e R s0 m args below meth c H cells slots s Q pc' L' st' s2) : W p l e R s0 m args below meth c H locs cells slots Q (F0 m pc ls (st.map (qV G))) := by
  obtain ⟨hx, hb, hml, hnm, hown, hts, hret, hlk, hTB, hH0⟩ := hC
  dsimp only [qStep] at hs
  split at hs
  · rename_i hlen; subst hlen
    split at hs
    · 
      obtain ⟨rfl, rfl, rfl, rfl⟩ := qgo_eq hs
      exact lv_iand hx hb hd (k ls H locs cells slots hL hR (Nat.le_refl _) hlc rfl rfl)
    · cases hs
  · cases hs

theorem qx_ior {pc pc' : Nat} {L L' : qLo} {st st' : List Value} {s s2 : qSt} {ls : Array Slot} (hC : qCx G M p s0 m args meth c) (hfr : 6 ≤ R.frames) (hlo : 200 ≤ R.locals) (hL : qLs G ls M.2.2.2.1 L) (hR : qRel G s H) (hz : s0.heap.size ≤ H.size) (hlc : ∀ z ∈ locs, G.1 ≤ z.base) (hcs : cells + (s2.1 + s2.2.1) ≤ R.cells + (s.1 + s.2.1)) (hss : slots + s2.2.2.1 ≤ R.slots + s.2.2.1) (hcc : cells ≤ R.cells ∧ slots ≤ R.slots) {len : Nat}  (hd : decode M.2.2.1 pc = .ok (.ior, len)) (hs : qStep M pc (.ior) len L st s = some (.inl (pc', L', st', s2))) (k : qK G M p l e R s0 m args below meth c H cells slots s Q pc' L' st' s2) : W p l e R s0 m args below meth c H locs cells slots Q (F0 m pc ls (st.map (qV G))) := by
  obtain ⟨hx, hb, hml, hnm, hown, hts, hret, hlk, hTB, hH0⟩ := hC
  dsimp only [qStep] at hs
  split at hs
  · rename_i hlen; subst hlen
    split at hs
    · 
      obtain ⟨rfl, rfl, rfl, rfl⟩ := qgo_eq hs
      exact lv_ior hx hb hd (k ls H locs cells slots hL hR (Nat.le_refl _) hlc rfl rfl)
    · cases hs
  · cases hs

theorem qx_ineg {pc pc' : Nat} {L L' : qLo} {st st' : List Value} {s s2 : qSt} {ls : Array Slot} (hC : qCx G M p s0 m args meth c) (hfr : 6 ≤ R.frames) (hlo : 200 ≤ R.locals) (hL : qLs G ls M.2.2.2.1 L) (hR : qRel G s H) (hz : s0.heap.size ≤ H.size) (hlc : ∀ z ∈ locs, G.1 ≤ z.base) (hcs : cells + (s2.1 + s2.2.1) ≤ R.cells + (s.1 + s.2.1)) (hss : slots + s2.2.2.1 ≤ R.slots + s.2.2.1) (hcc : cells ≤ R.cells ∧ slots ≤ R.slots) {len : Nat}  (hd : decode M.2.2.1 pc = .ok (.ineg, len)) (hs : qStep M pc (.ineg) len L st s = some (.inl (pc', L', st', s2))) (k : qK G M p l e R s0 m args below meth c H cells slots s Q pc' L' st' s2) : W p l e R s0 m args below meth c H locs cells slots Q (F0 m pc ls (st.map (qV G))) := by
  obtain ⟨hx, hb, hml, hnm, hown, hts, hret, hlk, hTB, hH0⟩ := hC
  dsimp only [qStep] at hs
  split at hs
  · rename_i hlen; subst hlen
    split at hs
    · 
      obtain ⟨rfl, rfl, rfl, rfl⟩ := qgo_eq hs
      exact lv_ineg hx hb hd (k ls H locs cells slots hL hR (Nat.le_refl _) hlc rfl rfl)
    · cases hs
  · cases hs

theorem qx_ishl {pc pc' : Nat} {L L' : qLo} {st st' : List Value} {s s2 : qSt} {ls : Array Slot} (hC : qCx G M p s0 m args meth c) (hfr : 6 ≤ R.frames) (hlo : 200 ≤ R.locals) (hL : qLs G ls M.2.2.2.1 L) (hR : qRel G s H) (hz : s0.heap.size ≤ H.size) (hlc : ∀ z ∈ locs, G.1 ≤ z.base) (hcs : cells + (s2.1 + s2.2.1) ≤ R.cells + (s.1 + s.2.1)) (hss : slots + s2.2.2.1 ≤ R.slots + s.2.2.1) (hcc : cells ≤ R.cells ∧ slots ≤ R.slots) {len : Nat}  (hd : decode M.2.2.1 pc = .ok (.ishl, len)) (hs : qStep M pc (.ishl) len L st s = some (.inl (pc', L', st', s2))) (k : qK G M p l e R s0 m args below meth c H cells slots s Q pc' L' st' s2) : W p l e R s0 m args below meth c H locs cells slots Q (F0 m pc ls (st.map (qV G))) := by
  obtain ⟨hx, hb, hml, hnm, hown, hts, hret, hlk, hTB, hH0⟩ := hC
  dsimp only [qStep] at hs
  split at hs
  · rename_i hlen; subst hlen
    split at hs
    · 
      obtain ⟨rfl, rfl, rfl, rfl⟩ := qgo_eq hs
      exact lv_ishl hx hb hd (k ls H locs cells slots hL hR (Nat.le_refl _) hlc rfl rfl)
    · cases hs
  · cases hs

theorem qx_ishr {pc pc' : Nat} {L L' : qLo} {st st' : List Value} {s s2 : qSt} {ls : Array Slot} (hC : qCx G M p s0 m args meth c) (hfr : 6 ≤ R.frames) (hlo : 200 ≤ R.locals) (hL : qLs G ls M.2.2.2.1 L) (hR : qRel G s H) (hz : s0.heap.size ≤ H.size) (hlc : ∀ z ∈ locs, G.1 ≤ z.base) (hcs : cells + (s2.1 + s2.2.1) ≤ R.cells + (s.1 + s.2.1)) (hss : slots + s2.2.2.1 ≤ R.slots + s.2.2.1) (hcc : cells ≤ R.cells ∧ slots ≤ R.slots) {len : Nat}  (hd : decode M.2.2.1 pc = .ok (.ishr, len)) (hs : qStep M pc (.ishr) len L st s = some (.inl (pc', L', st', s2))) (k : qK G M p l e R s0 m args below meth c H cells slots s Q pc' L' st' s2) : W p l e R s0 m args below meth c H locs cells slots Q (F0 m pc ls (st.map (qV G))) := by
  obtain ⟨hx, hb, hml, hnm, hown, hts, hret, hlk, hTB, hH0⟩ := hC
  dsimp only [qStep] at hs
  split at hs
  · rename_i hlen; subst hlen
    split at hs
    · 
      obtain ⟨rfl, rfl, rfl, rfl⟩ := qgo_eq hs
      exact lv_ishr hx hb hd (k ls H locs cells slots hL hR (Nat.le_refl _) hlc rfl rfl)
    · cases hs
  · cases hs

theorem qx_i2d {pc pc' : Nat} {L L' : qLo} {st st' : List Value} {s s2 : qSt} {ls : Array Slot} (hC : qCx G M p s0 m args meth c) (hfr : 6 ≤ R.frames) (hlo : 200 ≤ R.locals) (hL : qLs G ls M.2.2.2.1 L) (hR : qRel G s H) (hz : s0.heap.size ≤ H.size) (hlc : ∀ z ∈ locs, G.1 ≤ z.base) (hcs : cells + (s2.1 + s2.2.1) ≤ R.cells + (s.1 + s.2.1)) (hss : slots + s2.2.2.1 ≤ R.slots + s.2.2.1) (hcc : cells ≤ R.cells ∧ slots ≤ R.slots) {len : Nat}  (hd : decode M.2.2.1 pc = .ok (.i2d, len)) (hs : qStep M pc (.i2d) len L st s = some (.inl (pc', L', st', s2))) (k : qK G M p l e R s0 m args below meth c H cells slots s Q pc' L' st' s2) : W p l e R s0 m args below meth c H locs cells slots Q (F0 m pc ls (st.map (qV G))) := by
  obtain ⟨hx, hb, hml, hnm, hown, hts, hret, hlk, hTB, hH0⟩ := hC
  dsimp only [qStep] at hs
  split at hs
  · rename_i hlen; subst hlen
    split at hs
    · 
      obtain ⟨rfl, rfl, rfl, rfl⟩ := qgo_eq hs
      exact lv_i2d hx hb hd (k ls H locs cells slots hL hR (Nat.le_refl _) hlc rfl rfl)
    · cases hs
  · cases hs

theorem qx_dcmp {pc pc' : Nat} {L L' : qLo} {st st' : List Value} {s s2 : qSt} {ls : Array Slot} (hC : qCx G M p s0 m args meth c) (hfr : 6 ≤ R.frames) (hlo : 200 ≤ R.locals) (hL : qLs G ls M.2.2.2.1 L) (hR : qRel G s H) (hz : s0.heap.size ≤ H.size) (hlc : ∀ z ∈ locs, G.1 ≤ z.base) (hcs : cells + (s2.1 + s2.2.1) ≤ R.cells + (s.1 + s.2.1)) (hss : slots + s2.2.2.1 ≤ R.slots + s.2.2.1) (hcc : cells ≤ R.cells ∧ slots ≤ R.slots) {len : Nat} {op : CmpOp} (hd : decode M.2.2.1 pc = .ok (.dcmp op, len)) (hs : qStep M pc (.dcmp op) len L st s = some (.inl (pc', L', st', s2))) (k : qK G M p l e R s0 m args below meth c H cells slots s Q pc' L' st' s2) : W p l e R s0 m args below meth c H locs cells slots Q (F0 m pc ls (st.map (qV G))) := by
  obtain ⟨hx, hb, hml, hnm, hown, hts, hret, hlk, hTB, hH0⟩ := hC
  dsimp only [qStep] at hs
  split at hs
  · rename_i hlen; subst hlen
    split at hs
    · 
      obtain ⟨rfl, rfl, rfl, rfl⟩ := qgo_eq hs
      exact lv_dcmp hx hb hd (k ls H locs cells slots hL hR (Nat.le_refl _) hlc rfl rfl)
    · cases hs
  · cases hs

theorem qx_iushr {pc pc' : Nat} {L L' : qLo} {st st' : List Value} {s s2 : qSt} {ls : Array Slot} (hC : qCx G M p s0 m args meth c) (hfr : 6 ≤ R.frames) (hlo : 200 ≤ R.locals) (hL : qLs G ls M.2.2.2.1 L) (hR : qRel G s H) (hz : s0.heap.size ≤ H.size) (hlc : ∀ z ∈ locs, G.1 ≤ z.base) (hcs : cells + (s2.1 + s2.2.1) ≤ R.cells + (s.1 + s.2.1)) (hss : slots + s2.2.2.1 ≤ R.slots + s.2.2.1) (hcc : cells ≤ R.cells ∧ slots ≤ R.slots) {len : Nat}  (hd : decode M.2.2.1 pc = .ok (.iushr, len)) (hs : qStep M pc (.iushr) len L st s = some (.inl (pc', L', st', s2))) (k : qK G M p l e R s0 m args below meth c H cells slots s Q pc' L' st' s2) : W p l e R s0 m args below meth c H locs cells slots Q (F0 m pc ls (st.map (qV G))) := by
  obtain ⟨hx, hb, hml, hnm, hown, hts, hret, hlk, hTB, hH0⟩ := hC
  dsimp only [qStep] at hs
  split at hs
  · rename_i hlen; subst hlen
    split at hs
    · 
      obtain ⟨rfl, rfl, rfl, rfl⟩ := qgo_eq hs
      exact lv_iushr hx hb hd rfl (k ls H locs cells slots hL hR (Nat.le_refl _) hlc rfl rfl)
    · cases hs
  · cases hs

theorem qx_i2b {pc pc' : Nat} {L L' : qLo} {st st' : List Value} {s s2 : qSt} {ls : Array Slot} (hC : qCx G M p s0 m args meth c) (hfr : 6 ≤ R.frames) (hlo : 200 ≤ R.locals) (hL : qLs G ls M.2.2.2.1 L) (hR : qRel G s H) (hz : s0.heap.size ≤ H.size) (hlc : ∀ z ∈ locs, G.1 ≤ z.base) (hcs : cells + (s2.1 + s2.2.1) ≤ R.cells + (s.1 + s.2.1)) (hss : slots + s2.2.2.1 ≤ R.slots + s.2.2.1) (hcc : cells ≤ R.cells ∧ slots ≤ R.slots) {len : Nat}  (hd : decode M.2.2.1 pc = .ok (.i2b, len)) (hs : qStep M pc (.i2b) len L st s = some (.inl (pc', L', st', s2))) (k : qK G M p l e R s0 m args below meth c H cells slots s Q pc' L' st' s2) : W p l e R s0 m args below meth c H locs cells slots Q (F0 m pc ls (st.map (qV G))) := by
  obtain ⟨hx, hb, hml, hnm, hown, hts, hret, hlk, hTB, hH0⟩ := hC
  dsimp only [qStep] at hs
  split at hs
  · rename_i hlen; subst hlen
    split at hs
    · 
      obtain ⟨rfl, rfl, rfl, rfl⟩ := qgo_eq hs
      exact lv_i2b hx hb hd rfl (k ls H locs cells slots hL hR (Nat.le_refl _) hlc rfl rfl)
    · cases hs
  · cases hs

theorem qx_i2c {pc pc' : Nat} {L L' : qLo} {st st' : List Value} {s s2 : qSt} {ls : Array Slot} (hC : qCx G M p s0 m args meth c) (hfr : 6 ≤ R.frames) (hlo : 200 ≤ R.locals) (hL : qLs G ls M.2.2.2.1 L) (hR : qRel G s H) (hz : s0.heap.size ≤ H.size) (hlc : ∀ z ∈ locs, G.1 ≤ z.base) (hcs : cells + (s2.1 + s2.2.1) ≤ R.cells + (s.1 + s.2.1)) (hss : slots + s2.2.2.1 ≤ R.slots + s.2.2.1) (hcc : cells ≤ R.cells ∧ slots ≤ R.slots) {len : Nat}  (hd : decode M.2.2.1 pc = .ok (.i2c, len)) (hs : qStep M pc (.i2c) len L st s = some (.inl (pc', L', st', s2))) (k : qK G M p l e R s0 m args below meth c H cells slots s Q pc' L' st' s2) : W p l e R s0 m args below meth c H locs cells slots Q (F0 m pc ls (st.map (qV G))) := by
  obtain ⟨hx, hb, hml, hnm, hown, hts, hret, hlk, hTB, hH0⟩ := hC
  dsimp only [qStep] at hs
  split at hs
  · rename_i hlen; subst hlen
    split at hs
    · 
      obtain ⟨rfl, rfl, rfl, rfl⟩ := qgo_eq hs
      exact lv_i2c hx hb hd rfl (k ls H locs cells slots hL hR (Nat.le_refl _) hlc rfl rfl)
    · cases hs
  · cases hs

theorem qx_idiv {pc pc' : Nat} {L L' : qLo} {st st' : List Value} {s s2 : qSt} {ls : Array Slot} (hC : qCx G M p s0 m args meth c) (hfr : 6 ≤ R.frames) (hlo : 200 ≤ R.locals) (hL : qLs G ls M.2.2.2.1 L) (hR : qRel G s H) (hz : s0.heap.size ≤ H.size) (hlc : ∀ z ∈ locs, G.1 ≤ z.base) (hcs : cells + (s2.1 + s2.2.1) ≤ R.cells + (s.1 + s.2.1)) (hss : slots + s2.2.2.1 ≤ R.slots + s.2.2.1) (hcc : cells ≤ R.cells ∧ slots ≤ R.slots) {len : Nat}  (hd : decode M.2.2.1 pc = .ok (.idiv, len)) (hs : qStep M pc (.idiv) len L st s = some (.inl (pc', L', st', s2))) (k : qK G M p l e R s0 m args below meth c H cells slots s Q pc' L' st' s2) : W p l e R s0 m args below meth c H locs cells slots Q (F0 m pc ls (st.map (qV G))) := by
  obtain ⟨hx, hb, hml, hnm, hown, hts, hret, hlk, hTB, hH0⟩ := hC
  dsimp only [qStep] at hs
  split at hs
  · rename_i hlen; subst hlen
    split at hs
    · 
      split at hs
      · cases hs
      · rename_i hne
        obtain ⟨rfl, rfl, rfl, rfl⟩ := qgo_eq hs
        exact lv_idiv hx hb hd hne (k ls H locs cells slots hL hR (Nat.le_refl _) hlc rfl rfl)
    · cases hs
  · cases hs

theorem qx_irem {pc pc' : Nat} {L L' : qLo} {st st' : List Value} {s s2 : qSt} {ls : Array Slot} (hC : qCx G M p s0 m args meth c) (hfr : 6 ≤ R.frames) (hlo : 200 ≤ R.locals) (hL : qLs G ls M.2.2.2.1 L) (hR : qRel G s H) (hz : s0.heap.size ≤ H.size) (hlc : ∀ z ∈ locs, G.1 ≤ z.base) (hcs : cells + (s2.1 + s2.2.1) ≤ R.cells + (s.1 + s.2.1)) (hss : slots + s2.2.2.1 ≤ R.slots + s.2.2.1) (hcc : cells ≤ R.cells ∧ slots ≤ R.slots) {len : Nat}  (hd : decode M.2.2.1 pc = .ok (.irem, len)) (hs : qStep M pc (.irem) len L st s = some (.inl (pc', L', st', s2))) (k : qK G M p l e R s0 m args below meth c H cells slots s Q pc' L' st' s2) : W p l e R s0 m args below meth c H locs cells slots Q (F0 m pc ls (st.map (qV G))) := by
  obtain ⟨hx, hb, hml, hnm, hown, hts, hret, hlk, hTB, hH0⟩ := hC
  dsimp only [qStep] at hs
  split at hs
  · rename_i hlen; subst hlen
    split at hs
    · 
      split at hs
      · cases hs
      · rename_i hne
        obtain ⟨rfl, rfl, rfl, rfl⟩ := qgo_eq hs
        exact lv_irem hx hb hd hne (k ls H locs cells slots hL hR (Nat.le_refl _) hlc rfl rfl)
    · cases hs
  · cases hs

theorem qx_ddiv {pc pc' : Nat} {L L' : qLo} {st st' : List Value} {s s2 : qSt} {ls : Array Slot} (hC : qCx G M p s0 m args meth c) (hfr : 6 ≤ R.frames) (hlo : 200 ≤ R.locals) (hL : qLs G ls M.2.2.2.1 L) (hR : qRel G s H) (hz : s0.heap.size ≤ H.size) (hlc : ∀ z ∈ locs, G.1 ≤ z.base) (hcs : cells + (s2.1 + s2.2.1) ≤ R.cells + (s.1 + s.2.1)) (hss : slots + s2.2.2.1 ≤ R.slots + s.2.2.1) (hcc : cells ≤ R.cells ∧ slots ≤ R.slots) {len : Nat}  (hd : decode M.2.2.1 pc = .ok (.ddiv, len)) (hs : qStep M pc (.ddiv) len L st s = some (.inl (pc', L', st', s2))) (k : qK G M p l e R s0 m args below meth c H cells slots s Q pc' L' st' s2) : W p l e R s0 m args below meth c H locs cells slots Q (F0 m pc ls (st.map (qV G))) := by
  obtain ⟨hx, hb, hml, hnm, hown, hts, hret, hlk, hTB, hH0⟩ := hC
  dsimp only [qStep] at hs
  split at hs
  · rename_i hlen; subst hlen
    split at hs
    · 
      split at hs
      · rename_i hne
        obtain ⟨rfl, rfl, rfl, rfl⟩ := qgo_eq hs
        exact lv_ddiv hx hb hd hne (k ls H locs cells slots hL hR (Nat.le_refl _) hlc rfl rfl)
      · cases hs
    · cases hs
  · cases hs

theorem qx_iconst {pc pc' : Nat} {L L' : qLo} {st st' : List Value} {s s2 : qSt} {ls : Array Slot} (hC : qCx G M p s0 m args meth c) (hfr : 6 ≤ R.frames) (hlo : 200 ≤ R.locals) (hL : qLs G ls M.2.2.2.1 L) (hR : qRel G s H) (hz : s0.heap.size ≤ H.size) (hlc : ∀ z ∈ locs, G.1 ≤ z.base) (hcs : cells + (s2.1 + s2.2.1) ≤ R.cells + (s.1 + s.2.1)) (hss : slots + s2.2.2.1 ≤ R.slots + s.2.2.1) (hcc : cells ≤ R.cells ∧ slots ≤ R.slots) {len : Nat} {n : Int} (hd : decode M.2.2.1 pc = .ok (.iconst n, len)) (hs : qStep M pc (.iconst n) len L st s = some (.inl (pc', L', st', s2))) (k : qK G M p l e R s0 m args below meth c H cells slots s Q pc' L' st' s2) : W p l e R s0 m args below meth c H locs cells slots Q (F0 m pc ls (st.map (qV G))) := by
  obtain ⟨hx, hb, hml, hnm, hown, hts, hret, hlk, hTB, hH0⟩ := hC
  dsimp only [qStep] at hs
  split at hs
  · rename_i hlen; subst hlen
    obtain ⟨rfl, rfl, rfl, rfl⟩ := qgo_eq hs
    exact lv_iconst hx hb hd rfl (k ls H locs cells slots hL hR (Nat.le_refl _) hlc rfl rfl)
  · cases hs

theorem qx_bipush {pc pc' : Nat} {L L' : qLo} {st st' : List Value} {s s2 : qSt} {ls : Array Slot} (hC : qCx G M p s0 m args meth c) (hfr : 6 ≤ R.frames) (hlo : 200 ≤ R.locals) (hL : qLs G ls M.2.2.2.1 L) (hR : qRel G s H) (hz : s0.heap.size ≤ H.size) (hlc : ∀ z ∈ locs, G.1 ≤ z.base) (hcs : cells + (s2.1 + s2.2.1) ≤ R.cells + (s.1 + s.2.1)) (hss : slots + s2.2.2.1 ≤ R.slots + s.2.2.1) (hcc : cells ≤ R.cells ∧ slots ≤ R.slots) {len : Nat} {n : Int} (hd : decode M.2.2.1 pc = .ok (.bipush n, len)) (hs : qStep M pc (.bipush n) len L st s = some (.inl (pc', L', st', s2))) (k : qK G M p l e R s0 m args below meth c H cells slots s Q pc' L' st' s2) : W p l e R s0 m args below meth c H locs cells slots Q (F0 m pc ls (st.map (qV G))) := by
  obtain ⟨hx, hb, hml, hnm, hown, hts, hret, hlk, hTB, hH0⟩ := hC
  dsimp only [qStep] at hs
  split at hs
  · rename_i hlen; subst hlen
    obtain ⟨rfl, rfl, rfl, rfl⟩ := qgo_eq hs
    exact lv_bipush hx hb hd rfl (k ls H locs cells slots hL hR (Nat.le_refl _) hlc rfl rfl)
  · cases hs

theorem qx_sipush {pc pc' : Nat} {L L' : qLo} {st st' : List Value} {s s2 : qSt} {ls : Array Slot} (hC : qCx G M p s0 m args meth c) (hfr : 6 ≤ R.frames) (hlo : 200 ≤ R.locals) (hL : qLs G ls M.2.2.2.1 L) (hR : qRel G s H) (hz : s0.heap.size ≤ H.size) (hlc : ∀ z ∈ locs, G.1 ≤ z.base) (hcs : cells + (s2.1 + s2.2.1) ≤ R.cells + (s.1 + s.2.1)) (hss : slots + s2.2.2.1 ≤ R.slots + s.2.2.1) (hcc : cells ≤ R.cells ∧ slots ≤ R.slots) {len : Nat} {n : Int} (hd : decode M.2.2.1 pc = .ok (.sipush n, len)) (hs : qStep M pc (.sipush n) len L st s = some (.inl (pc', L', st', s2))) (k : qK G M p l e R s0 m args below meth c H cells slots s Q pc' L' st' s2) : W p l e R s0 m args below meth c H locs cells slots Q (F0 m pc ls (st.map (qV G))) := by
  obtain ⟨hx, hb, hml, hnm, hown, hts, hret, hlk, hTB, hH0⟩ := hC
  dsimp only [qStep] at hs
  split at hs
  · rename_i hlen; subst hlen
    obtain ⟨rfl, rfl, rfl, rfl⟩ := qgo_eq hs
    exact lv_sipush hx hb hd rfl (k ls H locs cells slots hL hR (Nat.le_refl _) hlc rfl rfl)
  · cases hs

theorem qx_dconst {pc pc' : Nat} {L L' : qLo} {st st' : List Value} {s s2 : qSt} {ls : Array Slot} (hC : qCx G M p s0 m args meth c) (hfr : 6 ≤ R.frames) (hlo : 200 ≤ R.locals) (hL : qLs G ls M.2.2.2.1 L) (hR : qRel G s H) (hz : s0.heap.size ≤ H.size) (hlc : ∀ z ∈ locs, G.1 ≤ z.base) (hcs : cells + (s2.1 + s2.2.1) ≤ R.cells + (s.1 + s.2.1)) (hss : slots + s2.2.2.1 ≤ R.slots + s.2.2.1) (hcc : cells ≤ R.cells ∧ slots ≤ R.slots) {len : Nat} {n : Fin 2} (hd : decode M.2.2.1 pc = .ok (.dconst n, len)) (hs : qStep M pc (.dconst n) len L st s = some (.inl (pc', L', st', s2))) (k : qK G M p l e R s0 m args below meth c H cells slots s Q pc' L' st' s2) : W p l e R s0 m args below meth c H locs cells slots Q (F0 m pc ls (st.map (qV G))) := by
  obtain ⟨hx, hb, hml, hnm, hown, hts, hret, hlk, hTB, hH0⟩ := hC
  dsimp only [qStep] at hs
  split at hs
  · rename_i hq; obtain ⟨rfl, rfl⟩ := hq
    obtain ⟨rfl, rfl, rfl, rfl⟩ := qgo_eq hs
    exact lv_dconst0 hx hb hd (k ls H locs cells slots hL hR (Nat.le_refl _) hlc rfl rfl)
  · cases hs

theorem qx_iload_n {pc pc' : Nat} {L L' : qLo} {st st' : List Value} {s s2 : qSt} {ls : Array Slot} (hC : qCx G M p s0 m args meth c) (hfr : 6 ≤ R.frames) (hlo : 200 ≤ R.locals) (hL : qLs G ls M.2.2.2.1 L) (hR : qRel G s H) (hz : s0.heap.size ≤ H.size) (hlc : ∀ z ∈ locs, G.1 ≤ z.base) (hcs : cells + (s2.1 + s2.2.1) ≤ R.cells + (s.1 + s.2.1)) (hss : slots + s2.2.2.1 ≤ R.slots + s.2.2.1) (hcc : cells ≤ R.cells ∧ slots ≤ R.slots) {len : Nat} {n : Fin 4} (hd : decode M.2.2.1 pc = .ok (.iload_n n, len)) (hs : qStep M pc (.iload_n n) len L st s = some (.inl (pc', L', st', s2))) (k : qK G M p l e R s0 m args below meth c H cells slots s Q pc' L' st' s2) : W p l e R s0 m args below meth c H locs cells slots Q (F0 m pc ls (st.map (qV G))) := by
  obtain ⟨hx, hb, hml, hnm, hown, hts, hret, hlk, hTB, hH0⟩ := hC
  dsimp only [qStep] at hs
  split at hs
  · rename_i hlen; subst hlen
    split at hs
    · rename_i x hld
      obtain ⟨rfl, rfl, rfl, rfl⟩ := qgo_eq hs
      exact lv_iload_n hx hb hd rfl (qLs_get hL hld) (k ls H locs cells slots hL hR (Nat.le_refl _) hlc rfl rfl)
    · cases hs
  · cases hs

theorem qx_iload {pc pc' : Nat} {L L' : qLo} {st st' : List Value} {s s2 : qSt} {ls : Array Slot} (hC : qCx G M p s0 m args meth c) (hfr : 6 ≤ R.frames) (hlo : 200 ≤ R.locals) (hL : qLs G ls M.2.2.2.1 L) (hR : qRel G s H) (hz : s0.heap.size ≤ H.size) (hlc : ∀ z ∈ locs, G.1 ≤ z.base) (hcs : cells + (s2.1 + s2.2.1) ≤ R.cells + (s.1 + s.2.1)) (hss : slots + s2.2.2.1 ≤ R.slots + s.2.2.1) (hcc : cells ≤ R.cells ∧ slots ≤ R.slots) {len : Nat} {n : Nat} (hd : decode M.2.2.1 pc = .ok (.iload n, len)) (hs : qStep M pc (.iload n) len L st s = some (.inl (pc', L', st', s2))) (k : qK G M p l e R s0 m args below meth c H cells slots s Q pc' L' st' s2) : W p l e R s0 m args below meth c H locs cells slots Q (F0 m pc ls (st.map (qV G))) := by
  obtain ⟨hx, hb, hml, hnm, hown, hts, hret, hlk, hTB, hH0⟩ := hC
  dsimp only [qStep] at hs
  split at hs
  · rename_i hlen; subst hlen
    split at hs
    · rename_i x hld
      obtain ⟨rfl, rfl, rfl, rfl⟩ := qgo_eq hs
      exact lv_iload hx hb hd (qLs_get hL hld) (k ls H locs cells slots hL hR (Nat.le_refl _) hlc rfl rfl)
    · cases hs
  · cases hs

theorem qx_aload_n {pc pc' : Nat} {L L' : qLo} {st st' : List Value} {s s2 : qSt} {ls : Array Slot} (hC : qCx G M p s0 m args meth c) (hfr : 6 ≤ R.frames) (hlo : 200 ≤ R.locals) (hL : qLs G ls M.2.2.2.1 L) (hR : qRel G s H) (hz : s0.heap.size ≤ H.size) (hlc : ∀ z ∈ locs, G.1 ≤ z.base) (hcs : cells + (s2.1 + s2.2.1) ≤ R.cells + (s.1 + s.2.1)) (hss : slots + s2.2.2.1 ≤ R.slots + s.2.2.1) (hcc : cells ≤ R.cells ∧ slots ≤ R.slots) {len : Nat} {n : Fin 4} (hd : decode M.2.2.1 pc = .ok (.aload_n n, len)) (hs : qStep M pc (.aload_n n) len L st s = some (.inl (pc', L', st', s2))) (k : qK G M p l e R s0 m args below meth c H cells slots s Q pc' L' st' s2) : W p l e R s0 m args below meth c H locs cells slots Q (F0 m pc ls (st.map (qV G))) := by
  obtain ⟨hx, hb, hml, hnm, hown, hts, hret, hlk, hTB, hH0⟩ := hC
  dsimp only [qStep] at hs
  split at hs
  · rename_i hlen; subst hlen
    split at hs
    · rename_i x hld
      obtain ⟨rfl, rfl, rfl, rfl⟩ := qgo_eq hs
      exact lv_aload_n hx hb hd rfl (qLs_get hL hld) (k ls H locs cells slots hL hR (Nat.le_refl _) hlc rfl rfl)
    · cases hs
  · cases hs

theorem qx_aload {pc pc' : Nat} {L L' : qLo} {st st' : List Value} {s s2 : qSt} {ls : Array Slot} (hC : qCx G M p s0 m args meth c) (hfr : 6 ≤ R.frames) (hlo : 200 ≤ R.locals) (hL : qLs G ls M.2.2.2.1 L) (hR : qRel G s H) (hz : s0.heap.size ≤ H.size) (hlc : ∀ z ∈ locs, G.1 ≤ z.base) (hcs : cells + (s2.1 + s2.2.1) ≤ R.cells + (s.1 + s.2.1)) (hss : slots + s2.2.2.1 ≤ R.slots + s.2.2.1) (hcc : cells ≤ R.cells ∧ slots ≤ R.slots) {len : Nat} {n : Nat} (hd : decode M.2.2.1 pc = .ok (.aload n, len)) (hs : qStep M pc (.aload n) len L st s = some (.inl (pc', L', st', s2))) (k : qK G M p l e R s0 m args below meth c H cells slots s Q pc' L' st' s2) : W p l e R s0 m args below meth c H locs cells slots Q (F0 m pc ls (st.map (qV G))) := by
  obtain ⟨hx, hb, hml, hnm, hown, hts, hret, hlk, hTB, hH0⟩ := hC
  dsimp only [qStep] at hs
  split at hs
  · rename_i hlen; subst hlen
    split at hs
    · rename_i x hld
      obtain ⟨rfl, rfl, rfl, rfl⟩ := qgo_eq hs
      exact lv_aload hx hb hd (qLs_get hL hld) (k ls H locs cells slots hL hR (Nat.le_refl _) hlc rfl rfl)
    · cases hs
  · cases hs

theorem qx_dload_n {pc pc' : Nat} {L L' : qLo} {st st' : List Value} {s s2 : qSt} {ls : Array Slot} (hC : qCx G M p s0 m args meth c) (hfr : 6 ≤ R.frames) (hlo : 200 ≤ R.locals) (hL : qLs G ls M.2.2.2.1 L) (hR : qRel G s H) (hz : s0.heap.size ≤ H.size) (hlc : ∀ z ∈ locs, G.1 ≤ z.base) (hcs : cells + (s2.1 + s2.2.1) ≤ R.cells + (s.1 + s.2.1)) (hss : slots + s2.2.2.1 ≤ R.slots + s.2.2.1) (hcc : cells ≤ R.cells ∧ slots ≤ R.slots) {len : Nat} {n : Fin 4} (hd : decode M.2.2.1 pc = .ok (.dload_n n, len)) (hs : qStep M pc (.dload_n n) len L st s = some (.inl (pc', L', st', s2))) (k : qK G M p l e R s0 m args below meth c H cells slots s Q pc' L' st' s2) : W p l e R s0 m args below meth c H locs cells slots Q (F0 m pc ls (st.map (qV G))) := by
  obtain ⟨hx, hb, hml, hnm, hown, hts, hret, hlk, hTB, hH0⟩ := hC
  dsimp only [qStep] at hs
  split at hs
  · rename_i hlen; subst hlen
    split at hs
    · rename_i x hld
      obtain ⟨rfl, rfl, rfl, rfl⟩ := qgo_eq hs
      exact lv_dload_n hx hb hd rfl (qLs_get hL hld) (k ls H locs cells slots hL hR (Nat.le_refl _) hlc rfl rfl)
    · cases hs
  · cases hs

theorem qx_dload {pc pc' : Nat} {L L' : qLo} {st st' : List Value} {s s2 : qSt} {ls : Array Slot} (hC : qCx G M p s0 m args meth c) (hfr : 6 ≤ R.frames) (hlo : 200 ≤ R.locals) (hL : qLs G ls M.2.2.2.1 L) (hR : qRel G s H) (hz : s0.heap.size ≤ H.size) (hlc : ∀ z ∈ locs, G.1 ≤ z.base) (hcs : cells + (s2.1 + s2.2.1) ≤ R.cells + (s.1 + s.2.1)) (hss : slots + s2.2.2.1 ≤ R.slots + s.2.2.1) (hcc : cells ≤ R.cells ∧ slots ≤ R.slots) {len : Nat} {n : Nat} (hd : decode M.2.2.1 pc = .ok (.dload n, len)) (hs : qStep M pc (.dload n) len L st s = some (.inl (pc', L', st', s2))) (k : qK G M p l e R s0 m args below meth c H cells slots s Q pc' L' st' s2) : W p l e R s0 m args below meth c H locs cells slots Q (F0 m pc ls (st.map (qV G))) := by
  obtain ⟨hx, hb, hml, hnm, hown, hts, hret, hlk, hTB, hH0⟩ := hC
  dsimp only [qStep] at hs
  split at hs
  · rename_i hlen; subst hlen
    split at hs
    · rename_i x hld
      obtain ⟨rfl, rfl, rfl, rfl⟩ := qgo_eq hs
      exact lv_dload hx hb hd (qLs_get hL hld) (k ls H locs cells slots hL hR (Nat.le_refl _) hlc rfl rfl)
    · cases hs
  · cases hs

theorem qx_istore_n {pc pc' : Nat} {L L' : qLo} {st st' : List Value} {s s2 : qSt} {ls : Array Slot} (hC : qCx G M p s0 m args meth c) (hfr : 6 ≤ R.frames) (hlo : 200 ≤ R.locals) (hL : qLs G ls M.2.2.2.1 L) (hR : qRel G s H) (hz : s0.heap.size ≤ H.size) (hlc : ∀ z ∈ locs, G.1 ≤ z.base) (hcs : cells + (s2.1 + s2.2.1) ≤ R.cells + (s.1 + s.2.1)) (hss : slots + s2.2.2.1 ≤ R.slots + s.2.2.1) (hcc : cells ≤ R.cells ∧ slots ≤ R.slots) {len : Nat} {n : Fin 4} (hd : decode M.2.2.1 pc = .ok (.istore_n n, len)) (hs : qStep M pc (.istore_n n) len L st s = some (.inl (pc', L', st', s2))) (k : qK G M p l e R s0 m args below meth c H cells slots s Q pc' L' st' s2) : W p l e R s0 m args below meth c H locs cells slots Q (F0 m pc ls (st.map (qV G))) := by
  obtain ⟨hx, hb, hml, hnm, hown, hts, hret, hlk, hTB, hH0⟩ := hC
  dsimp only [qStep] at hs
  split at hs
  · rename_i hlen; subst hlen
    split at hs
    · rename_i x rest
      cases h1 : qs1 L n (.int x) with
      | none => rw [h1] at hs; cases hs
      | some L1 =>
        rw [h1] at hs
        obtain ⟨rfl, rfl, rfl, rfl⟩ := qgo_eq hs
        exact lv_istore_n hx hb hd rfl hL.2 (by rw [← hL.1]; exact qs1_lt h1) rfl (fun ls' h' => k ls' H locs cells slots (qLs_st1 hL h1 h') hR (Nat.le_refl _) hlc rfl rfl)
    · cases hs
  · cases hs

theorem qx_istore {pc pc' : Nat} {L L' : qLo} {st st' : List Value} {s s2 : qSt} {ls : Array Slot} (hC : qCx G M p s0 m args meth c) (hfr : 6 ≤ R.frames) (hlo : 200 ≤ R.locals) (hL : qLs G ls M.2.2.2.1 L) (hR : qRel G s H) (hz : s0.heap.size ≤ H.size) (hlc : ∀ z ∈ locs, G.1 ≤ z.base) (hcs : cells + (s2.1 + s2.2.1) ≤ R.cells + (s.1 + s.2.1)) (hss : slots + s2.2.2.1 ≤ R.slots + s.2.2.1) (hcc : cells ≤ R.cells ∧ slots ≤ R.slots) {len : Nat} {n : Nat} (hd : decode M.2.2.1 pc = .ok (.istore n, len)) (hs : qStep M pc (.istore n) len L st s = some (.inl (pc', L', st', s2))) (k : qK G M p l e R s0 m args below meth c H cells slots s Q pc' L' st' s2) : W p l e R s0 m args below meth c H locs cells slots Q (F0 m pc ls (st.map (qV G))) := by
  obtain ⟨hx, hb, hml, hnm, hown, hts, hret, hlk, hTB, hH0⟩ := hC
  dsimp only [qStep] at hs
  split at hs
  · rename_i hlen; subst hlen
    split at hs
    · rename_i x rest
      cases h1 : qs1 L n (.int x) with
      | none => rw [h1] at hs; cases hs
      | some L1 =>
        rw [h1] at hs
        obtain ⟨rfl, rfl, rfl, rfl⟩ := qgo_eq hs
        exact lv_istore hx hb hd hL.2 (by rw [← hL.1]; exact qs1_lt h1) rfl (fun ls' h' => k ls' H locs cells slots (qLs_st1 hL h1 h') hR (Nat.le_refl _) hlc rfl rfl)
    · cases hs
  · cases hs

theorem qx_astore_n {pc pc' : Nat} {L L' : qLo} {st st' : List Value} {s s2 : qSt} {ls : Array Slot} (hC : qCx G M p s0 m args meth c) (hfr : 6 ≤ R.frames) (hlo : 200 ≤ R.locals) (hL : qLs G ls M.2.2.2.1 L) (hR : qRel G s H) (hz : s0.heap.size ≤ H.size) (hlc : ∀ z ∈ locs, G.1 ≤ z.base) (hcs : cells + (s2.1 + s2.2.1) ≤ R.cells + (s.1 + s.2.1)) (hss : slots + s2.2.2.1 ≤ R.slots + s.2.2.1) (hcc : cells ≤ R.cells ∧ slots ≤ R.slots) {len : Nat} {n : Fin 4} (hd : decode M.2.2.1 pc = .ok (.astore_n n, len)) (hs : qStep M pc (.astore_n n) len L st s = some (.inl (pc', L', st', s2))) (k : qK G M p l e R s0 m args below meth c H cells slots s Q pc' L' st' s2) : W p l e R s0 m args below meth c H locs cells slots Q (F0 m pc ls (st.map (qV G))) := by
  obtain ⟨hx, hb, hml, hnm, hown, hts, hret, hlk, hTB, hH0⟩ := hC
  dsimp only [qStep] at hs
  split at hs
  · rename_i hlen; subst hlen
    split at hs
    · rename_i x rest
      cases h1 : qs1 L n (.ref x) with
      | none => rw [h1] at hs; cases hs
      | some L1 =>
        rw [h1] at hs
        obtain ⟨rfl, rfl, rfl, rfl⟩ := qgo_eq hs
        exact lv_astore_n hx hb hd rfl hL.2 (by rw [← hL.1]; exact qs1_lt h1) rfl (fun ls' h' => k ls' H locs cells slots (qLs_st1 hL h1 h') hR (Nat.le_refl _) hlc rfl rfl)
    · cases hs
  · cases hs

theorem qx_astore {pc pc' : Nat} {L L' : qLo} {st st' : List Value} {s s2 : qSt} {ls : Array Slot} (hC : qCx G M p s0 m args meth c) (hfr : 6 ≤ R.frames) (hlo : 200 ≤ R.locals) (hL : qLs G ls M.2.2.2.1 L) (hR : qRel G s H) (hz : s0.heap.size ≤ H.size) (hlc : ∀ z ∈ locs, G.1 ≤ z.base) (hcs : cells + (s2.1 + s2.2.1) ≤ R.cells + (s.1 + s.2.1)) (hss : slots + s2.2.2.1 ≤ R.slots + s.2.2.1) (hcc : cells ≤ R.cells ∧ slots ≤ R.slots) {len : Nat} {n : Nat} (hd : decode M.2.2.1 pc = .ok (.astore n, len)) (hs : qStep M pc (.astore n) len L st s = some (.inl (pc', L', st', s2))) (k : qK G M p l e R s0 m args below meth c H cells slots s Q pc' L' st' s2) : W p l e R s0 m args below meth c H locs cells slots Q (F0 m pc ls (st.map (qV G))) := by
  obtain ⟨hx, hb, hml, hnm, hown, hts, hret, hlk, hTB, hH0⟩ := hC
  dsimp only [qStep] at hs
  split at hs
  · rename_i hlen; subst hlen
    split at hs
    · rename_i x rest
      cases h1 : qs1 L n (.ref x) with
      | none => rw [h1] at hs; cases hs
      | some L1 =>
        rw [h1] at hs
        obtain ⟨rfl, rfl, rfl, rfl⟩ := qgo_eq hs
        exact lv_astore hx hb hd hL.2 (by rw [← hL.1]; exact qs1_lt h1) rfl (fun ls' h' => k ls' H locs cells slots (qLs_st1 hL h1 h') hR (Nat.le_refl _) hlc rfl rfl)
    · cases hs
  · cases hs

theorem qx_dstore_n {pc pc' : Nat} {L L' : qLo} {st st' : List Value} {s s2 : qSt} {ls : Array Slot} (hC : qCx G M p s0 m args meth c) (hfr : 6 ≤ R.frames) (hlo : 200 ≤ R.locals) (hL : qLs G ls M.2.2.2.1 L) (hR : qRel G s H) (hz : s0.heap.size ≤ H.size) (hlc : ∀ z ∈ locs, G.1 ≤ z.base) (hcs : cells + (s2.1 + s2.2.1) ≤ R.cells + (s.1 + s.2.1)) (hss : slots + s2.2.2.1 ≤ R.slots + s.2.2.1) (hcc : cells ≤ R.cells ∧ slots ≤ R.slots) {len : Nat} {n : Fin 4} (hd : decode M.2.2.1 pc = .ok (.dstore_n n, len)) (hs : qStep M pc (.dstore_n n) len L st s = some (.inl (pc', L', st', s2))) (k : qK G M p l e R s0 m args below meth c H cells slots s Q pc' L' st' s2) : W p l e R s0 m args below meth c H locs cells slots Q (F0 m pc ls (st.map (qV G))) := by
  obtain ⟨hx, hb, hml, hnm, hown, hts, hret, hlk, hTB, hH0⟩ := hC
  dsimp only [qStep] at hs
  split at hs
  · rename_i hlen; subst hlen
    split at hs
    · rename_i x rest
      cases h1 : qs2 L n (.double x) with
      | none => rw [h1] at hs; cases hs
      | some L1 =>
        rw [h1] at hs
        obtain ⟨rfl, rfl, rfl, rfl⟩ := qgo_eq hs
        exact lv_dstore_n hx hb hd rfl hL.2 (by rw [← hL.1]; exact qs2_lt h1) rfl (fun ls' h' => k ls' H locs cells slots (qLs_st2 hL h1 h') hR (Nat.le_refl _) hlc rfl rfl)
    · cases hs
  · cases hs

theorem qx_dstore {pc pc' : Nat} {L L' : qLo} {st st' : List Value} {s s2 : qSt} {ls : Array Slot} (hC : qCx G M p s0 m args meth c) (hfr : 6 ≤ R.frames) (hlo : 200 ≤ R.locals) (hL : qLs G ls M.2.2.2.1 L) (hR : qRel G s H) (hz : s0.heap.size ≤ H.size) (hlc : ∀ z ∈ locs, G.1 ≤ z.base) (hcs : cells + (s2.1 + s2.2.1) ≤ R.cells + (s.1 + s.2.1)) (hss : slots + s2.2.2.1 ≤ R.slots + s.2.2.1) (hcc : cells ≤ R.cells ∧ slots ≤ R.slots) {len : Nat} {n : Nat} (hd : decode M.2.2.1 pc = .ok (.dstore n, len)) (hs : qStep M pc (.dstore n) len L st s = some (.inl (pc', L', st', s2))) (k : qK G M p l e R s0 m args below meth c H cells slots s Q pc' L' st' s2) : W p l e R s0 m args below meth c H locs cells slots Q (F0 m pc ls (st.map (qV G))) := by
  obtain ⟨hx, hb, hml, hnm, hown, hts, hret, hlk, hTB, hH0⟩ := hC
  dsimp only [qStep] at hs
  split at hs
  · rename_i hlen; subst hlen
    split at hs
    · rename_i x rest
      cases h1 : qs2 L n (.double x) with
      | none => rw [h1] at hs; cases hs
      | some L1 =>
        rw [h1] at hs
        obtain ⟨rfl, rfl, rfl, rfl⟩ := qgo_eq hs
        exact lv_dstore hx hb hd hL.2 (by rw [← hL.1]; exact qs2_lt h1) rfl (fun ls' h' => k ls' H locs cells slots (qLs_st2 hL h1 h') hR (Nat.le_refl _) hlc rfl rfl)
    · cases hs
  · cases hs

theorem qx_iinc {pc pc' : Nat} {L L' : qLo} {st st' : List Value} {s s2 : qSt} {ls : Array Slot} (hC : qCx G M p s0 m args meth c) (hfr : 6 ≤ R.frames) (hlo : 200 ≤ R.locals) (hL : qLs G ls M.2.2.2.1 L) (hR : qRel G s H) (hz : s0.heap.size ≤ H.size) (hlc : ∀ z ∈ locs, G.1 ≤ z.base) (hcs : cells + (s2.1 + s2.2.1) ≤ R.cells + (s.1 + s.2.1)) (hss : slots + s2.2.2.1 ≤ R.slots + s.2.2.1) (hcc : cells ≤ R.cells ∧ slots ≤ R.slots) {len : Nat} {i : Nat} {n : Int} (hd : decode M.2.2.1 pc = .ok (.iinc i n, len)) (hs : qStep M pc (.iinc i n) len L st s = some (.inl (pc', L', st', s2))) (k : qK G M p l e R s0 m args below meth c H cells slots s Q pc' L' st' s2) : W p l e R s0 m args below meth c H locs cells slots Q (F0 m pc ls (st.map (qV G))) := by
  obtain ⟨hx, hb, hml, hnm, hown, hts, hret, hlk, hTB, hH0⟩ := hC
  dsimp only [qStep] at hs
  split at hs
  · rename_i hlen; subst hlen
    split at hs
    · rename_i x hld
      cases h1 : qs1 L i (.int (x + Int32.ofInt n)) with
      | none => rw [h1] at hs; cases hs
      | some L1 =>
        rw [h1] at hs
        obtain ⟨rfl, rfl, rfl, rfl⟩ := qgo_eq hs
        obtain ⟨j, hj⟩ := List.getElem?_of_mem (mem_qpairs (G := G) (q := (i, .int x)).mpr ⟨.int x, hld, rfl⟩)
        exact lv_iinc hx hb hd hL.2 hj rfl (by rw [← hL.1]; exact qs1_lt h1) rfl (fun ls' h' => k ls' H locs cells slots (qLs_st1 hL h1 h') hR (Nat.le_refl _) hlc rfl rfl)
    · cases hs
  · cases hs

theorem qx_goto {pc pc' : Nat} {L L' : qLo} {st st' : List Value} {s s2 : qSt} {ls : Array Slot} (hC : qCx G M p s0 m args meth c) (hfr : 6 ≤ R.frames) (hlo : 200 ≤ R.locals) (hL : qLs G ls M.2.2.2.1 L) (hR : qRel G s H) (hz : s0.heap.size ≤ H.size) (hlc : ∀ z ∈ locs, G.1 ≤ z.base) (hcs : cells + (s2.1 + s2.2.1) ≤ R.cells + (s.1 + s.2.1)) (hss : slots + s2.2.2.1 ≤ R.slots + s.2.2.1) (hcc : cells ≤ R.cells ∧ slots ≤ R.slots) {len : Nat} {off : Int} (hd : decode M.2.2.1 pc = .ok (.goto off, len)) (hs : qStep M pc (.goto off) len L st s = some (.inl (pc', L', st', s2))) (k : qK G M p l e R s0 m args below meth c H cells slots s Q pc' L' st' s2) : W p l e R s0 m args below meth c H locs cells slots Q (F0 m pc ls (st.map (qV G))) := by
  obtain ⟨hx, hb, hml, hnm, hown, hts, hret, hlk, hTB, hH0⟩ := hC
  dsimp only [qStep] at hs
  split at hs
  · rename_i hlen; subst hlen
    split at hs
    · rename_i h0
      obtain ⟨rfl, rfl, rfl, rfl⟩ := qgo_eq hs
      exact lv_goto hx hb hd (Int.toNat_of_nonneg h0).symm (k ls H locs cells slots hL hR (Nat.le_refl _) hlc rfl rfl)
    · cases hs
  · cases hs

theorem qx_if_icmp {pc pc' : Nat} {L L' : qLo} {st st' : List Value} {s s2 : qSt} {ls : Array Slot} (hC : qCx G M p s0 m args meth c) (hfr : 6 ≤ R.frames) (hlo : 200 ≤ R.locals) (hL : qLs G ls M.2.2.2.1 L) (hR : qRel G s H) (hz : s0.heap.size ≤ H.size) (hlc : ∀ z ∈ locs, G.1 ≤ z.base) (hcs : cells + (s2.1 + s2.2.1) ≤ R.cells + (s.1 + s.2.1)) (hss : slots + s2.2.2.1 ≤ R.slots + s.2.2.1) (hcc : cells ≤ R.cells ∧ slots ≤ R.slots) {len : Nat} {op : ClassFile.Cond} {off : Int} (hd : decode M.2.2.1 pc = .ok (.if_icmp op off, len)) (hs : qStep M pc (.if_icmp op off) len L st s = some (.inl (pc', L', st', s2))) (k : qK G M p l e R s0 m args below meth c H cells slots s Q pc' L' st' s2) : W p l e R s0 m args below meth c H locs cells slots Q (F0 m pc ls (st.map (qV G))) := by
  obtain ⟨hx, hb, hml, hnm, hown, hts, hret, hlk, hTB, hH0⟩ := hC
  dsimp only [qStep] at hs
  split at hs
  · rename_i hlen; subst hlen
    split at hs
    · 
      unfold qbr at hs
      split at hs
      · rename_i h0
        have ht := (Int.toNat_of_nonneg h0).symm
        cases op
        · refine lv_icmp_eq hx hb hd ht (fun hc => ?_) (fun hc => ?_)
          · rw [if_pos (by simpa [qif] using hc)] at hs
            obtain ⟨rfl, rfl, rfl, rfl⟩ := qgo_eq hs
            exact (k ls H locs cells slots hL hR (Nat.le_refl _) hlc rfl rfl)
          · rw [if_neg (by simpa [qif] using hc)] at hs
            obtain ⟨rfl, rfl, rfl, rfl⟩ := qgo_eq hs
            exact (k ls H locs cells slots hL hR (Nat.le_refl _) hlc rfl rfl)
        · refine lv_icmp_ne hx hb hd ht (fun hc => ?_) (fun hc => ?_)
          · rw [if_pos (by simpa [qif] using hc)] at hs
            obtain ⟨rfl, rfl, rfl, rfl⟩ := qgo_eq hs
            exact (k ls H locs cells slots hL hR (Nat.le_refl _) hlc rfl rfl)
          · rw [if_neg (by simpa [qif] using hc)] at hs
            obtain ⟨rfl, rfl, rfl, rfl⟩ := qgo_eq hs
            exact (k ls H locs cells slots hL hR (Nat.le_refl _) hlc rfl rfl)
        · refine lv_icmp_lt hx hb hd ht (fun hc => ?_) (fun hc => ?_)
          · rw [if_pos (by simpa [qif] using hc)] at hs
            obtain ⟨rfl, rfl, rfl, rfl⟩ := qgo_eq hs
            exact (k ls H locs cells slots hL hR (Nat.le_refl _) hlc rfl rfl)
          · rw [if_neg (by simpa [qif] using hc)] at hs
            obtain ⟨rfl, rfl, rfl, rfl⟩ := qgo_eq hs
            exact (k ls H locs cells slots hL hR (Nat.le_refl _) hlc rfl rfl)
        · refine lv_icmp_ge hx hb hd ht (fun hc => ?_) (fun hc => ?_)
          · rw [if_pos (by simpa [qif] using hc)] at hs
            obtain ⟨rfl, rfl, rfl, rfl⟩ := qgo_eq hs
            exact (k ls H locs cells slots hL hR (Nat.le_refl _) hlc rfl rfl)
          · rw [if_neg (by simpa [qif] using hc)] at hs
            obtain ⟨rfl, rfl, rfl, rfl⟩ := qgo_eq hs
            exact (k ls H locs cells slots hL hR (Nat.le_refl _) hlc rfl rfl)
        · refine lv_icmp_gt hx hb hd ht (fun hc => ?_) (fun hc => ?_)
          · rw [if_pos (by simpa [qif] using hc)] at hs
            obtain ⟨rfl, rfl, rfl, rfl⟩ := qgo_eq hs
            exact (k ls H locs cells slots hL hR (Nat.le_refl _) hlc rfl rfl)
          · rw [if_neg (by simpa [qif] using hc)] at hs
            obtain ⟨rfl, rfl, rfl, rfl⟩ := qgo_eq hs
            exact (k ls H locs cells slots hL hR (Nat.le_refl _) hlc rfl rfl)
        · refine lv_icmp_le hx hb hd ht (fun hc => ?_) (fun hc => ?_)
          · rw [if_pos (by simpa [qif] using hc)] at hs
            obtain ⟨rfl, rfl, rfl, rfl⟩ := qgo_eq hs
            exact (k ls H locs cells slots hL hR (Nat.le_refl _) hlc rfl rfl)
          · rw [if_neg (by simpa [qif] using hc)] at hs
            obtain ⟨rfl, rfl, rfl, rfl⟩ := qgo_eq hs
            exact (k ls H locs cells slots hL hR (Nat.le_refl _) hlc rfl rfl)
      · cases hs
    · cases hs
  · cases hs

theorem qx_ifCond {pc pc' : Nat} {L L' : qLo} {st st' : List Value} {s s2 : qSt} {ls : Array Slot} (hC : qCx G M p s0 m args meth c) (hfr : 6 ≤ R.frames) (hlo : 200 ≤ R.locals) (hL : qLs G ls M.2.2.2.1 L) (hR : qRel G s H) (hz : s0.heap.size ≤ H.size) (hlc : ∀ z ∈ locs, G.1 ≤ z.base) (hcs : cells + (s2.1 + s2.2.1) ≤ R.cells + (s.1 + s.2.1)) (hss : slots + s2.2.2.1 ≤ R.slots + s.2.2.1) (hcc : cells ≤ R.cells ∧ slots ≤ R.slots) {len : Nat} {op : ClassFile.Cond} {off : Int} (hd : decode M.2.2.1 pc = .ok (.ifCond op off, len)) (hs : qStep M pc (.ifCond op off) len L st s = some (.inl (pc', L', st', s2))) (k : qK G M p l e R s0 m args below meth c H cells slots s Q pc' L' st' s2) : W p l e R s0 m args below meth c H locs cells slots Q (F0 m pc ls (st.map (qV G))) := by
  obtain ⟨hx, hb, hml, hnm, hown, hts, hret, hlk, hTB, hH0⟩ := hC
  dsimp only [qStep] at hs
  split at hs
  · rename_i hlen; subst hlen
    split at hs
    · 
      unfold qbr at hs
      split at hs
      · rename_i h0
        have ht := (Int.toNat_of_nonneg h0).symm
        cases op
        · refine lv_if_eq hx hb hd ht (fun hc => ?_) (fun hc => ?_)
          · rw [if_pos (by simpa [qif] using hc)] at hs
            obtain ⟨rfl, rfl, rfl, rfl⟩ := qgo_eq hs
            exact (k ls H locs cells slots hL hR (Nat.le_refl _) hlc rfl rfl)
          · rw [if_neg (by simpa [qif] using hc)] at hs
            obtain ⟨rfl, rfl, rfl, rfl⟩ := qgo_eq hs
            exact (k ls H locs cells slots hL hR (Nat.le_refl _) hlc rfl rfl)
        · refine lv_if_ne hx hb hd ht (fun hc => ?_) (fun hc => ?_)
          · rw [if_pos (by simpa [qif] using hc)] at hs
            obtain ⟨rfl, rfl, rfl, rfl⟩ := qgo_eq hs
            exact (k ls H locs cells slots hL hR (Nat.le_refl _) hlc rfl rfl)
          · rw [if_neg (by simpa [qif] using hc)] at hs
            obtain ⟨rfl, rfl, rfl, rfl⟩ := qgo_eq hs
            exact (k ls H locs cells slots hL hR (Nat.le_refl _) hlc rfl rfl)
        · refine lv_if_lt hx hb hd ht (fun hc => ?_) (fun hc => ?_)
          · rw [if_pos (by simpa [qif] using hc)] at hs
            obtain ⟨rfl, rfl, rfl, rfl⟩ := qgo_eq hs
            exact (k ls H locs cells slots hL hR (Nat.le_refl _) hlc rfl rfl)
          · rw [if_neg (by simpa [qif] using hc)] at hs
            obtain ⟨rfl, rfl, rfl, rfl⟩ := qgo_eq hs
            exact (k ls H locs cells slots hL hR (Nat.le_refl _) hlc rfl rfl)
        · refine lv_if_ge hx hb hd ht (fun hc => ?_) (fun hc => ?_)
          · rw [if_pos (by simpa [qif] using hc)] at hs
            obtain ⟨rfl, rfl, rfl, rfl⟩ := qgo_eq hs
            exact (k ls H locs cells slots hL hR (Nat.le_refl _) hlc rfl rfl)
          · rw [if_neg (by simpa [qif] using hc)] at hs
            obtain ⟨rfl, rfl, rfl, rfl⟩ := qgo_eq hs
            exact (k ls H locs cells slots hL hR (Nat.le_refl _) hlc rfl rfl)
        · refine lv_if_gt hx hb hd ht (fun hc => ?_) (fun hc => ?_)
          · rw [if_pos (by simpa [qif] using hc)] at hs
            obtain ⟨rfl, rfl, rfl, rfl⟩ := qgo_eq hs
            exact (k ls H locs cells slots hL hR (Nat.le_refl _) hlc rfl rfl)
          · rw [if_neg (by simpa [qif] using hc)] at hs
            obtain ⟨rfl, rfl, rfl, rfl⟩ := qgo_eq hs
            exact (k ls H locs cells slots hL hR (Nat.le_refl _) hlc rfl rfl)
        · refine lv_if_le hx hb hd ht (fun hc => ?_) (fun hc => ?_)
          · rw [if_pos (by simpa [qif] using hc)] at hs
            obtain ⟨rfl, rfl, rfl, rfl⟩ := qgo_eq hs
            exact (k ls H locs cells slots hL hR (Nat.le_refl _) hlc rfl rfl)
          · rw [if_neg (by simpa [qif] using hc)] at hs
            obtain ⟨rfl, rfl, rfl, rfl⟩ := qgo_eq hs
            exact (k ls H locs cells slots hL hR (Nat.le_refl _) hlc rfl rfl)
      · cases hs
    · cases hs
  · cases hs

theorem qx_tableswitch {pc pc' : Nat} {L L' : qLo} {st st' : List Value} {s s2 : qSt} {ls : Array Slot} (hC : qCx G M p s0 m args meth c) (hfr : 6 ≤ R.frames) (hlo : 200 ≤ R.locals) (hL : qLs G ls M.2.2.2.1 L) (hR : qRel G s H) (hz : s0.heap.size ≤ H.size) (hlc : ∀ z ∈ locs, G.1 ≤ z.base) (hcs : cells + (s2.1 + s2.2.1) ≤ R.cells + (s.1 + s.2.1)) (hss : slots + s2.2.2.1 ≤ R.slots + s.2.2.1) (hcc : cells ≤ R.cells ∧ slots ≤ R.slots) {len : Nat} {d lo hi : Int} {offs : Array Int} (hd : decode M.2.2.1 pc = .ok (.tableswitch d lo hi offs, len)) (hs : qStep M pc (.tableswitch d lo hi offs) len L st s = some (.inl (pc', L', st', s2))) (k : qK G M p l e R s0 m args below meth c H cells slots s Q pc' L' st' s2) : W p l e R s0 m args below meth c H locs cells slots Q (F0 m pc ls (st.map (qV G))) := by
  obtain ⟨hx, hb, hml, hnm, hown, hts, hret, hlk, hTB, hH0⟩ := hC
  dsimp only [qStep] at hs
  split at hs
  · split at hs
    · rename_i hout
      split at hs
      · rename_i h0
        obtain ⟨rfl, rfl, rfl, rfl⟩ := qgo_eq hs
        exact lv_tableOut hx hb hd hout (Int.toNat_of_nonneg h0).symm (k ls H locs cells slots hL hR (Nat.le_refl _) hlc rfl rfl)
      · cases hs
    · rename_i hin
      split at hs
      · rename_i off ho
        split at hs
        · rename_i h0
          obtain ⟨rfl, rfl, rfl, rfl⟩ := qgo_eq hs
          exact lv_tableIn hx hb hd (fun z => hin (Or.inl z)) (fun z => hin (Or.inr z)) ho (Int.toNat_of_nonneg h0).symm (k ls H locs cells slots hL hR (Nat.le_refl _) hlc rfl rfl)
        · cases hs
      · cases hs
  · cases hs

theorem qx_dup {pc pc' : Nat} {L L' : qLo} {st st' : List Value} {s s2 : qSt} {ls : Array Slot} (hC : qCx G M p s0 m args meth c) (hfr : 6 ≤ R.frames) (hlo : 200 ≤ R.locals) (hL : qLs G ls M.2.2.2.1 L) (hR : qRel G s H) (hz : s0.heap.size ≤ H.size) (hlc : ∀ z ∈ locs, G.1 ≤ z.base) (hcs : cells + (s2.1 + s2.2.1) ≤ R.cells + (s.1 + s.2.1)) (hss : slots + s2.2.2.1 ≤ R.slots + s.2.2.1) (hcc : cells ≤ R.cells ∧ slots ≤ R.slots) {len : Nat}  (hd : decode M.2.2.1 pc = .ok (.dup, len)) (hs : qStep M pc (.dup) len L st s = some (.inl (pc', L', st', s2))) (k : qK G M p l e R s0 m args below meth c H cells slots s Q pc' L' st' s2) : W p l e R s0 m args below meth c H locs cells slots Q (F0 m pc ls (st.map (qV G))) := by
  obtain ⟨hx, hb, hml, hnm, hown, hts, hret, hlk, hTB, hH0⟩ := hC
  dsimp only [qStep] at hs
  split at hs
  · rename_i hlen; subst hlen
    split at hs
    · 
      split at hs
      · rename_i hc
        obtain ⟨rfl, rfl, rfl, rfl⟩ := qgo_eq hs
        exact lv_dup hx hb hd (by rw [qV_cat]; exact hc) (k ls H locs cells slots hL hR (Nat.le_refl _) hlc rfl rfl)
      · cases hs
    · cases hs
  · cases hs

theorem qx_pop {pc pc' : Nat} {L L' : qLo} {st st' : List Value} {s s2 : qSt} {ls : Array Slot} (hC : qCx G M p s0 m args meth c) (hfr : 6 ≤ R.frames) (hlo : 200 ≤ R.locals) (hL : qLs G ls M.2.2.2.1 L) (hR : qRel G s H) (hz : s0.heap.size ≤ H.size) (hlc : ∀ z ∈ locs, G.1 ≤ z.base) (hcs : cells + (s2.1 + s2.2.1) ≤ R.cells + (s.1 + s.2.1)) (hss : slots + s2.2.2.1 ≤ R.slots + s.2.2.1) (hcc : cells ≤ R.cells ∧ slots ≤ R.slots) {len : Nat}  (hd : decode M.2.2.1 pc = .ok (.pop, len)) (hs : qStep M pc (.pop) len L st s = some (.inl (pc', L', st', s2))) (k : qK G M p l e R s0 m args below meth c H cells slots s Q pc' L' st' s2) : W p l e R s0 m args below meth c H locs cells slots Q (F0 m pc ls (st.map (qV G))) := by
  obtain ⟨hx, hb, hml, hnm, hown, hts, hret, hlk, hTB, hH0⟩ := hC
  dsimp only [qStep] at hs
  split at hs
  · rename_i hlen; subst hlen
    split at hs
    · 
      split at hs
      · rename_i hc
        obtain ⟨rfl, rfl, rfl, rfl⟩ := qgo_eq hs
        exact lv_pop hx hb hd (by rw [qV_cat]; exact hc) (k ls H locs cells slots hL hR (Nat.le_refl _) hlc rfl rfl)
      · cases hs
    · cases hs
  · cases hs

theorem qx_dup2 {pc pc' : Nat} {L L' : qLo} {st st' : List Value} {s s2 : qSt} {ls : Array Slot} (hC : qCx G M p s0 m args meth c) (hfr : 6 ≤ R.frames) (hlo : 200 ≤ R.locals) (hL : qLs G ls M.2.2.2.1 L) (hR : qRel G s H) (hz : s0.heap.size ≤ H.size) (hlc : ∀ z ∈ locs, G.1 ≤ z.base) (hcs : cells + (s2.1 + s2.2.1) ≤ R.cells + (s.1 + s.2.1)) (hss : slots + s2.2.2.1 ≤ R.slots + s.2.2.1) (hcc : cells ≤ R.cells ∧ slots ≤ R.slots) {len : Nat}  (hd : decode M.2.2.1 pc = .ok (.dup2, len)) (hs : qStep M pc (.dup2) len L st s = some (.inl (pc', L', st', s2))) (k : qK G M p l e R s0 m args below meth c H cells slots s Q pc' L' st' s2) : W p l e R s0 m args below meth c H locs cells slots Q (F0 m pc ls (st.map (qV G))) := by
  obtain ⟨hx, hb, hml, hnm, hown, hts, hret, hlk, hTB, hH0⟩ := hC
  dsimp only [qStep] at hs
  split at hs
  · rename_i hlen; subst hlen
    split at hs
    · 
      split at hs
      · rename_i hc
        obtain ⟨rfl, rfl, rfl, rfl⟩ := qgo_eq hs
        exact lv_dup2_11 hx hb hd (by rw [qV_cat]; exact hc.1) (by rw [qV_cat]; exact hc.2) (k ls H locs cells slots hL hR (Nat.le_refl _) hlc rfl rfl)
      · cases hs
    · cases hs
  · cases hs

theorem qx_putfield {pc pc' : Nat} {L L' : qLo} {st st' : List Value} {s s2 : qSt} {ls : Array Slot} (hC : qCx G M p s0 m args meth c) (hfr : 6 ≤ R.frames) (hlo : 200 ≤ R.locals) (hL : qLs G ls M.2.2.2.1 L) (hR : qRel G s H) (hz : s0.heap.size ≤ H.size) (hlc : ∀ z ∈ locs, G.1 ≤ z.base) (hcs : cells + (s2.1 + s2.2.1) ≤ R.cells + (s.1 + s.2.1)) (hss : slots + s2.2.2.1 ≤ R.slots + s.2.2.1) (hcc : cells ≤ R.cells ∧ slots ≤ R.slots) {len : Nat} {i : Nat} (hd : decode M.2.2.1 pc = .ok (.putfield i, len)) (hs : qStep M pc (.putfield i) len L st s = some (.inl (pc', L', st', s2))) (k : qK G M p l e R s0 m args below meth c H cells slots s Q pc' L' st' s2) : W p l e R s0 m args below meth c H locs cells slots Q (F0 m pc ls (st.map (qV G))) := by
  obtain ⟨hx, hb, hml, hnm, hown, hts, hret, hlk, hTB, hH0⟩ := hC
  dsimp only [qStep] at hs
  split at hs
  · rename_i hlen; subst hlen
    split at hs
    · rename_i v a rest
      split at hs
      · rename_i ci kf hf
        split at hs
        · rename_i fs hob
          split at hs
          · rename_i hcond
            obtain ⟨hn, hfit, hl, hwr⟩ := hcond
            obtain ⟨rfl, rfl, rfl, rfl⟩ := qgo_eq hs
            obtain ⟨q, hq, hkq, hw⟩ := qTf_ok hf
            obtain ⟨he, ha⟩ := qob_ok hob
            obtain ⟨hin, hty, hnmq, hlen⟩ := qcl_in hq
            have hw' := qW_at (G := G) ha
            rw [he] at hw'
            show W p l e R s0 m args below meth c H locs cells slots Q (F0 m pc ls (qV G v :: .ref (qad G a) :: List.map (qV G) rest))
            rw [qRel_lt hR ha]
            have hK := hTB.1
            have hap := va_apart (own := qNm M.1) hts hin (qty ci) hty hnmq hK hq
            obtain ⟨r, h1, cell, q1, q2, q3, q4⟩ := hR.2.2.2.1 (qPm a) _ hw'
            have hr : r = q := Option.some.inj (h1.symm.trans hq)
            subst hr
            obtain ⟨hS, hfc, kC, hkC, hkind⟩ := hK.1 ci _ hq
            obtain ⟨cf, kf1, fi, f, hi, hsl⟩ := hS kf hkq
            have hst := (u_facts hfc hkC (u_lays hts hin hkq) hi).1
            have hn' := qV_nar (G := G) hn
            have hfit' := qV_fit (G := G) hfit
            have hdd := hty kf hkq
            have hkk : ∀ (H' : Heap), H'[G.1 + qPm a]? = some (cell.setSlot f.slot (qV G v)) → H'.size = H.size → (∀ x, x ≠ G.1 + qPm a → H'[x]? = H[x]?) → W p l e R s0 m args below meth c H' (locs ++ [⟨G.1 + qPm a, f.slot⟩]) cells slots Q (F0 m (pc + 3) ls (List.map (qV G) rest)) := by
              intro H' e1 e2 e3
              refine k ls H' _ cells slots hL (qRel_put hR ha ?_ e2 e3) (by rw [e2]; exact Nat.le_refl _) (qlocs hlc) rfl rfl
              rw [hsl] at e1
              refine ⟨_, hq, t_OB.to (V := updV (vp_V (fs.map (qV G))) kf (qV G v)) ⟨_, e1, q2, q3, t_set q4 hap hkq (qV G v)⟩ (fun j _ => ?_)⟩
              rw [List.map_set]
              exact vp_updV_set (by rw [List.length_map]; exact hl) _ j
            by_cases hfin : (r.2.1 kf).2.2.2 = false
            · have hlay := hts _ (hin _ (u_in_lay hkq))
              unfold u_lay at hlay
              rw [if_neg (by rw [hfin]; decide)] at hlay
              have h6 := u_store hfc hkC hkind hlay hi hdd hn' hfit'
              exact W.putK hx hb (f := f) ⟨hown, hts _ hw, ⟨_, _, _, hi⟩, hst⟩ (by rw [q2]; exact h6) q1 q3 (by rw [hsl]; exact k2_hasslot (q4 kf hkq)) rfl rfl hd hkk
            · have hfin' : (r.2.1 kf).2.2.2 = true := by cases h : (r.2.1 kf).2.2.2 <;> first | rfl | exact absurd h hfin
              have hwr' : M.2.1.name = "<init>" ∧ (r.2.1 kf).1 = qNm M.1 := by
                unfold qwr at hwr
                rw [qgetD hq, hfin'] at hwr
                simpa using hwr
              have hlay := hts _ (hin _ (u_in_lay hkq))
              unfold u_lay at hlay
              rw [if_pos hfin'] at hlay
              have hcf : m.cls = cf := by
                obtain ⟨_, _, c', _, _, _, -, -, hf', -, -, -, hown2, -⟩ := Cond.laysFinal_spec hlay
                have e1 : c' = cf := by have := hi.symm.trans hf'; simp at this; exact this.1.symm
                rw [hwr'.2] at hown2
                rw [← e1]; exact Option.some.inj (hown.symm.trans hown2)
              have h6 := u_fits hfc hkC hkind (Or.inr hlay) hi hdd hn' hfit'
              exact W.putFinK hx hb hown (hts _ hw) hi hst hcf (hnm.trans hwr'.1) (by rw [q2]; exact h6) q1 q3 (by rw [hsl]; exact k2_hasslot (q4 kf hkq)) rfl rfl hd hkk
          · cases hs
        · cases hs
      · cases hs
    · cases hs
  · cases hs

theorem qx_iaload {pc pc' : Nat} {L L' : qLo} {st st' : List Value} {s s2 : qSt} {ls : Array Slot} (hC : qCx G M p s0 m args meth c) (hfr : 6 ≤ R.frames) (hlo : 200 ≤ R.locals) (hL : qLs G ls M.2.2.2.1 L) (hR : qRel G s H) (hz : s0.heap.size ≤ H.size) (hlc : ∀ z ∈ locs, G.1 ≤ z.base) (hcs : cells + (s2.1 + s2.2.1) ≤ R.cells + (s.1 + s.2.1)) (hss : slots + s2.2.2.1 ≤ R.slots + s.2.2.1) (hcc : cells ≤ R.cells ∧ slots ≤ R.slots) {len : Nat}  (hd : decode M.2.2.1 pc = .ok (.iaload, len)) (hs : qStep M pc (.iaload) len L st s = some (.inl (pc', L', st', s2))) (k : qK G M p l e R s0 m args below meth c H cells slots s Q pc' L' st' s2) : W p l e R s0 m args below meth c H locs cells slots Q (F0 m pc ls (st.map (qV G))) := by
  obtain ⟨hx, hb, hml, hnm, hown, hts, hret, hlk, hTB, hH0⟩ := hC
  dsimp only [qStep] at hs
  split at hs
  · rename_i hlen; subst hlen
    split at hs
    · rename_i i a rest
      split at hs
      · rename_i n f hq
        obtain ⟨he, ha⟩ := qai_ok hq
        split at hs
        · cases hs
        · rename_i hin
          rcases ha with ha | ha
          · 
            obtain ⟨rfl, rfl, rfl, rfl⟩ := qgo_eq hs
            have hw' := qW_at (G := G) ha
            rw [he] at hw'
            show W p l e R s0 m args below meth c H locs cells slots Q (F0 m pc ls (.int i :: .ref (qad G a) :: List.map (qV G) rest))
            rw [qRel_lt hR ha]
            exact va_iald hx hb hTB.1 hR.2.2.2.1 (qPm a) 0 hw' rfl hin hd (k ls H locs cells slots hL hR (Nat.le_refl _) hlc rfl rfl)
          · 
            obtain ⟨rfl, rfl, rfl, rfl⟩ := qgo_eq hs
            obtain ⟨e1, e2⟩ : n = G.2.2.2.2.2.2.1 ∧ f = G.2.2.2.2.2.2.2 := by
              have := hR.2.2.2.2.2
              rw [← ha, he] at this
              cases this
              exact ⟨rfl, rfl⟩
            subst e1; subst e2; subst ha
            obtain ⟨-, -, -, -, -, -, -, -, -, -, hX, hsz, -⟩ := hTB
            have hbl : G.2.1 1000 < G.2.2.2.2.2.1.size := by
              obtain ⟨scr, hscr, -⟩ := hX
              exact (Array.getElem?_eq_some_iff.mp hscr).1
            exact va_sld (H0 := G.2.2.2.2.2.1) (A := qA G) hx hb hX hbl (by show ¬ G.1 ≤ _; omega) (qRel_S hR (fun _ _ => rfl) (by have := hR.2.2.1; omega) hlc) hin hd (k ls H locs cells slots hL hR (Nat.le_refl _) hlc rfl rfl)
      · cases hs
    · cases hs
  · cases hs

theorem qx_caload {pc pc' : Nat} {L L' : qLo} {st st' : List Value} {s s2 : qSt} {ls : Array Slot} (hC : qCx G M p s0 m args meth c) (hfr : 6 ≤ R.frames) (hlo : 200 ≤ R.locals) (hL : qLs G ls M.2.2.2.1 L) (hR : qRel G s H) (hz : s0.heap.size ≤ H.size) (hlc : ∀ z ∈ locs, G.1 ≤ z.base) (hcs : cells + (s2.1 + s2.2.1) ≤ R.cells + (s.1 + s.2.1)) (hss : slots + s2.2.2.1 ≤ R.slots + s.2.2.1) (hcc : cells ≤ R.cells ∧ slots ≤ R.slots) {len : Nat}  (hd : decode M.2.2.1 pc = .ok (.caload, len)) (hs : qStep M pc (.caload) len L st s = some (.inl (pc', L', st', s2))) (k : qK G M p l e R s0 m args below meth c H cells slots s Q pc' L' st' s2) : W p l e R s0 m args below meth c H locs cells slots Q (F0 m pc ls (st.map (qV G))) := by
  obtain ⟨hx, hb, hml, hnm, hown, hts, hret, hlk, hTB, hH0⟩ := hC
  dsimp only [qStep] at hs
  split at hs
  · rename_i hlen; subst hlen
    split at hs
    · rename_i i a rest
      split at hs
      · rename_i n f hq
        obtain ⟨he, ha⟩ := qai_ok hq
        have ha : qPm a < s.1 := by
          rcases ha with ha | ha
          · exact ha
          · have := hR.2.2.2.2.2
            rw [← ha, he] at this
            cases this
        split at hs
        · cases hs
        · rename_i hin
          obtain ⟨rfl, rfl, rfl, rfl⟩ := qgo_eq hs
          have hw' := qW_at (G := G) ha
          rw [he] at hw'
          show W p l e R s0 m args below meth c H locs cells slots Q (F0 m pc ls (.int i :: .ref (qad G a) :: List.map (qV G) rest))
          rw [qRel_lt hR ha]
          exact va_cald hx hb hTB.1 hR.2.2.2.1 (qPm a) 2 hw' rfl hin hd (k ls H locs cells slots hL hR (Nat.le_refl _) hlc rfl rfl)
      · cases hs
    · cases hs
  · cases hs

theorem qx_iastore {pc pc' : Nat} {L L' : qLo} {st st' : List Value} {s s2 : qSt} {ls : Array Slot} (hC : qCx G M p s0 m args meth c) (hfr : 6 ≤ R.frames) (hlo : 200 ≤ R.locals) (hL : qLs G ls M.2.2.2.1 L) (hR : qRel G s H) (hz : s0.heap.size ≤ H.size) (hlc : ∀ z ∈ locs, G.1 ≤ z.base) (hcs : cells + (s2.1 + s2.2.1) ≤ R.cells + (s.1 + s.2.1)) (hss : slots + s2.2.2.1 ≤ R.slots + s.2.2.1) (hcc : cells ≤ R.cells ∧ slots ≤ R.slots) {len : Nat}  (hd : decode M.2.2.1 pc = .ok (.iastore, len)) (hs : qStep M pc (.iastore) len L st s = some (.inl (pc', L', st', s2))) (k : qK G M p l e R s0 m args below meth c H cells slots s Q pc' L' st' s2) : W p l e R s0 m args below meth c H locs cells slots Q (F0 m pc ls (st.map (qV G))) := by
  obtain ⟨hx, hb, hml, hnm, hown, hts, hret, hlk, hTB, hH0⟩ := hC
  dsimp only [qStep] at hs
  split at hs
  · rename_i hlen; subst hlen
    split at hs
    · rename_i x i a rest
      split at hs
      · rename_i n f hq
        obtain ⟨he, -⟩ := qai_ok hq
        split at hs
        · cases hs
        · rename_i hin0
          have hin : ¬ (i < 0 ∨ n ≤ i.toNatClampNeg) := fun z => hin0 (Or.inl z)
          have ha : qPm a < s.1 := Classical.byContradiction fun z => hin0 (Or.inr z)
          obtain ⟨rfl, rfl, rfl, rfl⟩ := qgo_eq hs
          have hw' := qW_at (G := G) ha
          rw [he] at hw'
          show W p l e R s0 m args below meth c H locs cells slots Q (F0 m pc ls (.int x :: .int i :: .ref (qad G a) :: List.map (qV G) rest))
          rw [qRel_lt hR ha]
          refine W.iast hx hb (hR.2.2.2.1 (qPm a) _ hw') ((hTB.1.2 0 _ rfl).1 n (fun j => .int (f j))) (fun q => by cases q) (by show ¬ (i < 0 ∨ (arrV _ _ _).slots.size ≤ _); rw [arrV_size]; exact hin) rfl rfl hd fun H1 e1 z oq => ?_
          refine k ls H1 _ cells slots hL (qRel_put hR ha ?_ z oq) (by rw [z]; exact Nat.le_refl _) (qlocs hlc) rfl rfl
          show H1[G.1 + qPm a]? = some (vp_cell _ _)
          rw [e1]
          show some (Cell.setSlot (vp_cell _ (n, .inl f)) _ _) = some (vp_cell _ (n, .inl (upd f i.toNatClampNeg x)))
          rw [vp_cell_i, vp_cell_i, arrV_store]
          congr 2
          funext q
          by_cases hq : q = i.toNatClampNeg
          · subst hq
            simp [updV, upd, vp_updL, vp_nar]
            try rfl
          · simp [updV, upd, vp_updL, hq]
      · cases hs
    · cases hs
  · cases hs

theorem qx_castore {pc pc' : Nat} {L L' : qLo} {st st' : List Value} {s s2 : qSt} {ls : Array Slot} (hC : qCx G M p s0 m args meth c) (hfr : 6 ≤ R.frames) (hlo : 200 ≤ R.locals) (hL : qLs G ls M.2.2.2.1 L) (hR : qRel G s H) (hz : s0.heap.size ≤ H.size) (hlc : ∀ z ∈ locs, G.1 ≤ z.base) (hcs : cells + (s2.1 + s2.2.1) ≤ R.cells + (s.1 + s.2.1)) (hss : slots + s2.2.2.1 ≤ R.slots + s.2.2.1) (hcc : cells ≤ R.cells ∧ slots ≤ R.slots) {len : Nat}  (hd : decode M.2.2.1 pc = .ok (.castore, len)) (hs : qStep M pc (.castore) len L st s = some (.inl (pc', L', st', s2))) (k : qK G M p l e R s0 m args below meth c H cells slots s Q pc' L' st' s2) : W p l e R s0 m args below meth c H locs cells slots Q (F0 m pc ls (st.map (qV G))) := by
  obtain ⟨hx, hb, hml, hnm, hown, hts, hret, hlk, hTB, hH0⟩ := hC
  dsimp only [qStep] at hs
  split at hs
  · rename_i hlen; subst hlen
    split at hs
    · rename_i x i a rest
      split at hs
      · rename_i n f hq
        obtain ⟨he, -⟩ := qai_ok hq
        split at hs
        · cases hs
        · rename_i hin0
          have hin : ¬ (i < 0 ∨ n ≤ i.toNatClampNeg) := fun z => hin0 (Or.inl z)
          have ha : qPm a < s.1 := Classical.byContradiction fun z => hin0 (Or.inr z)
          obtain ⟨rfl, rfl, rfl, rfl⟩ := qgo_eq hs
          have hw' := qW_at (G := G) ha
          rw [he] at hw'
          show W p l e R s0 m args below meth c H locs cells slots Q (F0 m pc ls (.int x :: .int i :: .ref (qad G a) :: List.map (qV G) rest))
          rw [qRel_lt hR ha]
          refine W.cast hx hb (hR.2.2.2.1 (qPm a) _ hw') ((hTB.1.2 2 _ rfl).1 n (fun j => .int (f j))) (fun q => by cases q) (by show ¬ (i < 0 ∨ (arrV _ _ _).slots.size ≤ _); rw [arrV_size]; exact hin) rfl rfl hd fun H1 e1 z oq => ?_
          refine k ls H1 _ cells slots hL (qRel_put hR ha ?_ z oq) (by rw [z]; exact Nat.le_refl _) (qlocs hlc) rfl rfl
          show H1[G.1 + qPm a]? = some (vp_cell _ _)
          rw [e1]
          show some (Cell.setSlot (vp_cell _ (n, .inl f)) _ _) = some (vp_cell _ (n, .inl (upd f i.toNatClampNeg (vp_nar .char x))))
          rw [vp_cell_i, vp_cell_i, arrV_store]
          congr 2
          funext q
          by_cases hq : q = i.toNatClampNeg
          · subst hq
            simp [updV, upd, vp_updL, vp_nar]
            try rfl
          · simp [updV, upd, vp_updL, hq]
      · cases hs
    · cases hs
  · cases hs

end QS
