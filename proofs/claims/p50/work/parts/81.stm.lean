/-! STATEMENTS of the text, the reference's -/
def FM (μ μ' : qMu) : Prop := Fr [78, 79, 83, 87] μ μ' ∧ ∀ i, (i ≤ 9 ∨ 16 < i) → rd μ' 78 i = rd μ 78 i
theorem FM.rf (μ : qMu) : FM μ μ := ⟨Fr.rf _ _, fun _ _ => rfl⟩
theorem FM.tr {μ1 μ2 μ3 : qMu} (h1 : FM μ1 μ2) (h2 : FM μ2 μ3) : FM μ1 μ3 := ⟨h1.1.tr h2.1, fun i hi => (h2.2 i hi).trans (h1.2 i hi)⟩
theorem Fo.fm {l : List Int} {μ μ' : qMu} (h : Fo 78 l μ μ') (hl : ∀ x ∈ l, 10 ≤ x ∧ x ≤ 16) : FM μ μ' := ⟨fun a ha => h.1 a (fun q => ha (by rw [q]; decide)), fun i hi => h.2 i (fun q => by have := hl i q; omega)⟩
theorem Fr.fm {l : List Nat} {μ μ' : qMu} (h : Fr l μ μ') (hl : ∀ a ∈ l, a ∈ [79, 83, 87]) : FM μ μ' := by
  have h1 : (78 : Nat) ∉ l := fun q => by
    have := hl 78 q
    revert this
    decide
  exact ⟨h.wk (fun a ha => List.mem_cons_of_mem _ (hl a ha)), fun i _ => rd_cg (h 78 h1) i⟩
theorem TM.fm {μ μ' : qMu} {b : Int → Int} {e : Int} (h : TM μ b e) (f : FM μ μ') : TM μ' b e := ⟨(f.2 9 (by omega)).trans h.1, fun i i1 i2 => by rw [rd_cg (f.1 82 (by decide))]; exact h.2 i i1 i2⟩
theorem KM.kp {μ μ' : qMu} {b : Int → Int} {e s : Int} (h : KM μ b e s) (f : μ' 78 = μ 78) : KM μ' b e s := by
  obtain ⟨h1, h2, h3, h4⟩ := h
  exact ⟨(rd_cg f 10).trans h1, (rd_cg f 11).trans h2, (rd_cg f 12).trans h3, fun q => (rd_cg f 13).trans (h4 q)⟩
theorem ME.kp {μ μ' : qMu} {p : Int × Int} (h : ME μ p) (f : μ' 78 = μ 78) : ME μ' p := ⟨(rd_cg f 14).trans h.1, (rd_cg f 15).trans h.2⟩
theorem ME.kf {μ μ' : qMu} {p : Int × Int} {l : List Int} (h : ME μ p) (f : Fo 78 l μ μ') (hl : (14 : Int) ∉ l ∧ (15 : Int) ∉ l) : ME μ' p := ⟨(f.2 14 hl.1).trans h.1, (f.2 15 hl.2).trans h.2⟩
def PM (μ : qMu) (b : Int → Int) (e s : Int) (st : qEn) : Prop := TM μ b e ∧ KM μ b e s ∧ CM μ st ∧ ME μ (0, -1)
def MO (o : pO) (b : Int → Int) (e : Int) (μ : qMu) (r : Option (Int × qMu)) : Prop := ∃ μ', FM μ μ' ∧ ((∃ p, o = .inl p ∧ r = some (0, μ') ∧ ME μ' p) ∨ ∃ s st, o = .inr (s, st) ∧ (0 ≤ s ∧ s ≤ e) ∧ r = some (1, μ') ∧ PM μ' b e s st)
/-- behind the semicolon -/
def MC (o : pO) (b : Int → Int) (e : Int) (μ : qMu) (r : Option (Int × qMu)) : Prop := ∃ μ', FM μ μ' ∧ ((∃ p, o = .inl p ∧ r = some (0, μ') ∧ ME μ' p) ∨ ∃ s st, o = .inr (s, st) ∧ r = some (1, μ') ∧ PM μ' b e (nx b e s) st)
section STM
variable {μ μ1 : qMu} {n : Nat} {b : Int → Int} {e s : Int} {st : qEn}
theorem MO.fail {o : pO} {p : Int × Int} {r : Option (Int × qMu)} (f : FM μ μ1) (ho : o = .inl p) (hr : r = some (0, μ1)) (h : ME μ1 p) : MO o b e μ r := ⟨μ1, f, Or.inl ⟨p, ho, hr, h⟩⟩
theorem PM.ad {l : List Int} (hP : PM μ b e s st) {s' : Int} (hK : KM μ1 b e s') (f : Fo 78 l μ μ1) (hl : (9 : Int) ∉ l ∧ (14 : Int) ∉ l ∧ (15 : Int) ∉ l) : PM μ1 b e s' st := by
  obtain ⟨h1, -, h3, h4⟩ := hP
  exact ⟨h1.kp f hl.1, hK, h3.kp (f.1 79 (by decide)), h4.kf f hl.2⟩
end STM
