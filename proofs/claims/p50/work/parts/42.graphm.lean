/-! the same of the reference -/
def alk (c t : Int → Int → Int) : Prop := ∀ u, 0 ≤ u → u < 8 → dgs c u = dgs t u
theorem rs_16 : rs (fun _ => (16 : Int)) 0 8 = 128 := rfl
theorem Vd.dg {N : Int} {c : Int → Int → Int} (h : Vd N c) (u : Int) : 0 ≤ dgs c u ∧ dgs c u ≤ 144 := by
  have h1 := h.r u u
  have h2 : 0 ≤ rs (fun v => c u v) 0 8 := rs_nn (fun k _ _ => h.2.1 u k)
  have h3 : rs (fun v => c u v) 0 8 ≤ rs (fun _ => (16 : Int)) 0 8 := rs_le (fun k _ _ => (h.r u k).2)
  rw [rs_16] at h3
  unfold dgs
  omega
theorem Vd.dw {N : Int} {c : Int → Int → Int} (h : Vd N c) (u : Int) : wr (dgs c u) = dgs c u := by
  have := h.dg u
  exact wr_id (by omega) (by omega)
theorem Vd.dz {N : Int} {c : Int → Int → Int} (h : Vd N c) {u : Int} (hu : N ≤ u) : dgs c u = 0 := by
  unfold dgs
  rw [h.z1 (Or.inr hu), rs_zero (fun k _ _ => h.z1 (Or.inr hu))]
  rfl
section GXM
variable {μ : qMu} {n : Nat} {T N : Int} {c t : Int → Int → Int}
end GXM
theorem Vd.e0 {N : Int} {c : Int → Int → Int} (hV : Vd N c) : 0 ≤ Ed c := rs_nn (fun k _ _ => rs_nn (fun j _ _ => hV.2.1 k j))
