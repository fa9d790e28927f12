/-! what is told of components -/
theorem lab_ex {N : Int} {c : Int → Int → Int} (hV : Vd N c) : ∃ s, Lab N c s := by
  have hN := hV.N
  have hX : GX (fun a i => if a = 3 then Int32.ofInt N else Int32.ofInt (c (i / 8) (i % 8))) 3 N c := by
    refine ⟨?_, fun u v hu hv => ?_⟩
    · exact wr_id (by omega) (by omega)
    · show wr (c ((u * 8 + v) / 8) ((u * 8 + v) % 8)) = c u v
      rw [show (u * 8 + v) / 8 = u by omega, show (u * 8 + v) % 8 = v by omega]
      exact hV.w u v
  obtain ⟨μ', -, -, -, h⟩ := x_find (n := 5000) (Nat.le_refl _) hX hV (by decide)
  exact ⟨_, h⟩
noncomputable def Lb (N : Int) (c : Int → Int → Int) : Int → Int := Classical.epsilon (fun s => Lab N c s)
theorem Lb_ok {N : Int} {c : Int → Int → Int} (hV : Vd N c) : Lab N c (Lb N c) := Classical.epsilon_spec (lab_ex hV)
noncomputable def nco (N : Int) (c : Int → Int → Int) : Int := idx (Lb N c) N
noncomputable def cmp (N : Int) (c : Int → Int → Int) (v : Int) : Int := idx (Lb N c) (Lb N c v)
noncomputable def cwe (N : Int) (c : Int → Int → Int) : Int := rs (fun v => if Lb N c v = v ∧ 0 < dgs c v then 1 else 0) 0 N
theorem idx_cg {s s' : Int → Int} {N v : Int} (h : ∀ w, (0 ≤ w ∧ w < N) → s w = s' w) (hv : v ≤ N) : idx s v = idx s' v := rs_congr (fun k h1 h2 => by rw [h k ⟨h1, by omega⟩])
section CNT
variable {μ : qMu} {n : Nat} {N m : Int} {c t : Int → Int → Int}
theorem x_countBefore (hn : 5000 ≤ n) (hN : 1 ≤ N ∧ N ≤ 8) (h : rd μ 19 2 = N) {e : Int} (he : 0 ≤ e ∧ e ≤ N) : fX4_countBefore n e μ = some (idx (fun v => rd μ 20 v) e) := by
  have hb : ∀ z k, 0 ≤ k → k < e → bX4_countBefore_4 n e z k μ = some (.inl (z + (if rd μ 20 k = k then 1 else 0), k + 1)) := by
    intro z k h1 h2
    simp (disch := omega) only [bX4_countBefore_4, h, wr_id, wr_rd, if_pos, qLd_in, Option.bind_some]
    by_cases h3 : rd μ 20 k = k
    · rw [if_pos h3, if_pos h3]
    · rw [if_neg h3, if_neg h3, Int.add_zero]
  have he' : ∀ z, bX4_countBefore_4 n e z e μ = some (.inr z) := by
    intro z
    simp (disch := omega) only [bX4_countBefore_4, wr_id, if_neg]
  simp only [fX4_countBefore]
  rw [lp_rs2 0 hb he' (by omega) (by omega) (by omega), Int.zero_add]
  rfl
theorem cwe_r (hN : 1 ≤ N ∧ N ≤ 8) : 0 ≤ cwe N c ∧ cwe N c ≤ 8 := by
  have h0 : 0 ≤ cwe N c := rs_nn (fun k _ _ => by split <;> omega)
  have h1 : cwe N c ≤ rs (fun _ => (1 : Int)) 0 N := rs_le (fun k _ _ => by split <;> omega)
  have h2 : ∀ l : Nat, ∀ a : Int, sl (fun _ => (1 : Int)) a l = (l : Int) := by
    intro l
    induction l with
    | zero => intro a; rfl
    | succ l ih => intro a; unfold sl; rw [ih]; omega
  have h3 : rs (fun _ => (1 : Int)) 0 N = N := by
    unfold rs
    rw [h2]
    omega
  omega
end CNT
