/-! THE TEXT FED AND LOADED -/
theorem bv_nat {x : Nat} (h : x < 2147483648) : (BitVec.ofInt 32 (x : Int)).toNat = x := by
  rw [BitVec.toNat_ofInt]
  omega
theorem bv_int {b : BitVec 32} {x : Nat} (h : b.toNat = x) (hx : x < 2147483648) : b.toInt = (x : Int) := by
  rw [BitVec.toInt_eq_toNat_of_lt (by omega), h]
theorem shl8 {x : Nat} (h : x < 8388608) : ishl (x : Int) 8 = ((x * 256 : Nat) : Int) := by
  have e1 : ishl (x : Int) 8 = (BitVec.ofInt 32 (x : Int) <<< ((8 : BitVec 32).smod 32)).toInt := rfl
  have e2 : ((8 : BitVec 32).smod 32) = 8#32 := by decide
  rw [e1, e2]
  refine bv_int ?_ (by omega)
  rw [BitVec.shiftLeft_eq', BitVec.toNat_shiftLeft, bv_nat (by omega)]
  show x <<< 8 % 2 ^ 32 = _
  rw [Nat.shiftLeft_eq]
  omega
theorem or8 {x c : Nat} (h : x < 8388608) (hc : c < 256) : io ((x * 256 : Nat) : Int) (c : Int) = ((x * 256 + c : Nat) : Int) := by
  have e1 : io ((x * 256 : Nat) : Int) (c : Int) = (BitVec.ofInt 32 ((x * 256 : Nat) : Int) ||| BitVec.ofInt 32 (c : Int)).toInt := rfl
  rw [e1]
  refine bv_int ?_ (by omega)
  rw [BitVec.toNat_or, bv_nat (by omega), bv_nat (by omega), Nat.mul_comm]
  exact (Nat.two_pow_add_eq_or_of_lt (i := 8) hc x).symm
theorem and8 {x : Nat} (h : x < 2147483648) : ian (x : Int) 255 = ((x % 256 : Nat) : Int) := by
  have e1 : ian (x : Int) 255 = (BitVec.ofInt 32 (x : Int) &&& BitVec.ofInt 32 ((255 : Nat) : Int)).toInt := rfl
  rw [e1]
  refine bv_int ?_ (by omega)
  rw [BitVec.toNat_and, bv_nat h, bv_nat (by omega)]
  exact Nat.and_two_pow_sub_one_eq_mod x 8
theorem ush_ {x k : Nat} (h : x < 2147483648) {s : BitVec 32} (hs : s.toNat = k) : (BitVec.ofInt 32 (x : Int) >>> s).toInt = ((x / 2 ^ k : Nat) : Int) := by
  have hd : x / 2 ^ k ≤ x := Nat.div_le_self _ _
  refine bv_int ?_ (by omega)
  rw [BitVec.ushiftRight_eq', BitVec.toNat_ushiftRight, bv_nat h, hs, Nat.shiftRight_eq_div_pow]
theorem ush24 {x : Nat} (h : x < 2147483648) : iush (x : Int) 24 = ((x / 16777216 : Nat) : Int) := ush_ (k := 24) (s := ((Int32.ofInt 24).toUInt32 &&& Int32.toUInt32 31).toBitVec % 32) h (by decide)
theorem ush16 {x : Nat} (h : x < 2147483648) : iush (x : Int) 16 = ((x / 65536 : Nat) : Int) := ush_ (k := 16) (s := ((Int32.ofInt 16).toUInt32 &&& Int32.toUInt32 31).toBitVec % 32) h (by decide)
theorem ush8 {x : Nat} (h : x < 2147483648) : iush (x : Int) 8 = ((x / 256 : Nat) : Int) := ush_ (k := 8) (s := ((Int32.ofInt 8).toUInt32 &&& Int32.toUInt32 31).toBitVec % 32) h (by decide)
theorem ush0 {x : Nat} (h : x < 2147483648) : iush (x : Int) 0 = ((x : Nat) : Int) := by
  have := ush_ (k := 0) (s := ((Int32.ofInt 0).toUInt32 &&& Int32.toUInt32 31).toBitVec % 32) h (by decide)
  rw [Nat.pow_zero, Nat.div_one] at this
  exact this
/-- four bytes in one number -/
def wd4 (a b c d : Nat) : Nat := ((a * 256 + b) * 256 + c) * 256 + d
theorem wd4_io {a b c d : Nat} (ha : a < 128) (hb : b < 128) (hc : c < 128) (hd : d < 128) : io (ishl (io (ishl (io (ishl (io (ishl 0 8) (a : Int)) 8) (b : Int)) 8) (c : Int)) 8) (d : Int) = ((wd4 a b c d : Nat) : Int) := by
  have e0 : ishl 0 8 = ((0 * 256 : Nat) : Int) := rfl
  rw [e0, or8 (by omega) (by omega), shl8 (by omega), or8 (by omega) (by omega), shl8 (by omega), or8 (by omega) (by omega), shl8 (by omega), or8 (by omega) (by omega)]
  unfold wd4
  omega
theorem wd4_by {a b c d : Nat} (ha : a < 128) (hb : b < 128) (hc : c < 128) (hd : d < 128) : ian (iush ((wd4 a b c d : Nat) : Int) 24) 255 = (a : Int) ∧ ian (iush ((wd4 a b c d : Nat) : Int) 16) 255 = (b : Int) ∧ ian (iush ((wd4 a b c d : Nat) : Int) 8) 255 = (c : Int) ∧ ian (iush ((wd4 a b c d : Nat) : Int) 0) 255 = (d : Int) := by
  have hw : wd4 a b c d < 2147483648 := by
    unfold wd4
    omega
  rw [ush24 hw, ush16 hw, ush8 hw, ush0 hw, and8 (by omega), and8 (by omega), and8 (by omega), and8 (by omega)]
  unfold wd4
  omega
/-- the byte of a text; blanks behind it -/
def btx (T : List Int) (i : Int) : Int := if i < (T.length : Int) then T.getD i.toNat 0 else 32
theorem ch_all : ∀ k : Nat, k < 128 → qch (i2c (ian (k : Int) 255)) = some (k : Int) := by decide +kernel
section LDT
variable {μ : qMu} {n w s : Nat} {T : List Int} {b : Int → Int} {F k : Int}
theorem btx_r (h : Ok T) {i : Int} (hi : 0 ≤ i) : 0 ≤ btx T i ∧ btx T i ≤ 127 := by
  unfold btx
  by_cases q : i < (T.length : Int)
  · rw [if_pos q]
    exact h _ (by omega)
  · rw [if_neg q]
    omega
theorem St.lat (h : St μ w s T) : fJ0_isLatin1_aae02 s μ = some 1 := by
  obtain ⟨h1, h2, h3⟩ := h.is
  unfold fJ0_coder_7d493 at h2
  cases hg : qGi μ s 10 1 with
  | none =>
    rw [hg] at h2
    cases h2
  | some x =>
    rw [hg, obs] at h2
    have hx : x = 0 := by
      unfold qbt at h2
      by_cases q : 0 ≤ x ∧ x < 128
      · rw [if_pos q, obs] at h2
        cases h2
        rfl
      · rw [if_neg q] at h2
        cases h2
    unfold fJ0_isLatin1_aae02
    rw [hg, obs, hx, if_pos c0w]
theorem x_charAt (h : St μ w s T) (hk : 0 ≤ k ∧ k < (T.length : Int)) : fJ0_charAt_5068e s k μ = some (btx T k) := by
  obtain ⟨h1, h2, v, f, h3, h4, h5, h6, h7⟩ := h.is
  have hl := h.1.1
  have hb := h.ok k.toNat (by omega)
  have e1 : btx T k = T.getD k.toNat 0 := if_pos hk.2
  have e2 : qLb μ v k = some (btx T k) := by
    unfold qLb
    rw [h4]
    show (if (0 ≤ k ∧ k < (T.length : Int)) ∧ T.length ≤ 5000 then some (f k.toNat).toInt else none) = _
    rw [if_pos ⟨hk, by omega⟩, h6 _ (by omega), e1]
  have e3 := ch_all (btx T k).toNat (by omega)
  rw [show (((btx T k).toNat : Nat) : Int) = btx T k by omega] at e3
  have e4 : qIx k (T.length : Int) = some () := by
    unfold qIx
    rw [if_pos (by rw [wr_id (by omega) (by omega), wr_id (by omega) (by omega)]; omega)]
  have e5 : qch (btx T k) = some (btx T k) := by
    unfold qch
    rw [if_pos (by omega)]
  unfold fJ0_charAt_5068e
  rw [h1, obs, h.lat, obs, if_neg c1w, h3, obs]
  unfold fJ1_charAt_3b067
  rw [h5, obs, e4, obs, e2, obs, e3, obs, obs, e5, obs]
theorem x_four1 (h : St μ w s T) {p z i : Int} (hi : 0 ≤ i ∧ i < p + 4) (hp : 0 ≤ p ∧ p ≤ 1000) : bL_four_4 n s p z i μ = some (.inl (io (ishl z 8) (btx T i), i + 1)) := by
  have hl := h.1.1
  unfold bL_four_4
  rw [wr_id (x := i) (by omega) (by omega), wr_id (x := p + 4) (by omega) (by omega), if_pos hi.2, h.is.1, obs, h.len, obs, wr_id (x := (T.length : Int)) (by omega) (by omega)]
  by_cases q : i < (T.length : Int)
  · rw [if_pos q, obs, x_charAt h ⟨hi.1, q⟩, obs, obs]
  · rw [if_neg q, obs]
    unfold btx
    rw [if_neg q]
/-- four bytes of the text -/
theorem x_four (hn : 5000 ≤ n) (h : St μ w s T) (hk : 0 ≤ k ∧ k ≤ 1000) : fL_four n s k μ = some ((wd4 (btx T k).toNat (btx T (k + 1)).toNat (btx T (k + 2)).toNat (btx T (k + 3)).toNat : Nat) : Int) := by
  obtain ⟨n, rfl⟩ : ∃ n', n = n' + 5 := ⟨n - 5, by omega⟩
  have b0 := btx_r h.ok (i := k) (by omega)
  have b1 := btx_r h.ok (i := k + 1) (by omega)
  have b2 := btx_r h.ok (i := k + 2) (by omega)
  have b3 := btx_r h.ok (i := k + 3) (by omega)
  have e4 : ∀ z, bL_four_4 (n + 5) s k z (k + 1 + 1 + 1 + 1) μ = some (.inr z) := fun z => by
    unfold bL_four_4
    rw [wr_id (x := k + 1 + 1 + 1 + 1) (by omega) (by omega), wr_id (x := k + 4) (by omega) (by omega), if_neg (by omega)]
  have hio := wd4_io (a := (btx T k).toNat) (b := (btx T (k + 1)).toNat) (c := (btx T (k + 2)).toNat) (d := (btx T (k + 3)).toNat) (by omega) (by omega) (by omega) (by omega)
  rw [show (((btx T k).toNat : Nat) : Int) = btx T k by omega, show (((btx T (k + 1)).toNat : Nat) : Int) = btx T (k + 1) by omega, show (((btx T (k + 2)).toNat : Nat) : Int) = btx T (k + 2) by omega, show (((btx T (k + 3)).toNat : Nat) : Int) = btx T (k + 3) by omega] at hio
  have e : lp (fun x : Int × Int => bL_four_4 (n + 5) s k x.1 x.2 μ) (n + 5) (0, k) = some (io (ishl (io (ishl (io (ishl (io (ishl 0 8) (btx T k)) 8) (btx T (k + 1))) 8) (btx T (k + 2))) 8) (btx T (k + 3))) := by
    rw [lp_s]
    dsimp only
    rw [x_four1 h (by omega) hk]
    show lp (fun x : Int × Int => bL_four_4 (n + 5) s k x.1 x.2 μ) (n + 4) (_, k + 1) = _
    rw [lp_s]
    dsimp only
    rw [x_four1 h (by omega) hk]
    show lp (fun x : Int × Int => bL_four_4 (n + 5) s k x.1 x.2 μ) (n + 3) (_, k + 1 + 1) = _
    rw [lp_s]
    dsimp only
    rw [x_four1 h (by omega) hk]
    show lp (fun x : Int × Int => bL_four_4 (n + 5) s k x.1 x.2 μ) (n + 2) (_, k + 1 + 1 + 1) = _
    rw [lp_s]
    dsimp only
    rw [x_four1 h (by omega) hk]
    show lp (fun x : Int × Int => bL_four_4 (n + 5) s k x.1 x.2 μ) (n + 1) (_, k + 1 + 1 + 1 + 1) = _
    rw [lp_s]
    dsimp only
    rw [e4, show k + 1 + 1 = k + 2 by omega, show k + 2 + 1 = k + 3 by omega]
    rfl
  unfold fL_four
  rw [e, obs, hio]
/-- bytes fed so far are the text's -/
theorem bp1_tx (h : ∀ i, 0 ≤ i → i < F → b i = btx T i) {x : Int} (hx : x = btx T F) : ∀ i, 0 ≤ i → i < F + 1 → bp1 b F x i = btx T i := fun i i1 i2 => by
  unfold bp1
  by_cases q : i = F
  · rw [if_pos q, q, hx]
  · rw [if_neg q]
    exact h i i1 (by omega)
theorem bp4_tx (hO : Ok T) (hF : 0 ≤ F) (h : ∀ i, 0 ≤ i → i < F → b i = btx T i) : ∀ i, 0 ≤ i → i < F + 4 → bp4 b F ((wd4 (btx T F).toNat (btx T (F + 1)).toNat (btx T (F + 2)).toNat (btx T (F + 3)).toNat : Nat) : Int) i = btx T i := by
  have b0 := btx_r hO (i := F) (by omega)
  have b1 := btx_r hO (i := F + 1) (by omega)
  have b2 := btx_r hO (i := F + 2) (by omega)
  have b3 := btx_r hO (i := F + 3) (by omega)
  obtain ⟨h0, h1, h2, h3⟩ := wd4_by (a := (btx T F).toNat) (b := (btx T (F + 1)).toNat) (c := (btx T (F + 2)).toNat) (d := (btx T (F + 3)).toNat) (by omega) (by omega) (by omega) (by omega)
  have g1 := bp1_tx h (h0.trans (by omega))
  have g2 := bp1_tx g1 (h1.trans (by omega))
  have g3 := bp1_tx g2 (h2.trans (by rw [show F + 1 + 1 = F + 2 by omega]; omega))
  have g4 := bp1_tx g3 (h3.trans (by rw [show F + 1 + 1 + 1 = F + 3 by omega]; omega))
  intro i i1 i2
  have := g4 i i1 (by omega)
  unfold bp4
  rw [show F + 2 = F + 1 + 1 by omega, show F + 3 = F + 1 + 1 + 1 by omega] at *
  exact this
end LDT
