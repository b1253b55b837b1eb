/-! p53: the chance lies between 0 and 1 -/
theorem rr_share2 {a b : Nat} (h0 : 0 < a) (hab : a ≤ b) (hb : b < 4096) : ∃ (c : Nat) (q : Int), FP.Core.roundRatio FP.Core.b64 false a b 0 = .fin false c q ∧ 2 ^ 52 ≤ c ∧ c < 2 ^ 53 ∧ -64 ≤ q ∧ q ≤ -52 ∧ (q = -52 → c = 2 ^ 52) := by
  have hb0 : 0 < b := by omega
  obtain ⟨l1, l2⟩ := FP.Core.leading_spec h0 hb0
  have k1 : FP.Core.leading a b < 1 := FP.Core.lt_of_below l1 (by unfold FP.Core.Below; show a * 2 ^ 0 < b * 2 ^ 1; omega)
  have k2 : (-12 : Int) < FP.Core.leading a b + 1 := FP.Core.lt_of_below (A := a) (B := b) (by unfold FP.Core.Below; show ¬ a * 2 ^ 12 < b * 2 ^ 0; omega) l2
  have hq : FP.Core.quantum FP.Core.b64 a b 0 = FP.Core.leading a b - 52 := by
    show max (-1074) (FP.Core.leading a b + 0 - ((53 : Nat) - 1 : Int)) = _
    omega
  have e : FP.Core.roundRatio FP.Core.b64 false a b 0 = FP.Core.settle FP.Core.b64 false (FP.Core.nearest (FP.Core.unitsNum a 0 (FP.Core.leading a b - 52)) (FP.Core.unitsDen b 0 (FP.Core.leading a b - 52))) (FP.Core.leading a b - 52) := by
    unfold FP.Core.roundRatio FP.Core.roundAt
    rw [if_neg (by omega), hq]
  rw [e]
  clear e hq
  unfold FP.Core.Below at l1 l2
  generalize FP.Core.leading a b = k at *
  obtain ⟨j, rfl⟩ : ∃ j : Nat, k = -(j : Int) := ⟨(-k).toNat, by omega⟩
  have hN : FP.Core.unitsNum a 0 (-(j : Int) - 52) = a * 2 ^ j * 2 ^ 52 := by
    unfold FP.Core.unitsNum
    rw [show (0 - (-(j : Int) - 52)).toNat = j + 52 by omega, Nat.pow_add, Nat.mul_assoc]
  have hD : FP.Core.unitsDen b 0 (-(j : Int) - 52) = b := by
    unfold FP.Core.unitsDen
    rw [show (-(j : Int) - 52 - 0).toNat = 0 by omega, Nat.pow_zero, Nat.mul_one]
  rw [hN, hD]
  rw [show (- -(j : Int)).toNat = j by omega, show (-(j : Int)).toNat = 0 by omega, Nat.pow_zero, Nat.mul_one] at l1
  have m1 : b ≤ a * 2 ^ j := by omega
  have m2 : a * 2 ^ j < 2 * b := by
    cases j with
    | zero => have : a * 2 ^ 0 = a := by rw [Nat.pow_zero, Nat.mul_one]
              omega
    | succ j =>
      rw [show (-(-((j + 1 : Nat) : Int) + 1)).toNat = j by omega, show (-((j + 1 : Nat) : Int) + 1).toNat = 0 by omega, Nat.pow_zero, Nat.mul_one] at l2
      have : a * 2 ^ (j + 1) = 2 * (a * 2 ^ j) := by rw [Nat.pow_succ, ← Nat.mul_assoc, Nat.mul_comm]
      omega
  have n1 : 2 ^ 52 ≤ FP.Core.nearest (a * 2 ^ j * 2 ^ 52) b := FP.Core.nearest_ge hb0 (by rw [Nat.mul_comm]; exact Nat.mul_le_mul_right _ m1)
  have n2 : FP.Core.nearest (a * 2 ^ j * 2 ^ 52) b ≤ 2 ^ 53 := FP.Core.nearest_le hb0 (by
    have := Nat.mul_le_mul_right (2 ^ 52) (Nat.le_of_lt m2)
    omega)
  have n3 : j = 0 → FP.Core.nearest (a * 2 ^ j * 2 ^ 52) b ≤ 2 ^ 52 := fun hj => FP.Core.nearest_le hb0 (by
    subst hj
    rw [Nat.pow_zero, Nat.mul_one]
    have := Nat.mul_le_mul_right (2 ^ 52) hab
    omega)
  generalize FP.Core.nearest (a * 2 ^ j * 2 ^ 52) b = m at *
  by_cases hm : m < 2 ^ 53
  · refine ⟨m, -(j : Int) - 52, ?_, n1, hm, by omega, by omega, fun hz => by have := n3 (by omega); omega⟩
    unfold FP.Core.settle FP.Core.bound
    rw [if_pos (show m < 2 ^ FP.Core.b64.p from hm), if_pos]
    show _ ≤ (971 : Int)
    omega
  · have hj : ¬ j = 0 := fun q => by have := n3 q; omega
    refine ⟨2 ^ 52, -(j : Int) - 52 + 1, ?_, by decide, by decide, by omega, by omega, fun _ => rfl⟩
    unfold FP.Core.settle FP.Core.bound
    rw [if_neg (show ¬ m < 2 ^ FP.Core.b64.p from hm), if_pos]
    · rfl
    · show _ ≤ (971 : Int)
      omega
theorem share_dn2 {a b : Nat} (h0 : 0 < a) (hab : a ≤ b) (hb : b < 4096) : ∃ (c : Nat) (q : Int), FP.ddiv (FP.i2d (Int32.ofNat a)) (FP.i2d (Int32.ofNat b)) = dn c q ∧ 2 ^ 52 ≤ c ∧ c < 2 ^ 53 ∧ -64 ≤ q ∧ q ≤ -52 ∧ (q = -52 → c = 2 ^ 52) := by
  obtain ⟨c, q, e, h⟩ := rr_share2 h0 hab hb
  refine ⟨c, q, ?_, h⟩
  obtain ⟨a1, a2, a3⟩ := nz_b h0 (by omega)
  obtain ⟨b1, b2, b3⟩ := nz_b (v := b) (by omega) (by omega)
  show FP.Core.of64 (FP.Core.quotient FP.Core.b64 (FP.Core.val64 (FP.i2d (Int32.ofNat a))) (FP.Core.val64 (FP.i2d (Int32.ofNat b)))) = _
  rw [val_i2d h0 (by omega), val_i2d (a := b) (by omega) (by omega)]
  show FP.Core.of64 (if nz b = 0 then _ else FP.Core.roundRatio FP.Core.b64 false (nz a) (nz b) (-((52 - a.log2 : Nat) : Int) - -((52 - b.log2 : Nat) : Int))) = _
  rw [if_neg (by omega), FP.Core.roundRatio_congr (A' := a) (B' := b) (e' := 0) (by omega) (by omega) ?_, e]
  · rfl
  · unfold nz
    generalize 52 - a.log2 = x
    generalize 52 - b.log2 = y
    have p : 2 ^ x * 2 ^ (-(x : Int) - -(y : Int) - 0).toNat = 2 ^ y * 2 ^ (0 - (-(x : Int) - -(y : Int))).toNat := by
      rw [← Nat.pow_add, ← Nat.pow_add]
      congr 1
      omega
    calc a * 2 ^ x * b * 2 ^ (-(x : Int) - -(y : Int) - 0).toNat = a * b * (2 ^ x * 2 ^ (-(x : Int) - -(y : Int) - 0).toNat) := by ac_rfl
      _ = a * b * (2 ^ y * 2 ^ (0 - (-(x : Int) - -(y : Int))).toNat) := by rw [p]
      _ = a * (b * 2 ^ y) * 2 ^ (0 - (-(x : Int) - -(y : Int))).toNat := by ac_rfl
theorem shX_cases2 (cl : List rl_C) : shX cl = FP.dconst0 ∨ ∃ (c : Nat) (q : Int), shX cl = dn c q ∧ 2 ^ 52 ≤ c ∧ c < 2 ^ 53 ∧ -64 ≤ q ∧ q ≤ -52 ∧ (q = -52 → c = 2 ^ 52) := by
  unfold shX
  by_cases h0 : dT cl = 0
  · exact Or.inl (if_pos h0)
  · rw [if_neg h0]
    have h1 := dT_le cl
    have h2 := dIE_le cl (amx (dIE cl) 26)
    by_cases ha : dIE cl (amx (dIE cl) 26) = 0
    · rw [ha]; exact Or.inl (share0 (by omega) (by omega))
    · exact Or.inr (share_dn2 (by omega) h2 (by omega))
theorem shX_ge0 (cl : List rl_C) : ¬ Op.cmpValue (FP.dcmp (shX cl) FP.dconst0) .l < 0 := by
  rcases shX_cases2 cl with h | ⟨c, q, h, h1, h2, h3, h4, -⟩
  · rw [h]; decide +kernel
  · rw [h, dn_gt0 (c := c) (q := q) ⟨h1, h2, by omega, by omega⟩]; decide
theorem shX_le1 (cl : List rl_C) : ¬ (0 : Int32) < Op.cmpValue (FP.dcmp (shX cl) FP.dconst1) .g := by
  rcases shX_cases2 cl with h | ⟨c, q, h, h1, h2, h3, h4, h5⟩
  · rw [h]; decide +kernel
  · rw [h]
    by_cases hq : q = -52
    · rw [hq, h5 hq]; decide +kernel
    · rw [dn_lt1 (c := c) (q := q) ⟨h1, h2, by omega, by omega⟩ (by omega)]; decide
