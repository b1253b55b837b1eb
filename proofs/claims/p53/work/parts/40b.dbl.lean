/-! doubles: a share of deals, its bits -/
theorem rr_exact {A B c : Nat} {e q : Int} (hB : 0 < B) (hc : 2 ^ 52 ≤ c) (hc2 : c < 2 ^ 53) (h1 : -1074 ≤ q) (h2 : q ≤ 971) (h : A * 2 ^ (e - q).toNat = c * B * 2 ^ (q - e).toNat) : FP.Core.roundRatio FP.Core.b64 false A B e = .fin false c q :=
  FP.Core.roundRatio_exact FP.Core.good_b64 hB ⟨hc2, h1, h2, Or.inr hc⟩ h
def dn (c : Nat) (q : Int) : UInt64 := FP.Core.of64 (.fin false c q)
def nrm (c : Nat) (q : Int) : Prop := 2 ^ 52 ≤ c ∧ c < 2 ^ 53 ∧ -1074 ≤ q ∧ q ≤ 0
theorem dn_val {c : Nat} {q : Int} (h : nrm c q) : FP.Core.val64 (dn c q) = .fin false c q :=
  FP.Core.val64_of64 ⟨h.2.1, h.2.2.1, Int.le_trans h.2.2.2 (by decide), Or.inr h.1⟩
theorem dn_nat {c : Nat} {q : Int} (h : nrm c q) : (dn c q).toNat = (q + 1075).toNat * 2 ^ 52 + (c - 2 ^ 52) := by
  obtain ⟨h1, h2, h3, h4⟩ := h
  have e : FP.Core.encode FP.Core.b64 (.fin false c q) = ((q + 1074).toNat + 1) * 2 ^ 52 + (c - 2 ^ 52) := by
    show (if c < 2 ^ 52 then _ else FP.Core.assemble FP.Core.b64 false ((q - FP.Core.b64.qmin).toNat + 1) (c - 2 ^ 52)) = _
    rw [if_neg (by omega)]
    show (0 * 2 ^ 11 + ((q - (-1074)).toNat + 1)) * 2 ^ 52 + (c - 2 ^ 52) = _
    rw [show q - (-1074) = q + 1074 by omega, Nat.zero_mul, Nat.zero_add]
  unfold dn FP.Core.of64
  rw [e, UInt64.toNat_ofNat']
  have e2 : (q + 1075).toNat = (q + 1074).toNat + 1 := by omega
  rw [← e2, Nat.mod_eq_of_lt]
  have : (q + 1075).toNat ≤ 1075 := by omega
  have : (q + 1075).toNat * 2 ^ 52 ≤ 1075 * 2 ^ 52 := Nat.mul_le_mul_right _ this
  omega
theorem val_2 : FP.Core.val64 (UInt64.ofNat (9223372036854775809 / 2)) = .fin false (2 ^ 52) (-51) := by decide +kernel
theorem val_52 : FP.Core.val64 (UInt64.ofNat (9682739198846566401 / 2)) = .fin false (2 ^ 52) 0 := by decide +kernel
theorem dn_mul2 {c : Nat} {q : Int} (h : nrm c q) (hq : q < 0) : FP.dmul (dn c q) (UInt64.ofNat (9223372036854775809 / 2)) = dn c (q + 1) := by
  show FP.Core.of64 (FP.Core.round FP.Core.b64 (FP.Core.exactProduct (FP.Core.val64 (dn c q)) (FP.Core.val64 (UInt64.ofNat (9223372036854775809 / 2))))) = _
  rw [dn_val h, val_2]
  show FP.Core.of64 (FP.Core.roundRatio FP.Core.b64 false (c * 2 ^ 52) 1 (q + -51)) = _
  rw [rr_exact (c := c) (q := q + 1) (by decide) h.1 h.2.1 (by have := h.2.2.1; omega) (by omega) (by
    rw [show (q + -51 - (q + 1)).toNat = 0 by omega, show (q + 1 - (q + -51)).toNat = 52 by omega]
    simp only [Nat.pow_zero, Nat.mul_one])]
  rfl
theorem dn_lt1 {c : Nat} {q : Int} (h : nrm c q) (hq : q < -52) : FP.dcmp (dn c q) FP.dconst1 = some .lt := by
  show FP.Core.order (FP.Core.val64 (dn c q)) (FP.Core.val64 FP.Core.dconst1) = _
  rw [dn_val h, FP.Core.val64_dconst1]
  show some (compare (FP.Core.signed false (FP.Core.inUnits c q (min q (-52)))) (FP.Core.signed false (FP.Core.inUnits (2 ^ 52) (-52) (min q (-52))))) = _
  rw [show min q (-52) = q by omega]
  unfold FP.Core.inUnits FP.Core.signed
  rw [show (q - q).toNat = 0 by omega]
  have h1 : 2 ^ 1 ≤ 2 ^ (-52 - q).toNat := Nat.pow_le_pow_right (by decide) (by omega)
  have h2 : 2 ^ 52 * 2 ^ 1 ≤ 2 ^ 52 * 2 ^ (-52 - q).toNat := Nat.mul_le_mul_left _ h1
  have h3 := h.2.1
  rw [FP.Core.compare_ite]
  simp only [Bool.false_eq_true, if_false, Nat.pow_zero, Nat.mul_one]
  rw [if_pos]
  exact Int.ofNat_lt.mpr (by omega)
theorem dn_ge1 {c : Nat} (h : nrm c (-52)) : ∃ o, FP.dcmp (dn c (-52)) FP.dconst1 = some o ∧ o ≠ .lt := by
  refine ⟨compare (FP.Core.signed false (FP.Core.inUnits c (-52) (-52))) (FP.Core.signed false (FP.Core.inUnits (2 ^ 52) (-52) (-52))), ?_, ?_⟩
  · show FP.Core.order (FP.Core.val64 (dn c (-52))) (FP.Core.val64 FP.Core.dconst1) = _
    rw [dn_val h, FP.Core.val64_dconst1]
    rfl
  · show compare ((c * 2 ^ 0 : Nat) : Int) ((2 ^ 52 * 2 ^ 0 : Nat) : Int) ≠ _
    have h3 := h.1
    rw [FP.Core.compare_ite]
    rw [if_neg (by omega)]
    split <;> simp
theorem dn_gt0 {c : Nat} {q : Int} (h : nrm c q) : FP.dcmp (dn c q) FP.dconst0 = some .gt := by
  show FP.Core.order (FP.Core.val64 (dn c q)) (FP.Core.val64 FP.Core.dconst0) = _
  rw [dn_val h, FP.Core.val64_dconst0]
  show some (compare (FP.Core.signed false (FP.Core.inUnits c q (min q (-1074)))) (FP.Core.signed false (FP.Core.inUnits 0 (-1074) (min q (-1074))))) = _
  unfold FP.Core.inUnits FP.Core.signed
  have h1 : 0 < c * 2 ^ (q - min q (-1074)).toNat := Nat.mul_pos (Nat.lt_of_lt_of_le (by decide) h.1) (Nat.two_pow_pos _)
  generalize c * 2 ^ (q - min q (-1074)).toNat = x at h1
  rw [FP.Core.compare_ite]
  simp only [Bool.false_eq_true, if_false, Nat.zero_mul]
  rw [if_neg (by omega), if_neg (by omega)]
/-- a whole number with 53 digits -/
def nz (v : Nat) : Nat := v * 2 ^ (52 - v.log2)
theorem nz_b {v : Nat} (h0 : 0 < v) (h : v < 2 ^ 53) : v.log2 ≤ 52 ∧ 2 ^ 52 ≤ nz v ∧ nz v < 2 ^ 53 := by
  have a1 : 2 ^ v.log2 ≤ v := Nat.log2_self_le (by omega)
  have a2 : v < 2 ^ (v.log2 + 1) := Nat.lt_log2_self
  have a3 : v.log2 < 53 := (Nat.log2_lt (by omega)).mpr h
  unfold nz
  generalize v.log2 = l at *
  refine ⟨by omega, ?_, ?_⟩
  · calc 2 ^ 52 = 2 ^ l * 2 ^ (52 - l) := by rw [← Nat.pow_add]; congr 1; omega
      _ ≤ _ := Nat.mul_le_mul_right _ a1
  · calc v * 2 ^ (52 - l) < 2 ^ (l + 1) * 2 ^ (52 - l) := Nat.mul_lt_mul_of_pos_right a2 (Nat.two_pow_pos _)
      _ = 2 ^ 53 := by rw [← Nat.pow_add]; congr 1; omega
theorem dn_sub1 {c : Nat} (h : nrm c (-52)) (hv : 0 < c - 2 ^ 52) : FP.dsub (dn c (-52)) FP.dconst1 = dn (nz (c - 2 ^ 52)) (-52 - ((52 - (c - 2 ^ 52).log2 : Nat) : Int)) := by
  obtain ⟨b1, b2, b3⟩ := nz_b hv (by have := h.2.1; omega)
  show FP.Core.of64 (FP.Core.round FP.Core.b64 (FP.Core.exactSum (FP.Core.val64 (dn c (-52))) (FP.Core.negate (FP.Core.val64 FP.Core.dconst1)))) = _
  rw [dn_val h, FP.Core.val64_dconst1]
  have e1 : FP.Core.sumUnits false c (-52) true (2 ^ 52) (-52) (-52) = ((c - 2 ^ 52 : Nat) : Int) := by
    show ((c * 2 ^ 0 : Nat) : Int) + -((2 ^ 52 * 2 ^ 0 : Nat) : Int) = _
    have := h.1
    omega
  show FP.Core.of64 (FP.Core.roundRatio FP.Core.b64 (FP.Core.sumSign false true (FP.Core.sumUnits false c (-52) true (2 ^ 52) (-52) (-52))) (FP.Core.sumUnits false c (-52) true (2 ^ 52) (-52) (-52)).natAbs 1 (-52)) = _
  rw [e1]
  generalize c - 2 ^ 52 = v at *
  have e2 : FP.Core.sumSign false true (v : Int) = false := by
    unfold FP.Core.sumSign
    rw [if_neg (by omega)]
    exact decide_eq_false (by omega)
  rw [e2, Int.natAbs_natCast, rr_exact (c := nz v) (q := -52 - ((52 - v.log2 : Nat) : Int)) (by decide) b2 b3 (by omega) (by omega) (by
    rw [show (-52 - (-52 - ((52 - v.log2 : Nat) : Int))).toNat = 52 - v.log2 by omega, show (-52 - ((52 - v.log2 : Nat) : Int) - -52).toNat = 0 by omega]
    unfold nz
    simp only [Nat.pow_zero, Nat.mul_one])]
  rfl
theorem dn_sub0 {c : Nat} (h : nrm c (-52)) (hv : c - 2 ^ 52 = 0) : FP.dsub (dn c (-52)) FP.dconst1 = FP.dconst0 := by
  show FP.Core.of64 (FP.Core.round FP.Core.b64 (FP.Core.exactSum (FP.Core.val64 (dn c (-52))) (FP.Core.negate (FP.Core.val64 FP.Core.dconst1)))) = _
  rw [dn_val h, FP.Core.val64_dconst1, show c = 2 ^ 52 by have := h.1; omega]
  decide +kernel
theorem mul0 : FP.dmul FP.dconst0 (UInt64.ofNat (9682739198846566401 / 2)) = FP.dconst0 := by decide +kernel
theorem d2l0 : FP.d2l FP.dconst0 = 0 := by decide +kernel
theorem dn_mul52 {c : Nat} {q : Int} (h : nrm c q) (hq : q ≤ -52) : FP.dmul (dn c q) (UInt64.ofNat (9682739198846566401 / 2)) = dn c (q + 52) := by
  show FP.Core.of64 (FP.Core.round FP.Core.b64 (FP.Core.exactProduct (FP.Core.val64 (dn c q)) (FP.Core.val64 (UInt64.ofNat (9682739198846566401 / 2))))) = _
  rw [dn_val h, val_52]
  show FP.Core.of64 (FP.Core.roundRatio FP.Core.b64 false (c * 2 ^ 52) 1 (q + 0)) = _
  rw [rr_exact (c := c) (q := q + 52) (by decide) h.1 h.2.1 (by have := h.2.2.1; omega) (by omega) (by
    rw [show (q + 0 - (q + 52)).toNat = 0 by omega, show (q + 52 - (q + 0)).toNat = 52 by omega]
    simp only [Nat.pow_zero, Nat.mul_one])]
  rfl
theorem dn_l {v : Nat} (h0 : 0 < v) (h : v < 2 ^ 52) : FP.d2l (dn (nz v) (-((52 - v.log2 : Nat) : Int))) = Int64.ofNat v := by
  obtain ⟨b1, b2, b3⟩ := nz_b h0 (by omega)
  show FP.Core.toL (FP.Core.val64 (dn (nz v) (-((52 - v.log2 : Nat) : Int)))) = _
  rw [dn_val ⟨b2, b3, by omega, by omega⟩]
  have e : FP.Core.truncate false (nz v) (-((52 - v.log2 : Nat) : Int)) = (v : Int) := by
    unfold FP.Core.truncate nz
    rw [show (-((52 - v.log2 : Nat) : Int)).toNat = 0 by omega, show (-(-((52 - v.log2 : Nat) : Int))).toNat = 52 - v.log2 by omega, Nat.pow_zero, Nat.mul_one, Nat.mul_div_cancel _ (Nat.two_pow_pos _)]
    rfl
  show Int64.ofInt (max (-2 ^ 63) (min (2 ^ 63 - 1) (FP.Core.truncate false (nz v) (-((52 - v.log2 : Nat) : Int))))) = _
  rw [e, show min (2 ^ 63 - 1) (v : Int) = (v : Int) by omega, show max (-2 ^ 63) (v : Int) = (v : Int) by omega]
  rfl
/-- what is behind the point -/
theorem frac {c : Nat} (h : nrm c (-52)) : FP.d2l (FP.dmul (FP.dsub (dn c (-52)) FP.dconst1) (UInt64.ofNat (9682739198846566401 / 2))) = Int64.ofNat (c - 2 ^ 52) := by
  have hc := h.2.1
  by_cases hv : c - 2 ^ 52 = 0
  · rw [dn_sub0 h hv, mul0, d2l0, hv]; rfl
  · have h1 : c - 2 ^ 52 < 2 ^ 52 := by omega
    have h0 : 0 < c - 2 ^ 52 := by omega
    rw [dn_sub1 h h0]
    generalize c - 2 ^ 52 = v at *
    obtain ⟨b1, b2, b3⟩ := nz_b h0 (by omega)
    rw [dn_mul52 ⟨b2, b3, by omega, by omega⟩ (by omega)]
    have e : ∀ n : Nat, -52 - (n : Int) + 52 = -(n : Int) := fun n => by omega
    rw [e]
    exact dn_l h0 h1
theorem val_i2d {a : Nat} (h0 : 0 < a) (h : a < 2 ^ 31) : FP.Core.val64 (FP.i2d (Int32.ofNat a)) = .fin false (nz a) (-((52 - a.log2 : Nat) : Int)) := by
  obtain ⟨b1, b2, b3⟩ := nz_b h0 (by omega)
  show FP.Core.val64 (FP.Core.i2d (Int32.ofNat a)) = _
  rw [FP.Core.val64_i2d, Int32.toInt_ofNat_of_lt h]
  show FP.Core.roundRatio FP.Core.b64 (decide ((a : Int) < 0)) (a : Int).natAbs 1 0 = _
  rw [decide_eq_false (by omega), Int.natAbs_natCast]
  refine rr_exact (by decide) b2 b3 (by omega) (by omega) ?_
  rw [show (0 - -((52 - a.log2 : Nat) : Int)).toNat = 52 - a.log2 by omega, show (-((52 - a.log2 : Nat) : Int) - 0).toNat = 0 by omega]
  unfold nz
  simp only [Nat.pow_zero, Nat.mul_one]
theorem rr_share {a b : Nat} (h0 : 0 < a) (hab : a ≤ b) (hb : b < 4096) : ∃ (c : Nat) (q : Int), FP.Core.roundRatio FP.Core.b64 false a b 0 = .fin false c q ∧ 2 ^ 52 ≤ c ∧ c < 2 ^ 53 ∧ -64 ≤ q ∧ q ≤ -52 := by
  have hb0 : 0 < b := by omega
  obtain ⟨l1, l2⟩ := FP.Core.leading_spec h0 hb0
  have k1 : FP.Core.leading a b < 1 := FP.Core.lt_of_below l1 (by unfold FP.Core.Below; show a * 2 ^ 0 < b * 2 ^ 1; omega)
  have k2 : (-12 : Int) < FP.Core.leading a b + 1 := FP.Core.lt_of_below (A := a) (B := b) (by unfold FP.Core.Below; show ¬ a * 2 ^ 12 < b * 2 ^ 0; omega) l2
  have hq : FP.Core.quantum FP.Core.b64 a b 0 = FP.Core.leading a b - 52 := by
    show max (-1074) (FP.Core.leading a b + 0 - ((53 : Nat) - 1 : Int)) = _
    omega
  have e : FP.Core.roundRatio FP.Core.b64 false a b 0 = FP.Core.settle FP.Core.b64 false (FP.Core.nearest (FP.Core.unitsNum a 0 (FP.Core.leading a b - 52)) (FP.Core.unitsDen b 0 (FP.Core.leading a b - 52))) (FP.Core.leading a b - 52) := by
    unfold FP.Core.roundRatio FP.Core.roundAt
    rw [if_neg (by omega), hq]
  rw [e]
  clear e hq
  unfold FP.Core.Below at l1 l2
  generalize FP.Core.leading a b = k at *
  obtain ⟨j, rfl⟩ : ∃ j : Nat, k = -(j : Int) := ⟨(-k).toNat, by omega⟩
  have hN : FP.Core.unitsNum a 0 (-(j : Int) - 52) = a * 2 ^ j * 2 ^ 52 := by
    unfold FP.Core.unitsNum
    rw [show (0 - (-(j : Int) - 52)).toNat = j + 52 by omega, Nat.pow_add, Nat.mul_assoc]
  have hD : FP.Core.unitsDen b 0 (-(j : Int) - 52) = b := by
    unfold FP.Core.unitsDen
    rw [show (-(j : Int) - 52 - 0).toNat = 0 by omega, Nat.pow_zero, Nat.mul_one]
  rw [hN, hD]
  rw [show (- -(j : Int)).toNat = j by omega, show (-(j : Int)).toNat = 0 by omega, Nat.pow_zero, Nat.mul_one] at l1
  have m1 : b ≤ a * 2 ^ j := by omega
  have m2 : a * 2 ^ j < 2 * b := by
    cases j with
    | zero => have : a * 2 ^ 0 = a := by rw [Nat.pow_zero, Nat.mul_one]
              omega
    | succ j =>
      rw [show (-(-((j + 1 : Nat) : Int) + 1)).toNat = j by omega, show (-((j + 1 : Nat) : Int) + 1).toNat = 0 by omega, Nat.pow_zero, Nat.mul_one] at l2
      have : a * 2 ^ (j + 1) = 2 * (a * 2 ^ j) := by rw [Nat.pow_succ, ← Nat.mul_assoc, Nat.mul_comm]
      omega
  have n1 : 2 ^ 52 ≤ FP.Core.nearest (a * 2 ^ j * 2 ^ 52) b := FP.Core.nearest_ge hb0 (by rw [Nat.mul_comm]; exact Nat.mul_le_mul_right _ m1)
  have n2 : FP.Core.nearest (a * 2 ^ j * 2 ^ 52) b ≤ 2 ^ 53 := FP.Core.nearest_le hb0 (by
    have := Nat.mul_le_mul_right (2 ^ 52) (Nat.le_of_lt m2)
    omega)
  have n3 : j = 0 → FP.Core.nearest (a * 2 ^ j * 2 ^ 52) b ≤ 2 ^ 52 := fun hj => FP.Core.nearest_le hb0 (by
    subst hj
    rw [Nat.pow_zero, Nat.mul_one]
    have := Nat.mul_le_mul_right (2 ^ 52) hab
    omega)
  generalize FP.Core.nearest (a * 2 ^ j * 2 ^ 52) b = m at *
  by_cases hm : m < 2 ^ 53
  · refine ⟨m, -(j : Int) - 52, ?_, n1, hm, by omega, by omega⟩
    unfold FP.Core.settle FP.Core.bound
    rw [if_pos (show m < 2 ^ FP.Core.b64.p from hm), if_pos]
    show _ ≤ (971 : Int)
    omega
  · have hj : ¬ j = 0 := fun q => by have := n3 q; omega
    refine ⟨2 ^ 52, -(j : Int) - 52 + 1, ?_, by decide, by decide, by omega, by omega⟩
    unfold FP.Core.settle FP.Core.bound
    rw [if_neg (show ¬ m < 2 ^ FP.Core.b64.p from hm), if_pos]
    · rfl
    · show _ ≤ (971 : Int)
      omega
theorem share_dn {a b : Nat} (h0 : 0 < a) (hab : a ≤ b) (hb : b < 4096) : ∃ (c : Nat) (q : Int), FP.ddiv (FP.i2d (Int32.ofNat a)) (FP.i2d (Int32.ofNat b)) = dn c q ∧ 2 ^ 52 ≤ c ∧ c < 2 ^ 53 ∧ -64 ≤ q ∧ q ≤ -52 := by
  obtain ⟨c, q, e, h⟩ := rr_share h0 hab hb
  refine ⟨c, q, ?_, h⟩
  obtain ⟨a1, a2, a3⟩ := nz_b h0 (by omega)
  obtain ⟨b1, b2, b3⟩ := nz_b (v := b) (by omega) (by omega)
  show FP.Core.of64 (FP.Core.quotient FP.Core.b64 (FP.Core.val64 (FP.i2d (Int32.ofNat a))) (FP.Core.val64 (FP.i2d (Int32.ofNat b)))) = _
  rw [val_i2d h0 (by omega), val_i2d (a := b) (by omega) (by omega)]
  show FP.Core.of64 (if nz b = 0 then _ else FP.Core.roundRatio FP.Core.b64 false (nz a) (nz b) (-((52 - a.log2 : Nat) : Int) - -((52 - b.log2 : Nat) : Int))) = _
  rw [if_neg (by omega), FP.Core.roundRatio_congr (A' := a) (B' := b) (e' := 0) (by omega) (by omega) ?_, e]
  · rfl
  · unfold nz
    generalize 52 - a.log2 = x
    generalize 52 - b.log2 = y
    have p : 2 ^ x * 2 ^ (-(x : Int) - -(y : Int) - 0).toNat = 2 ^ y * 2 ^ (0 - (-(x : Int) - -(y : Int))).toNat := by
      rw [← Nat.pow_add, ← Nat.pow_add]
      congr 1
      omega
    calc a * 2 ^ x * b * 2 ^ (-(x : Int) - -(y : Int) - 0).toNat = a * b * (2 ^ x * 2 ^ (-(x : Int) - -(y : Int) - 0).toNat) := by ac_rfl
      _ = a * b * (2 ^ y * 2 ^ (0 - (-(x : Int) - -(y : Int))).toNat) := by rw [p]
      _ = a * (b * 2 ^ y) * 2 ^ (0 - (-(x : Int) - -(y : Int))).toNat := by ac_rfl
/-- the bits as the class makes them -/
theorem bits_dn {c : Nat} {q : Int} (h : nrm c q) : Int64.ofNat (q + 1075).toNat <<< 52 ||| Int64.ofNat (c - 2 ^ 52) = (dn c q).toInt64 := by
  have hn := dn_nat h
  have hc := h.2.1
  have hlt := (dn c q).toNat_lt
  have e : (dn c q) = UInt64.ofNat ((q + 1075).toNat * 2 ^ 52 + (c - 2 ^ 52)) := by rw [← hn, UInt64.ofNat_toNat]
  rw [hn] at hlt
  have hq : (q + 1075).toNat ≤ 1075 := by have := h.2.2.2; omega
  rw [e]
  generalize (q + 1075).toNat = n at *
  have hv : c - 2 ^ 52 < 2 ^ 52 := by have := h.1; omega
  generalize c - 2 ^ 52 = v at *
  apply Int64.toBitVec_inj.mp
  apply BitVec.eq_of_toNat_eq
  have e1 : (Int64.ofNat n <<< (52 : Int64)).toBitVec = BitVec.ofNat 64 n <<< 52 := by
    rw [Int64.toBitVec_shiftLeft]; rfl
  rw [Int64.toBitVec_or, e1]
  generalize hz : n * 2 ^ 52 + v = z at *
  rw [show (Int64.ofNat v).toBitVec = BitVec.ofNat 64 v from rfl, show (UInt64.ofNat z).toInt64.toBitVec = BitVec.ofNat 64 z from rfl]
  rw [BitVec.toNat_or, BitVec.toNat_shiftLeft, BitVec.toNat_ofNat, BitVec.toNat_ofNat, BitVec.toNat_ofNat]
  rw [Nat.mod_eq_of_lt (show n < 2 ^ 64 by omega), Nat.mod_eq_of_lt (show v < 2 ^ 64 by omega), Nat.mod_eq_of_lt hlt]
  rw [← hz, Nat.shiftLeft_eq, Nat.mod_eq_of_lt (by omega), ← Nat.shiftLeft_eq, Nat.shiftLeft_add_eq_or_of_lt hv]
