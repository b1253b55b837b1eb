/-! the bits of a share, made by hand; the chance -/
theorem n64_of {x : UInt64} (h : x.toNat < 2047 * 2 ^ 52) : vf_n64 x := by
  apply UInt64.le_iff_toNat_le.mpr
  rw [n64_mod]
  have h3 : (0x7ff0000000000000 : UInt64).toNat = 9218868437227405312 := rfl
  rw [h3]
  exact Nat.le_trans (Nat.mod_le _ _) (by omega)
theorem n64_dn {c : Nat} {q : Int} (h : nrm c q) : vf_n64 (dn c q) := by
  apply n64_of
  rw [dn_nat h]
  have h1 : (q + 1075).toNat ≤ 1075 := by have := h.2.2.2; omega
  have h2 := Nat.mul_le_mul_right (2 ^ 52) h1
  have h3 := h.2.1
  omega
theorem n64_0 : vf_n64 FP.dconst0 := n64_of (by decide)
theorem share0 {b : Nat} (h0 : 0 < b) (hb : b < 2 ^ 31) : FP.ddiv (FP.i2d (nI 0)) (FP.i2d (nI b)) = FP.dconst0 := by
  obtain ⟨b1, b2, b3⟩ := nz_b (v := b) h0 (by omega)
  show FP.Core.of64 (FP.Core.quotient FP.Core.b64 (FP.Core.val64 (FP.i2d (nI 0))) (FP.Core.val64 (FP.i2d (Int32.ofNat b)))) = _
  rw [val_i2d h0 hb, show FP.Core.val64 (FP.i2d (nI 0)) = .fin false 0 (-1074) by decide +kernel]
  show FP.Core.of64 (if nz b = 0 then _ else FP.Core.roundRatio FP.Core.b64 false 0 (nz b) _) = _
  rw [if_neg (by omega)]
  unfold FP.Core.roundRatio
  rw [if_pos rfl]
  decide +kernel
/-- the share of the likeliest envelope -/
def shX (cl : List rl_C) : UInt64 := if dT cl = 0 then FP.dconst0 else FP.ddiv (FP.i2d (nI (dIE cl (amx (dIE cl) 26)))) (FP.i2d (nI (dT cl)))
theorem shX_cases (cl : List rl_C) : shX cl = FP.dconst0 ∨ ∃ (c : Nat) (q : Int), shX cl = dn c q ∧ 2 ^ 52 ≤ c ∧ c < 2 ^ 53 ∧ -64 ≤ q ∧ q ≤ -52 := by
  unfold shX
  by_cases h0 : dT cl = 0
  · exact Or.inl (if_pos h0)
  · rw [if_neg h0]
    have h1 := dT_le cl
    have h2 := dIE_le cl (amx (dIE cl) 26)
    by_cases ha : dIE cl (amx (dIE cl) 26) = 0
    · rw [ha]; exact Or.inl (share0 (by omega) (by omega))
    · exact Or.inr (share_dn (by omega) h2 (by omega))
theorem shX_n64 (cl : List rl_C) : vf_n64 (shX cl) := by
  rcases shX_cases cl with h | ⟨c, q, h, h1, h2, h3, h4⟩
  · rw [h]; exact n64_0
  · rw [h]; exact n64_dn ⟨h1, h2, by omega, by omega⟩
theorem ex_s (n : Nat) : Int64.ofNat (n + 1) - Int64.ofNat 1 = Int64.ofNat n := by
  rw [Int64.ofNat_add, Int64.add_sub_cancel]
section X5S
variable {d : Nat} {M : Mem} {A : AS} {now snap : StR} {rows : Nat → StR} {sv : Nat → Option Nat} {buf : IA} {rd : RS} {D : DC} {H : HC} {R : RC} {sc hs ln : Int32} {cl : List rl_C}
theorem k_share (h : dcOK cl D.1) : Cl (d + 3) kX0_shareOfLikeliest [.ref 39] (cM now snap rows sv buf rd D H R sc hs ln) (.inl (some (.double (shX cl)))) (cM now snap rows sv buf rd D H R sc hs ln) := by
  have hT : D.1.1 = dT cl := h.1
  have hv := shX_n64 cl
  have hj : ∀ j, j < 27 → D.1.2.2.1 j < 2 ^ 31 := fun j hj => ie31 h j hj
  by_cases h0 : dT cl = 0
  · rw [show shX cl = FP.dconst0 from if_pos h0]
    exact Cl_rd [39, 40, 41, 42, 43, 44] (s_share0 (T := D.1.1) (fr := D.2.1) (ca := D.1.2.1) (ie := D.1.2.2.1) (wh := D.1.2.2.2.1) (hb := D.1.2.2.2.2) (so := D.2.2) (by rw [hT]; exact h0)) 6 rfl rfl ⟨rfl, rfl, rfl, rfl, rfl, rfl, trivial⟩
  · have e : shX cl = FP.ddiv (FP.i2d (nI (D.1.2.2.1 (amx D.1.2.2.1 26)))) (FP.i2d (nI D.1.1)) := by
      have e1 : amx D.1.2.2.1 26 = amx (dIE cl) 26 := amx_congr 26 (fun j hj => h.2.2.1 j (by omega))
      have e2 := amx_le (dIE cl) 26
      rw [e1, h.2.2.1 _ (by omega), hT]
      exact if_neg h0
    rw [e] at hv ⊢
    exact Cl_rd [39, 40, 41, 42, 43, 44] (s_share1 (T := D.1.1) (fr := D.2.1) (ca := D.1.2.1) (ie := D.1.2.2.1) (wh := D.1.2.2.2.1) (hb := D.1.2.2.2.2) (so := D.2.2) hj (by rw [hT]; omega) (by rw [hT]; exact dT31 cl) hv) 6 rfl rfl ⟨rfl, rfl, rfl, rfl, rfl, rfl, trivial⟩
end X5S
