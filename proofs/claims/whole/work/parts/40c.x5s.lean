/-! the bits of a share, made by hand; the chance -/
theorem n64_of {x : UInt64} (h : x.toNat < 2047 * 2 ^ 52) : vf_n64 x := by
  apply UInt64.le_iff_toNat_le.mpr
  rw [n64_mod]
  have h3 : (0x7ff0000000000000 : UInt64).toNat = 9218868437227405312 := rfl
  rw [h3]
  exact Nat.le_trans (Nat.mod_le _ _) (by omega)
theorem n64_dn {c : Nat} {q : Int} (h : nrm c q) : vf_n64 (dn c q) := by
  apply n64_of
  rw [dn_nat h]
  have h1 : (q + 1075).toNat ≤ 1075 := by have := h.2.2.2; omega
  have h2 := Nat.mul_le_mul_right (2 ^ 52) h1
  have h3 := h.2.1
  omega
theorem n64_0 : vf_n64 FP.dconst0 := n64_of (by decide)
theorem share0 {b : Nat} (h0 : 0 < b) (hb : b < 2 ^ 31) : FP.ddiv (FP.i2d (nI 0)) (FP.i2d (nI b)) = FP.dconst0 := by
  obtain ⟨b1, b2, b3⟩ := nz_b (v := b) h0 (by omega)
  show FP.Core.of64 (FP.Core.quotient FP.Core.b64 (FP.Core.val64 (FP.i2d (nI 0))) (FP.Core.val64 (FP.i2d (Int32.ofNat b)))) = _
  rw [val_i2d h0 hb, show FP.Core.val64 (FP.i2d (nI 0)) = .fin false 0 (-1074) by decide +kernel]
  show FP.Core.of64 (if nz b = 0 then _ else FP.Core.roundRatio FP.Core.b64 false 0 (nz b) _) = _
  rw [if_neg (by omega)]
  unfold FP.Core.roundRatio
  rw [if_pos rfl]
  decide +kernel
/-- the share of the likeliest envelope -/
def shX (cl : List rl_C) : UInt64 := if dT cl = 0 then FP.dconst0 else FP.ddiv (FP.i2d (nI (dIE cl (amx (dIE cl) 26)))) (FP.i2d (nI (dT cl)))
theorem shX_cases (cl : List rl_C) : shX cl = FP.dconst0 ∨ ∃ (c : Nat) (q : Int), shX cl = dn c q ∧ 2 ^ 52 ≤ c ∧ c < 2 ^ 53 ∧ -64 ≤ q ∧ q ≤ -52 := by
  unfold shX
  by_cases h0 : dT cl = 0
  · exact Or.inl (if_pos h0)
  · rw [if_neg h0]
    have h1 := dT_le cl
    have h2 := dIE_le cl (amx (dIE cl) 26)
    by_cases ha : dIE cl (amx (dIE cl) 26) = 0
    · rw [ha]; exact Or.inl (share0 (by omega) (by omega))
    · exact Or.inr (share_dn (by omega) h2 (by omega))
theorem shX_n64 (cl : List rl_C) : vf_n64 (shX cl) := by
  rcases shX_cases cl with h | ⟨c, q, h, h1, h2, h3, h4⟩
  · rw [h]; exact n64_0
  · rw [h]; exact n64_dn ⟨h1, h2, by omega, by omega⟩
theorem ex_s (n : Nat) : Int64.ofNat (n + 1) - Int64.ofNat 1 = Int64.ofNat n := by
  rw [Int64.ofNat_add, Int64.add_sub_cancel]
section X5S
variable {d : Nat} {M : Mem} {A : AS} {now snap : StR} {rows : Nat → StR} {sv : Nat → Option Nat} {buf : IA} {rd : RS} {D : DC} {H : HC} {R : RC} {sc hs ln : Int32} {cl : List rl_C}
theorem s_bits0 : Cl (d + 1) kX5_bitsOfShare [.double FP.dconst0] M (rJ (Int64.ofNat 0)) M := by
  refine Cl_go e_X5_bitsOfShare (Nat.le_of_ble_eq_true rfl) rfl ?_; intro P hP; refine hP _ _ _ _ ?_; (conv => whnf)
  refine ⟨fun q => absurd q (show ¬ (0 : Int32) < Op.cmpValue (FP.dcmp FP.dconst0 FP.dconst0) .g by decide +kernel), fun _ => ?_⟩; (conv => whnf)
  exact ⟨rfl, rfl, rfl, rfl⟩
theorem s_bits1 {c : Nat} {q : Int} (h1 : 2 ^ 52 ≤ c) (h2 : c < 2 ^ 53) (h3 : -64 ≤ q) (h4 : q ≤ -52) : Cl (d + 1) kX5_bitsOfShare [.double (dn c q)] M (rJ (dn c q).toInt64) M := by
  have hg := dn_gt0 (c := c) (q := q) ⟨h1, h2, by omega, by omega⟩
  have hB := bits_dn (c := c) (q := q) ⟨h1, h2, by omega, by omega⟩
  generalize (dn c q).toInt64 = E at hB
  generalize hx0 : dn c q = x0 at hg
  refine Cl_go e_X5_bitsOfShare (Nat.le_of_ble_eq_true rfl) rfl ?_; intro P hP; refine hP _ _ _ _ ?_; (conv => whnf)
  refine ⟨fun _ => ?_, fun z => absurd (show (0 : Int32) < Op.cmpValue (FP.dcmp x0 FP.dconst0) .g by rw [hg]; decide) z⟩
  refine hP _ _ _ _ ?_; (conv => whnf)
  have lp : ∀ (k i : Nat) (x : Int32) (y : UInt64) (e : Int64), x = nI i → i ≤ 12 → (i : Int) + k = -52 - q → y = dn c (q + i) → e = Int64.ofNat (1023 - i) →
      P 18 [none, none, some (.double y), none, some (.long e), none, some (.int x), none] [] M := by
    intro k
    induction k with
    | zero =>
      intro i x y e hx h12 hi hy he
      subst hx
      have hq : q + i = -52 := by omega
      rw [hq] at hy
      subst hy
      have hN : nrm c (-52) := ⟨h1, h2, by omega, by omega⟩
      obtain ⟨o, ho1, ho2⟩ := dn_ge1 hN
      have hf := frac hN
      have hn1 : vf_n64 (FP.dsub (dn c (-52)) FP.dconst1) := by
        by_cases hv : c - 2 ^ 52 = 0
        · rw [dn_sub0 hN hv]; exact n64_0
        · obtain ⟨b1, b2, b3⟩ := nz_b (v := c - 2 ^ 52) (by omega) (by omega)
          rw [dn_sub1 hN (by omega)]
          exact n64_dn ⟨b2, b3, by omega, by omega⟩
      have hn2 : vf_n64 (FP.dmul (FP.dsub (dn c (-52)) FP.dconst1) (UInt64.ofNat (9682739198846566401 / 2))) := by
        by_cases hv : c - 2 ^ 52 = 0
        · rw [dn_sub0 hN hv, mul0]; exact n64_0
        · obtain ⟨b1, b2, b3⟩ := nz_b (v := c - 2 ^ 52) (by omega) (by omega)
          rw [dn_sub1 hN (by omega), dn_mul52 ⟨b2, b3, by omega, by omega⟩ (by omega)]
          exact n64_dn ⟨b2, b3, by omega, by omega⟩
      have hz : e = Int64.ofNat (q + 1075).toNat := by rw [he]; congr 1; omega
      subst hz
      refine hP _ _ _ _ ?_; (conv => whnf)
      refine b2 i 1000 rfl rfl (by omega) (by omega) (fun (z : 1000 ≤ i) => by omega) (fun _ => ?_); (conv => whnf)
      refine ⟨fun _ => ?_, fun z => absurd (show (0 : Int32) ≤ Op.cmpValue (FP.dcmp (dn c (-52)) FP.dconst1) .g by rw [ho1]; cases o with | lt => exact absurd rfl ho2 | eq => decide | gt => decide) z⟩
      refine hP _ _ _ _ ?_; (conv => whnf)
      refine ⟨hn1, ?_⟩; (conv => whnf)
      refine ⟨hn2, ?_⟩; (conv => whnf)
      refine ⟨rfl, rfl, rL ?_, rfl⟩
      rw [← hB, ← hf]
      rfl
    | succ k ih =>
      intro i x y e hx h12 hi hy he
      subst hx
      have hN : nrm c (q + i) := ⟨h1, h2, by omega, by omega⟩
      have hlt := dn_lt1 hN (by omega)
      have hm := dn_mul2 hN (by omega)
      have hn := n64_dn (c := c) (q := q + i + 1) ⟨h1, h2, by omega, by omega⟩
      rw [← hm] at hn
      rw [← hy] at hlt hm hn
      refine hP _ _ _ _ ?_; (conv => whnf)
      refine b2 i 1000 rfl rfl (by omega) (by omega) (fun (z : 1000 ≤ i) => by omega) (fun _ => ?_); (conv => whnf)
      refine ⟨fun z => absurd z (show ¬ (0 : Int32) ≤ Op.cmpValue (FP.dcmp y FP.dconst1) .g by rw [hlt]; decide), fun _ => ?_⟩; (conv => whnf)
      refine ⟨hn, ?_⟩; (conv => whnf)
      refine ih (i + 1) _ _ _ (nI_1 i) (by omega) (by omega) ?_ ?_
      · rw [hm]; congr 1; omega
      · show e - Int64.ofNat 1 = _
        rw [he, show 1023 - i = (1023 - (i + 1)) + 1 by omega, ex_s]
  exact lp (-52 - q).toNat 0 _ x0 _ rfl (by omega) (by omega) (by rw [← hx0]; congr 1; omega) rfl
theorem s_bits (cl : List rl_C) : Cl (d + 1) kX5_bitsOfShare [.double (shX cl)] M (rJ (shX cl).toInt64) M := by
  rcases shX_cases cl with h | ⟨c, q, h, h1, h2, h3, h4⟩
  · rw [h]; exact s_bits0
  · rw [h]; exact s_bits1 h1 h2 h3 h4
theorem k_share (h : dcOK cl D.1) : Cl (d + 3) kX0_shareOfLikeliest [.ref 39] (cM now snap rows sv buf rd D H R sc hs ln) (.inl (some (.double (shX cl)))) (cM now snap rows sv buf rd D H R sc hs ln) := by
  have hT : D.1.1 = dT cl := h.1
  have hv := shX_n64 cl
  have hj : ∀ j, j < 27 → D.1.2.2.1 j < 2 ^ 31 := fun j hj => ie31 h j hj
  by_cases h0 : dT cl = 0
  · rw [show shX cl = FP.dconst0 from if_pos h0]
    exact Cl_rd [39, 40, 41, 42, 43, 44] (s_share0 (T := D.1.1) (fr := D.2.1) (ca := D.1.2.1) (ie := D.1.2.2.1) (wh := D.1.2.2.2.1) (hb := D.1.2.2.2.2) (so := D.2.2) (by rw [hT]; exact h0)) 6 rfl rfl ⟨rfl, rfl, rfl, rfl, rfl, rfl, trivial⟩
  · have e : shX cl = FP.ddiv (FP.i2d (nI (D.1.2.2.1 (amx D.1.2.2.1 26)))) (FP.i2d (nI D.1.1)) := by
      have e1 : amx D.1.2.2.1 26 = amx (dIE cl) 26 := amx_congr 26 (fun j hj => h.2.2.1 j (by omega))
      have e2 := amx_le (dIE cl) 26
      rw [e1, h.2.2.1 _ (by omega), hT]
      exact if_neg h0
    rw [e] at hv ⊢
    exact Cl_rd [39, 40, 41, 42, 43, 44] (s_share1 (T := D.1.1) (fr := D.2.1) (ca := D.1.2.1) (ie := D.1.2.2.1) (wh := D.1.2.2.2.1) (hb := D.1.2.2.2.2) (so := D.2.2) hj (by rw [hT]; omega) (by rw [hT]; exact dT31 cl) hv) 6 rfl rfl ⟨rfl, rfl, rfl, rfl, rfl, rfl, trivial⟩
end X5S
