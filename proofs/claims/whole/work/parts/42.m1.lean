/-! the reference: its cells, and its small calls -/
def rfM (vT : Int32) (aS : IA) (aH : IA) (vM : Int32) (aN : IA) (vS : Int32) (aX : IA) (vL : Int32) (vP : Int32) (vW : Int32) (aR : IA) (vR : Int32) (aD : IA) (vF : Int32) (aW : IA) (aI : IA) (aQ : IA) (aL : IA) (vB : Int32) : Mem :=
  [eO 6 [.int vT, .ref 1, .ref 2, .int vM, .ref 3, .int vS, .ref 4, .int vL, .int vP, .int vW, .ref 5, .int vR, .ref 6, .int vF, .ref 7, .ref 8, .ref 9, .ref 10, .int vB],
   eI 72 aS, eI 360 aH, eI 72 aN, eI 60 aX, eI 93 aR, eI 4 aD, eI 36 aW, eI 27 aI, eI 81 aQ, eI 9 aL]
section M1
variable {d : Nat} {vT vM vS vL vP vW vR vF vB : Int32} {aS aH aN aX aR aD aW aI aQ aL : IA}
theorem m_in_t {v a b : Int32} (h1 : ¬ v < a) (h2 : ¬ b < v) : Cl (d + 1) kX6_in [.int v, .int a, .int b] [] (rV (bI true)) [] := by
  refine Cl_go e_X6_in (Nat.le_of_ble_eq_true rfl) rfl ?_; intro P hP; refine hP _ _ _ _ ?_; (conv => whnf)
  refine ⟨fun (q : v < a) => absurd q h1, fun _ => ?_⟩; (conv => whnf)
  refine ⟨fun (q : b < v) => absurd q h2, fun _ => ?_⟩; (conv => whnf)
  refine hP _ _ _ _ ?_; (conv => whnf)
  exact ⟨rfl, ⟨.boolean, rfl, rfl⟩, rfl, rfl⟩
theorem m_in_f {v a b : Int32} (h : v < a ∨ b < v) : Cl (d + 1) kX6_in [.int v, .int a, .int b] [] (rV (bI false)) [] := by
  refine Cl_go e_X6_in (Nat.le_of_ble_eq_true rfl) rfl ?_; intro P hP; refine hP _ _ _ _ ?_; (conv => whnf)
  refine ⟨fun (q : v < a) => ?_, fun (q : ¬ v < a) => ?_⟩
  · refine hP _ _ _ _ ?_; (conv => whnf)
    refine hP _ _ _ _ ?_; (conv => whnf)
    exact ⟨rfl, ⟨.boolean, rfl, rfl⟩, rfl, rfl⟩
  · (conv => whnf)
    refine ⟨fun (q2 : b < v) => ?_, fun (q2 : ¬ b < v) => ?_⟩
    · refine hP _ _ _ _ ?_; (conv => whnf)
      refine hP _ _ _ _ ?_; (conv => whnf)
      exact ⟨rfl, ⟨.boolean, rfl, rfl⟩, rfl, rfl⟩
    · rcases h with h | h
      · exact absurd h q
      · exact absurd h q2
theorem lt_of_ge {x : Int32} {n : Nat} (h0 : 0 < n) (hn : n < 2 ^ 31) (h : nI n ≤ x) : nI (n - 1) < x :=
  Int32.lt_of_lt_of_le (nI_lt (show n - 1 < n by omega) hn) h
theorem m_isCard_t {c : Nat} (hc : c < 9) : Cl (d + 2) kX6_isCard [.int (nI c)] [] (rV (bI true)) [] := by
  refine Cl_go e_X6_isCard (Nat.le_of_ble_eq_true rfl) rfl ?_; intro P hP; refine hP _ _ _ _ ?_; (conv => whnf)
  refine ⟨Nat.le_of_ble_eq_true rfl, rfl, ?_⟩; (conv => whnf)
  refine Or.inl ⟨_, _, m_in_t (nI_pos (show c < 2 ^ 31 by omega)) (nI_nlt (show c ≤ 8 by omega) (by decide)), ?_⟩; (conv => whnf)
  exact ⟨rfl, ⟨.boolean, rfl, rfl⟩, rfl, rfl⟩
theorem m_isCard_f {x : Int32} (h : out x 9) : Cl (d + 2) kX6_isCard [.int x] [] (rV (bI false)) [] := by
  refine Cl_go e_X6_isCard (Nat.le_of_ble_eq_true rfl) rfl ?_; intro P hP; refine hP _ _ _ _ ?_; (conv => whnf)
  refine ⟨Nat.le_of_ble_eq_true rfl, rfl, ?_⟩; (conv => whnf)
  refine Or.inl ⟨_, _, m_in_f (h.imp (fun q => q) (lt_of_ge (n := 9) (by decide) (by decide))), ?_⟩; (conv => whnf)
  exact ⟨rfl, ⟨.boolean, rfl, rfl⟩, rfl, rfl⟩
theorem m_isPlayer_t {c : Nat} (hc : c < 3) : Cl (d + 2) kX6_isPlayer [.int (nI c)] [] (rV (bI true)) [] := by
  refine Cl_go e_X6_isPlayer (Nat.le_of_ble_eq_true rfl) rfl ?_; intro P hP; refine hP _ _ _ _ ?_; (conv => whnf)
  refine ⟨Nat.le_of_ble_eq_true rfl, rfl, ?_⟩; (conv => whnf)
  refine Or.inl ⟨_, _, m_in_t (nI_pos (show c < 2 ^ 31 by omega)) (nI_nlt (show c ≤ 2 by omega) (by decide)), ?_⟩; (conv => whnf)
  exact ⟨rfl, ⟨.boolean, rfl, rfl⟩, rfl, rfl⟩
theorem m_isPlayer_f {x : Int32} (h : out x 3) : Cl (d + 2) kX6_isPlayer [.int x] [] (rV (bI false)) [] := by
  refine Cl_go e_X6_isPlayer (Nat.le_of_ble_eq_true rfl) rfl ?_; intro P hP; refine hP _ _ _ _ ?_; (conv => whnf)
  refine ⟨Nat.le_of_ble_eq_true rfl, rfl, ?_⟩; (conv => whnf)
  refine Or.inl ⟨_, _, m_in_f (h.imp (fun q => q) (lt_of_ge (n := 3) (by decide) (by decide))), ?_⟩; (conv => whnf)
  exact ⟨rfl, ⟨.boolean, rfl, rfl⟩, rfl, rfl⟩
theorem m_isTriple_t {c : Nat} (hc : c < 27) : Cl (d + 2) kX6_isTriple [.int (nI c)] [] (rV (bI true)) [] := by
  refine Cl_go e_X6_isTriple (Nat.le_of_ble_eq_true rfl) rfl ?_; intro P hP; refine hP _ _ _ _ ?_; (conv => whnf)
  refine ⟨Nat.le_of_ble_eq_true rfl, rfl, ?_⟩; (conv => whnf)
  refine Or.inl ⟨_, _, m_in_t (nI_pos (show c < 2 ^ 31 by omega)) (nI_nlt (show c ≤ 26 by omega) (by decide)), ?_⟩; (conv => whnf)
  exact ⟨rfl, ⟨.boolean, rfl, rfl⟩, rfl, rfl⟩
theorem m_isTriple_f {x : Int32} (h : out x 27) : Cl (d + 2) kX6_isTriple [.int x] [] (rV (bI false)) [] := by
  refine Cl_go e_X6_isTriple (Nat.le_of_ble_eq_true rfl) rfl ?_; intro P hP; refine hP _ _ _ _ ?_; (conv => whnf)
  refine ⟨Nat.le_of_ble_eq_true rfl, rfl, ?_⟩; (conv => whnf)
  refine Or.inl ⟨_, _, m_in_f (h.imp (fun q => q) (lt_of_ge (n := 27) (by decide) (by decide))), ?_⟩; (conv => whnf)
  exact ⟨rfl, ⟨.boolean, rfl, rfl⟩, rfl, rfl⟩
theorem m_areOf_t {a b c : Nat} (ha : a < 3) (hb : 3 ≤ b ∧ b < 6) (hc : 6 ≤ c ∧ c < 9) : Cl (d + 2) kX6_areOf [.int (nI a), .int (nI b), .int (nI c)] [] (rV (bI true)) [] := by
  refine Cl_go e_X6_areOf (Nat.le_of_ble_eq_true rfl) rfl ?_; intro P hP; refine hP _ _ _ _ ?_; (conv => whnf)
  refine ⟨Nat.le_of_ble_eq_true rfl, rfl, ?_⟩; (conv => whnf)
  refine Or.inl ⟨_, _, m_in_t (nI_pos (show a < 2 ^ 31 by omega)) (nI_nlt (show a ≤ 2 by omega) (by decide)), ?_⟩; (conv => whnf)
  refine b1 1 rfl (by omega) (fun (q : 1 = 0) => by omega) (fun _ => ?_); (conv => whnf)
  refine ⟨Nat.le_of_ble_eq_true rfl, rfl, ?_⟩; (conv => whnf)
  refine Or.inl ⟨_, _, m_in_t (nI_nlt hb.1 (show b < 2 ^ 31 by omega)) (nI_nlt (show b ≤ 5 by omega) (by decide)), ?_⟩; (conv => whnf)
  refine b1 1 rfl (by omega) (fun (q : 1 = 0) => by omega) (fun _ => ?_); (conv => whnf)
  refine ⟨Nat.le_of_ble_eq_true rfl, rfl, ?_⟩; (conv => whnf)
  refine Or.inl ⟨_, _, m_in_t (nI_nlt hc.1 (show c < 2 ^ 31 by omega)) (nI_nlt (show c ≤ 8 by omega) (by decide)), ?_⟩; (conv => whnf)
  refine b1 1 rfl (by omega) (fun (q : 1 = 0) => by omega) (fun _ => ?_); (conv => whnf)
  refine hP _ _ _ _ ?_; (conv => whnf)
  exact ⟨rfl, ⟨.boolean, rfl, rfl⟩, rfl, rfl⟩
theorem m_areOf_f {s t r : Int32} (h : badC s t r) : Cl (d + 2) kX6_areOf [.int s, .int t, .int r] [] (rV (bI false)) [] := by
  refine Cl_go e_X6_areOf (Nat.le_of_ble_eq_true rfl) rfl ?_; intro P hP; refine hP _ _ _ _ ?_; (conv => whnf)
  have f33 : P 33 [none, none, none] [] [] := by
    refine hP _ _ _ _ ?_; (conv => whnf)
    refine hP _ _ _ _ ?_; (conv => whnf)
    exact ⟨rfl, ⟨.boolean, rfl, rfl⟩, rfl, rfl⟩
  refine ⟨Nat.le_of_ble_eq_true rfl, rfl, ?_⟩; (conv => whnf)
  rcases in_out s (n := 3) (by decide) with hs | ⟨a, ha, rfl⟩
  · refine Or.inl ⟨_, _, m_in_f (hs.imp (fun q => q) (lt_of_ge (n := 3) (by decide) (by decide))), ?_⟩; (conv => whnf)
    refine b1 0 rfl (by omega) (fun _ => f33) (fun (q : ¬ 0 = 0) => by omega)
  · refine Or.inl ⟨_, _, m_in_t (nI_pos (show a < 2 ^ 31 by omega)) (nI_nlt (show a ≤ 2 by omega) (by decide)), ?_⟩; (conv => whnf)
    refine b1 1 rfl (by omega) (fun (q : 1 = 0) => by omega) (fun _ => ?_); (conv => whnf)
    refine ⟨Nat.le_of_ble_eq_true rfl, rfl, ?_⟩; (conv => whnf)
    rcases in_out2 t 3 (b := 6) (by decide) (by decide) with ht | ⟨b, hb, rfl⟩
    · refine Or.inl ⟨_, _, m_in_f (ht.imp (fun q => q) (lt_of_ge (n := 6) (by decide) (by decide))), ?_⟩; (conv => whnf)
      refine b1 0 rfl (by omega) (fun _ => f33) (fun (q : ¬ 0 = 0) => by omega)
    · refine Or.inl ⟨_, _, m_in_t (nI_nlt hb.1 (show b < 2 ^ 31 by omega)) (nI_nlt (show b ≤ 5 by omega) (by decide)), ?_⟩; (conv => whnf)
      refine b1 1 rfl (by omega) (fun (q : 1 = 0) => by omega) (fun _ => ?_); (conv => whnf)
      refine ⟨Nat.le_of_ble_eq_true rfl, rfl, ?_⟩; (conv => whnf)
      have hr : r < nI 6 ∨ nI 9 ≤ r := by
        rcases h with h | h | h
        · rcases h with z | z
          · exact absurd z (nI_pos (show a < 2 ^ 31 by omega))
          · exact absurd z (nI_ge ha (by decide))
        · rcases h with z | z
          · exact absurd z (nI_nlt hb.1 (show b < 2 ^ 31 by omega))
          · exact absurd z (nI_ge hb.2 (by decide))
        · exact h
      refine Or.inl ⟨_, _, m_in_f (hr.imp (fun q => q) (lt_of_ge (n := 9) (by decide) (by decide))), ?_⟩; (conv => whnf)
      refine b1 0 rfl (by omega) (fun _ => f33) (fun (q : ¬ 0 = 0) => by omega)
theorem m_maskOf {t : Nat} (ht : t < 27) : Cl (d + 1) kX6_maskOf [.int (nI t)] [] (rV (nI (dq_mask t))) [] := by
  have e1 : nI t / nI 9 = nI (t / 9) := pk_div (by omega) (by decide) (by decide)
  have e2 : nI t / nI 3 = nI (t / 3) := pk_div (by omega) (by decide) (by decide)
  have e3 : nI (t / 3) - nI (t / 3) / nI 3 * nI 3 = nI (t / 3 % 3) := pk_rem (by omega) (by decide) (by decide)
  have e4 : nI t - nI t / nI 3 * nI 3 = nI (t % 3) := pk_rem (by omega) (by decide) (by decide)
  have e5 : nI 3 + (nI t / nI 3 - nI t / nI 3 / nI 3 * nI 3) = nI (3 + t / 3 % 3) := by rw [e2, e3, nI_add]
  have e6 : nI 6 + (nI t - nI t / nI 3 * nI 3) = nI (6 + t % 3) := by rw [e4, nI_add]
  refine Cl_go e_X6_maskOf (Nat.le_of_ble_eq_true rfl) rfl ?_; intro P hP; refine hP _ _ _ _ ?_; (conv => whnf)
  refine ⟨by decide, ?_⟩; (conv => whnf)
  refine ⟨by decide, ?_⟩; (conv => whnf)
  refine ⟨by decide, ?_⟩; (conv => whnf)
  refine ⟨by decide, ?_⟩; (conv => whnf)
  refine ⟨rfl, ⟨.int, rfl, rfl⟩, rI ?_, rfl⟩
  show nI 1 <<< ((nI t / nI 9) &&& 31) ||| nI 1 <<< ((nI 3 + (nI t / nI 3 - nI t / nI 3 / nI 3 * nI 3)) &&& 31) ||| nI 1 <<< ((nI 6 + (nI t - nI t / nI 3 * nI 3)) &&& 31) = _
  rw [e1, e5, e6, sh_1 (by omega), sh_1 (by omega), sh_1 (by omega), nI_or, nI_or, ← mask_or ht]
theorem m_numbered {a b c : Nat} (ha : a < 3) (hb : 3 ≤ b ∧ b < 6) (hc : 6 ≤ c ∧ c < 9) : Cl (d + 1) kX6_numbered [.int (nI a), .int (nI b), .int (nI c)] [] (rV (nI (9 * a + 3 * (b - 3) + (c - 6)))) [] := by
  refine Cl_go e_X6_numbered (Nat.le_of_ble_eq_true rfl) rfl ?_; intro P hP; refine hP _ _ _ _ ?_; (conv => whnf)
  refine ⟨rfl, ⟨.int, rfl, rfl⟩, rI ?_, rfl⟩
  show nI 9 * nI a + nI 3 * (nI b - nI 3) + nI c - nI 6 = _
  rw [pk_sub hb.1, pk_mul, pk_mul, nI_add, nI_add, pk_sub (by omega)]
  congr 1
  omega
theorem m_fails {x : Int32} : Cl (d + 1) kX6_fails [.ref 0, .int x] ((rfM vT aS aH vM aN vS aX vL vP vW aR vR aD vF aW aI aQ aL vB)) (rV (nI 0)) ((rfM x aS aH vM aN vS aX vL vP vW aR vR aD vF aW aI aQ aL vB)) := by
  refine Cl_go e_X6_fails (Nat.le_of_ble_eq_true rfl) rfl ?_; intro P hP; refine hP _ _ _ _ ?_; (conv => whnf)
  refine ⟨⟨rfl, rfl⟩, ?_⟩; (conv => whnf)
  exact ⟨rfl, ⟨.int, rfl, rfl⟩, rfl, rfl⟩
theorem m_thrown : Cl (d + 1) kX6_thrown [.ref 0] ((rfM vT aS aH vM aN vS aX vL vP vW aR vR aD vF aW aI aQ aL vB)) (rV vT) ((rfM vT aS aH vM aN vS aX vL vP vW aR vR aD vF aW aI aQ aL vB)) := by
  refine Cl_go e_X6_thrown (Nat.le_of_ble_eq_true rfl) rfl ?_; intro P hP; refine hP _ _ _ _ ?_; (conv => whnf)
  exact ⟨rfl, ⟨.int, rfl, rfl⟩, rfl, rfl⟩
theorem m_of {k w : Nat} (hk : k < 20) (hw : w < 3) : Cl (d + 1) kX6_of [.ref 0, .int (nI k), .int (nI w)] ((rfM vT aS aH vM aN vS aX vL vP vW aR vR aD vF aW aI aQ aL vB)) (rV (aS (12 + 3 * k + w))) ((rfM vT aS aH vM aN vS aX vL vP vW aR vR aD vF aW aI aQ aL vB)) := by
  have e : nI 12 + nI 3 * nI k + nI w = nI (12 + 3 * k + w) := by rw [pk_mul, nI_add, nI_add]
  refine Cl_go e_X6_of (Nat.le_of_ble_eq_true rfl) rfl ?_; intro P hP; refine hP _ _ _ _ ?_; (conv => whnf)
  refine ⟨vi (n := 12 + 3 * k + w) e (by omega) (by decide), ?_⟩; (conv => whnf)
  exact ⟨rfl, ⟨.int, rfl, rfl⟩, rI (by show aS (nI 12 + nI 3 * nI k + nI w).toNatClampNeg = _; rw [e, nI_clamp (by omega)]), rfl⟩
theorem m_isClue_t {k n : Nat} (hs : aS 0 = nI n) (hn : n ≤ 20) (hk : k < n) : Cl (d + 2) kX6_isClue [.ref 0, .int (nI k)] ((rfM vT aS aH vM aN vS aX vL vP vW aR vR aD vF aW aI aQ aL vB)) (rV (bI true)) ((rfM vT aS aH vM aN vS aX vL vP vW aR vR aD vF aW aI aQ aL vB)) := by
  refine Cl_go e_X6_isClue (Nat.le_of_ble_eq_true rfl) rfl ?_; intro P hP; refine hP _ _ _ _ ?_; (conv => whnf)
  refine ⟨vi (n := 0) rfl (by decide) (by decide), ?_⟩; (conv => whnf)
  refine ⟨Nat.le_of_ble_eq_true rfl, rfl, ?_⟩; (conv => whnf)
  have e : aS (cst 0).toNatClampNeg - nI 1 = nI (n - 1) := by
    show aS 0 - nI 1 = _
    rw [hs, pk_sub (by omega)]
  have hk2 : ∀ N : Mem, Cl (d + 1) kX6_in [.int (nI k), .int (cst 0), .int (aS (cst 0).toNatClampNeg - nI 1)] N (rV (bI true)) N := fun N => by
    rw [e]; exact Cl_s (m_in_t (nI_pos (show k < 2 ^ 31 by omega)) (nI_nlt (show k ≤ n - 1 by omega) (by omega)))
  refine Or.inl ⟨_, _, hk2 _, ?_⟩; (conv => whnf)
  exact ⟨rfl, ⟨.boolean, rfl, rfl⟩, rfl, rfl⟩
theorem m_isClue_f {x : Int32} {n : Nat} (hs : aS 0 = nI n) (hn : n ≤ 20) (h : out x n) : Cl (d + 2) kX6_isClue [.ref 0, .int x] ((rfM vT aS aH vM aN vS aX vL vP vW aR vR aD vF aW aI aQ aL vB)) (rV (bI false)) ((rfM vT aS aH vM aN vS aX vL vP vW aR vR aD vF aW aI aQ aL vB)) := by
  refine Cl_go e_X6_isClue (Nat.le_of_ble_eq_true rfl) rfl ?_; intro P hP; refine hP _ _ _ _ ?_; (conv => whnf)
  refine ⟨vi (n := 0) rfl (by decide) (by decide), ?_⟩; (conv => whnf)
  refine ⟨Nat.le_of_ble_eq_true rfl, rfl, ?_⟩; (conv => whnf)
  have hk2 : ∀ N : Mem, Cl (d + 1) kX6_in [.int x, .int (cst 0), .int (aS (cst 0).toNatClampNeg - nI 1)] N (rV (bI false)) N := fun N => by
    show Cl (d + 1) kX6_in [.int x, .int (nI 0), .int (aS 0 - nI 1)] N (rV (bI false)) N
    rw [hs]
    refine Cl_s (m_in_f ?_)
    rcases h with h | h
    · exact Or.inl h
    · by_cases h0 : n = 0
      · subst h0
        exact Or.inr (Int32.lt_of_lt_of_le (by decide) h)
      · rw [pk_sub (show 1 ≤ n by omega)]
        exact Or.inr (lt_of_ge (by omega) (by omega) h)
  refine Or.inl ⟨_, _, hk2 _, ?_⟩; (conv => whnf)
  exact ⟨rfl, ⟨.boolean, rfl, rfl⟩, rfl, rfl⟩
end M1
