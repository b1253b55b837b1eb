/-! the reference: a deal counted -/
def lwA (h : Nat → Nat) (n : Nat) (f : IA) : IA := fun j => if j < n then f j + nI (bif (h (j % 4)).testBit (j / 4) then 1 else 0) else f j
def lpA (h : Nat → Nat) (t p : Nat) (f : IA) : IA := fun j => if j < 81 ∧ (j % 27 < t ∨ (j % 27 = t ∧ j / 27 < p)) then f j + nI (bif Nat.beq (h (j / 27) &&& dq_mask (j % 27)) 0 then 1 else 0) else f j
theorem lwA_0 (h : Nat → Nat) (f : IA) : lwA h 0 f = f := by
  funext j; exact if_neg (by omega)
theorem lwA_s {h : Nat → Nat} {n : Nat} (f : IA) : upd (lwA h n f) n (lwA h n f n + nI (bif (h (n % 4)).testBit (n / 4) then 1 else 0)) = lwA h (n + 1) f := by
  funext j
  unfold upd lwA
  by_cases hj : j = n
  · subst hj
    rw [if_pos rfl, if_neg (Nat.lt_irrefl _), if_pos (Nat.lt_succ_self _)]
  · rw [if_neg hj]
    by_cases hl : j < n
    · rw [if_pos hl, if_pos (by omega)]
    · rw [if_neg hl, if_neg (by omega)]
theorem lpA_0 (h : Nat → Nat) (f : IA) : lpA h 0 0 f = f := by
  funext j; exact if_neg (by omega)
theorem lpA_3 (h : Nat → Nat) (t : Nat) (f : IA) : lpA h t 3 f = lpA h (t + 1) 0 f := by
  funext j
  unfold lpA
  by_cases q : j < 81 ∧ (j % 27 < t ∨ (j % 27 = t ∧ j / 27 < 3))
  · rw [if_pos q, if_pos (by omega)]
  · rw [if_neg q, if_neg (by omega)]
theorem lpA_s {h : Nat → Nat} {t p : Nat} (ht : t < 27) (hp : p < 3) (f : IA) : upd (lpA h t p f) (27 * p + t) (lpA h t p f (27 * p + t) + nI (bif Nat.beq (h p &&& dq_mask t) 0 then 1 else 0)) = lpA h t (p + 1) f := by
  funext j
  have e1 : (27 * p + t) % 27 = t := by omega
  have e2 : (27 * p + t) / 27 = p := by omega
  unfold upd lpA
  by_cases hj : j = 27 * p + t
  · subst hj
    rw [if_pos rfl, if_neg (by omega), if_pos (by omega), e1, e2]
  · rw [if_neg hj]
    by_cases hl : j < 81 ∧ (j % 27 < t ∨ (j % 27 = t ∧ j / 27 < p))
    · rw [if_pos hl, if_pos (by omega)]
    · rw [if_neg hl, if_neg (by omega)]
section M3
variable {d : Nat} {vT vM vS vL vP vW vR vF vB : Int32} {aS aH aN aX aR aD aW aI aQ aL : IA}
theorem m_countsDeal {t : Nat} {h : Nat → Nat} (ht : t < 27) (hh : ∀ p, p < 4 → aD p = nI (h p) ∧ h p < 512) :
    Cl (d + 2) kX6_countsDeal [.ref 0, .int (nI t)] ((rfM vT aS aH vM aN vS aX vL vP vW aR vR aD vF aW aI aQ aL vB)) (.inl none) ((rfM vT aS aH vM aN vS aX vL vP vW aR vR aD (vF + nI 1) (lwA h 36 aW) (upd aI t (aI t + nI 1)) (lpA h 27 0 aQ) aL vB)) := by
  have e0 : (nI t).toNatClampNeg = t := nI_clamp (by omega)
  refine Cl_go e_X6_countsDeal (Nat.le_of_ble_eq_true rfl) rfl ?_; intro P hP; refine hP _ _ _ _ ?_; (conv => whnf)
  refine ⟨⟨rfl, rfl⟩, ?_⟩; (conv => whnf)
  refine ⟨vi rfl ht (by decide), ?_⟩; (conv => whnf)
  refine ⟨vi rfl ht (by decide), ?_⟩; (conv => whnf)
  have lp2 : ∀ (n t2 : Nat) (x : Int32) (N : Mem), t2 + n = 27 → x = nI t2 → N = (rfM vT aS aH vM aN vS aX vL vP vW aR vR aD (vF + nI 1) (lwA h 36 aW) (upd aI t (aI t + nI 1)) (lpA h t2 0 aQ) aL vB) → P 72 [some (.ref 0), none, some (.int x), none] [] N := by
    intro n
    induction n with
    | zero =>
      intro t2 x N ht2 hx hN
      subst hN
      have ht2 : t2 = 27 := ht2
      refine hP _ _ _ _ ?_; (conv => whnf)
      refine b2 t2 27 hx rfl (by omega) (by omega) (fun _ => ?_) (fun (q : ¬ 27 ≤ t2) => by omega)
      refine hP _ _ _ _ ?_; (conv => whnf)
      subst ht2
      exact ⟨rfl, rfl, rfl, rfl⟩
    | succ n ih =>
      intro t2 x N ht2 hx hN
      subst hN
      subst hx
      have ht27 : t2 < 27 := by omega
      refine hP _ _ _ _ ?_; (conv => whnf)
      refine b2 t2 27 rfl rfl (by omega) (by omega) (fun (q : 27 ≤ t2) => by omega) (fun _ => ?_); (conv => whnf)
      have inn : ∀ (k p : Nat) (y : Int32) (N : Mem), p + k = 3 → y = nI p → N = (rfM vT aS aH vM aN vS aX vL vP vW aR vR aD (vF + nI 1) (lwA h 36 aW) (upd aI t (aI t + nI 1)) (lpA h t2 p aQ) aL vB) → P 80 [some (.ref 0), none, some (.int (nI t2)), some (.int y)] [] N := by
        intro k
        induction k with
        | zero =>
          intro p y N hp hy hN
          have hp : p = 3 := hp
          subst hN
          refine hP _ _ _ _ ?_; (conv => whnf)
          refine b2 p 3 hy rfl (by omega) (by omega) (fun _ => ?_) (fun (q : ¬ 3 ≤ p) => by omega)
          refine hP _ _ _ _ ?_; (conv => whnf)
          subst hp
          exact ih (t2 + 1) _ _ (by omega) (nI_1 t2) (by rw [lpA_3])
        | succ k ih2 =>
          intro p y N hp hy hN
          subst hN
          subst hy
          have hp3 : p < 3 := by omega
          have ex : cst 27 * nI p + nI t2 = nI (27 * p + t2) := by rw [show cst 27 = nI 27 from rfl, pk_mul, nI_add]
          have eh : aD (nI p).toNatClampNeg = nI (h p) := by rw [nI_clamp (by omega)]; exact (hh p (by omega)).1
          have eu := lpA_s (h := h) ht27 hp3 aQ
          have hlt := Nat.lt_of_le_of_lt (Nat.and_le_left (n := h p) (m := dq_mask t2)) (hh p (by omega)).2
          refine hP _ _ _ _ ?_; (conv => whnf)
          refine b2 p 3 rfl rfl (by omega) (by omega) (fun (q : 3 ≤ p) => by omega) (fun _ => ?_); (conv => whnf)
          refine ⟨vi (n := 27 * p + t2) ex (by omega) (by decide), ?_⟩; (conv => whnf)
          refine ⟨vi rfl (show p < 4 by omega) (by decide), ?_⟩; (conv => whnf)
          refine ⟨Nat.le_of_ble_eq_true rfl, rfl, ?_⟩; (conv => whnf)
          refine Or.inl ⟨_, _, Cl_s (m_maskOf ht27), ?_⟩; (conv => whnf)
          have jn : ∀ b : Bool, b = Nat.beq (h p &&& dq_mask t2) 0 → P 116 [some (.ref 0), none, some (.int (nI t2)), some (.int (nI p))] [.int (bI b), .int (lpA h t2 p aQ (cst 27 * nI p + nI t2).toNatClampNeg), .int (cst 27 * nI p + nI t2), .ref 9] ((rfM vT aS aH vM aN vS aX vL vP vW aR vR aD (vF + nI 1) (lwA h 36 aW) (upd aI t (aI t + nI 1)) (lpA h t2 p aQ) aL vB)) := by
            intro b hb
            refine hP _ _ _ _ ?_; (conv => whnf)
            refine ⟨vi (n := 27 * p + t2) ex (by omega) (by decide), ?_⟩; (conv => whnf)
            refine ih2 (p + 1) _ _ (by omega) (nI_1 p) ?_
            rw [← eu]
            have e9 : upd (lpA h t2 p aQ) (cst 27 * nI p + nI t2).toNatClampNeg (lpA h t2 p aQ (cst 27 * nI p + nI t2).toNatClampNeg + bI b) = upd (lpA h t2 p aQ) (27 * p + t2) (lpA h t2 p aQ (27 * p + t2) + nI (bif Nat.beq (h p &&& dq_mask t2) 0 then 1 else 0)) := by
              rw [ex, nI_clamp (by omega), hb]
              congr 2
              cases Nat.beq (h p &&& dq_mask t2) 0 <;> rfl
            exact congrArg (fun z => (rfM vT aS aH vM aN vS aX vL vP vW aR vR aD (vF + nI 1) (lwA h 36 aW) (upd aI t (aI t + nI 1)) z aL vB)) e9
          refine b1 (h p &&& dq_mask t2) (by show aD (nI p).toNatClampNeg &&& nI (dq_mask t2) = _; rw [eh, nI_and]) (by omega) (fun (q : ¬ h p &&& dq_mask t2 = 0) => ?_) (fun (q : ¬ ¬ h p &&& dq_mask t2 = 0) => ?_)
          · refine hP _ _ _ _ ?_; (conv => whnf)
            exact jn false (nbf q).symm
          · (conv => whnf)
            exact jn true (nbt (Decidable.of_not_not q)).symm
      exact inn 3 0 _ _ rfl rfl rfl
  have lp1 : ∀ (n c : Nat) (x : Int32) (N : Mem), c + n = 9 → x = nI c → N = (rfM vT aS aH vM aN vS aX vL vP vW aR vR aD (vF + nI 1) (lwA h (4 * c) aW) (upd aI t (aI t + nI 1)) aQ aL vB) → P 22 [some (.ref 0), none, some (.int x), none] [] N := by
    intro n
    induction n with
    | zero =>
      intro c x N hc hx hN
      subst hN
      have hc : c = 9 := hc
      subst hc
      refine hP _ _ _ _ ?_; (conv => whnf)
      refine b2 9 9 hx rfl (by omega) (by omega) (fun _ => ?_) (fun (q : ¬ 9 ≤ 9) => by omega)
      refine hP _ _ _ _ ?_; (conv => whnf)
      refine lp2 27 0 _ _ rfl rfl ?_
      rw [lpA_0]
    | succ n ih =>
      intro c x N hc hx hN
      subst hN
      subst hx
      have hc9 : c < 9 := by omega
      refine hP _ _ _ _ ?_; (conv => whnf)
      refine b2 c 9 rfl rfl (by omega) (by omega) (fun (q : 9 ≤ c) => by omega) (fun _ => ?_); (conv => whnf)
      have inn : ∀ (k p : Nat) (y : Int32) (N : Mem), p + k = 4 → y = nI p → N = (rfM vT aS aH vM aN vS aX vL vP vW aR vR aD (vF + nI 1) (lwA h (4 * c + p) aW) (upd aI t (aI t + nI 1)) aQ aL vB) → P 30 [some (.ref 0), none, some (.int (nI c)), some (.int y)] [] N := by
        intro k
        induction k with
        | zero =>
          intro p y N hp hy hN
          have hp : p = 4 := hp
          subst hN
          refine hP _ _ _ _ ?_; (conv => whnf)
          refine b2 p 4 hy rfl (by omega) (by omega) (fun _ => ?_) (fun (q : ¬ 4 ≤ p) => by omega)
          refine hP _ _ _ _ ?_; (conv => whnf)
          subst hp
          exact ih (c + 1) _ _ (by omega) (nI_1 c) rfl
        | succ k ih2 =>
          intro p y N hp hy hN
          subst hN
          subst hy
          have hp4 : p < 4 := by omega
          have ex : cst 4 * nI c + nI p = nI (4 * c + p) := by rw [show cst 4 = nI 4 from rfl, pk_mul, nI_add]
          have eh : aD (nI p).toNatClampNeg = nI (h p) := by rw [nI_clamp (by omega)]; exact (hh p hp4).1
          have eu := lwA_s (h := h) (n := 4 * c + p) aW
          rw [show (4 * c + p) % 4 = p by omega, show (4 * c + p) / 4 = c by omega] at eu
          refine hP _ _ _ _ ?_; (conv => whnf)
          refine b2 p 4 rfl rfl (by omega) (by omega) (fun (q : 4 ≤ p) => by omega) (fun _ => ?_); (conv => whnf)
          refine ⟨vi (n := 4 * c + p) ex (by omega) (by decide), ?_⟩; (conv => whnf)
          refine ⟨vi rfl hp4 (by decide), ?_⟩; (conv => whnf)
          refine ⟨vi (n := 4 * c + p) ex (by omega) (by decide), ?_⟩; (conv => whnf)
          refine ih2 (p + 1) _ _ (by omega) (nI_1 p) ?_
          rw [show 4 * c + (p + 1) = 4 * c + p + 1 from rfl, ← eu]
          have e9 : upd (lwA h (4 * c + p) aW) (cst 4 * nI c + nI p).toNatClampNeg (lwA h (4 * c + p) aW (cst 4 * nI c + nI p).toNatClampNeg + (aD (nI p).toNatClampNeg >>> (nI c &&& 31) &&& nI 1)) = upd (lwA h (4 * c + p) aW) (4 * c + p) (lwA h (4 * c + p) aW (4 * c + p) + nI (bif (h p).testBit c then 1 else 0)) := by
            rw [ex, nI_clamp (by omega), eh, shr_bit (hh p hp4).2 hc9]
          exact congrArg (fun z => (rfM vT aS aH vM aN vS aX vL vP vW aR vR aD (vF + nI 1) z (upd aI t (aI t + nI 1)) aQ aL vB)) e9
      exact inn 4 0 _ _ rfl rfl rfl
  refine lp1 9 0 _ _ rfl rfl ?_
  show (rfM vT aS aH vM aN vS aX vL vP vW aR vR aD (vF + nI 1) aW (upd aI (nI t).toNatClampNeg (aI (nI t).toNatClampNeg + nI 1)) aQ aL vB) = _
  rw [e0, lwA_0]
end M3
