/-! the reference: looks -/
theorem RM_of {vT vM vS vL vP vW vR vF vB : Int32} {aS aH aN aX aR aD aW aI aQ aL : IA} {A : AS} (h : rfR aS aH vM aN vS aX vL A) : RM vT ((rfM vT aS aH vM aN vS aX vL vP vW aR vR aD vF aW aI aQ aL vB)) A := ⟨aS, aH, vM, aN, vS, aX, vL, vP, vW, aR, vR, aD, vF, aW, aI, aQ, aL, vB, rfl, h⟩
theorem RO_ok {tc : Nat → Nat} {k d : Nat} {M M' : Mem} {av : List Value} {x : Value} {A : AS} (h : Cl d k (.ref 0 :: av) M (.inl (some x)) M') (hR : RM (nI 0) M' A) : RO tc k d M av (.inl (some x), A) := ⟨x, nI 0, M', h, hR, rfl, rfl⟩
theorem RO_er {tc : Nat → Nat} {k d e : Nat} {M M' : Mem} {av : List Value} {x : Value} {A : AS} (h : Cl d k (.ref 0 :: av) M (.inl (some x)) M') (hR : RM (nI (tc e)) M' A) : RO tc k d M av (.inr e, A) := ⟨x, nI (tc e), M', h, hR, rfl⟩
def tc0 : Nat → Nat := fun _ => 1
/-- index 1, state 2 -/
def tc01 : Nat → Nat := fun e => e + 1
/-- argument 1, state 2 -/
def tc21 : Nat → Nat := fun e => if e = 2 then 1 else 2
theorem it_ok {f : IA} {a : SA} (h : stM f a) : itr (hq a.2.1 3) 3 = true := h.2.2.2.2.2.2.1.2
section M17
variable {d : Nat} {vT vM vS vL vP vW vR vF vB : Int32} {aS aH aN aX aR aD aW aI aQ aL : IA} {A : AS} {tc : Nat → Nat}
theorem m_clues (h : rfR aS aH vM aN vS aX vL A) : RO tc kX6_clues (d + 12) ((rfM vT aS aH vM aN vS aX vL vP vW aR vR aD vF aW aI aQ aL vB)) [] (spClues A) := by
  refine RO_ok (M' := (rfM (nI 0) aS aH vM aN vS aX vL vP vW aR vR aD vF aW aI aQ aL vB)) ?_ (RM_of (vT := nI 0) (aS := aS) (aH := aH) (vM := vM) (aN := aN) (vS := vS) (aX := aX) (vL := vL) (vP := vP) (vW := vW) (aR := aR) (vR := vR) (aD := aD) (vF := vF) (aW := aW) (aI := aI) (aQ := aQ) (aL := aL) (vB := vB) h)
  · refine Cl_go e_X6_clues (Nat.le_of_ble_eq_true rfl) rfl ?_; intro P hP; refine hP _ _ _ _ ?_; (conv => whnf)
    refine ⟨⟨rfl, rfl⟩, ?_⟩; (conv => whnf)
    refine ⟨vi (n := 0) rfl (by decide) (by decide), ?_⟩; (conv => whnf)
    exact ⟨rfl, ⟨.int, rfl, rfl⟩, rI (h.1.1.1), rfl⟩
theorem m_savedStates (h : rfR aS aH vM aN vS aX vL A) : RO tc kX6_savedStates (d + 12) ((rfM vT aS aH vM aN vS aX vL vP vW aR vR aD vF aW aI aQ aL vB)) [] (spSaved A) := by
  refine RO_ok (M' := (rfM (nI 0) aS aH vM aN vS aX vL vP vW aR vR aD vF aW aI aQ aL vB)) ?_ (RM_of (vT := nI 0) (aS := aS) (aH := aH) (vM := vM) (aN := aN) (vS := vS) (aX := aX) (vL := vL) (vP := vP) (vW := vW) (aR := aR) (vR := vR) (aD := aD) (vF := vF) (aW := aW) (aI := aI) (aQ := aQ) (aL := aL) (vB := vB) h)
  · refine Cl_go e_X6_savedStates (Nat.le_of_ble_eq_true rfl) rfl ?_; intro P hP; refine hP _ _ _ _ ?_; (conv => whnf)
    refine ⟨⟨rfl, rfl⟩, ?_⟩; (conv => whnf)
    exact ⟨rfl, ⟨.int, rfl, rfl⟩, rI (h.2.2.1), rfl⟩
theorem m_hasStopped (h : rfR aS aH vM aN vS aX vL A) : RO tc kX6_hasStopped (d + 12) ((rfM vT aS aH vM aN vS aX vL vP vW aR vR aD vF aW aI aQ aL vB)) [] (spStopped A) := by
  refine RO_ok (M' := (rfM (nI 0) aS aH vM aN vS aX vL vP vW aR vR aD vF aW aI aQ aL vB)) ?_ (RM_of (vT := nI 0) (aS := aS) (aH := aH) (vM := vM) (aN := aN) (vS := vS) (aX := aX) (vL := vL) (vP := vP) (vW := vW) (aR := aR) (vR := vR) (aD := aD) (vF := vF) (aW := aW) (aI := aI) (aQ := aQ) (aL := aL) (vB := vB) h)
  have h1 := h.1.2.2.1
  refine Cl_go e_X6_hasStopped (Nat.le_of_ble_eq_true rfl) rfl ?_; intro P hP; refine hP _ _ _ _ ?_; (conv => whnf)
  refine ⟨⟨rfl, rfl⟩, ?_⟩; (conv => whnf)
  refine ⟨vi (n := 1) rfl (by decide) (by decide), ?_⟩; (conv => whnf)
  by_cases h0 : A.1.2.2.2 = 0
  · rw [if_pos h0] at h1
    refine ⟨fun _ => ?_, fun z => absurd (show aS 1 = cst (-1) from h1) z⟩
    refine hP _ _ _ _ ?_; (conv => whnf)
    refine hP _ _ _ _ ?_; (conv => whnf)
    exact ⟨rfl, ⟨.boolean, rfl, rfl⟩, rI (by rw [nbt h0]; rfl), rfl⟩
  · rw [if_neg h0] at h1
    have hp := h.1.2.2.2.2.2.2.2.1
    refine ⟨fun z => absurd (h1.symm.trans (show aS 1 = cst (-1) from z)) (nI_m1 (by omega)), fun _ => ?_⟩; (conv => whnf)
    refine hP _ _ _ _ ?_; (conv => whnf)
    exact ⟨rfl, ⟨.boolean, rfl, rfl⟩, rI (by rw [nbf h0]; rfl), rfl⟩
theorem m_stoppedPart (h : rfR aS aH vM aN vS aX vL A) : RO tc0 kX6_stoppedPart (d + 12) ((rfM vT aS aH vM aN vS aX vL vP vW aR vR aD vF aW aI aQ aL vB)) [] (spPart A) := by
  have h1 := h.1.2.2.1
  have h2 := h.1.2.2.2.1
  unfold spPart
  by_cases h0 : A.1.2.2.2 = 0
  · rw [if_pos h0] at h1 ⊢
    refine RO_er (x := .int (nI 0)) (M' := (rfM (nI 1) aS aH vM aN vS aX vL vP vW aR vR aD vF aW aI aQ aL vB)) ?_ (RM_of (vT := nI 1) (aS := aS) (aH := aH) (vM := vM) (aN := aN) (vS := vS) (aX := aX) (vL := vL) (vP := vP) (vW := vW) (aR := aR) (vR := vR) (aD := aD) (vF := vF) (aW := aW) (aI := aI) (aQ := aQ) (aL := aL) (vB := vB) h)
    refine Cl_go e_X6_stoppedPart (Nat.le_of_ble_eq_true rfl) rfl ?_; intro P hP; refine hP _ _ _ _ ?_; (conv => whnf)
    refine ⟨⟨rfl, rfl⟩, ?_⟩; (conv => whnf)
    refine ⟨vi (n := 1) rfl (by decide) (by decide), ?_⟩; (conv => whnf)
    refine ⟨fun z => absurd (show aS 1 = cst (-1) from h1) z, fun _ => ?_⟩; (conv => whnf)
    refine ⟨Nat.le_of_ble_eq_true rfl, rfl, ?_⟩; (conv => whnf)
    refine Or.inl ⟨_, _, m_fails (d := d + 10) (vT := nI 0) (aS := aS) (aH := aH) (vM := vM) (aN := aN) (vS := vS) (aX := aX) (vL := vL) (vP := vP) (vW := vW) (aR := aR) (vR := vR) (aD := aD) (vF := vF) (aW := aW) (aI := aI) (aQ := aQ) (aL := aL) (vB := vB) (x := nI 1), ?_⟩; (conv => whnf)
    refine hP _ _ _ _ ?_; (conv => whnf)
    exact ⟨rfl, ⟨.int, rfl, rfl⟩, rfl, rfl⟩
  · rw [if_neg h0] at h1 ⊢
    have hp := h.1.2.2.2.2.2.2.2.1
    refine RO_ok (M' := (rfM (nI 0) aS aH vM aN vS aX vL vP vW aR vR aD vF aW aI aQ aL vB)) ?_ (RM_of (vT := nI 0) (aS := aS) (aH := aH) (vM := vM) (aN := aN) (vS := vS) (aX := aX) (vL := vL) (vP := vP) (vW := vW) (aR := aR) (vR := vR) (aD := aD) (vF := vF) (aW := aW) (aI := aI) (aQ := aQ) (aL := aL) (vB := vB) h)
    refine Cl_go e_X6_stoppedPart (Nat.le_of_ble_eq_true rfl) rfl ?_; intro P hP; refine hP _ _ _ _ ?_; (conv => whnf)
    refine ⟨⟨rfl, rfl⟩, ?_⟩; (conv => whnf)
    refine ⟨vi (n := 1) rfl (by decide) (by decide), ?_⟩; (conv => whnf)
    refine ⟨fun _ => ?_, fun z => absurd (h1.symm.trans (show aS 1 = cst (-1) from Decidable.of_not_not z)) (nI_m1 (by omega))⟩
    refine hP _ _ _ _ ?_; (conv => whnf)
    refine ⟨vi (n := 1) rfl (by decide) (by decide), ?_⟩; (conv => whnf)
    refine hP _ _ _ _ ?_; (conv => whnf)
    exact ⟨rfl, ⟨.int, rfl, rfl⟩, rI (h1), rfl⟩
theorem m_whyStopped (h : rfR aS aH vM aN vS aX vL A) : RO tc0 kX6_whyStopped (d + 12) ((rfM vT aS aH vM aN vS aX vL vP vW aR vR aD vF aW aI aQ aL vB)) [] (spWhy A) := by
  have h1 := h.1.2.2.1
  have h2 := h.1.2.2.2.1
  unfold spWhy
  by_cases h0 : A.1.2.2.2 = 0
  · rw [if_pos h0] at h1 ⊢
    refine RO_er (x := .int (nI 0)) (M' := (rfM (nI 1) aS aH vM aN vS aX vL vP vW aR vR aD vF aW aI aQ aL vB)) ?_ (RM_of (vT := nI 1) (aS := aS) (aH := aH) (vM := vM) (aN := aN) (vS := vS) (aX := aX) (vL := vL) (vP := vP) (vW := vW) (aR := aR) (vR := vR) (aD := aD) (vF := vF) (aW := aW) (aI := aI) (aQ := aQ) (aL := aL) (vB := vB) h)
    refine Cl_go e_X6_whyStopped (Nat.le_of_ble_eq_true rfl) rfl ?_; intro P hP; refine hP _ _ _ _ ?_; (conv => whnf)
    refine ⟨⟨rfl, rfl⟩, ?_⟩; (conv => whnf)
    refine ⟨vi (n := 1) rfl (by decide) (by decide), ?_⟩; (conv => whnf)
    refine ⟨fun z => absurd (show aS 1 = cst (-1) from h1) z, fun _ => ?_⟩; (conv => whnf)
    refine ⟨Nat.le_of_ble_eq_true rfl, rfl, ?_⟩; (conv => whnf)
    refine Or.inl ⟨_, _, m_fails (d := d + 10) (vT := nI 0) (aS := aS) (aH := aH) (vM := vM) (aN := aN) (vS := vS) (aX := aX) (vL := vL) (vP := vP) (vW := vW) (aR := aR) (vR := vR) (aD := aD) (vF := vF) (aW := aW) (aI := aI) (aQ := aQ) (aL := aL) (vB := vB) (x := nI 1), ?_⟩; (conv => whnf)
    refine hP _ _ _ _ ?_; (conv => whnf)
    exact ⟨rfl, ⟨.int, rfl, rfl⟩, rfl, rfl⟩
  · rw [if_neg h0] at h1 ⊢
    have hp := h.1.2.2.2.2.2.2.2.1
    refine RO_ok (M' := (rfM (nI 0) aS aH vM aN vS aX vL vP vW aR vR aD vF aW aI aQ aL vB)) ?_ (RM_of (vT := nI 0) (aS := aS) (aH := aH) (vM := vM) (aN := aN) (vS := vS) (aX := aX) (vL := vL) (vP := vP) (vW := vW) (aR := aR) (vR := vR) (aD := aD) (vF := vF) (aW := aW) (aI := aI) (aQ := aQ) (aL := aL) (vB := vB) h)
    refine Cl_go e_X6_whyStopped (Nat.le_of_ble_eq_true rfl) rfl ?_; intro P hP; refine hP _ _ _ _ ?_; (conv => whnf)
    refine ⟨⟨rfl, rfl⟩, ?_⟩; (conv => whnf)
    refine ⟨vi (n := 1) rfl (by decide) (by decide), ?_⟩; (conv => whnf)
    refine ⟨fun _ => ?_, fun z => absurd (h1.symm.trans (show aS 1 = cst (-1) from Decidable.of_not_not z)) (nI_m1 (by omega))⟩
    refine hP _ _ _ _ ?_; (conv => whnf)
    refine ⟨vi (n := 2) rfl (by decide) (by decide), ?_⟩; (conv => whnf)
    refine hP _ _ _ _ ?_; (conv => whnf)
    exact ⟨rfl, ⟨.int, rfl, rfl⟩, rI (h2), rfl⟩
theorem m_trueEnvelope (h : rfR aS aH vM aN vS aX vL A) : RO tc kX6_trueEnvelope (d + 12) ((rfM vT aS aH vM aN vS aX vL vP vW aR vR aD vF aW aI aQ aL vB)) [] (spEnv A) := by
  refine RO_ok (M' := (rfM (nI 0) aS aH vM aN vS aX vL vP vW aR vR (hdM A.1.2.1 9 aD) vF aW aI aQ aL vB)) ?_ (RM_of (vT := nI 0) (aS := aS) (aH := aH) (vM := vM) (aN := aN) (vS := vS) (aX := aX) (vL := vL) (vP := vP) (vW := vW) (aR := aR) (vR := vR) (aD := hdM A.1.2.1 9 aD) (vF := vF) (aW := aW) (aI := aI) (aQ := aQ) (aL := aL) (vB := vB) h)
  refine Cl_go e_X6_trueEnvelope (Nat.le_of_ble_eq_true rfl) rfl ?_; intro P hP; refine hP _ _ _ _ ?_; (conv => whnf)
  refine ⟨⟨rfl, rfl⟩, ?_⟩; (conv => whnf)
  refine ⟨Nat.le_of_ble_eq_true rfl, rfl, ?_⟩; (conv => whnf)
  refine Or.inl ⟨_, _, m_masterTriple (d := d + 9) (vT := nI 0) (aS := aS) (aH := aH) (vM := vM) (aN := aN) (vS := vS) (aX := aX) (vL := vL) (vP := vP) (vW := vW) (aR := aR) (vR := vR) (aD := aD) (vF := vF) (aW := aW) (aI := aI) (aQ := aQ) (aL := aL) (vB := vB) h.1.2.1 (it_ok h.1), ?_⟩; (conv => whnf)
  exact ⟨rfl, ⟨.int, rfl, rfl⟩, rfl, rfl⟩
theorem m_untrueClues (h : rfR aS aH vM aN vS aX vL A) : RO tc kX6_untrueClues (d + 12) ((rfM vT aS aH vM aN vS aX vL vP vW aR vR aD vF aW aI aQ aL vB)) [] (spUntrue A) := by
  obtain ⟨hd, hk⟩ := m_untrueMany (d := d + 7) (vT := nI 0) (aS := aS) (aH := aH) (vM := vM) (aN := aN) (vS := vS) (aX := aX) (vL := vL) (vP := vP) (vW := vW) (aR := aR) (vR := vR) (aD := aD) (vF := vF) (aW := aW) (aI := aI) (aQ := aQ) (aL := aL) (vB := vB) (cl := A.1.1) (q := A.1.2.1) h.1.1 h.1.2.1 (it_ok h.1)
  refine RO_ok (M' := (rfM (nI 0) aS aH vM aN vS aX vL vP vW aR vR hd vF aW aI aQ aL vB)) ?_ (RM_of (vT := nI 0) (aS := aS) (aH := aH) (vM := vM) (aN := aN) (vS := vS) (aX := aX) (vL := vL) (vP := vP) (vW := vW) (aR := aR) (vR := vR) (aD := hd) (vF := vF) (aW := aW) (aI := aI) (aQ := aQ) (aL := aL) (vB := vB) h)
  refine Cl_go e_X6_untrueClues (Nat.le_of_ble_eq_true rfl) rfl ?_; intro P hP; refine hP _ _ _ _ ?_; (conv => whnf)
  refine ⟨⟨rfl, rfl⟩, ?_⟩; (conv => whnf)
  refine ⟨Nat.le_of_ble_eq_true rfl, rfl, ?_⟩; (conv => whnf)
  refine Or.inl ⟨_, _, hk, ?_⟩; (conv => whnf)
  exact ⟨rfl, ⟨.int, rfl, rfl⟩, rfl, rfl⟩
theorem m_deals (h : rfR aS aH vM aN vS aX vL A) : RO tc kX6_deals (d + 12) ((rfM vT aS aH vM aN vS aX vL vP vW aR vR aD vF aW aI aQ aL vB)) [] (sp0 A (nI (dT A.1.1))) := by
  obtain ⟨hd, hk⟩ := m_goesF (d := d + 7) (vT := nI 0) (aS := aS) (aH := aH) (vM := vM) (aN := aN) (vS := vS) (aX := aX) (vL := vL) (vP := vP) (vW := vW) (aR := aR) (vR := vR) (aD := aD) (vF := vF) (aW := aW) (aI := aI) (aQ := aQ) (aL := aL) (vB := vB) (cl := A.1.1) (w := 20) h.1.1 (Or.inl ⟨rfl, rfl⟩)
  rw [goN_T h.1.1.2.2.1 h.1.1.2.1] at hk
  refine RO_ok (M' := (rfM (nI 0) aS aH vM aN vS aX vL vP vW aR vR hd vF aW aI aQ aL vB)) ?_ (RM_of (vT := nI 0) (aS := aS) (aH := aH) (vM := vM) (aN := aN) (vS := vS) (aX := aX) (vL := vL) (vP := vP) (vW := vW) (aR := aR) (vR := vR) (aD := hd) (vF := vF) (aW := aW) (aI := aI) (aQ := aQ) (aL := aL) (vB := vB) h)
  refine Cl_go e_X6_deals (Nat.le_of_ble_eq_true rfl) rfl ?_; intro P hP; refine hP _ _ _ _ ?_; (conv => whnf)
  refine ⟨⟨rfl, rfl⟩, ?_⟩; (conv => whnf)
  refine ⟨Nat.le_of_ble_eq_true rfl, rfl, ?_⟩; (conv => whnf)
  refine Or.inl ⟨_, _, hk, ?_⟩; (conv => whnf)
  exact ⟨rfl, ⟨.int, rfl, rfl⟩, rfl, rfl⟩
theorem m_dealsByHands (h : rfR aS aH vM aN vS aX vL A) : RO tc kX6_dealsByHands (d + 12) ((rfM vT aS aH vM aN vS aX vL vP vW aR vR aD vF aW aI aQ aL vB)) [] (sp0 A (nI (dT A.1.1))) := by
  obtain ⟨hd, hk⟩ := m_goesF (d := d + 7) (vT := nI 0) (aS := aS) (aH := aH) (vM := vM) (aN := aN) (vS := vS) (aX := aX) (vL := vL) (vP := vP) (vW := vW) (aR := aR) (vR := vR) (aD := aD) (vF := vF) (aW := aW) (aI := aI) (aQ := aQ) (aL := aL) (vB := vB) (cl := A.1.1) (w := 20) h.1.1 (Or.inl ⟨rfl, rfl⟩)
  rw [goN_T h.1.1.2.2.1 h.1.1.2.1] at hk
  refine RO_ok (M' := (rfM (nI 0) aS aH vM aN vS aX vL vP vW aR vR hd vF aW aI aQ aL vB)) ?_ (RM_of (vT := nI 0) (aS := aS) (aH := aH) (vM := vM) (aN := aN) (vS := vS) (aX := aX) (vL := vL) (vP := vP) (vW := vW) (aR := aR) (vR := vR) (aD := hd) (vF := vF) (aW := aW) (aI := aI) (aQ := aQ) (aL := aL) (vB := vB) h)
  refine Cl_go e_X6_dealsByHands (Nat.le_of_ble_eq_true rfl) rfl ?_; intro P hP; refine hP _ _ _ _ ?_; (conv => whnf)
  refine ⟨⟨rfl, rfl⟩, ?_⟩; (conv => whnf)
  refine ⟨Nat.le_of_ble_eq_true rfl, rfl, ?_⟩; (conv => whnf)
  refine Or.inl ⟨_, _, hk, ?_⟩; (conv => whnf)
  exact ⟨rfl, ⟨.int, rfl, rfl⟩, rfl, rfl⟩
theorem m_idleClues (h : rfR aS aH vM aN vS aX vL A) : RO tc kX6_idleClues (d + 12) ((rfM vT aS aH vM aN vS aX vL vP vW aR vR aD vF aW aI aQ aL vB)) [] (sp0 A (nI (cntN (fun k => Nat.beq (dT A.1.1 + dHB A.1.1 k) (dT A.1.1)) A.1.1.length))) := by
  obtain ⟨hd, hk⟩ := m_idleMany (d := d + 6) (vT := nI 0) (aS := aS) (aH := aH) (vM := vM) (aN := aN) (vS := vS) (aX := aX) (vL := vL) (vP := vP) (vW := vW) (aR := aR) (vR := vR) (aD := aD) (vF := vF) (aW := aW) (aI := aI) (aQ := aQ) (aL := aL) (vB := vB) (cl := A.1.1) h.1.1
  refine RO_ok (M' := (rfM (nI 0) aS aH vM aN vS aX vL vP vW aR vR hd vF aW aI aQ aL vB)) ?_ (RM_of (vT := nI 0) (aS := aS) (aH := aH) (vM := vM) (aN := aN) (vS := vS) (aX := aX) (vL := vL) (vP := vP) (vW := vW) (aR := aR) (vR := vR) (aD := hd) (vF := vF) (aW := aW) (aI := aI) (aQ := aQ) (aL := aL) (vB := vB) h)
  refine Cl_go e_X6_idleClues (Nat.le_of_ble_eq_true rfl) rfl ?_; intro P hP; refine hP _ _ _ _ ?_; (conv => whnf)
  refine ⟨⟨rfl, rfl⟩, ?_⟩; (conv => whnf)
  refine ⟨Nat.le_of_ble_eq_true rfl, rfl, ?_⟩; (conv => whnf)
  refine Or.inl ⟨_, _, hk, ?_⟩; (conv => whnf)
  exact ⟨rfl, ⟨.int, rfl, rfl⟩, rfl, rfl⟩
theorem m_certainCards (h : rfR aS aH vM aN vS aX vL A) : RO tc kX6_certainCards (d + 12) ((rfM vT aS aH vM aN vS aX vL vP vW aR vR aD vF aW aI aQ aL vB)) [] (sp0 A (nI (cntN (fun c => spB (dT A.1.1) (dCA A.1.1 c)) 9))) := by
  obtain ⟨hd, lf, lw, li, lp, hk, hs⟩ := m_surveys (d := d + 6) (vT := nI 0) (aS := aS) (aH := aH) (vM := vM) (aN := aN) (vS := vS) (aX := aX) (vL := vL) (vP := vP) (vW := vW) (aR := aR) (vR := vR) (aD := aD) (vF := vF) (aW := aW) (aI := aI) (aQ := aQ) (aL := aL) (vB := vB) (cl := A.1.1) h.1.1
  refine RO_ok (M' := (rfM (nI 0) aS aH vM aN vS aX vL vP vW aR vR hd lf lw li lp aL vB)) ?_ (RM_of (vT := nI 0) (aS := aS) (aH := aH) (vM := vM) (aN := aN) (vS := vS) (aX := aX) (vL := vL) (vP := vP) (vW := vW) (aR := aR) (vR := vR) (aD := hd) (vF := lf) (aW := lw) (aI := li) (aQ := lp) (aL := aL) (vB := vB) h)
  refine Cl_go e_X6_certainCards (Nat.le_of_ble_eq_true rfl) rfl ?_; intro P hP; refine hP _ _ _ _ ?_; (conv => whnf)
  refine ⟨⟨rfl, rfl⟩, ?_⟩; (conv => whnf)
  refine ⟨Nat.le_of_ble_eq_true rfl, rfl, ?_⟩; (conv => whnf)
  refine Or.inl ⟨_, _, hk, ?_⟩; (conv => whnf)
  refine ⟨Nat.le_of_ble_eq_true rfl, rfl, ?_⟩; (conv => whnf)
  refine Or.inl ⟨_, _, m_certainMany (d := d + 9) (vT := nI 0) (aS := aS) (aH := aH) (vM := vM) (aN := aN) (vS := vS) (aX := aX) (vL := vL) (vP := vP) (vW := vW) (aR := aR) (vR := vR) (aD := hd) (vF := lf) (aW := lw) (aI := li) (aQ := lp) (aL := aL) (vB := vB) hs, ?_⟩; (conv => whnf)
  exact ⟨rfl, ⟨.int, rfl, rfl⟩, rfl, rfl⟩
theorem m_envelopes (h : rfR aS aH vM aN vS aX vL A) : RO tc kX6_envelopes (d + 12) ((rfM vT aS aH vM aN vS aX vL vP vW aR vR aD vF aW aI aQ aL vB)) [] (sp0 A (nI (cntN (fun t => Nat.blt 0 (dIE A.1.1 t)) 27))) := by
  obtain ⟨hd, lf, lw, li, lp, hk, hs⟩ := m_surveys (d := d + 6) (vT := nI 0) (aS := aS) (aH := aH) (vM := vM) (aN := aN) (vS := vS) (aX := aX) (vL := vL) (vP := vP) (vW := vW) (aR := aR) (vR := vR) (aD := aD) (vF := vF) (aW := aW) (aI := aI) (aQ := aQ) (aL := aL) (vB := vB) (cl := A.1.1) h.1.1
  refine RO_ok (M' := (rfM (nI 0) aS aH vM aN vS aX vL vP vW aR vR hd lf lw li lp aL vB)) ?_ (RM_of (vT := nI 0) (aS := aS) (aH := aH) (vM := vM) (aN := aN) (vS := vS) (aX := aX) (vL := vL) (vP := vP) (vW := vW) (aR := aR) (vR := vR) (aD := hd) (vF := lf) (aW := lw) (aI := li) (aQ := lp) (aL := aL) (vB := vB) h)
  refine Cl_go e_X6_envelopes (Nat.le_of_ble_eq_true rfl) rfl ?_; intro P hP; refine hP _ _ _ _ ?_; (conv => whnf)
  refine ⟨⟨rfl, rfl⟩, ?_⟩; (conv => whnf)
  refine ⟨Nat.le_of_ble_eq_true rfl, rfl, ?_⟩; (conv => whnf)
  refine Or.inl ⟨_, _, hk, ?_⟩; (conv => whnf)
  refine ⟨Nat.le_of_ble_eq_true rfl, rfl, ?_⟩; (conv => whnf)
  refine Or.inl ⟨_, _, m_envelopeMany (d := d + 10) (vT := nI 0) (aS := aS) (aH := aH) (vM := vM) (aN := aN) (vS := vS) (aX := aX) (vL := vL) (vP := vP) (vW := vW) (aR := aR) (vR := vR) (aD := hd) (vF := lf) (aW := lw) (aI := li) (aQ := lp) (aL := aL) (vB := vB) hs, ?_⟩; (conv => whnf)
  exact ⟨rfl, ⟨.int, rfl, rfl⟩, rfl, rfl⟩
theorem m_isSolved (h : rfR aS aH vM aN vS aX vL A) : RO tc kX6_isSolved (d + 12) ((rfM vT aS aH vM aN vS aX vL vP vW aR vR aD vF aW aI aQ aL vB)) [] (sp0 A (bI (Nat.beq (cntN (fun t => Nat.blt 0 (dIE A.1.1 t)) 27) 1))) := by
  obtain ⟨hd, lf, lw, li, lp, hk, hs⟩ := m_surveys (d := d + 6) (vT := nI 0) (aS := aS) (aH := aH) (vM := vM) (aN := aN) (vS := vS) (aX := aX) (vL := vL) (vP := vP) (vW := vW) (aR := aR) (vR := vR) (aD := aD) (vF := vF) (aW := aW) (aI := aI) (aQ := aQ) (aL := aL) (vB := vB) (cl := A.1.1) h.1.1
  refine RO_ok (M' := (rfM (nI 0) aS aH vM aN vS aX vL vP vW aR vR hd lf lw li lp aL vB)) ?_ (RM_of (vT := nI 0) (aS := aS) (aH := aH) (vM := vM) (aN := aN) (vS := vS) (aX := aX) (vL := vL) (vP := vP) (vW := vW) (aR := aR) (vR := vR) (aD := hd) (vF := lf) (aW := lw) (aI := li) (aQ := lp) (aL := aL) (vB := vB) h)
  have hle := cntN_le (fun t => Nat.blt 0 (dIE A.1.1 t)) 27
  refine Cl_go e_X6_isSolved (Nat.le_of_ble_eq_true rfl) rfl ?_; intro P hP; refine hP _ _ _ _ ?_; (conv => whnf)
  refine ⟨⟨rfl, rfl⟩, ?_⟩; (conv => whnf)
  refine ⟨Nat.le_of_ble_eq_true rfl, rfl, ?_⟩; (conv => whnf)
  refine Or.inl ⟨_, _, hk, ?_⟩; (conv => whnf)
  refine ⟨Nat.le_of_ble_eq_true rfl, rfl, ?_⟩; (conv => whnf)
  refine Or.inl ⟨_, _, m_envelopeMany (d := d + 10) (vT := nI 0) (aS := aS) (aH := aH) (vM := vM) (aN := aN) (vS := vS) (aX := aX) (vL := vL) (vP := vP) (vW := vW) (aR := aR) (vR := vR) (aD := hd) (vF := lf) (aW := lw) (aI := li) (aQ := lp) (aL := aL) (vB := vB) hs, ?_⟩; (conv => whnf)
  refine b2 (cntN (fun t => Nat.blt 0 (dIE A.1.1 t)) 27) 1 rfl rfl (by omega) (by omega) (fun (q : ¬ cntN (fun t => Nat.blt 0 (dIE A.1.1 t)) 27 = 1) => ?_) (fun (q : ¬ ¬ cntN (fun t => Nat.blt 0 (dIE A.1.1 t)) 27 = 1) => ?_)
  · refine hP _ _ _ _ ?_; (conv => whnf)
    refine hP _ _ _ _ ?_; (conv => whnf)
    exact ⟨rfl, ⟨.boolean, rfl, rfl⟩, rI (by rw [nbf q]; rfl), rfl⟩
  · (conv => whnf)
    refine hP _ _ _ _ ?_; (conv => whnf)
    exact ⟨rfl, ⟨.boolean, rfl, rfl⟩, rI (by rw [nbt (Decidable.of_not_not q)]; rfl), rfl⟩
theorem m_isBroken (h : rfR aS aH vM aN vS aX vL A) : RO tc kX6_isBroken (d + 12) ((rfM vT aS aH vM aN vS aX vL vP vW aR vR aD vF aW aI aQ aL vB)) [] (sp0 A (bI (shB A.1.1))) := by
  obtain ⟨u, hk, hu⟩ := m_rules (d := d + 6) (vT := nI 0) (aS := aS) (aH := aH) (vM := vM) (aN := aN) (vS := vS) (aX := aX) (vL := vL) (vP := vP) (vW := vW) (aR := aR) (vR := vR) (aD := aD) (vF := vF) (aW := aW) (aI := aI) (aQ := aQ) (aL := aL) (vB := vB) (cl := A.1.1) h.1.1
  refine RO_ok (M' := (rfM (nI 0) aS aH vM aN vS aX vL vP vW aR vR aD vF aW aI aQ (nA u) (bI (shB A.1.1)))) ?_ (RM_of (vT := nI 0) (aS := aS) (aH := aH) (vM := vM) (aN := aN) (vS := vS) (aX := aX) (vL := vL) (vP := vP) (vW := vW) (aR := aR) (vR := vR) (aD := aD) (vF := vF) (aW := aW) (aI := aI) (aQ := aQ) (aL := nA u) (vB := bI (shB A.1.1)) h)
  refine Cl_go e_X6_isBroken (Nat.le_of_ble_eq_true rfl) rfl ?_; intro P hP; refine hP _ _ _ _ ?_; (conv => whnf)
  refine ⟨⟨rfl, rfl⟩, ?_⟩; (conv => whnf)
  refine ⟨Nat.le_of_ble_eq_true rfl, rfl, ?_⟩; (conv => whnf)
  refine Or.inl ⟨_, _, hk, ?_⟩; (conv => whnf)
  exact ⟨rfl, ⟨.boolean, rfl, b01⟩, rfl, rfl⟩
theorem m_crossedOff (h : rfR aS aH vM aN vS aX vL A) : RO tc kX6_crossedOff (d + 12) ((rfM vT aS aH vM aN vS aX vL vP vW aR vR aD vF aW aI aQ aL vB)) [] (sp0 A (nI 36 - nI (rl_sum 9 (shW A.1.1)))) := by
  obtain ⟨u, hk, hu⟩ := m_crossedMany (d := d + 5) (vT := nI 0) (aS := aS) (aH := aH) (vM := vM) (aN := aN) (vS := vS) (aX := aX) (vL := vL) (vP := vP) (vW := vW) (aR := aR) (vR := vR) (aD := aD) (vF := vF) (aW := aW) (aI := aI) (aQ := aQ) (aL := aL) (vB := vB) (cl := A.1.1) h.1.1
  refine RO_ok (M' := (rfM (nI 0) aS aH vM aN vS aX vL vP vW aR vR aD vF aW aI aQ (nA u) (bI (shB A.1.1)))) ?_ (RM_of (vT := nI 0) (aS := aS) (aH := aH) (vM := vM) (aN := aN) (vS := vS) (aX := aX) (vL := vL) (vP := vP) (vW := vW) (aR := aR) (vR := vR) (aD := aD) (vF := vF) (aW := aW) (aI := aI) (aQ := aQ) (aL := nA u) (vB := bI (shB A.1.1)) h)
  refine Cl_go e_X6_crossedOff (Nat.le_of_ble_eq_true rfl) rfl ?_; intro P hP; refine hP _ _ _ _ ?_; (conv => whnf)
  refine ⟨⟨rfl, rfl⟩, ?_⟩; (conv => whnf)
  refine ⟨Nat.le_of_ble_eq_true rfl, rfl, ?_⟩; (conv => whnf)
  refine Or.inl ⟨_, _, hk, ?_⟩; (conv => whnf)
  exact ⟨rfl, ⟨.int, rfl, rfl⟩, rfl, rfl⟩
theorem hid_eq (a b : Nat) : nI 36 - (nI 36 - nI a) - nI b = nI a - nI b := by
  have e : nI 36 - (nI 36 - nI a) = nI a := by rw [Int32.sub_eq_add_neg, Int32.neg_sub, Int32.add_comm, Int32.sub_add_cancel]
  rw [e]
theorem m_hidden {cl : List rl_C} (hc : clS aS cl) : ∃ (hd : IA) (lf : Int32) (lw li lp : IA) (u : NA), Cl (d + 8) kX6_hidden [.ref 0] ((rfM vT aS aH vM aN vS aX vL vP vW aR vR aD vF aW aI aQ aL vB)) (rV (nI (rl_sum 9 (shW cl)) - nI (cntN (fun j => Nat.blt 0 (dCA cl (j / 4) (j % 4))) 36))) ((rfM vT aS aH vM aN vS aX vL vP vW aR vR hd lf lw li lp (nA u) (bI (shB cl)))) := by
  obtain ⟨hd, lf, lw, li, lp, hk, hs⟩ := m_surveys (d := d + 2) (vT := vT) (aS := aS) (aH := aH) (vM := vM) (aN := aN) (vS := vS) (aX := aX) (vL := vL) (vP := vP) (vW := vW) (aR := aR) (vR := vR) (aD := aD) (vF := vF) (aW := aW) (aI := aI) (aQ := aQ) (aL := aL) (vB := vB) (cl := cl) hc
  obtain ⟨u, hk2, hu⟩ := m_crossedMany (d := d + 1) (vT := vT) (aS := aS) (aH := aH) (vM := vM) (aN := aN) (vS := vS) (aX := aX) (vL := vL) (vP := vP) (vW := vW) (aR := aR) (vR := vR) (aD := hd) (vF := lf) (aW := lw) (aI := li) (aQ := lp) (aL := aL) (vB := vB) (cl := cl) hc
  refine ⟨hd, lf, lw, li, lp, u, ?_⟩
  refine Cl_go e_X6_hidden (Nat.le_of_ble_eq_true rfl) rfl ?_; intro P hP; refine hP _ _ _ _ ?_; (conv => whnf)
  refine ⟨Nat.le_of_ble_eq_true rfl, rfl, ?_⟩; (conv => whnf)
  refine Or.inl ⟨_, _, hk, ?_⟩; (conv => whnf)
  refine ⟨Nat.le_of_ble_eq_true rfl, rfl, ?_⟩; (conv => whnf)
  refine Or.inl ⟨_, _, hk2, ?_⟩; (conv => whnf)
  refine ⟨Nat.le_of_ble_eq_true rfl, rfl, ?_⟩; (conv => whnf)
  refine Or.inl ⟨_, _, m_mayMany (d := d + 6) (vT := vT) (aS := aS) (aH := aH) (vM := vM) (aN := aN) (vS := vS) (aX := aX) (vL := vL) (vP := vP) (vW := vW) (aR := aR) (vR := vR) (aD := hd) (vF := lf) (aW := lw) (aI := li) (aQ := lp) (aL := nA u) (vB := bI (shB cl)) hs, ?_⟩; (conv => whnf)
  exact ⟨rfl, ⟨.int, rfl, rfl⟩, rI (hid_eq _ _), rfl⟩
theorem m_hiddenCrosses (h : rfR aS aH vM aN vS aX vL A) : RO tc kX6_hiddenCrosses (d + 12) ((rfM vT aS aH vM aN vS aX vL vP vW aR vR aD vF aW aI aQ aL vB)) [] (sp0 A (nI (rl_sum 9 (shW A.1.1)) - nI (cntN (fun j => Nat.blt 0 (dCA A.1.1 (j / 4) (j % 4))) 36))) := by
  obtain ⟨hd, lf, lw, li, lp, u, hk⟩ := m_hidden (d := d + 3) (vT := nI 0) (aS := aS) (aH := aH) (vM := vM) (aN := aN) (vS := vS) (aX := aX) (vL := vL) (vP := vP) (vW := vW) (aR := aR) (vR := vR) (aD := aD) (vF := vF) (aW := aW) (aI := aI) (aQ := aQ) (aL := aL) (vB := vB) (cl := A.1.1) h.1.1
  refine RO_ok (M' := (rfM (nI 0) aS aH vM aN vS aX vL vP vW aR vR hd lf lw li lp (nA u) (bI (shB A.1.1)))) ?_ (RM_of (vT := nI 0) (aS := aS) (aH := aH) (vM := vM) (aN := aN) (vS := vS) (aX := aX) (vL := vL) (vP := vP) (vW := vW) (aR := aR) (vR := vR) (aD := hd) (vF := lf) (aW := lw) (aI := li) (aQ := lp) (aL := nA u) (vB := bI (shB A.1.1)) h)
  refine Cl_go e_X6_hiddenCrosses (Nat.le_of_ble_eq_true rfl) rfl ?_; intro P hP; refine hP _ _ _ _ ?_; (conv => whnf)
  refine ⟨⟨rfl, rfl⟩, ?_⟩; (conv => whnf)
  refine ⟨Nat.le_of_ble_eq_true rfl, rfl, ?_⟩; (conv => whnf)
  refine Or.inl ⟨_, _, hk, ?_⟩; (conv => whnf)
  exact ⟨rfl, ⟨.int, rfl, rfl⟩, rfl, rfl⟩
theorem m_bestAccusation (h : rfR aS aH vM aN vS aX vL A) : RO tc0 kX6_bestAccusation (d + 12) ((rfM vT aS aH vM aN vS aX vL vP vW aR vR aD vF aW aI aQ aL vB)) [] (spBestA A) := by
  obtain ⟨hd, lf, lw, li, lp, hk, hs⟩ := m_surveys (d := d + 6) (vT := nI 0) (aS := aS) (aH := aH) (vM := vM) (aN := aN) (vS := vS) (aX := aX) (vL := vL) (vP := vP) (vW := vW) (aR := aR) (vR := vR) (aD := aD) (vF := vF) (aW := aW) (aI := aI) (aQ := aQ) (aL := aL) (vB := vB) (cl := A.1.1) h.1.1
  have hT := dT31 A.1.1
  unfold spBestA
  by_cases h0 : dT A.1.1 = 0
  · rw [if_pos h0]
    refine RO_er (x := .int (nI 0)) (M' := (rfM (nI 1) aS aH vM aN vS aX vL vP vW aR vR hd lf lw li lp aL vB)) ?_ (RM_of (vT := nI 1) (aS := aS) (aH := aH) (vM := vM) (aN := aN) (vS := vS) (aX := aX) (vL := vL) (vP := vP) (vW := vW) (aR := aR) (vR := vR) (aD := hd) (vF := lf) (aW := lw) (aI := li) (aQ := lp) (aL := aL) (vB := vB) h)
    refine Cl_go e_X6_bestAccusation (Nat.le_of_ble_eq_true rfl) rfl ?_; intro P hP; refine hP _ _ _ _ ?_; (conv => whnf)
    refine ⟨⟨rfl, rfl⟩, ?_⟩; (conv => whnf)
    refine ⟨Nat.le_of_ble_eq_true rfl, rfl, ?_⟩; (conv => whnf)
    refine Or.inl ⟨_, _, hk, ?_⟩; (conv => whnf)
    refine b1 (dT A.1.1) hs.1 hT (fun (q : ¬ dT A.1.1 = 0) => absurd h0 q) (fun _ => ?_); (conv => whnf)
    refine ⟨Nat.le_of_ble_eq_true rfl, rfl, ?_⟩; (conv => whnf)
    refine Or.inl ⟨_, _, m_fails (d := d + 10) (vT := nI 0) (aS := aS) (aH := aH) (vM := vM) (aN := aN) (vS := vS) (aX := aX) (vL := vL) (vP := vP) (vW := vW) (aR := aR) (vR := vR) (aD := hd) (vF := lf) (aW := lw) (aI := li) (aQ := lp) (aL := aL) (vB := vB) (x := nI 1), ?_⟩; (conv => whnf)
    refine hP _ _ _ _ ?_; (conv => whnf)
    exact ⟨rfl, ⟨.int, rfl, rfl⟩, rfl, rfl⟩
  · rw [if_neg h0]
    refine RO_ok (M' := (rfM (nI 0) aS aH vM aN vS aX vL vP vW aR vR hd lf lw li lp aL vB)) ?_ (RM_of (vT := nI 0) (aS := aS) (aH := aH) (vM := vM) (aN := aN) (vS := vS) (aX := aX) (vL := vL) (vP := vP) (vW := vW) (aR := aR) (vR := vR) (aD := hd) (vF := lf) (aW := lw) (aI := li) (aQ := lp) (aL := aL) (vB := vB) h)
    refine Cl_go e_X6_bestAccusation (Nat.le_of_ble_eq_true rfl) rfl ?_; intro P hP; refine hP _ _ _ _ ?_; (conv => whnf)
    refine ⟨⟨rfl, rfl⟩, ?_⟩; (conv => whnf)
    refine ⟨Nat.le_of_ble_eq_true rfl, rfl, ?_⟩; (conv => whnf)
    refine Or.inl ⟨_, _, hk, ?_⟩; (conv => whnf)
    refine b1 (dT A.1.1) hs.1 hT (fun _ => ?_) (fun (q : ¬ ¬ dT A.1.1 = 0) => absurd h0 q)
    refine hP _ _ _ _ ?_; (conv => whnf)
    refine ⟨Nat.le_of_ble_eq_true rfl, rfl, ?_⟩; (conv => whnf)
    refine Or.inl ⟨_, _, m_bestIn (d := d + 10) (vT := nI 0) (aS := aS) (aH := aH) (vM := vM) (aN := aN) (vS := vS) (aX := aX) (vL := vL) (vP := vP) (vW := vW) (aR := aR) (vR := vR) (aD := hd) (vF := lf) (aW := lw) (aI := li) (aQ := lp) (aL := aL) (vB := vB) hs, ?_⟩; (conv => whnf)
    refine hP _ _ _ _ ?_; (conv => whnf)
    exact ⟨rfl, ⟨.int, rfl, rfl⟩, rfl, rfl⟩
end M17
