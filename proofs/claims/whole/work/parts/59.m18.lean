/-! the reference: looks with numbers -/
section M18
variable {d : Nat} {vT vM vS vL vP vW vR vF vB : Int32} {aS aH aN aX aR aD aW aI aQ aL : IA} {A : AS} {tc : Nat → Nat}
theorem cl_at {f : IA} {cl : List rl_C} (hc : clS f cl) {k : Nat} (hk : k < cl.length) : f (12 + 3 * k) = nI (cl.getD k (0, 0, 0)).1 ∧ f (12 + 3 * k + 1) = plI (cl.getD k (0, 0, 0)) ∧ f (12 + 3 * k + 2) = nI (cl.getD k (0, 0, 0)).2.2 := by
  have hg : cl[k]? = some cl[k] := List.getElem?_eq_getElem hk
  have hd : cl.getD k (0, 0, 0) = cl[k] := by rw [List.getD_eq_getElem?_getD, hg]; rfl
  obtain ⟨e1, e2, e3⟩ := hc.2.2.2 k _ hg
  rw [hd, show 12 + 3 * k + 1 = 13 + 3 * k by omega, show 12 + 3 * k + 2 = 14 + 3 * k by omega]
  exact ⟨e1, e2, e3⟩
theorem m_in4_t {c : Nat} (hc : c < 4) : Cl (d + 1) kX6_in [.int (nI c), .int (nI 0), .int (nI 3)] [] (rV (bI true)) [] := m_in_t (nI_pos (show c < 2 ^ 31 by omega)) (nI_nlt (show c ≤ 3 by omega) (by decide))
theorem m_in4_f {x : Int32} (h : out x 4) : Cl (d + 1) kX6_in [.int x, .int (nI 0), .int (nI 3)] [] (rV (bI false)) [] := m_in_f (h.imp (fun q => q) (lt_of_ge (n := 4) (by decide) (by decide)))
theorem m_truePlace (h : rfR aS aH vM aN vS aX vL A) (x : Int32) : RO tc0 kX6_truePlace (d + 12) ((rfM vT aS aH vM aN vS aX vL vP vW aR vR aD vF aW aI aQ aL vB)) [.int x] (spPlace A x) := by
  unfold spPlace
  rcases in_out x (n := 9) (by decide) with hx | ⟨c, hc, rfl⟩
  · rw [decN_out hx]
    refine RO_er (x := .int (nI 0)) (M' := (rfM (nI 1) aS aH vM aN vS aX vL vP vW aR vR aD vF aW aI aQ aL vB)) ?_ (RM_of (vT := nI 1) (aS := aS) (aH := aH) (vM := vM) (aN := aN) (vS := vS) (aX := aX) (vL := vL) (vP := vP) (vW := vW) (aR := aR) (vR := vR) (aD := aD) (vF := vF) (aW := aW) (aI := aI) (aQ := aQ) (aL := aL) (vB := vB) h)
    refine Cl_go e_X6_truePlace (Nat.le_of_ble_eq_true rfl) rfl ?_; intro P hP; refine hP _ _ _ _ ?_; (conv => whnf)
    refine ⟨⟨rfl, rfl⟩, ?_⟩; (conv => whnf)
    refine ⟨Nat.le_of_ble_eq_true rfl, rfl, ?_⟩; (conv => whnf)
    refine Or.inl ⟨_, _, Cl_s (m_isCard_f (d := d + 9) hx), ?_⟩; (conv => whnf)
    refine b1 0 rfl (by omega) (fun _ => ?_) (fun (q : ¬ 0 = 0) => by omega)
    refine hP _ _ _ _ ?_; (conv => whnf)
    refine ⟨Nat.le_of_ble_eq_true rfl, rfl, ?_⟩; (conv => whnf)
    refine Or.inl ⟨_, _, m_fails (d := d + 10) (vT := nI 0) (aS := aS) (aH := aH) (vM := vM) (aN := aN) (vS := vS) (aX := aX) (vL := vL) (vP := vP) (vW := vW) (aR := aR) (vR := vR) (aD := aD) (vF := vF) (aW := aW) (aI := aI) (aQ := aQ) (aL := aL) (vB := vB) (x := nI 1), ?_⟩; (conv => whnf)
    refine hP _ _ _ _ ?_; (conv => whnf)
    exact ⟨rfl, ⟨.int, rfl, rfl⟩, rfl, rfl⟩
  · rw [decN_in hc (by decide)]
    have ex : nI 3 + nI c = nI (3 + c) := nI_add _ _
    have ev : aS (nI 3 + nI c).toNatClampNeg = nI (A.1.2.1 c) := by rw [ex, nI_clamp (by omega)]; exact (h.1.2.1 c hc).1
    refine RO_ok (M' := (rfM (nI 0) aS aH vM aN vS aX vL vP vW aR vR aD vF aW aI aQ aL vB)) ?_ (RM_of (vT := nI 0) (aS := aS) (aH := aH) (vM := vM) (aN := aN) (vS := vS) (aX := aX) (vL := vL) (vP := vP) (vW := vW) (aR := aR) (vR := vR) (aD := aD) (vF := vF) (aW := aW) (aI := aI) (aQ := aQ) (aL := aL) (vB := vB) h)
    refine Cl_go e_X6_truePlace (Nat.le_of_ble_eq_true rfl) rfl ?_; intro P hP; refine hP _ _ _ _ ?_; (conv => whnf)
    refine ⟨⟨rfl, rfl⟩, ?_⟩; (conv => whnf)
    refine ⟨Nat.le_of_ble_eq_true rfl, rfl, ?_⟩; (conv => whnf)
    refine Or.inl ⟨_, _, Cl_s (m_isCard_t (d := d + 9) hc), ?_⟩; (conv => whnf)
    refine b1 1 rfl (by omega) (fun (q : 1 = 0) => by omega) (fun _ => ?_); (conv => whnf)
    refine ⟨vi (n := 3 + c) ex (by omega) (by decide), ?_⟩; (conv => whnf)
    refine hP _ _ _ _ ?_; (conv => whnf)
    exact ⟨rfl, ⟨.int, rfl, rfl⟩, rI (ev), rfl⟩
theorem m_tells_t (h : rfR aS aH vM aN vS aX vL A) {k w : Nat} (hk : k < A.1.1.length) (hw : w < 3) : Cl (d + 11) kX6_tells [.ref 0, .int (nI k), .int (nI w)] ((rfM vT aS aH vM aN vS aX vL vP vW aR vR aD vF aW aI aQ aL vB)) (rV (aS (12 + 3 * k + w))) ((rfM (nI 0) aS aH vM aN vS aX vL vP vW aR vR aD vF aW aI aQ aL vB)) := by
  have h20 := h.1.1.2.1
  refine Cl_go e_X6_tells (Nat.le_of_ble_eq_true rfl) rfl ?_; intro P hP; refine hP _ _ _ _ ?_; (conv => whnf)
  refine ⟨⟨rfl, rfl⟩, ?_⟩; (conv => whnf)
  refine ⟨Nat.le_of_ble_eq_true rfl, rfl, ?_⟩; (conv => whnf)
  refine Or.inl ⟨_, _, m_isClue_t (d := d + 8) (vT := nI 0) (aS := aS) (aH := aH) (vM := vM) (aN := aN) (vS := vS) (aX := aX) (vL := vL) (vP := vP) (vW := vW) (aR := aR) (vR := vR) (aD := aD) (vF := vF) (aW := aW) (aI := aI) (aQ := aQ) (aL := aL) (vB := vB) h.1.1.1 h.1.1.2.1 hk, ?_⟩; (conv => whnf)
  refine b1 1 rfl (by omega) (fun (q : 1 = 0) => by omega) (fun _ => ?_); (conv => whnf)
  refine ⟨Nat.le_of_ble_eq_true rfl, rfl, ?_⟩; (conv => whnf)
  refine Or.inl ⟨_, _, m_of (d := d + 9) (vT := nI 0) (aS := aS) (aH := aH) (vM := vM) (aN := aN) (vS := vS) (aX := aX) (vL := vL) (vP := vP) (vW := vW) (aR := aR) (vR := vR) (aD := aD) (vF := vF) (aW := aW) (aI := aI) (aQ := aQ) (aL := aL) (vB := vB) (show k < 20 by omega) hw, ?_⟩; (conv => whnf)
  refine hP _ _ _ _ ?_; (conv => whnf)
  exact ⟨rfl, ⟨.int, rfl, rfl⟩, rfl, rfl⟩
theorem m_tells_f (h : rfR aS aH vM aN vS aX vL A) {x w : Int32} (hx : out x A.1.1.length) : Cl (d + 11) kX6_tells [.ref 0, .int x, .int w] ((rfM vT aS aH vM aN vS aX vL vP vW aR vR aD vF aW aI aQ aL vB)) (rV (nI 0)) ((rfM (nI 1) aS aH vM aN vS aX vL vP vW aR vR aD vF aW aI aQ aL vB)) := by
  refine Cl_go e_X6_tells (Nat.le_of_ble_eq_true rfl) rfl ?_; intro P hP; refine hP _ _ _ _ ?_; (conv => whnf)
  refine ⟨⟨rfl, rfl⟩, ?_⟩; (conv => whnf)
  refine ⟨Nat.le_of_ble_eq_true rfl, rfl, ?_⟩; (conv => whnf)
  refine Or.inl ⟨_, _, m_isClue_f (d := d + 8) (vT := nI 0) (aS := aS) (aH := aH) (vM := vM) (aN := aN) (vS := vS) (aX := aX) (vL := vL) (vP := vP) (vW := vW) (aR := aR) (vR := vR) (aD := aD) (vF := vF) (aW := aW) (aI := aI) (aQ := aQ) (aL := aL) (vB := vB) h.1.1.1 h.1.1.2.1 hx, ?_⟩; (conv => whnf)
  refine b1 0 rfl (by omega) (fun _ => ?_) (fun (q : ¬ 0 = 0) => by omega)
  refine hP _ _ _ _ ?_; (conv => whnf)
  refine ⟨Nat.le_of_ble_eq_true rfl, rfl, ?_⟩; (conv => whnf)
  refine Or.inl ⟨_, _, m_fails (d := d + 9) (vT := nI 0) (aS := aS) (aH := aH) (vM := vM) (aN := aN) (vS := vS) (aX := aX) (vL := vL) (vP := vP) (vW := vW) (aR := aR) (vR := vR) (aD := aD) (vF := vF) (aW := aW) (aI := aI) (aQ := aQ) (aL := aL) (vB := vB) (x := nI 1), ?_⟩; (conv => whnf)
  refine hP _ _ _ _ ?_; (conv => whnf)
  exact ⟨rfl, ⟨.int, rfl, rfl⟩, rfl, rfl⟩
theorem m_kindOf (h : rfR aS aH vM aN vS aX vL A) (x : Int32) : RO tc0 kX6_kindOf (d + 12) ((rfM vT aS aH vM aN vS aX vL vP vW aR vR aD vF aW aI aQ aL vB)) [.int x] (spOf A x (fun k => nI (clG A.1 k).1)) := by
  unfold spOf
  have h20 := h.1.1.2.1
  rcases in_out x (n := A.1.1.length) (by omega) with hx | ⟨k, hk, rfl⟩
  · rw [decN_out hx]
    refine RO_er (x := .int (nI 0)) (M' := (rfM (nI 1) aS aH vM aN vS aX vL vP vW aR vR aD vF aW aI aQ aL vB)) ?_ (RM_of (vT := nI 1) (aS := aS) (aH := aH) (vM := vM) (aN := aN) (vS := vS) (aX := aX) (vL := vL) (vP := vP) (vW := vW) (aR := aR) (vR := vR) (aD := aD) (vF := vF) (aW := aW) (aI := aI) (aQ := aQ) (aL := aL) (vB := vB) h)
    refine Cl_go e_X6_kindOf (Nat.le_of_ble_eq_true rfl) rfl ?_; intro P hP; refine hP _ _ _ _ ?_; (conv => whnf)
    refine ⟨Nat.le_of_ble_eq_true rfl, rfl, ?_⟩; (conv => whnf)
    refine Or.inl ⟨_, _, m_tells_f (d := d) (A := A) h hx, ?_⟩; (conv => whnf)
    exact ⟨rfl, ⟨.int, rfl, rfl⟩, rfl, rfl⟩
  · rw [decN_in hk (by omega)]
    have ev := (cl_at h.1.1 hk).1
    refine RO_ok (M' := (rfM (nI 0) aS aH vM aN vS aX vL vP vW aR vR aD vF aW aI aQ aL vB)) ?_ (RM_of (vT := nI 0) (aS := aS) (aH := aH) (vM := vM) (aN := aN) (vS := vS) (aX := aX) (vL := vL) (vP := vP) (vW := vW) (aR := aR) (vR := vR) (aD := aD) (vF := vF) (aW := aW) (aI := aI) (aQ := aQ) (aL := aL) (vB := vB) h)
    refine Cl_go e_X6_kindOf (Nat.le_of_ble_eq_true rfl) rfl ?_; intro P hP; refine hP _ _ _ _ ?_; (conv => whnf)
    refine ⟨Nat.le_of_ble_eq_true rfl, rfl, ?_⟩; (conv => whnf)
    refine Or.inl ⟨_, _, m_tells_t (d := d) (A := A) (w := 0) h hk (by decide), ?_⟩; (conv => whnf)
    exact ⟨rfl, ⟨.int, rfl, rfl⟩, rI (ev), rfl⟩
theorem m_playerOf (h : rfR aS aH vM aN vS aX vL A) (x : Int32) : RO tc0 kX6_playerOf (d + 12) ((rfM vT aS aH vM aN vS aX vL vP vW aR vR aD vF aW aI aQ aL vB)) [.int x] (spOf A x (fun k => plI (clG A.1 k))) := by
  unfold spOf
  have h20 := h.1.1.2.1
  rcases in_out x (n := A.1.1.length) (by omega) with hx | ⟨k, hk, rfl⟩
  · rw [decN_out hx]
    refine RO_er (x := .int (nI 0)) (M' := (rfM (nI 1) aS aH vM aN vS aX vL vP vW aR vR aD vF aW aI aQ aL vB)) ?_ (RM_of (vT := nI 1) (aS := aS) (aH := aH) (vM := vM) (aN := aN) (vS := vS) (aX := aX) (vL := vL) (vP := vP) (vW := vW) (aR := aR) (vR := vR) (aD := aD) (vF := vF) (aW := aW) (aI := aI) (aQ := aQ) (aL := aL) (vB := vB) h)
    refine Cl_go e_X6_playerOf (Nat.le_of_ble_eq_true rfl) rfl ?_; intro P hP; refine hP _ _ _ _ ?_; (conv => whnf)
    refine ⟨Nat.le_of_ble_eq_true rfl, rfl, ?_⟩; (conv => whnf)
    refine Or.inl ⟨_, _, m_tells_f (d := d) (A := A) h hx, ?_⟩; (conv => whnf)
    exact ⟨rfl, ⟨.int, rfl, rfl⟩, rfl, rfl⟩
  · rw [decN_in hk (by omega)]
    have ev := (cl_at h.1.1 hk).2.1
    refine RO_ok (M' := (rfM (nI 0) aS aH vM aN vS aX vL vP vW aR vR aD vF aW aI aQ aL vB)) ?_ (RM_of (vT := nI 0) (aS := aS) (aH := aH) (vM := vM) (aN := aN) (vS := vS) (aX := aX) (vL := vL) (vP := vP) (vW := vW) (aR := aR) (vR := vR) (aD := aD) (vF := vF) (aW := aW) (aI := aI) (aQ := aQ) (aL := aL) (vB := vB) h)
    refine Cl_go e_X6_playerOf (Nat.le_of_ble_eq_true rfl) rfl ?_; intro P hP; refine hP _ _ _ _ ?_; (conv => whnf)
    refine ⟨Nat.le_of_ble_eq_true rfl, rfl, ?_⟩; (conv => whnf)
    refine Or.inl ⟨_, _, m_tells_t (d := d) (A := A) (w := 1) h hk (by decide), ?_⟩; (conv => whnf)
    exact ⟨rfl, ⟨.int, rfl, rfl⟩, rI (ev), rfl⟩
theorem m_cardsOf (h : rfR aS aH vM aN vS aX vL A) (x : Int32) : RO tc0 kX6_cardsOf (d + 12) ((rfM vT aS aH vM aN vS aX vL vP vW aR vR aD vF aW aI aQ aL vB)) [.int x] (spOf A x (fun k => nI (clG A.1 k).2.2)) := by
  unfold spOf
  have h20 := h.1.1.2.1
  rcases in_out x (n := A.1.1.length) (by omega) with hx | ⟨k, hk, rfl⟩
  · rw [decN_out hx]
    refine RO_er (x := .int (nI 0)) (M' := (rfM (nI 1) aS aH vM aN vS aX vL vP vW aR vR aD vF aW aI aQ aL vB)) ?_ (RM_of (vT := nI 1) (aS := aS) (aH := aH) (vM := vM) (aN := aN) (vS := vS) (aX := aX) (vL := vL) (vP := vP) (vW := vW) (aR := aR) (vR := vR) (aD := aD) (vF := vF) (aW := aW) (aI := aI) (aQ := aQ) (aL := aL) (vB := vB) h)
    refine Cl_go e_X6_cardsOf (Nat.le_of_ble_eq_true rfl) rfl ?_; intro P hP; refine hP _ _ _ _ ?_; (conv => whnf)
    refine ⟨Nat.le_of_ble_eq_true rfl, rfl, ?_⟩; (conv => whnf)
    refine Or.inl ⟨_, _, m_tells_f (d := d) (A := A) h hx, ?_⟩; (conv => whnf)
    exact ⟨rfl, ⟨.int, rfl, rfl⟩, rfl, rfl⟩
  · rw [decN_in hk (by omega)]
    have ev := (cl_at h.1.1 hk).2.2
    refine RO_ok (M' := (rfM (nI 0) aS aH vM aN vS aX vL vP vW aR vR aD vF aW aI aQ aL vB)) ?_ (RM_of (vT := nI 0) (aS := aS) (aH := aH) (vM := vM) (aN := aN) (vS := vS) (aX := aX) (vL := vL) (vP := vP) (vW := vW) (aR := aR) (vR := vR) (aD := aD) (vF := vF) (aW := aW) (aI := aI) (aQ := aQ) (aL := aL) (vB := vB) h)
    refine Cl_go e_X6_cardsOf (Nat.le_of_ble_eq_true rfl) rfl ?_; intro P hP; refine hP _ _ _ _ ?_; (conv => whnf)
    refine ⟨Nat.le_of_ble_eq_true rfl, rfl, ?_⟩; (conv => whnf)
    refine Or.inl ⟨_, _, m_tells_t (d := d) (A := A) (w := 2) h hk (by decide), ?_⟩; (conv => whnf)
    exact ⟨rfl, ⟨.int, rfl, rfl⟩, rI (ev), rfl⟩
theorem m_isTrue (h : rfR aS aH vM aN vS aX vL A) (x : Int32) : RO tc0 kX6_isTrue (d + 12) ((rfM vT aS aH vM aN vS aX vL vP vW aR vR aD vF aW aI aQ aL vB)) [.int x] (spOf A x (fun k => bI (agG A.1 k))) := by
  unfold spOf
  have h20 := h.1.1.2.1
  rcases in_out x (n := A.1.1.length) (by omega) with hx | ⟨k, hk, rfl⟩
  · rw [decN_out hx]
    refine RO_er (x := .int (nI 0)) (M' := (rfM (nI 1) aS aH vM aN vS aX vL vP vW aR vR aD vF aW aI aQ aL vB)) ?_ (RM_of (vT := nI 1) (aS := aS) (aH := aH) (vM := vM) (aN := aN) (vS := vS) (aX := aX) (vL := vL) (vP := vP) (vW := vW) (aR := aR) (vR := vR) (aD := aD) (vF := vF) (aW := aW) (aI := aI) (aQ := aQ) (aL := aL) (vB := vB) h)
    refine Cl_go e_X6_isTrue (Nat.le_of_ble_eq_true rfl) rfl ?_; intro P hP; refine hP _ _ _ _ ?_; (conv => whnf)
    refine ⟨⟨rfl, rfl⟩, ?_⟩; (conv => whnf)
    refine ⟨Nat.le_of_ble_eq_true rfl, rfl, ?_⟩; (conv => whnf)
    refine Or.inl ⟨_, _, m_isClue_f (d := d + 9) (vT := nI 0) (aS := aS) (aH := aH) (vM := vM) (aN := aN) (vS := vS) (aX := aX) (vL := vL) (vP := vP) (vW := vW) (aR := aR) (vR := vR) (aD := aD) (vF := vF) (aW := aW) (aI := aI) (aQ := aQ) (aL := aL) (vB := vB) h.1.1.1 h.1.1.2.1 hx, ?_⟩; (conv => whnf)
    refine b1 0 rfl (by omega) (fun _ => ?_) (fun (q : ¬ 0 = 0) => by omega)
    refine hP _ _ _ _ ?_; (conv => whnf)
    refine ⟨Nat.le_of_ble_eq_true rfl, rfl, ?_⟩; (conv => whnf)
    refine Or.inl ⟨_, _, m_fails (d := d + 10) (vT := nI 0) (aS := aS) (aH := aH) (vM := vM) (aN := aN) (vS := vS) (aX := aX) (vL := vL) (vP := vP) (vW := vW) (aR := aR) (vR := vR) (aD := aD) (vF := vF) (aW := aW) (aI := aI) (aQ := aQ) (aL := aL) (vB := vB) (x := nI 1), ?_⟩; (conv => whnf)
    refine b1 0 rfl (by omega) (fun _ => ?_) (fun (q : ¬ 0 ≤ 0) => by omega)
    refine hP _ _ _ _ ?_; (conv => whnf)
    refine hP _ _ _ _ ?_; (conv => whnf)
    exact ⟨rfl, ⟨.boolean, rfl, rfl⟩, rfl, rfl⟩
  · rw [decN_in hk (by omega)]
    refine RO_ok (M' := (rfM (nI 0) aS aH vM aN vS aX vL vP vW aR vR (hdM A.1.2.1 9 aD) vF aW aI aQ aL vB)) ?_ (RM_of (vT := nI 0) (aS := aS) (aH := aH) (vM := vM) (aN := aN) (vS := vS) (aX := aX) (vL := vL) (vP := vP) (vW := vW) (aR := aR) (vR := vR) (aD := hdM A.1.2.1 9 aD) (vF := vF) (aW := aW) (aI := aI) (aQ := aQ) (aL := aL) (vB := vB) h)
    refine Cl_go e_X6_isTrue (Nat.le_of_ble_eq_true rfl) rfl ?_; intro P hP; refine hP _ _ _ _ ?_; (conv => whnf)
    refine ⟨⟨rfl, rfl⟩, ?_⟩; (conv => whnf)
    refine ⟨Nat.le_of_ble_eq_true rfl, rfl, ?_⟩; (conv => whnf)
    refine Or.inl ⟨_, _, m_isClue_t (d := d + 9) (vT := nI 0) (aS := aS) (aH := aH) (vM := vM) (aN := aN) (vS := vS) (aX := aX) (vL := vL) (vP := vP) (vW := vW) (aR := aR) (vR := vR) (aD := aD) (vF := vF) (aW := aW) (aI := aI) (aQ := aQ) (aL := aL) (vB := vB) h.1.1.1 h.1.1.2.1 hk, ?_⟩; (conv => whnf)
    refine b1 1 rfl (by omega) (fun (q : 1 = 0) => by omega) (fun _ => ?_); (conv => whnf)
    refine ⟨Nat.le_of_ble_eq_true rfl, rfl, ?_⟩; (conv => whnf)
    refine Or.inl ⟨_, _, m_holdsTrue (d := d + 8) (vT := nI 0) (aS := aS) (aH := aH) (vM := vM) (aN := aN) (vS := vS) (aX := aX) (vL := vL) (vP := vP) (vW := vW) (aR := aR) (vR := vR) (aD := aD) (vF := vF) (aW := aW) (aI := aI) (aQ := aQ) (aL := aL) (vB := vB) h.1.1 h.1.2.1 (it_ok h.1) hk, ?_⟩; (conv => whnf)
    refine hP _ _ _ _ ?_; (conv => whnf)
    exact ⟨rfl, ⟨.boolean, rfl, b01⟩, rfl, rfl⟩
theorem m_dealsWithout (h : rfR aS aH vM aN vS aX vL A) (x : Int32) : RO tc0 kX6_dealsWithout (d + 12) ((rfM vT aS aH vM aN vS aX vL vP vW aR vR aD vF aW aI aQ aL vB)) [.int x] (spOf A x (fun k => nI (dT A.1.1 + dHB A.1.1 k))) := by
  unfold spOf
  have h20 := h.1.1.2.1
  rcases in_out x (n := A.1.1.length) (by omega) with hx | ⟨k, hk, rfl⟩
  · rw [decN_out hx]
    refine RO_er (x := .int (nI 0)) (M' := (rfM (nI 1) aS aH vM aN vS aX vL vP vW aR vR aD vF aW aI aQ aL vB)) ?_ (RM_of (vT := nI 1) (aS := aS) (aH := aH) (vM := vM) (aN := aN) (vS := vS) (aX := aX) (vL := vL) (vP := vP) (vW := vW) (aR := aR) (vR := vR) (aD := aD) (vF := vF) (aW := aW) (aI := aI) (aQ := aQ) (aL := aL) (vB := vB) h)
    refine Cl_go e_X6_dealsWithout (Nat.le_of_ble_eq_true rfl) rfl ?_; intro P hP; refine hP _ _ _ _ ?_; (conv => whnf)
    refine ⟨⟨rfl, rfl⟩, ?_⟩; (conv => whnf)
    refine ⟨Nat.le_of_ble_eq_true rfl, rfl, ?_⟩; (conv => whnf)
    refine Or.inl ⟨_, _, m_isClue_f (d := d + 9) (vT := nI 0) (aS := aS) (aH := aH) (vM := vM) (aN := aN) (vS := vS) (aX := aX) (vL := vL) (vP := vP) (vW := vW) (aR := aR) (vR := vR) (aD := aD) (vF := vF) (aW := aW) (aI := aI) (aQ := aQ) (aL := aL) (vB := vB) h.1.1.1 h.1.1.2.1 hx, ?_⟩; (conv => whnf)
    refine b1 0 rfl (by omega) (fun _ => ?_) (fun (q : ¬ 0 = 0) => by omega)
    refine hP _ _ _ _ ?_; (conv => whnf)
    refine ⟨Nat.le_of_ble_eq_true rfl, rfl, ?_⟩; (conv => whnf)
    refine Or.inl ⟨_, _, m_fails (d := d + 10) (vT := nI 0) (aS := aS) (aH := aH) (vM := vM) (aN := aN) (vS := vS) (aX := aX) (vL := vL) (vP := vP) (vW := vW) (aR := aR) (vR := vR) (aD := aD) (vF := vF) (aW := aW) (aI := aI) (aQ := aQ) (aL := aL) (vB := vB) (x := nI 1), ?_⟩; (conv => whnf)
    refine hP _ _ _ _ ?_; (conv => whnf)
    exact ⟨rfl, ⟨.int, rfl, rfl⟩, rfl, rfl⟩
  · rw [decN_in hk (by omega)]
    obtain ⟨hd, hg⟩ := m_goesF (d := d + 7) (vT := nI 0) (aS := aS) (aH := aH) (vM := vM) (aN := aN) (vS := vS) (aX := aX) (vL := vL) (vP := vP) (vW := vW) (aR := aR) (vR := vR) (aD := aD) (vF := vF) (aW := aW) (aI := aI) (aQ := aQ) (aL := aL) (vB := vB) (cl := A.1.1) (w := k) h.1.1 (Or.inr ⟨rfl, by omega⟩)
    rw [goN_K h.1.1.2.2.1 hk] at hg
    refine RO_ok (M' := (rfM (nI 0) aS aH vM aN vS aX vL vP vW aR vR hd vF aW aI aQ aL vB)) ?_ (RM_of (vT := nI 0) (aS := aS) (aH := aH) (vM := vM) (aN := aN) (vS := vS) (aX := aX) (vL := vL) (vP := vP) (vW := vW) (aR := aR) (vR := vR) (aD := hd) (vF := vF) (aW := aW) (aI := aI) (aQ := aQ) (aL := aL) (vB := vB) h)
    refine Cl_go e_X6_dealsWithout (Nat.le_of_ble_eq_true rfl) rfl ?_; intro P hP; refine hP _ _ _ _ ?_; (conv => whnf)
    refine ⟨⟨rfl, rfl⟩, ?_⟩; (conv => whnf)
    refine ⟨Nat.le_of_ble_eq_true rfl, rfl, ?_⟩; (conv => whnf)
    refine Or.inl ⟨_, _, m_isClue_t (d := d + 9) (vT := nI 0) (aS := aS) (aH := aH) (vM := vM) (aN := aN) (vS := vS) (aX := aX) (vL := vL) (vP := vP) (vW := vW) (aR := aR) (vR := vR) (aD := aD) (vF := vF) (aW := aW) (aI := aI) (aQ := aQ) (aL := aL) (vB := vB) h.1.1.1 h.1.1.2.1 hk, ?_⟩; (conv => whnf)
    refine b1 1 rfl (by omega) (fun (q : 1 = 0) => by omega) (fun _ => ?_); (conv => whnf)
    refine ⟨Nat.le_of_ble_eq_true rfl, rfl, ?_⟩; (conv => whnf)
    refine Or.inl ⟨_, _, hg, ?_⟩; (conv => whnf)
    refine hP _ _ _ _ ?_; (conv => whnf)
    exact ⟨rfl, ⟨.int, rfl, rfl⟩, rfl, rfl⟩
theorem m_certainPlace (h : rfR aS aH vM aN vS aX vL A) (x : Int32) : RO tc0 kX6_certainPlace (d + 12) ((rfM vT aS aH vM aN vS aX vL vP vW aR vR aD vF aW aI aQ aL vB)) [.int x] (sp1 A x 9 (fun a => splG (dT A.1.1) (dCA A.1.1 a) 4 0)) := by
  unfold sp1
  rcases in_out x (n := 9) (by decide) with hx | ⟨a, ha, rfl⟩
  · rw [decN_out hx]
    refine RO_er (x := .int (nI 0)) (M' := (rfM (nI 1) aS aH vM aN vS aX vL vP vW aR vR aD vF aW aI aQ aL vB)) ?_ (RM_of (vT := nI 1) (aS := aS) (aH := aH) (vM := vM) (aN := aN) (vS := vS) (aX := aX) (vL := vL) (vP := vP) (vW := vW) (aR := aR) (vR := vR) (aD := aD) (vF := vF) (aW := aW) (aI := aI) (aQ := aQ) (aL := aL) (vB := vB) h)
    refine Cl_go e_X6_certainPlace (Nat.le_of_ble_eq_true rfl) rfl ?_; intro P hP; refine hP _ _ _ _ ?_; (conv => whnf)
    refine ⟨⟨rfl, rfl⟩, ?_⟩; (conv => whnf)
    refine ⟨Nat.le_of_ble_eq_true rfl, rfl, ?_⟩; (conv => whnf)
    refine Or.inl ⟨_, _, Cl_s (m_isCard_f (d := d + 9) hx), ?_⟩; (conv => whnf)
    refine b1 0 rfl (by omega) (fun (q : ¬ 0 = 0) => by omega) (fun _ => ?_); (conv => whnf)
    refine ⟨Nat.le_of_ble_eq_true rfl, rfl, ?_⟩; (conv => whnf)
    refine Or.inl ⟨_, _, m_fails (d := d + 10) (vT := nI 0) (aS := aS) (aH := aH) (vM := vM) (aN := aN) (vS := vS) (aX := aX) (vL := vL) (vP := vP) (vW := vW) (aR := aR) (vR := vR) (aD := aD) (vF := vF) (aW := aW) (aI := aI) (aQ := aQ) (aL := aL) (vB := vB) (x := nI 1), ?_⟩; (conv => whnf)
    exact ⟨rfl, ⟨.int, rfl, rfl⟩, rfl, rfl⟩
  · rw [decN_in ha (by decide)]
    obtain ⟨hd, lf, lw, li, lp, hk, hs⟩ := m_surveys (d := d + 6) (vT := nI 0) (aS := aS) (aH := aH) (vM := vM) (aN := aN) (vS := vS) (aX := aX) (vL := vL) (vP := vP) (vW := vW) (aR := aR) (vR := vR) (aD := aD) (vF := vF) (aW := aW) (aI := aI) (aQ := aQ) (aL := aL) (vB := vB) (cl := A.1.1) h.1.1
    refine RO_ok (M' := (rfM (nI 0) aS aH vM aN vS aX vL vP vW aR vR hd lf lw li lp aL vB)) ?_ (RM_of (vT := nI 0) (aS := aS) (aH := aH) (vM := vM) (aN := aN) (vS := vS) (aX := aX) (vL := vL) (vP := vP) (vW := vW) (aR := aR) (vR := vR) (aD := hd) (vF := lf) (aW := lw) (aI := li) (aQ := lp) (aL := aL) (vB := vB) h)
    refine Cl_go e_X6_certainPlace (Nat.le_of_ble_eq_true rfl) rfl ?_; intro P hP; refine hP _ _ _ _ ?_; (conv => whnf)
    refine ⟨⟨rfl, rfl⟩, ?_⟩; (conv => whnf)
    refine ⟨Nat.le_of_ble_eq_true rfl, rfl, ?_⟩; (conv => whnf)
    refine Or.inl ⟨_, _, Cl_s (m_isCard_t (d := d + 9) ha), ?_⟩; (conv => whnf)
    refine b1 1 rfl (by omega) (fun _ => ?_) (fun (q : ¬ ¬ 1 = 0) => by omega)
    refine hP _ _ _ _ ?_; (conv => whnf)
    refine ⟨Nat.le_of_ble_eq_true rfl, rfl, ?_⟩; (conv => whnf)
    refine Or.inl ⟨_, _, hk, ?_⟩; (conv => whnf)
    refine ⟨Nat.le_of_ble_eq_true rfl, rfl, ?_⟩; (conv => whnf)
    refine Or.inl ⟨_, _, m_certain (d := d + 10) (vT := nI 0) (aS := aS) (aH := aH) (vM := vM) (aN := aN) (vS := vS) (aX := aX) (vL := vL) (vP := vP) (vW := vW) (aR := aR) (vR := vR) (aD := hd) (vF := lf) (aW := lw) (aI := li) (aQ := lp) (aL := aL) (vB := vB) hs ha, ?_⟩; (conv => whnf)
    exact ⟨rfl, ⟨.int, rfl, rfl⟩, rfl, rfl⟩
theorem m_placeByRules (h : rfR aS aH vM aN vS aX vL A) (x : Int32) : RO tc0 kX6_placeByRules (d + 12) ((rfM vT aS aH vM aN vS aX vL vP vW aR vR aD vF aW aI aQ aL vB)) [.int x] (sp1 A x 9 (fun a => oplG (shW A.1.1 a) 4 0)) := by
  unfold sp1
  rcases in_out x (n := 9) (by decide) with hx | ⟨a, ha, rfl⟩
  · rw [decN_out hx]
    refine RO_er (x := .int (nI 0)) (M' := (rfM (nI 1) aS aH vM aN vS aX vL vP vW aR vR aD vF aW aI aQ aL vB)) ?_ (RM_of (vT := nI 1) (aS := aS) (aH := aH) (vM := vM) (aN := aN) (vS := vS) (aX := aX) (vL := vL) (vP := vP) (vW := vW) (aR := aR) (vR := vR) (aD := aD) (vF := vF) (aW := aW) (aI := aI) (aQ := aQ) (aL := aL) (vB := vB) h)
    refine Cl_go e_X6_placeByRules (Nat.le_of_ble_eq_true rfl) rfl ?_; intro P hP; refine hP _ _ _ _ ?_; (conv => whnf)
    refine ⟨⟨rfl, rfl⟩, ?_⟩; (conv => whnf)
    refine ⟨Nat.le_of_ble_eq_true rfl, rfl, ?_⟩; (conv => whnf)
    refine Or.inl ⟨_, _, Cl_s (m_isCard_f (d := d + 9) hx), ?_⟩; (conv => whnf)
    refine b1 0 rfl (by omega) (fun (q : ¬ 0 = 0) => by omega) (fun _ => ?_); (conv => whnf)
    refine ⟨Nat.le_of_ble_eq_true rfl, rfl, ?_⟩; (conv => whnf)
    refine Or.inl ⟨_, _, m_fails (d := d + 10) (vT := nI 0) (aS := aS) (aH := aH) (vM := vM) (aN := aN) (vS := vS) (aX := aX) (vL := vL) (vP := vP) (vW := vW) (aR := aR) (vR := vR) (aD := aD) (vF := vF) (aW := aW) (aI := aI) (aQ := aQ) (aL := aL) (vB := vB) (x := nI 1), ?_⟩; (conv => whnf)
    exact ⟨rfl, ⟨.int, rfl, rfl⟩, rfl, rfl⟩
  · rw [decN_in ha (by decide)]
    obtain ⟨u, hk, hu⟩ := m_rules (d := d + 6) (vT := nI 0) (aS := aS) (aH := aH) (vM := vM) (aN := aN) (vS := vS) (aX := aX) (vL := vL) (vP := vP) (vW := vW) (aR := aR) (vR := vR) (aD := aD) (vF := vF) (aW := aW) (aI := aI) (aQ := aQ) (aL := aL) (vB := vB) (cl := A.1.1) h.1.1
    show RO tc0 _ _ _ _ (rV (oplG (shW A.1.1 a) 4 0), A)
    rw [← hu.2 a ha]
    refine RO_ok (M' := (rfM (nI 0) aS aH vM aN vS aX vL vP vW aR vR aD vF aW aI aQ (nA u) (bI (shB A.1.1)))) ?_ (RM_of (vT := nI 0) (aS := aS) (aH := aH) (vM := vM) (aN := aN) (vS := vS) (aX := aX) (vL := vL) (vP := vP) (vW := vW) (aR := aR) (vR := vR) (aD := aD) (vF := vF) (aW := aW) (aI := aI) (aQ := aQ) (aL := nA u) (vB := bI (shB A.1.1)) h)
    refine Cl_go e_X6_placeByRules (Nat.le_of_ble_eq_true rfl) rfl ?_; intro P hP; refine hP _ _ _ _ ?_; (conv => whnf)
    refine ⟨⟨rfl, rfl⟩, ?_⟩; (conv => whnf)
    refine ⟨Nat.le_of_ble_eq_true rfl, rfl, ?_⟩; (conv => whnf)
    refine Or.inl ⟨_, _, Cl_s (m_isCard_t (d := d + 9) ha), ?_⟩; (conv => whnf)
    refine b1 1 rfl (by omega) (fun _ => ?_) (fun (q : ¬ ¬ 1 = 0) => by omega)
    refine hP _ _ _ _ ?_; (conv => whnf)
    refine ⟨Nat.le_of_ble_eq_true rfl, rfl, ?_⟩; (conv => whnf)
    refine Or.inl ⟨_, _, hk, ?_⟩; (conv => whnf)
    refine ⟨Nat.le_of_ble_eq_true rfl, rfl, ?_⟩; (conv => whnf)
    refine Or.inl ⟨_, _, m_only (d := d + 9) ha hu.1, ?_⟩; (conv => whnf)
    exact ⟨rfl, ⟨.int, rfl, rfl⟩, rfl, rfl⟩
theorem m_envelopeDeals (h : rfR aS aH vM aN vS aX vL A) (x : Int32) : RO tc0 kX6_envelopeDeals (d + 12) ((rfM vT aS aH vM aN vS aX vL vP vW aR vR aD vF aW aI aQ aL vB)) [.int x] (sp1 A x 27 (fun a => nI (dIE A.1.1 a))) := by
  unfold sp1
  rcases in_out x (n := 27) (by decide) with hx | ⟨a, ha, rfl⟩
  · rw [decN_out hx]
    refine RO_er (x := .int (nI 0)) (M' := (rfM (nI 1) aS aH vM aN vS aX vL vP vW aR vR aD vF aW aI aQ aL vB)) ?_ (RM_of (vT := nI 1) (aS := aS) (aH := aH) (vM := vM) (aN := aN) (vS := vS) (aX := aX) (vL := vL) (vP := vP) (vW := vW) (aR := aR) (vR := vR) (aD := aD) (vF := vF) (aW := aW) (aI := aI) (aQ := aQ) (aL := aL) (vB := vB) h)
    refine Cl_go e_X6_envelopeDeals (Nat.le_of_ble_eq_true rfl) rfl ?_; intro P hP; refine hP _ _ _ _ ?_; (conv => whnf)
    refine ⟨⟨rfl, rfl⟩, ?_⟩; (conv => whnf)
    refine ⟨Nat.le_of_ble_eq_true rfl, rfl, ?_⟩; (conv => whnf)
    refine Or.inl ⟨_, _, Cl_s (m_isTriple_f (d := d + 9) hx), ?_⟩; (conv => whnf)
    refine b1 0 rfl (by omega) (fun (q : ¬ 0 = 0) => by omega) (fun _ => ?_); (conv => whnf)
    refine ⟨Nat.le_of_ble_eq_true rfl, rfl, ?_⟩; (conv => whnf)
    refine Or.inl ⟨_, _, m_fails (d := d + 10) (vT := nI 0) (aS := aS) (aH := aH) (vM := vM) (aN := aN) (vS := vS) (aX := aX) (vL := vL) (vP := vP) (vW := vW) (aR := aR) (vR := vR) (aD := aD) (vF := vF) (aW := aW) (aI := aI) (aQ := aQ) (aL := aL) (vB := vB) (x := nI 1), ?_⟩; (conv => whnf)
    exact ⟨rfl, ⟨.int, rfl, rfl⟩, rfl, rfl⟩
  · rw [decN_in ha (by decide)]
    obtain ⟨hd, lf, lw, li, lp, hk, hs⟩ := m_surveys (d := d + 6) (vT := nI 0) (aS := aS) (aH := aH) (vM := vM) (aN := aN) (vS := vS) (aX := aX) (vL := vL) (vP := vP) (vW := vW) (aR := aR) (vR := vR) (aD := aD) (vF := vF) (aW := aW) (aI := aI) (aQ := aQ) (aL := aL) (vB := vB) (cl := A.1.1) h.1.1
    have ev : li (nI a).toNatClampNeg = nI (dIE A.1.1 a) := by rw [nI_clamp (by omega)]; exact hs.2.2.1 a ha
    refine RO_ok (M' := (rfM (nI 0) aS aH vM aN vS aX vL vP vW aR vR hd lf lw li lp aL vB)) ?_ (RM_of (vT := nI 0) (aS := aS) (aH := aH) (vM := vM) (aN := aN) (vS := vS) (aX := aX) (vL := vL) (vP := vP) (vW := vW) (aR := aR) (vR := vR) (aD := hd) (vF := lf) (aW := lw) (aI := li) (aQ := lp) (aL := aL) (vB := vB) h)
    refine Cl_go e_X6_envelopeDeals (Nat.le_of_ble_eq_true rfl) rfl ?_; intro P hP; refine hP _ _ _ _ ?_; (conv => whnf)
    refine ⟨⟨rfl, rfl⟩, ?_⟩; (conv => whnf)
    refine ⟨Nat.le_of_ble_eq_true rfl, rfl, ?_⟩; (conv => whnf)
    refine Or.inl ⟨_, _, Cl_s (m_isTriple_t (d := d + 9) ha), ?_⟩; (conv => whnf)
    refine b1 1 rfl (by omega) (fun _ => ?_) (fun (q : ¬ ¬ 1 = 0) => by omega)
    refine hP _ _ _ _ ?_; (conv => whnf)
    refine ⟨Nat.le_of_ble_eq_true rfl, rfl, ?_⟩; (conv => whnf)
    refine Or.inl ⟨_, _, hk, ?_⟩; (conv => whnf)
    refine ⟨vi rfl ha (by decide), ?_⟩; (conv => whnf)
    exact ⟨rfl, ⟨.int, rfl, rfl⟩, rI (ev), rfl⟩
theorem m_bestQuestion (h : rfR aS aH vM aN vS aX vL A) (x : Int32) : RO tc01 kX6_bestQuestion (d + 12) ((rfM vT aS aH vM aN vS aX vL vP vW aR vR aD vF aW aI aQ aL vB)) [.int x] (spBestQ A x) := by
  unfold spBestQ
  have hT := dT31 A.1.1
  rcases in_out x (n := 3) (by decide) with hx | ⟨a, ha, rfl⟩
  · rw [decN_out hx]
    refine RO_er (x := .int (nI 0)) (M' := (rfM (nI 1) aS aH vM aN vS aX vL vP vW aR vR aD vF aW aI aQ aL vB)) ?_ (RM_of (vT := nI 1) (aS := aS) (aH := aH) (vM := vM) (aN := aN) (vS := vS) (aX := aX) (vL := vL) (vP := vP) (vW := vW) (aR := aR) (vR := vR) (aD := aD) (vF := vF) (aW := aW) (aI := aI) (aQ := aQ) (aL := aL) (vB := vB) h)
    refine Cl_go e_X6_bestQuestion (Nat.le_of_ble_eq_true rfl) rfl ?_; intro P hP; refine hP _ _ _ _ ?_; (conv => whnf)
    refine ⟨⟨rfl, rfl⟩, ?_⟩; (conv => whnf)
    refine ⟨Nat.le_of_ble_eq_true rfl, rfl, ?_⟩; (conv => whnf)
    refine Or.inl ⟨_, _, Cl_s (m_isPlayer_f (d := d + 9) hx), ?_⟩; (conv => whnf)
    refine b1 0 rfl (by omega) (fun (q : ¬ 0 = 0) => by omega) (fun _ => ?_); (conv => whnf)
    refine ⟨Nat.le_of_ble_eq_true rfl, rfl, ?_⟩; (conv => whnf)
    refine Or.inl ⟨_, _, m_fails (d := d + 10) (vT := nI 0) (aS := aS) (aH := aH) (vM := vM) (aN := aN) (vS := vS) (aX := aX) (vL := vL) (vP := vP) (vW := vW) (aR := aR) (vR := vR) (aD := aD) (vF := vF) (aW := aW) (aI := aI) (aQ := aQ) (aL := aL) (vB := vB) (x := nI 1), ?_⟩; (conv => whnf)
    exact ⟨rfl, ⟨.int, rfl, rfl⟩, rfl, rfl⟩
  · rw [decN_in ha (by decide)]
    obtain ⟨hd, lf, lw, li, lp, hk, hs⟩ := m_surveys (d := d + 6) (vT := nI 0) (aS := aS) (aH := aH) (vM := vM) (aN := aN) (vS := vS) (aX := aX) (vL := vL) (vP := vP) (vW := vW) (aR := aR) (vR := vR) (aD := aD) (vF := vF) (aW := aW) (aI := aI) (aQ := aQ) (aL := aL) (vB := vB) (cl := A.1.1) h.1.1
    by_cases h0 : dT A.1.1 = 0
    · show RO tc01 _ _ _ _ (if dT A.1.1 = 0 then ((.inr 1, A) : Res × AS) else (rV (nI (amn (fun t => lvs (dT A.1.1) (wnN A.1.1 a t)) 26)), A))
      rw [if_pos h0]
      refine RO_er (x := .int (nI 0)) (M' := (rfM (nI 2) aS aH vM aN vS aX vL vP vW aR vR hd lf lw li lp aL vB)) ?_ (RM_of (vT := nI 2) (aS := aS) (aH := aH) (vM := vM) (aN := aN) (vS := vS) (aX := aX) (vL := vL) (vP := vP) (vW := vW) (aR := aR) (vR := vR) (aD := hd) (vF := lf) (aW := lw) (aI := li) (aQ := lp) (aL := aL) (vB := vB) h)
      refine Cl_go e_X6_bestQuestion (Nat.le_of_ble_eq_true rfl) rfl ?_; intro P hP; refine hP _ _ _ _ ?_; (conv => whnf)
      refine ⟨⟨rfl, rfl⟩, ?_⟩; (conv => whnf)
      refine ⟨Nat.le_of_ble_eq_true rfl, rfl, ?_⟩; (conv => whnf)
      refine Or.inl ⟨_, _, Cl_s (m_isPlayer_t (d := d + 9) ha), ?_⟩; (conv => whnf)
      refine b1 1 rfl (by omega) (fun _ => ?_) (fun (q : ¬ ¬ 1 = 0) => by omega)
      refine hP _ _ _ _ ?_; (conv => whnf)
      refine ⟨Nat.le_of_ble_eq_true rfl, rfl, ?_⟩; (conv => whnf)
      refine Or.inl ⟨_, _, hk, ?_⟩; (conv => whnf)
      refine b1 (dT A.1.1) hs.1 hT (fun (q : ¬ dT A.1.1 = 0) => absurd h0 q) (fun _ => ?_); (conv => whnf)
      refine ⟨Nat.le_of_ble_eq_true rfl, rfl, ?_⟩; (conv => whnf)
      refine Or.inl ⟨_, _, m_fails (d := d + 10) (vT := nI 0) (aS := aS) (aH := aH) (vM := vM) (aN := aN) (vS := vS) (aX := aX) (vL := vL) (vP := vP) (vW := vW) (aR := aR) (vR := vR) (aD := hd) (vF := lf) (aW := lw) (aI := li) (aQ := lp) (aL := aL) (vB := vB) (x := nI 2), ?_⟩; (conv => whnf)
      refine hP _ _ _ _ ?_; (conv => whnf)
      exact ⟨rfl, ⟨.int, rfl, rfl⟩, rfl, rfl⟩
    · show RO tc01 _ _ _ _ (if dT A.1.1 = 0 then ((.inr 1, A) : Res × AS) else (rV (nI (amn (fun t => lvs (dT A.1.1) (wnN A.1.1 a t)) 26)), A))
      rw [if_neg h0]
      refine RO_ok (M' := (rfM (nI 0) aS aH vM aN vS aX vL vP vW aR vR hd lf lw li lp aL vB)) ?_ (RM_of (vT := nI 0) (aS := aS) (aH := aH) (vM := vM) (aN := aN) (vS := vS) (aX := aX) (vL := vL) (vP := vP) (vW := vW) (aR := aR) (vR := vR) (aD := hd) (vF := lf) (aW := lw) (aI := li) (aQ := lp) (aL := aL) (vB := vB) h)
      refine Cl_go e_X6_bestQuestion (Nat.le_of_ble_eq_true rfl) rfl ?_; intro P hP; refine hP _ _ _ _ ?_; (conv => whnf)
      refine ⟨⟨rfl, rfl⟩, ?_⟩; (conv => whnf)
      refine ⟨Nat.le_of_ble_eq_true rfl, rfl, ?_⟩; (conv => whnf)
      refine Or.inl ⟨_, _, Cl_s (m_isPlayer_t (d := d + 9) ha), ?_⟩; (conv => whnf)
      refine b1 1 rfl (by omega) (fun _ => ?_) (fun (q : ¬ ¬ 1 = 0) => by omega)
      refine hP _ _ _ _ ?_; (conv => whnf)
      refine ⟨Nat.le_of_ble_eq_true rfl, rfl, ?_⟩; (conv => whnf)
      refine Or.inl ⟨_, _, hk, ?_⟩; (conv => whnf)
      refine b1 (dT A.1.1) hs.1 hT (fun _ => ?_) (fun (q : ¬ ¬ dT A.1.1 = 0) => absurd h0 q)
      refine hP _ _ _ _ ?_; (conv => whnf)
      refine ⟨Nat.le_of_ble_eq_true rfl, rfl, ?_⟩; (conv => whnf)
      refine Or.inl ⟨_, _, m_bestFor (d := d + 9) (vT := nI 0) (aS := aS) (aH := aH) (vM := vM) (aN := aN) (vS := vS) (aX := aX) (vL := vL) (vP := vP) (vW := vW) (aR := aR) (vR := vR) (aD := hd) (vF := lf) (aW := lw) (aI := li) (aQ := lp) (aL := aL) (vB := vB) hs ha, ?_⟩; (conv => whnf)
      refine hP _ _ _ _ ?_; (conv => whnf)
      exact ⟨rfl, ⟨.int, rfl, rfl⟩, rfl, rfl⟩
theorem m_tellsWith_f (h : rfR aS aH vM aN vS aX vL A) {x y : Int32} (hb : out x 9 ∨ out y 4) : Cl (d + 11) kX6_tellsWith [.ref 0, .int x, .int y] ((rfM vT aS aH vM aN vS aX vL vP vW aR vR aD vF aW aI aQ aL vB)) (rV (nI 0)) ((rfM (nI 1) aS aH vM aN vS aX vL vP vW aR vR aD vF aW aI aQ aL vB)) := by
  refine Cl_go e_X6_tellsWith (Nat.le_of_ble_eq_true rfl) rfl ?_; intro P hP; refine hP _ _ _ _ ?_; (conv => whnf)
  refine ⟨⟨rfl, rfl⟩, ?_⟩; (conv => whnf)
  have f21 : P 21 [some (.ref 0), none, none] [] ((rfM (nI 0) aS aH vM aN vS aX vL vP vW aR vR aD vF aW aI aQ aL vB)) := by
    refine hP _ _ _ _ ?_; (conv => whnf)
    refine ⟨Nat.le_of_ble_eq_true rfl, rfl, ?_⟩; (conv => whnf)
    refine Or.inl ⟨_, _, m_fails (d := d + 9) (vT := nI 0) (aS := aS) (aH := aH) (vM := vM) (aN := aN) (vS := vS) (aX := aX) (vL := vL) (vP := vP) (vW := vW) (aR := aR) (vR := vR) (aD := aD) (vF := vF) (aW := aW) (aI := aI) (aQ := aQ) (aL := aL) (vB := vB) (x := nI 1), ?_⟩; (conv => whnf)
    exact ⟨rfl, ⟨.int, rfl, rfl⟩, rfl, rfl⟩
  refine ⟨Nat.le_of_ble_eq_true rfl, rfl, ?_⟩; (conv => whnf)
  rcases in_out x (n := 9) (by decide) with hx | ⟨a, ha, rfl⟩
  · refine Or.inl ⟨_, _, Cl_s (m_isCard_f (d := d + 8) hx), ?_⟩; (conv => whnf)
    refine b1 0 rfl (by omega) (fun _ => f21) (fun (q : ¬ 0 = 0) => by omega)
  · have hy : out y 4 := hb.resolve_left (fun z => by
      rcases z with z | z
      · exact nI_pos (show a < 2 ^ 31 by omega) z
      · exact nI_ge ha (by decide) z)
    refine Or.inl ⟨_, _, Cl_s (m_isCard_t (d := d + 8) ha), ?_⟩; (conv => whnf)
    refine b1 1 rfl (by omega) (fun (q : 1 = 0) => by omega) (fun _ => ?_); (conv => whnf)
    refine ⟨Nat.le_of_ble_eq_true rfl, rfl, ?_⟩; (conv => whnf)
    refine Or.inl ⟨_, _, Cl_s (m_in4_f (d := d + 9) hy), ?_⟩; (conv => whnf)
    refine b1 0 rfl (by omega) (fun (q : ¬ 0 = 0) => by omega) (fun _ => ?_); (conv => whnf)
    exact f21
theorem m_tellsWith_t (h : rfR aS aH vM aN vS aX vL A) {a b : Nat} (ha : a < 9) (hb : b < 4) : ∃ (hd : IA) (lf : Int32) (lw li lp : IA), Cl (d + 11) kX6_tellsWith [.ref 0, .int (nI a), .int (nI b)] ((rfM vT aS aH vM aN vS aX vL vP vW aR vR aD vF aW aI aQ aL vB)) (rV (nI (dCA A.1.1 a b))) ((rfM (nI 0) aS aH vM aN vS aX vL vP vW aR vR hd lf lw li lp aL vB)) := by
  obtain ⟨hd, lf, lw, li, lp, hk, hs⟩ := m_surveys (d := d + 5) (vT := nI 0) (aS := aS) (aH := aH) (vM := vM) (aN := aN) (vS := vS) (aX := aX) (vL := vL) (vP := vP) (vW := vW) (aR := aR) (vR := vR) (aD := aD) (vF := vF) (aW := aW) (aI := aI) (aQ := aQ) (aL := aL) (vB := vB) (cl := A.1.1) h.1.1
  refine ⟨hd, lf, lw, li, lp, ?_⟩
  have ex : nI 4 * nI a + nI b = nI (4 * a + b) := by rw [pk_mul, nI_add]
  have ev : lw (nI 4 * nI a + nI b).toNatClampNeg = nI (dCA A.1.1 a b) := by rw [ex, nI_clamp (by omega)]; exact hs.2.1 a b ha hb
  refine Cl_go e_X6_tellsWith (Nat.le_of_ble_eq_true rfl) rfl ?_; intro P hP; refine hP _ _ _ _ ?_; (conv => whnf)
  refine ⟨⟨rfl, rfl⟩, ?_⟩; (conv => whnf)
  refine ⟨Nat.le_of_ble_eq_true rfl, rfl, ?_⟩; (conv => whnf)
  refine Or.inl ⟨_, _, Cl_s (m_isCard_t (d := d + 8) ha), ?_⟩; (conv => whnf)
  refine b1 1 rfl (by omega) (fun (q : 1 = 0) => by omega) (fun _ => ?_); (conv => whnf)
  refine ⟨Nat.le_of_ble_eq_true rfl, rfl, ?_⟩; (conv => whnf)
  refine Or.inl ⟨_, _, Cl_s (m_in4_t (d := d + 9) hb), ?_⟩; (conv => whnf)
  refine b1 1 rfl (by omega) (fun _ => ?_) (fun (q : ¬ ¬ 1 = 0) => by omega)
  refine hP _ _ _ _ ?_; (conv => whnf)
  refine ⟨Nat.le_of_ble_eq_true rfl, rfl, ?_⟩; (conv => whnf)
  refine Or.inl ⟨_, _, hk, ?_⟩; (conv => whnf)
  refine ⟨vi (n := 4 * a + b) ex (by omega) (by decide), ?_⟩; (conv => whnf)
  exact ⟨rfl, ⟨.int, rfl, rfl⟩, rI (ev), rfl⟩
theorem sp2_bad {A : AS} {x y : Int32} {n k : Nat} {f : Nat → Nat → Int32} (h : out x n ∨ out y k) : sp2 A x y n k f = (.inr 0, A) := by
  unfold sp2
  rcases h with h | h
  · rw [decN_out h]
  · rw [decN_out h]; cases decN x n <;> rfl
theorem sp2_in {A : AS} {a b n k : Nat} {f : Nat → Nat → Int32} (ha : a < n) (hb : b < k) (hn : n < 2 ^ 31) (hk : k < 2 ^ 31) : sp2 A (nI a) (nI b) n k f = (rV (f a b), A) := by
  unfold sp2
  rw [decN_in ha hn, decN_in hb hk]
theorem bad_or (x y : Int32) {n k : Nat} (hn : n < 2 ^ 31) (hk : k < 2 ^ 31) : (out x n ∨ out y k) ∨ ∃ a b, a < n ∧ b < k ∧ x = nI a ∧ y = nI b := by
  rcases in_out x hn with hx | ⟨a, ha, rfl⟩
  · exact Or.inl (Or.inl hx)
  · rcases in_out y hk with hy | ⟨b, hb, rfl⟩
    · exact Or.inl (Or.inr hy)
    · exact Or.inr ⟨a, b, ha, hb, rfl, rfl⟩
theorem m_dealsWith (h : rfR aS aH vM aN vS aX vL A) (x y : Int32) : RO tc0 kX6_dealsWith (d + 12) ((rfM vT aS aH vM aN vS aX vL vP vW aR vR aD vF aW aI aQ aL vB)) [.int x, .int y] (sp2 A x y 9 4 (fun a b => nI (dCA A.1.1 a b))) := by
  rcases bad_or x y (n := 9) (k := 4) (by decide) (by decide) with hb | ⟨a, b, ha, hb, rfl, rfl⟩
  · rw [sp2_bad hb]
    refine RO_er (x := .int (nI 0)) (M' := (rfM (nI 1) aS aH vM aN vS aX vL vP vW aR vR aD vF aW aI aQ aL vB)) ?_ (RM_of (vT := nI 1) (aS := aS) (aH := aH) (vM := vM) (aN := aN) (vS := vS) (aX := aX) (vL := vL) (vP := vP) (vW := vW) (aR := aR) (vR := vR) (aD := aD) (vF := vF) (aW := aW) (aI := aI) (aQ := aQ) (aL := aL) (vB := vB) h)
    refine Cl_go e_X6_dealsWith (Nat.le_of_ble_eq_true rfl) rfl ?_; intro P hP; refine hP _ _ _ _ ?_; (conv => whnf)
    refine ⟨Nat.le_of_ble_eq_true rfl, rfl, ?_⟩; (conv => whnf)
    refine Or.inl ⟨_, _, m_tellsWith_f (d := d) (A := A) h hb, ?_⟩; (conv => whnf)
    exact ⟨rfl, ⟨.int, rfl, rfl⟩, rfl, rfl⟩
  · rw [sp2_in ha hb (by decide) (by decide)]
    obtain ⟨hd, lf, lw, li, lp, hk⟩ := m_tellsWith_t (d := d) h ha hb
    refine RO_ok (M' := (rfM (nI 0) aS aH vM aN vS aX vL vP vW aR vR hd lf lw li lp aL vB)) ?_ (RM_of (vT := nI 0) (aS := aS) (aH := aH) (vM := vM) (aN := aN) (vS := vS) (aX := aX) (vL := vL) (vP := vP) (vW := vW) (aR := aR) (vR := vR) (aD := hd) (vF := lf) (aW := lw) (aI := li) (aQ := lp) (aL := aL) (vB := vB) h)
    refine Cl_go e_X6_dealsWith (Nat.le_of_ble_eq_true rfl) rfl ?_; intro P hP; refine hP _ _ _ _ ?_; (conv => whnf)
    refine ⟨Nat.le_of_ble_eq_true rfl, rfl, ?_⟩; (conv => whnf)
    refine Or.inl ⟨_, _, hk, ?_⟩; (conv => whnf)
    exact ⟨rfl, ⟨.int, rfl, rfl⟩, rfl, rfl⟩
theorem m_mayBe (h : rfR aS aH vM aN vS aX vL A) (x y : Int32) : RO tc0 kX6_mayBe (d + 12) ((rfM vT aS aH vM aN vS aX vL vP vW aR vR aD vF aW aI aQ aL vB)) [.int x, .int y] (sp2 A x y 9 4 (fun a b => bI (Nat.blt 0 (dCA A.1.1 a b)))) := by
  rcases bad_or x y (n := 9) (k := 4) (by decide) (by decide) with hb | ⟨a, b, ha, hb, rfl, rfl⟩
  · rw [sp2_bad hb]
    refine RO_er (x := .int (nI 0)) (M' := (rfM (nI 1) aS aH vM aN vS aX vL vP vW aR vR aD vF aW aI aQ aL vB)) ?_ (RM_of (vT := nI 1) (aS := aS) (aH := aH) (vM := vM) (aN := aN) (vS := vS) (aX := aX) (vL := vL) (vP := vP) (vW := vW) (aR := aR) (vR := vR) (aD := aD) (vF := vF) (aW := aW) (aI := aI) (aQ := aQ) (aL := aL) (vB := vB) h)
    refine Cl_go e_X6_mayBe (Nat.le_of_ble_eq_true rfl) rfl ?_; intro P hP; refine hP _ _ _ _ ?_; (conv => whnf)
    refine ⟨Nat.le_of_ble_eq_true rfl, rfl, ?_⟩; (conv => whnf)
    refine Or.inl ⟨_, _, m_tellsWith_f (d := d) (A := A) h hb, ?_⟩; (conv => whnf)
    refine b1 0 rfl (by omega) (fun _ => ?_) (fun (q : ¬ 0 ≤ 0) => by omega)
    refine hP _ _ _ _ ?_; (conv => whnf)
    refine hP _ _ _ _ ?_; (conv => whnf)
    exact ⟨rfl, ⟨.boolean, rfl, rfl⟩, rfl, rfl⟩
  · rw [sp2_in ha hb (by decide) (by decide)]
    obtain ⟨hd, lf, lw, li, lp, hk⟩ := m_tellsWith_t (d := d) h ha hb
    refine RO_ok (M' := (rfM (nI 0) aS aH vM aN vS aX vL vP vW aR vR hd lf lw li lp aL vB)) ?_ (RM_of (vT := nI 0) (aS := aS) (aH := aH) (vM := vM) (aN := aN) (vS := vS) (aX := aX) (vL := vL) (vP := vP) (vW := vW) (aR := aR) (vR := vR) (aD := hd) (vF := lf) (aW := lw) (aI := li) (aQ := lp) (aL := aL) (vB := vB) h)
    refine Cl_go e_X6_mayBe (Nat.le_of_ble_eq_true rfl) rfl ?_; intro P hP; refine hP _ _ _ _ ?_; (conv => whnf)
    refine ⟨Nat.le_of_ble_eq_true rfl, rfl, ?_⟩; (conv => whnf)
    refine Or.inl ⟨_, _, hk, ?_⟩; (conv => whnf)
    refine b1 (dCA A.1.1 a b) rfl (Nat.lt_of_le_of_lt (dCA_le _ _ _) (dT31 _)) (fun (q : dCA A.1.1 a b ≤ 0) => ?_) (fun (q : ¬ dCA A.1.1 a b ≤ 0) => ?_)
    · refine hP _ _ _ _ ?_; (conv => whnf)
      refine hP _ _ _ _ ?_; (conv => whnf)
      exact ⟨rfl, ⟨.boolean, rfl, rfl⟩, rI (by show _ = bI (Nat.blt 0 (dCA A.1.1 a b)); rw [show Nat.blt 0 (dCA A.1.1 a b) = false from ble_f (by omega)]; rfl), rfl⟩
    · (conv => whnf)
      refine hP _ _ _ _ ?_; (conv => whnf)
      exact ⟨rfl, ⟨.boolean, rfl, rfl⟩, rI (by show _ = bI (Nat.blt 0 (dCA A.1.1 a b)); rw [show Nat.blt 0 (dCA A.1.1 a b) = true from Nat.ble_eq_true_of_le (by omega)]; rfl), rfl⟩
theorem m_mayBeByRules (h : rfR aS aH vM aN vS aX vL A) (x y : Int32) : RO tc0 kX6_mayBeByRules (d + 12) ((rfM vT aS aH vM aN vS aX vL vP vW aR vR aD vF aW aI aQ aL vB)) [.int x, .int y] (sp2 A x y 9 4 (fun a b => bI ((shW A.1.1 a).testBit b))) := by
  rcases bad_or x y (n := 9) (k := 4) (by decide) (by decide) with hb | ⟨a, b, ha, hb, rfl, rfl⟩
  · rw [sp2_bad hb]
    refine RO_er (x := .int (nI 0)) (M' := (rfM (nI 1) aS aH vM aN vS aX vL vP vW aR vR aD vF aW aI aQ aL vB)) ?_ (RM_of (vT := nI 1) (aS := aS) (aH := aH) (vM := vM) (aN := aN) (vS := vS) (aX := aX) (vL := vL) (vP := vP) (vW := vW) (aR := aR) (vR := vR) (aD := aD) (vF := vF) (aW := aW) (aI := aI) (aQ := aQ) (aL := aL) (vB := vB) h)
    refine Cl_go e_X6_mayBeByRules (Nat.le_of_ble_eq_true rfl) rfl ?_; intro P hP; refine hP _ _ _ _ ?_; (conv => whnf)
    refine ⟨⟨rfl, rfl⟩, ?_⟩; (conv => whnf)
    have f21 : P 21 [some (.ref 0), none, none] [] ((rfM (nI 0) aS aH vM aN vS aX vL vP vW aR vR aD vF aW aI aQ aL vB)) := by
      refine hP _ _ _ _ ?_; (conv => whnf)
      refine ⟨Nat.le_of_ble_eq_true rfl, rfl, ?_⟩; (conv => whnf)
      refine Or.inl ⟨_, _, m_fails (d := d + 10) (vT := nI 0) (aS := aS) (aH := aH) (vM := vM) (aN := aN) (vS := vS) (aX := aX) (vL := vL) (vP := vP) (vW := vW) (aR := aR) (vR := vR) (aD := aD) (vF := vF) (aW := aW) (aI := aI) (aQ := aQ) (aL := aL) (vB := vB) (x := nI 1), ?_⟩; (conv => whnf)
      refine b1 0 rfl (by omega) (fun _ => ?_) (fun (q : ¬ 0 ≤ 0) => by omega)
      refine hP _ _ _ _ ?_; (conv => whnf)
      refine hP _ _ _ _ ?_; (conv => whnf)
      exact ⟨rfl, ⟨.boolean, rfl, rfl⟩, rfl, rfl⟩
    refine ⟨Nat.le_of_ble_eq_true rfl, rfl, ?_⟩; (conv => whnf)
    rcases in_out x (n := 9) (by decide) with hx | ⟨a, ha, rfl⟩
    · refine Or.inl ⟨_, _, Cl_s (m_isCard_f (d := d + 9) hx), ?_⟩; (conv => whnf)
      refine b1 0 rfl (by omega) (fun _ => f21) (fun (q : ¬ 0 = 0) => by omega)
    · have hy : out y 4 := hb.resolve_left (fun z => by
        rcases z with z | z
        · exact nI_pos (show a < 2 ^ 31 by omega) z
        · exact nI_ge ha (by decide) z)
      refine Or.inl ⟨_, _, Cl_s (m_isCard_t (d := d + 9) ha), ?_⟩; (conv => whnf)
      refine b1 1 rfl (by omega) (fun (q : 1 = 0) => by omega) (fun _ => ?_); (conv => whnf)
      refine ⟨Nat.le_of_ble_eq_true rfl, rfl, ?_⟩; (conv => whnf)
      refine Or.inl ⟨_, _, Cl_s (m_in4_f (d := d + 10) hy), ?_⟩; (conv => whnf)
      refine b1 0 rfl (by omega) (fun (q : ¬ 0 = 0) => by omega) (fun _ => ?_); (conv => whnf)
      exact f21
  · rw [sp2_in ha hb (by decide) (by decide)]
    obtain ⟨u, hk, hu⟩ := m_rules (d := d + 6) (vT := nI 0) (aS := aS) (aH := aH) (vM := vM) (aN := aN) (vS := vS) (aX := aX) (vL := vL) (vP := vP) (vW := vW) (aR := aR) (vR := vR) (aD := aD) (vF := vF) (aW := aW) (aI := aI) (aQ := aQ) (aL := aL) (vB := vB) (cl := A.1.1) h.1.1
    rw [← hu.2 a ha]
    refine RO_ok (M' := (rfM (nI 0) aS aH vM aN vS aX vL vP vW aR vR aD vF aW aI aQ (nA u) (bI (shB A.1.1)))) ?_ (RM_of (vT := nI 0) (aS := aS) (aH := aH) (vM := vM) (aN := aN) (vS := vS) (aX := aX) (vL := vL) (vP := vP) (vW := vW) (aR := aR) (vR := vR) (aD := aD) (vF := vF) (aW := aW) (aI := aI) (aQ := aQ) (aL := nA u) (vB := bI (shB A.1.1)) h)
    refine Cl_go e_X6_mayBeByRules (Nat.le_of_ble_eq_true rfl) rfl ?_; intro P hP; refine hP _ _ _ _ ?_; (conv => whnf)
    refine ⟨⟨rfl, rfl⟩, ?_⟩; (conv => whnf)
    refine ⟨Nat.le_of_ble_eq_true rfl, rfl, ?_⟩; (conv => whnf)
    refine Or.inl ⟨_, _, Cl_s (m_isCard_t (d := d + 9) ha), ?_⟩; (conv => whnf)
    refine b1 1 rfl (by omega) (fun (q : 1 = 0) => by omega) (fun _ => ?_); (conv => whnf)
    refine ⟨Nat.le_of_ble_eq_true rfl, rfl, ?_⟩; (conv => whnf)
    refine Or.inl ⟨_, _, Cl_s (m_in4_t (d := d + 10) hb), ?_⟩; (conv => whnf)
    refine b1 1 rfl (by omega) (fun _ => ?_) (fun (q : ¬ ¬ 1 = 0) => by omega)
    refine hP _ _ _ _ ?_; (conv => whnf)
    refine ⟨Nat.le_of_ble_eq_true rfl, rfl, ?_⟩; (conv => whnf)
    refine Or.inl ⟨_, _, hk, ?_⟩; (conv => whnf)
    refine ⟨Nat.le_of_ble_eq_true rfl, rfl, ?_⟩; (conv => whnf)
    refine Or.inl ⟨_, _, m_mayLie (d := d + 10) ha hu.1 (show b < 9 by omega), ?_⟩; (conv => whnf)
    exact ⟨rfl, ⟨.boolean, rfl, b01⟩, rfl, rfl⟩
theorem m_barsAsked {cl : List rl_C} (hc : clS aS cl) (x y : Int32) : ∃ (hd : IA) (lf : Int32) (lw li lp : IA), svY lf lw li lp cl ∧ ((out x 3 ∨ out y 27) → Cl (d + 11) kX6_barsAsked [.ref 0, .int x, .int y] ((rfM vT aS aH vM aN vS aX vL vP vW aR vR aD vF aW aI aQ aL vB)) (rV (nI 1)) ((rfM vT aS aH vM aN vS aX vL vP vW aR vR hd lf lw li lp aL vB))) ∧
    (∀ a b : Nat, a < 3 → b < 27 → x = nI a → y = nI b → Cl (d + 11) kX6_barsAsked [.ref 0, .int x, .int y] ((rfM vT aS aH vM aN vS aX vL vP vW aR vR aD vF aW aI aQ aL vB)) (rV (nI 0)) ((rfM vT aS aH vM aN vS aX vL vP vW aR vR hd lf lw li lp aL vB))) := by
  obtain ⟨hd, lf, lw, li, lp, hk, hs⟩ := m_surveys (d := d + 5) (vT := vT) (aS := aS) (aH := aH) (vM := vM) (aN := aN) (vS := vS) (aX := aX) (vL := vL) (vP := vP) (vW := vW) (aR := aR) (vR := vR) (aD := aD) (vF := vF) (aW := aW) (aI := aI) (aQ := aQ) (aL := aL) (vB := vB) (cl := cl) hc
  refine ⟨hd, lf, lw, li, lp, hs, fun hb => ?_, fun a b ha hb hx hy => ?_⟩
  · refine Cl_go e_X6_barsAsked (Nat.le_of_ble_eq_true rfl) rfl ?_; intro P hP; refine hP _ _ _ _ ?_; (conv => whnf)
    have f22 : P 22 [none, none, none] [] ((rfM vT aS aH vM aN vS aX vL vP vW aR vR hd lf lw li lp aL vB)) := by
      refine hP _ _ _ _ ?_; (conv => whnf)
      refine hP _ _ _ _ ?_; (conv => whnf)
      exact ⟨rfl, ⟨.int, rfl, rfl⟩, rfl, rfl⟩
    refine ⟨Nat.le_of_ble_eq_true rfl, rfl, ?_⟩; (conv => whnf)
    refine Or.inl ⟨_, _, hk, ?_⟩; (conv => whnf)
    refine ⟨Nat.le_of_ble_eq_true rfl, rfl, ?_⟩; (conv => whnf)
    rcases in_out x (n := 3) (by decide) with hx | ⟨a, ha, rfl⟩
    · refine Or.inl ⟨_, _, Cl_s (m_isPlayer_f (d := d + 8) hx), ?_⟩; (conv => whnf)
      refine b1 0 rfl (by omega) (fun _ => f22) (fun (q : ¬ 0 = 0) => by omega)
    · have hy : out y 27 := hb.resolve_left (fun z => by
        rcases z with z | z
        · exact nI_pos (show a < 2 ^ 31 by omega) z
        · exact nI_ge ha (by decide) z)
      refine Or.inl ⟨_, _, Cl_s (m_isPlayer_t (d := d + 8) ha), ?_⟩; (conv => whnf)
      refine b1 1 rfl (by omega) (fun (q : 1 = 0) => by omega) (fun _ => ?_); (conv => whnf)
      refine ⟨Nat.le_of_ble_eq_true rfl, rfl, ?_⟩; (conv => whnf)
      refine Or.inl ⟨_, _, Cl_s (m_isTriple_f (d := d + 8) hy), ?_⟩; (conv => whnf)
      refine b1 0 rfl (by omega) (fun _ => f22) (fun (q : ¬ 0 = 0) => by omega)
  · subst hx
    subst hy
    refine Cl_go e_X6_barsAsked (Nat.le_of_ble_eq_true rfl) rfl ?_; intro P hP; refine hP _ _ _ _ ?_; (conv => whnf)
    refine ⟨Nat.le_of_ble_eq_true rfl, rfl, ?_⟩; (conv => whnf)
    refine Or.inl ⟨_, _, hk, ?_⟩; (conv => whnf)
    refine ⟨Nat.le_of_ble_eq_true rfl, rfl, ?_⟩; (conv => whnf)
    refine Or.inl ⟨_, _, Cl_s (m_isPlayer_t (d := d + 8) ha), ?_⟩; (conv => whnf)
    refine b1 1 rfl (by omega) (fun (q : 1 = 0) => by omega) (fun _ => ?_); (conv => whnf)
    refine ⟨Nat.le_of_ble_eq_true rfl, rfl, ?_⟩; (conv => whnf)
    refine Or.inl ⟨_, _, Cl_s (m_isTriple_t (d := d + 8) hb), ?_⟩; (conv => whnf)
    refine b1 1 rfl (by omega) (fun (q : 1 = 0) => by omega) (fun _ => ?_); (conv => whnf)
    refine hP _ _ _ _ ?_; (conv => whnf)
    exact ⟨rfl, ⟨.int, rfl, rfl⟩, rfl, rfl⟩
theorem m_dealsIfPassed (h : rfR aS aH vM aN vS aX vL A) (x y : Int32) : RO tc0 kX6_dealsIfPassed (d + 12) ((rfM vT aS aH vM aN vS aX vL vP vW aR vR aD vF aW aI aQ aL vB)) [.int x, .int y] (sp2 A x y 3 27 (fun a b => nI (wnN A.1.1 a b))) := by
  obtain ⟨hd, lf, lw, li, lp, hs, k1, k2⟩ := m_barsAsked (d := d) (vT := vT) (aS := aS) (aH := aH) (vM := vM) (aN := aN) (vS := vS) (aX := aX) (vL := vL) (vP := vP) (vW := vW) (aR := aR) (vR := vR) (aD := aD) (vF := vF) (aW := aW) (aI := aI) (aQ := aQ) (aL := aL) (vB := vB) (cl := A.1.1) h.1.1 x y
  rcases bad_or x y (n := 3) (k := 27) (by decide) (by decide) with hb | ⟨a, b, ha, hb, hx, hy⟩
  · rw [sp2_bad hb]
    refine RO_er (x := .int (nI 0)) (M' := (rfM (nI 1) aS aH vM aN vS aX vL vP vW aR vR hd lf lw li lp aL vB)) ?_ (RM_of (vT := nI 1) (aS := aS) (aH := aH) (vM := vM) (aN := aN) (vS := vS) (aX := aX) (vL := vL) (vP := vP) (vW := vW) (aR := aR) (vR := vR) (aD := hd) (vF := lf) (aW := lw) (aI := li) (aQ := lp) (aL := aL) (vB := vB) h)
    refine Cl_go e_X6_dealsIfPassed (Nat.le_of_ble_eq_true rfl) rfl ?_; intro P hP; refine hP _ _ _ _ ?_; (conv => whnf)
    refine ⟨Nat.le_of_ble_eq_true rfl, rfl, ?_⟩; (conv => whnf)
    refine Or.inl ⟨_, _, k1 hb, ?_⟩; (conv => whnf)
    refine ⟨⟨rfl, rfl⟩, ?_⟩; (conv => whnf)
    refine b1 1 rfl (by omega) (fun (q : 1 ≤ 0) => by omega) (fun _ => ?_); (conv => whnf)
    refine hP _ _ _ _ ?_; (conv => whnf)
    exact ⟨rfl, ⟨.int, rfl, rfl⟩, rfl, rfl⟩
  · have k3 := k2 a b ha hb hx hy
    subst hx
    subst hy
    rw [sp2_in ha hb (by decide) (by decide)]
    have ex : cst 27 * nI a + nI b = nI (27 * a + b) := by rw [show cst 27 = nI 27 from rfl, pk_mul, nI_add]
    have ev : lp (cst 27 * nI a + nI b).toNatClampNeg = nI (wnN A.1.1 a b) := by rw [ex, nI_clamp (by omega)]; exact hs.2.2.2 a b ha hb
    refine RO_ok (M' := (rfM (nI 0) aS aH vM aN vS aX vL vP vW aR vR hd lf lw li lp aL vB)) ?_ (RM_of (vT := nI 0) (aS := aS) (aH := aH) (vM := vM) (aN := aN) (vS := vS) (aX := aX) (vL := vL) (vP := vP) (vW := vW) (aR := aR) (vR := vR) (aD := hd) (vF := lf) (aW := lw) (aI := li) (aQ := lp) (aL := aL) (vB := vB) h)
    refine Cl_go e_X6_dealsIfPassed (Nat.le_of_ble_eq_true rfl) rfl ?_; intro P hP; refine hP _ _ _ _ ?_; (conv => whnf)
    refine ⟨Nat.le_of_ble_eq_true rfl, rfl, ?_⟩; (conv => whnf)
    refine Or.inl ⟨_, _, k3, ?_⟩; (conv => whnf)
    refine ⟨⟨rfl, rfl⟩, ?_⟩; (conv => whnf)
    refine b1 0 rfl (by omega) (fun _ => ?_) (fun (q : ¬ 0 ≤ 0) => by omega)
    refine hP _ _ _ _ ?_; (conv => whnf)
    refine ⟨vi (n := 27 * a + b) ex (by omega) (by decide), ?_⟩; (conv => whnf)
    refine hP _ _ _ _ ?_; (conv => whnf)
    exact ⟨rfl, ⟨.int, rfl, rfl⟩, rI (ev), rfl⟩
theorem m_leftBy (h : rfR aS aH vM aN vS aX vL A) (x y : Int32) : RO tc0 kX6_leftBy (d + 12) ((rfM vT aS aH vM aN vS aX vL vP vW aR vR aD vF aW aI aQ aL vB)) [.int x, .int y] (sp2 A x y 3 27 (fun a b => nI (lvs (dT A.1.1) (wnN A.1.1 a b)))) := by
  obtain ⟨hd, lf, lw, li, lp, hs, k1, k2⟩ := m_barsAsked (d := d) (vT := vT) (aS := aS) (aH := aH) (vM := vM) (aN := aN) (vS := vS) (aX := aX) (vL := vL) (vP := vP) (vW := vW) (aR := aR) (vR := vR) (aD := aD) (vF := vF) (aW := aW) (aI := aI) (aQ := aQ) (aL := aL) (vB := vB) (cl := A.1.1) h.1.1 x y
  rcases bad_or x y (n := 3) (k := 27) (by decide) (by decide) with hb | ⟨a, b, ha, hb, hx, hy⟩
  · rw [sp2_bad hb]
    refine RO_er (x := .int (nI 0)) (M' := (rfM (nI 1) aS aH vM aN vS aX vL vP vW aR vR hd lf lw li lp aL vB)) ?_ (RM_of (vT := nI 1) (aS := aS) (aH := aH) (vM := vM) (aN := aN) (vS := vS) (aX := aX) (vL := vL) (vP := vP) (vW := vW) (aR := aR) (vR := vR) (aD := hd) (vF := lf) (aW := lw) (aI := li) (aQ := lp) (aL := aL) (vB := vB) h)
    refine Cl_go e_X6_leftBy (Nat.le_of_ble_eq_true rfl) rfl ?_; intro P hP; refine hP _ _ _ _ ?_; (conv => whnf)
    refine ⟨Nat.le_of_ble_eq_true rfl, rfl, ?_⟩; (conv => whnf)
    refine Or.inl ⟨_, _, k1 hb, ?_⟩; (conv => whnf)
    refine ⟨⟨rfl, rfl⟩, ?_⟩; (conv => whnf)
    refine b1 1 rfl (by omega) (fun (q : 1 ≤ 0) => by omega) (fun _ => ?_); (conv => whnf)
    refine hP _ _ _ _ ?_; (conv => whnf)
    exact ⟨rfl, ⟨.int, rfl, rfl⟩, rfl, rfl⟩
  · have k3 := k2 a b ha hb hx hy
    subst hx
    subst hy
    rw [sp2_in ha hb (by decide) (by decide)]
    have ex : cst 27 * nI a + nI b = nI (27 * a + b) := by rw [show cst 27 = nI 27 from rfl, pk_mul, nI_add]
    have ev : lp (cst 27 * nI a + nI b).toNatClampNeg = nI (wnN A.1.1 a b) := by rw [ex, nI_clamp (by omega)]; exact hs.2.2.2 a b ha hb
    refine RO_ok (M' := (rfM (nI 0) aS aH vM aN vS aX vL vP vW aR vR hd lf lw li lp aL vB)) ?_ (RM_of (vT := nI 0) (aS := aS) (aH := aH) (vM := vM) (aN := aN) (vS := vS) (aX := aX) (vL := vL) (vP := vP) (vW := vW) (aR := aR) (vR := vR) (aD := hd) (vF := lf) (aW := lw) (aI := li) (aQ := lp) (aL := aL) (vB := vB) h)
    refine Cl_go e_X6_leftBy (Nat.le_of_ble_eq_true rfl) rfl ?_; intro P hP; refine hP _ _ _ _ ?_; (conv => whnf)
    refine ⟨Nat.le_of_ble_eq_true rfl, rfl, ?_⟩; (conv => whnf)
    refine Or.inl ⟨_, _, k3, ?_⟩; (conv => whnf)
    refine ⟨⟨rfl, rfl⟩, ?_⟩; (conv => whnf)
    refine b1 0 rfl (by omega) (fun _ => ?_) (fun (q : ¬ 0 ≤ 0) => by omega)
    refine hP _ _ _ _ ?_; (conv => whnf)
    refine ⟨Nat.le_of_ble_eq_true rfl, rfl, ?_⟩; (conv => whnf)
    refine Or.inl ⟨_, _, m_leaves (d := d + 10) (vT := nI 0) (aS := aS) (aH := aH) (vM := vM) (aN := aN) (vS := vS) (aX := aX) (vL := vL) (vP := vP) (vW := vW) (aR := aR) (vR := vR) (aD := hd) (vF := lf) (aW := lw) (aI := li) (aQ := lp) (aL := aL) (vB := vB) hs ha hb, ?_⟩; (conv => whnf)
    refine hP _ _ _ _ ?_; (conv => whnf)
    exact ⟨rfl, ⟨.int, rfl, rfl⟩, rfl, rfl⟩
theorem m_chanceNow {cl : List rl_C} (hc : clS aS cl) : ∃ (hd : IA) (lf : Int32) (lw li lp : IA), Cl (d + 11) kX6_chanceNow [.ref 0] ((rfM vT aS aH vM aN vS aX vL vP vW aR vR aD vF aW aI aQ aL vB)) (.inl (some (.double (shX cl)))) ((rfM vT aS aH vM aN vS aX vL vP vW aR vR hd lf lw li lp aL vB)) := by
  obtain ⟨hd, lf, lw, li, lp, hk, hs⟩ := m_surveys (d := d + 5) (vT := vT) (aS := aS) (aH := aH) (vM := vM) (aN := aN) (vS := vS) (aX := aX) (vL := vL) (vP := vP) (vW := vW) (aR := aR) (vR := vR) (aD := aD) (vF := vF) (aW := aW) (aI := aI) (aQ := aQ) (aL := aL) (vB := vB) (cl := cl) hc
  refine ⟨hd, lf, lw, li, lp, ?_⟩
  have hT := dT31 cl
  have hn := shX_n64 cl
  have hle := amx_le (dIE cl) 26
  unfold shX at hn ⊢
  by_cases h0 : dT cl = 0
  · rw [if_pos h0]
    refine Cl_go e_X6_chanceNow (Nat.le_of_ble_eq_true rfl) rfl ?_; intro P hP; refine hP _ _ _ _ ?_; (conv => whnf)
    refine ⟨Nat.le_of_ble_eq_true rfl, rfl, ?_⟩; (conv => whnf)
    refine Or.inl ⟨_, _, hk, ?_⟩; (conv => whnf)
    refine b1 (dT cl) hs.1 hT (fun (q : ¬ dT cl = 0) => absurd h0 q) (fun _ => ?_); (conv => whnf)
    refine hP _ _ _ _ ?_; (conv => whnf)
    exact ⟨rfl, rfl, rfl, rfl⟩
  · rw [if_neg h0] at hn ⊢
    have ev : li (nI (amx (dIE cl) 26)).toNatClampNeg = nI (dIE cl (amx (dIE cl) 26)) := by rw [nI_clamp (by omega)]; exact hs.2.2.1 _ (by omega)
    rw [← ev, ← hs.1] at hn ⊢
    refine Cl_go e_X6_chanceNow (Nat.le_of_ble_eq_true rfl) rfl ?_; intro P hP; refine hP _ _ _ _ ?_; (conv => whnf)
    refine ⟨Nat.le_of_ble_eq_true rfl, rfl, ?_⟩; (conv => whnf)
    refine Or.inl ⟨_, _, hk, ?_⟩; (conv => whnf)
    refine b1 (dT cl) hs.1 hT (fun _ => ?_) (fun (q : ¬ ¬ dT cl = 0) => absurd h0 q)
    refine hP _ _ _ _ ?_; (conv => whnf)
    refine ⟨Nat.le_of_ble_eq_true rfl, rfl, ?_⟩; (conv => whnf)
    refine Or.inl ⟨_, _, m_bestIn (d := d + 9) (vT := vT) (aS := aS) (aH := aH) (vM := vM) (aN := aN) (vS := vS) (aX := aX) (vL := vL) (vP := vP) (vW := vW) (aR := aR) (vR := vR) (aD := hd) (vF := lf) (aW := lw) (aI := li) (aQ := lp) (aL := aL) (vB := vB) hs, ?_⟩; (conv => whnf)
    refine ⟨vi rfl (show amx (dIE cl) 26 < 27 by omega) (by decide), ?_⟩; (conv => whnf)
    refine ⟨hn, ?_⟩; (conv => whnf)
    refine hP _ _ _ _ ?_; (conv => whnf)
    exact ⟨rfl, rfl, rfl, rfl⟩
theorem m_chance (h : rfR aS aH vM aN vS aX vL A) : RO tc kX6_chance (d + 12) ((rfM vT aS aH vM aN vS aX vL vP vW aR vR aD vF aW aI aQ aL vB)) [] (spChance A) := by
  obtain ⟨hd, lf, lw, li, lp, hk⟩ := m_chanceNow (d := d) (vT := nI 0) (aS := aS) (aH := aH) (vM := vM) (aN := aN) (vS := vS) (aX := aX) (vL := vL) (vP := vP) (vW := vW) (aR := aR) (vR := vR) (aD := aD) (vF := vF) (aW := aW) (aI := aI) (aQ := aQ) (aL := aL) (vB := vB) (cl := A.1.1) h.1.1
  refine RO_ok (M' := (rfM (nI 0) aS aH vM aN vS aX vL vP vW aR vR hd lf lw li lp aL vB)) ?_ (RM_of (vT := nI 0) (aS := aS) (aH := aH) (vM := vM) (aN := aN) (vS := vS) (aX := aX) (vL := vL) (vP := vP) (vW := vW) (aR := aR) (vR := vR) (aD := hd) (vF := lf) (aW := lw) (aI := li) (aQ := lp) (aL := aL) (vB := vB) h)
  refine Cl_go e_X6_chance (Nat.le_of_ble_eq_true rfl) rfl ?_; intro P hP; refine hP _ _ _ _ ?_; (conv => whnf)
  refine ⟨⟨rfl, rfl⟩, ?_⟩; (conv => whnf)
  refine ⟨Nat.le_of_ble_eq_true rfl, rfl, ?_⟩; (conv => whnf)
  refine Or.inl ⟨_, _, hk, ?_⟩; (conv => whnf)
  exact ⟨rfl, rfl, rfl, rfl⟩
end M18
