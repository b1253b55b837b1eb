/-! the reference: works done -/
section M27
variable {d : Nat} {vT vM vS vL vP vW vR vF vB : Int32} {aS aH aN aX aR aD aW aI aQ aL : IA} {A : AS} {a : SA}
/-- a part done -/
theorem m_does {x : rl_C} {k : Nat} (h : stM aS a) (hx : ptOK x) (hk : 3 * k + 2 < 93) (hR : aR (3 * k) = nI x.1 ∧ (npl x.1 = true → aR (3 * k + 1) = nI x.2.1) ∧ aR (3 * k + 2) = nI x.2.2) :
    ∃ (s' hd' : IA), Cl (d + 3) kX6_does [.ref 0, .int (nI (3 * k))] ((rfM vT aS aH vM aN vS aX vL vP vW aR vR aD vF aW aI aQ aL vB)) (rV (nI (doP a x).1)) ((rfM vT s' aH vM aN vS aX vL vP vW aR vR hd' vF aW aI aQ aL vB)) ∧ stM s' (doP a x).2 := by
  obtain ⟨r1, r2, r3⟩ := hR
  have h20 := h.1.2.1
  have x1 : nI (3 * k) + nI 1 = nI (3 * k + 1) := nI_add _ _
  have x2 : nI (3 * k) + nI 2 = nI (3 * k + 2) := nI_add _ _
  have v0 : aR (nI (3 * k)).toNatClampNeg = nI x.1 := by rw [nI_clamp (by omega)]; exact r1
  have v2 : aR (nI (3 * k) + nI 2).toNatClampNeg = nI x.2.2 := by rw [x2, nI_clamp (by omega)]; exact r3
  have v1 : npl x.1 = true → aR (nI (3 * k) + nI 1).toNatClampNeg = nI x.2.1 := fun q => by rw [x1, nI_clamp (by omega)]; exact r2 q
  obtain ⟨l, p, v⟩ := x
  have hl : 0 < lim l := hx.1
  have hv : v < lim l := hx.2.1
  have hp : npl l = true → p < 3 := hx.2.2
  have hll := lim_le l
  have hv31 : v < 2 ^ 31 := by omega
  have v0 : aR (nI (3 * k)).toNatClampNeg = nI l := v0
  have v2 : aR (nI (3 * k) + nI 2).toNatClampNeg = nI v := v2
  have v1 : npl l = true → aR (nI (3 * k) + nI 1).toNatClampNeg = nI p := v1
  generalize hpv : aR (nI (3 * k) + nI 1).toNatClampNeg = pv at v1
  have l31 : l < 2 ^ 31 := by
    rcases lim_cases hl with (h | h) | (h | h | h | h | h | h | h) | h <;> omega
  by_cases h120 : l = 120
  · subst h120
    have hd : doP a (120, p, v) = if v < a.1.length then (0, a.1.eraseIdx v, a.2) else (2, a) := if_pos rfl
    rw [hd]
    by_cases hvn : v < a.1.length
    · rw [if_pos hvn]
      refine ⟨dpF aS a.1.length v, aD, ?_, stM_drop h hvn⟩
      refine Cl_go e_X6_does (Nat.le_of_ble_eq_true rfl) rfl ?_; intro P hP; refine hP _ _ _ _ ?_; (conv => whnf)
      refine ⟨vi (n := 3 * k) rfl (by omega) (by decide), ?_⟩; (conv => whnf)
      refine ⟨vi (n := 3 * k + 1) x1 (by omega) (by decide), ?_⟩; (conv => whnf)
      refine ⟨vi (n := 3 * k + 2) x2 (by omega) (by decide), ?_⟩; (conv => whnf)
      refine b2 120 120 v0 rfl (by omega) (by omega) (fun (q : ¬ 120 = 120) => by omega) (fun _ => ?_); (conv => whnf)
      refine ⟨Nat.le_of_ble_eq_true rfl, rfl, ?_⟩; (conv => whnf)
      have hic := m_isClue_t (d := d) (vT := vT) (aS := aS) (aH := aH) (vM := vM) (aN := aN) (vS := vS) (aX := aX) (vL := vL) (vP := vP) (vW := vW) (aR := aR) (vR := vR) (aD := aD) (vF := vF) (aW := aW) (aI := aI) (aQ := aQ) (aL := aL) (vB := vB) h.1.1 h20 hvn
      rw [← v2] at hic
      refine Or.inl ⟨_, _, hic, ?_⟩; (conv => whnf)
      refine b1 1 rfl (by omega) (fun _ => ?_) (fun (q : ¬ ¬ 1 = 0) => by omega)
      refine hP _ _ _ _ ?_; (conv => whnf)
      refine ⟨Nat.le_of_ble_eq_true rfl, rfl, ?_⟩; (conv => whnf)
      have hdr := m_drops (d := d + 1) (vT := vT) (aS := aS) (aH := aH) (vM := vM) (aN := aN) (vS := vS) (aX := aX) (vL := vL) (vP := vP) (vW := vW) (aR := aR) (vR := vR) (aD := aD) (vF := vF) (aW := aW) (aI := aI) (aQ := aQ) (aL := aL) (vB := vB) h20 hvn h.1.1
      rw [← v2] at hdr
      refine Or.inl ⟨_, _, hdr, ?_⟩; (conv => whnf)
      exact ⟨rfl, ⟨.int, rfl, rfl⟩, rfl, rfl⟩
    · rw [if_neg hvn]
      refine ⟨aS, aD, ?_, h⟩
      refine Cl_go e_X6_does (Nat.le_of_ble_eq_true rfl) rfl ?_; intro P hP; refine hP _ _ _ _ ?_; (conv => whnf)
      refine ⟨vi (n := 3 * k) rfl (by omega) (by decide), ?_⟩; (conv => whnf)
      refine ⟨vi (n := 3 * k + 1) x1 (by omega) (by decide), ?_⟩; (conv => whnf)
      refine ⟨vi (n := 3 * k + 2) x2 (by omega) (by decide), ?_⟩; (conv => whnf)
      refine b2 120 120 v0 rfl (by omega) (by omega) (fun (q : ¬ 120 = 120) => by omega) (fun _ => ?_); (conv => whnf)
      refine ⟨Nat.le_of_ble_eq_true rfl, rfl, ?_⟩; (conv => whnf)
      have ho : out (nI v) a.1.length := Or.inr (Int32.not_lt.mp (nI_nlt (by omega) hv31))
      have hic := m_isClue_f (d := d) (vT := vT) (aS := aS) (aH := aH) (vM := vM) (aN := aN) (vS := vS) (aX := aX) (vL := vL) (vP := vP) (vW := vW) (aR := aR) (vR := vR) (aD := aD) (vF := vF) (aW := aW) (aI := aI) (aQ := aQ) (aL := aL) (vB := vB) h.1.1 h20 ho
      rw [← v2] at hic
      refine Or.inl ⟨_, _, hic, ?_⟩; (conv => whnf)
      refine b1 0 rfl (by omega) (fun (q : ¬ 0 = 0) => by omega) (fun _ => ?_); (conv => whnf)
      exact ⟨rfl, ⟨.int, rfl, rfl⟩, rfl, rfl⟩
  · have hd : doP a (l, p, v) = if a.1.length < 20 then (0, a.1 ++ [addP a l p v], a.2) else (1, a) := if_neg h120
    rw [hd]
    by_cases hn : a.1.length < 20
    · rw [if_pos hn]
      have pre : ∀ (s' hd' : IA), ((∀ (P : Nat → Lcs → List Value → Mem → Prop), (∀ (pc : Nat) (L : Lcs) (S : List Value) (N : Mem), wI (Cl (d + 2)) (fun r' N' => r' = rV (nI 0) ∧ N' = (rfM vT s' aH vM aN vS aX vL vP vW aR vR hd' vF aW aI aQ aL vB)) (some .int) P (fnd pgX6_does pc) L S N → P pc L S N) →
          P 64 [some (.ref 0), none, some (.int (nI l)), some (.int pv), some (.int (nI v))] [] ((rfM vT aS aH vM aN vS aX vL vP vW aR vR aD vF aW aI aQ aL vB))) → Cl (d + 3) kX6_does [.ref 0, .int (nI (3 * k))] ((rfM vT aS aH vM aN vS aX vL vP vW aR vR aD vF aW aI aQ aL vB)) (rV (nI 0)) ((rfM vT s' aH vM aN vS aX vL vP vW aR vR hd' vF aW aI aQ aL vB))) := by
        intro s' hd' hgo
        refine Cl_go e_X6_does (Nat.le_of_ble_eq_true rfl) rfl ?_; intro P hP; refine hP _ _ _ _ ?_; (conv => whnf)
        refine ⟨vi (n := 3 * k) rfl (by omega) (by decide), ?_⟩; (conv => whnf)
        refine ⟨vi (n := 3 * k + 1) x1 (by omega) (by decide), ?_⟩; (conv => whnf)
        refine ⟨vi (n := 3 * k + 2) x2 (by omega) (by decide), ?_⟩; (conv => whnf)
        refine b2 l 120 v0 rfl l31 (by omega) (fun _ => ?_) (fun (q : ¬ ¬ l = 120) => absurd h120 q)
        refine hP _ _ _ _ ?_; (conv => whnf)
        refine ⟨vi (n := 0) rfl (by decide) (by decide), ?_⟩; (conv => whnf)
        refine b2 a.1.length 20 h.1.1 rfl (by omega) (by omega) (fun _ => ?_) (fun (q : ¬ ¬ a.1.length = 20) => by omega)
        have := hgo P hP
        rw [← v0, ← v2, ← hpv] at this
        exact this
      have f294 : ∀ (s' hd' : IA) (P : Nat → Lcs → List Value → Mem → Prop), (∀ (pc : Nat) (L : Lcs) (S : List Value) (N : Mem), wI (Cl (d + 2)) (fun r' N' => r' = rV (nI 0) ∧ N' = (rfM vT s' aH vM aN vS aX vL vP vW aR vR hd' vF aW aI aQ aL vB)) (some .int) P (fnd pgX6_does pc) L S N → P pc L S N) → P 294 [none, none, none, none, none] [] ((rfM vT s' aH vM aN vS aX vL vP vW aR vR hd' vF aW aI aQ aL vB)) := by
        intro s' hd' P hP
        refine hP _ _ _ _ ?_; (conv => whnf)
        exact ⟨rfl, ⟨.int, rfl, rfl⟩, rfl, rfl⟩
      rcases lim_cases hl with (rfl | rfl) | (rfl | rfl | rfl | rfl | rfl | rfl | rfl) | hz
      · have hv : v < 9 := hv
        have hp : p < 3 := hp rfl
        have v1 := v1 rfl
        subst v1
        have hst := stM_add h hn (x := (0, p, 2 ^ v)) ⟨clOK_0 (by decide) hp hv, fun (q : 4 ≤ 0) => absurd q (by decide)⟩
        rw [plI_ne hp] at hst
        have hk2 := m_adds (d := d + 1) (vT := vT) (aS := aS) (aH := aH) (vM := vM) (aN := aN) (vS := vS) (aX := aX) (vL := vL) (vP := vP) (vW := vW) (aR := aR) (vR := vR) (aD := aD) (vF := vF) (aW := aW) (aI := aI) (aQ := aQ) (aL := aL) (vB := vB) (K := nI 0) (p := nI p) (c := nI (2 ^ v)) hn h.1.1
        rw [← sh_1 (show v < 31 by omega)] at hk2 hst
        refine ⟨_, aD, pre _ aD (fun P hP => ?_), hst⟩
        refine hP _ _ _ _ ?_; (conv => whnf)
        refine ⟨fun q => absurd q (by decide), tsw_mk _ _ 7 _ rfl (by decide) ?_⟩
        refine hP _ _ _ _ ?_; (conv => whnf)
        refine ⟨Nat.le_of_ble_eq_true rfl, rfl, ?_⟩; (conv => whnf)
        refine Or.inl ⟨_, _, hk2, ?_⟩; (conv => whnf)
        exact f294 _ _ P hP
      · have hv : v < 9 := hv
        have hp : p < 3 := hp rfl
        have v1 := v1 rfl
        subst v1
        have hst := stM_add h hn (x := (1, p, 2 ^ v)) ⟨clOK_0 (by decide) hp hv, fun (q : 4 ≤ 1) => absurd q (by decide)⟩
        rw [plI_ne hp] at hst
        have hk2 := m_adds (d := d + 1) (vT := vT) (aS := aS) (aH := aH) (vM := vM) (aN := aN) (vS := vS) (aX := aX) (vL := vL) (vP := vP) (vW := vW) (aR := aR) (vR := vR) (aD := aD) (vF := vF) (aW := aW) (aI := aI) (aQ := aQ) (aL := aL) (vB := vB) (K := nI 1) (p := nI p) (c := nI (2 ^ v)) hn h.1.1
        rw [← sh_1 (show v < 31 by omega)] at hk2 hst
        refine ⟨_, aD, pre _ aD (fun P hP => ?_), hst⟩
        refine hP _ _ _ _ ?_; (conv => whnf)
        refine ⟨fun q => absurd q (by decide), tsw_mk _ _ 11 _ rfl (by decide) ?_⟩
        refine hP _ _ _ _ ?_; (conv => whnf)
        refine ⟨Nat.le_of_ble_eq_true rfl, rfl, ?_⟩; (conv => whnf)
        refine Or.inl ⟨_, _, hk2, ?_⟩; (conv => whnf)
        exact f294 _ _ P hP
      · have hv : v < 27 := hv
        have hst := stM_add h hn (it_clX4 (k := bif Nat.beq (hq a.2.1 3) (dq_mask v) then 5 else 4) (by cases Nat.beq (hq a.2.1 3) (dq_mask v) <;> decide) hv)
        have ep : plI (bif Nat.beq (hq a.2.1 3) (dq_mask v) then 5 else 4, 3, dq_mask v) = cst (-1) := if_pos rfl
        rw [ep] at hst
        refine ⟨_, (hdM a.2.1 9 aD), pre _ (hdM a.2.1 9 aD) (fun P hP => ?_), hst⟩
        refine hP _ _ _ _ ?_; (conv => whnf)
        refine ⟨fun _ => ?_, tsw_none _ _ (by decide)⟩
        refine hP _ _ _ _ ?_; (conv => whnf)
        refine ⟨Nat.le_of_ble_eq_true rfl, rfl, ?_⟩; (conv => whnf)
        refine Or.inl ⟨_, _, Cl_s (m_maskOf (d := d + 1) hv), ?_⟩; (conv => whnf)
        refine ⟨Nat.le_of_ble_eq_true rfl, rfl, ?_⟩; (conv => whnf)
        refine Or.inl ⟨_, _, m_accuses (d := d) (vT := vT) (aS := aS) (aH := aH) (vM := vM) (aN := aN) (vS := vS) (aX := aX) (vL := vL) (vP := vP) (vW := vW) (aR := aR) (vR := vR) (aD := aD) (vF := vF) (aW := aW) (aI := aI) (aQ := aQ) (aL := aL) (vB := vB) (a := a) (t := v) h hn hv, ?_⟩; (conv => whnf)
        exact f294 _ _ P hP
      · have hv : v < 27 := hv
        have hp : p < 3 := hp rfl
        have v1 := v1 rfl
        subst v1
        have hst := stM_add h hn (it_clX (k := bif Nat.beq (hq a.2.1 p &&& dq_mask v) 0 then 3 else 2) (by cases Nat.beq (hq a.2.1 p &&& dq_mask v) 0 <;> decide) hp hv)
        rw [plI_ne hp] at hst
        refine ⟨_, (hdM a.2.1 9 aD), pre _ (hdM a.2.1 9 aD) (fun P hP => ?_), hst⟩
        refine hP _ _ _ _ ?_; (conv => whnf)
        refine ⟨fun q => absurd q (by decide), tsw_mk _ _ 0 _ rfl (by decide) ?_⟩
        refine hP _ _ _ _ ?_; (conv => whnf)
        refine ⟨Nat.le_of_ble_eq_true rfl, rfl, ?_⟩; (conv => whnf)
        refine Or.inl ⟨_, _, Cl_s (m_maskOf (d := d + 1) hv), ?_⟩; (conv => whnf)
        refine ⟨Nat.le_of_ble_eq_true rfl, rfl, ?_⟩; (conv => whnf)
        refine Or.inl ⟨_, _, m_asks (d := d) (vT := vT) (aS := aS) (aH := aH) (vM := vM) (aN := aN) (vS := vS) (aX := aX) (vL := vL) (vP := vP) (vW := vW) (aR := aR) (vR := vR) (aD := aD) (vF := vF) (aW := aW) (aI := aI) (aQ := aQ) (aL := aL) (vB := vB) (a := a) (p := p) (t := v) h hn hp hv, ?_⟩; (conv => whnf)
        exact f294 _ _ P hP
      · have hv : v < 27 := hv
        have hst := stM_add h hn (it_clX4 (k := 5) (by decide) hv)
        have ep : plI (5, 3, dq_mask v) = cst (-1) := if_pos rfl
        rw [ep] at hst
        refine ⟨_, aD, pre _ aD (fun P hP => ?_), hst⟩
        refine hP _ _ _ _ ?_; (conv => whnf)
        refine ⟨fun q => absurd q (by decide), tsw_mk _ _ 8 _ rfl (by decide) ?_⟩
        refine hP _ _ _ _ ?_; (conv => whnf)
        refine ⟨Nat.le_of_ble_eq_true rfl, rfl, ?_⟩; (conv => whnf)
        refine Or.inl ⟨_, _, Cl_s (m_maskOf (d := d + 1) hv), ?_⟩; (conv => whnf)
        refine ⟨Nat.le_of_ble_eq_true rfl, rfl, ?_⟩; (conv => whnf)
        refine Or.inl ⟨_, _, m_adds (d := d + 1) (vT := vT) (aS := aS) (aH := aH) (vM := vM) (aN := aN) (vS := vS) (aX := aX) (vL := vL) (vP := vP) (vW := vW) (aR := aR) (vR := vR) (aD := aD) (vF := vF) (aW := aW) (aI := aI) (aQ := aQ) (aL := aL) (vB := vB) (K := nI 5) (p := cst (-1)) (c := nI (dq_mask v)) hn h.1.1, ?_⟩; (conv => whnf)
        exact f294 _ _ P hP
      · have hv : v < 27 := hv
        have hst := stM_add h hn (it_clX4 (k := 4) (by decide) hv)
        have ep : plI (4, 3, dq_mask v) = cst (-1) := if_pos rfl
        rw [ep] at hst
        refine ⟨_, aD, pre _ aD (fun P hP => ?_), hst⟩
        refine hP _ _ _ _ ?_; (conv => whnf)
        refine ⟨fun q => absurd q (by decide), tsw_mk _ _ 13 _ rfl (by decide) ?_⟩
        refine hP _ _ _ _ ?_; (conv => whnf)
        refine ⟨Nat.le_of_ble_eq_true rfl, rfl, ?_⟩; (conv => whnf)
        refine Or.inl ⟨_, _, Cl_s (m_maskOf (d := d + 1) hv), ?_⟩; (conv => whnf)
        refine ⟨Nat.le_of_ble_eq_true rfl, rfl, ?_⟩; (conv => whnf)
        refine Or.inl ⟨_, _, m_adds (d := d + 1) (vT := vT) (aS := aS) (aH := aH) (vM := vM) (aN := aN) (vS := vS) (aX := aX) (vL := vL) (vP := vP) (vW := vW) (aR := aR) (vR := vR) (aD := aD) (vF := vF) (aW := aW) (aI := aI) (aQ := aQ) (aL := aL) (vB := vB) (K := nI 4) (p := cst (-1)) (c := nI (dq_mask v)) hn h.1.1, ?_⟩; (conv => whnf)
        exact f294 _ _ P hP
      · have hv : v < 27 := hv
        have hp : p < 3 := hp rfl
        have v1 := v1 rfl
        subst v1
        have hst := stM_add h hn (it_clX (k := 3) (by decide) hp hv)
        rw [plI_ne hp] at hst
        refine ⟨_, aD, pre _ aD (fun P hP => ?_), hst⟩
        refine hP _ _ _ _ ?_; (conv => whnf)
        refine ⟨fun q => absurd q (by decide), tsw_mk _ _ 15 _ rfl (by decide) ?_⟩
        refine hP _ _ _ _ ?_; (conv => whnf)
        refine ⟨Nat.le_of_ble_eq_true rfl, rfl, ?_⟩; (conv => whnf)
        refine Or.inl ⟨_, _, Cl_s (m_maskOf (d := d + 1) hv), ?_⟩; (conv => whnf)
        refine ⟨Nat.le_of_ble_eq_true rfl, rfl, ?_⟩; (conv => whnf)
        refine Or.inl ⟨_, _, m_adds (d := d + 1) (vT := vT) (aS := aS) (aH := aH) (vM := vM) (aN := aN) (vS := vS) (aX := aX) (vL := vL) (vP := vP) (vW := vW) (aR := aR) (vR := vR) (aD := aD) (vF := vF) (aW := aW) (aI := aI) (aQ := aQ) (aL := aL) (vB := vB) (K := nI 3) (p := nI p) (c := nI (dq_mask v)) hn h.1.1, ?_⟩; (conv => whnf)
        exact f294 _ _ P hP
      · have hv : v < 27 := hv
        have hp : p < 3 := hp rfl
        have v1 := v1 rfl
        subst v1
        have hst := stM_add h hn (it_clX (k := 2) (by decide) hp hv)
        rw [plI_ne hp] at hst
        refine ⟨_, aD, pre _ aD (fun P hP => ?_), hst⟩
        refine hP _ _ _ _ ?_; (conv => whnf)
        refine ⟨fun q => absurd q (by decide), tsw_mk _ _ 18 _ rfl (by decide) ?_⟩
        refine hP _ _ _ _ ?_; (conv => whnf)
        refine ⟨Nat.le_of_ble_eq_true rfl, rfl, ?_⟩; (conv => whnf)
        refine Or.inl ⟨_, _, Cl_s (m_maskOf (d := d + 1) hv), ?_⟩; (conv => whnf)
        refine ⟨Nat.le_of_ble_eq_true rfl, rfl, ?_⟩; (conv => whnf)
        refine Or.inl ⟨_, _, m_adds (d := d + 1) (vT := vT) (aS := aS) (aH := aH) (vM := vM) (aN := aN) (vS := vS) (aX := aX) (vL := vL) (vP := vP) (vW := vW) (aR := aR) (vR := vR) (aD := aD) (vF := vF) (aW := aW) (aI := aI) (aQ := aQ) (aL := aL) (vB := vB) (K := nI 2) (p := nI p) (c := nI (dq_mask v)) hn h.1.1, ?_⟩; (conv => whnf)
        exact f294 _ _ P hP
      · have hv : v < 27 := hv
        have hp : p < 3 := hp rfl
        have v1 := v1 rfl
        subst v1
        have hst := stM_add h hn (clX_see (a := a) hp hv)
        rw [plI_see hp] at hst
        have hst : stM (adF aS a.1.length (nI (seeA a p v).2.1) (nI p) (nI (seeA a p v).2.2.2)) (a.1 ++ [addP a 118 p v], a.2) := by
          have e : (seeA a p v).2 = addP a 118 p v := by
            show (bif Nat.beq (hq a.2.1 p &&& dq_mask v) 0 then (cst (-1), (3, p, dq_mask v)) else (nI (lowC (hq a.2.1 p &&& dq_mask v)), (0, p, 2 ^ lowC (hq a.2.1 p &&& dq_mask v))) : Int32 × rl_C).2 = bif Nat.beq (hq a.2.1 p &&& dq_mask v) 0 then (3, p, dq_mask v) else (0, p, 2 ^ lowC (hq a.2.1 p &&& dq_mask v))
            cases Nat.beq (hq a.2.1 p &&& dq_mask v) 0 <;> rfl
          rw [← e]; exact hst
        refine ⟨_, (hdM a.2.1 9 aD), pre _ (hdM a.2.1 9 aD) (fun P hP => ?_), hst⟩
        refine hP _ _ _ _ ?_; (conv => whnf)
        refine ⟨fun q => absurd q (by decide), tsw_mk _ _ 21 _ rfl (by decide) ?_⟩
        refine hP _ _ _ _ ?_; (conv => whnf)
        refine ⟨Nat.le_of_ble_eq_true rfl, rfl, ?_⟩; (conv => whnf)
        refine Or.inl ⟨_, _, Cl_s (m_maskOf (d := d + 1) hv), ?_⟩; (conv => whnf)
        refine ⟨Nat.le_of_ble_eq_true rfl, rfl, ?_⟩; (conv => whnf)
        refine Or.inl ⟨_, _, m_looksAt (d := d) (vT := vT) (aS := aS) (aH := aH) (vM := vM) (aN := aN) (vS := vS) (aX := aX) (vL := vL) (vP := vP) (vW := vW) (aR := aR) (vR := vR) (aD := aD) (vF := vF) (aW := aW) (aI := aI) (aQ := aQ) (aL := aL) (vB := vB) (a := a) (p := p) (t := v) h hn hp hv, ?_⟩; (conv => whnf)
        exact f294 _ _ P hP
      · exact absurd hz h120
    · rw [if_neg hn]
      refine ⟨aS, aD, ?_, h⟩
      refine Cl_go e_X6_does (Nat.le_of_ble_eq_true rfl) rfl ?_; intro P hP; refine hP _ _ _ _ ?_; (conv => whnf)
      refine ⟨vi (n := 3 * k) rfl (by omega) (by decide), ?_⟩; (conv => whnf)
      refine ⟨vi (n := 3 * k + 1) x1 (by omega) (by decide), ?_⟩; (conv => whnf)
      refine ⟨vi (n := 3 * k + 2) x2 (by omega) (by decide), ?_⟩; (conv => whnf)
      refine b2 l 120 v0 rfl l31 (by omega) (fun _ => ?_) (fun (q : ¬ ¬ l = 120) => absurd h120 q)
      refine hP _ _ _ _ ?_; (conv => whnf)
      refine ⟨vi (n := 0) rfl (by decide) (by decide), ?_⟩; (conv => whnf)
      refine b2 a.1.length 20 h.1.1 rfl (by omega) (by omega) (fun (q : ¬ a.1.length = 20) => by omega) (fun _ => ?_); (conv => whnf)
      exact ⟨rfl, ⟨.int, rfl, rfl⟩, rfl, rfl⟩
theorem stM_stop {f : IA} {a : SA} (h : stM f a) {n w : Nat} (hn : n < 100) (hw : w < 3) : stM (upd (upd f 1 (if w = 0 then cst (-1) else nI n)) 2 (nI w)) (a.1, a.2.1, ((bif Nat.beq w 0 then 0 else n), w)) := by
  obtain ⟨⟨h1, h2, h3, h4⟩, h5, h6, h7, h8⟩ := h
  have lo : ∀ j, ¬ j = 1 → ¬ j = 2 → upd (upd f 1 (if w = 0 then cst (-1) else nI n)) 2 (nI w) j = f j := fun j e1 e2 => by rw [upd_ne _ _ e2, upd_ne _ _ e1]
  refine ⟨⟨by rw [lo _ (by decide) (by decide)]; exact h1, h2, h3, fun i x hx => ?_⟩, fun c hc => ?_, ?_, upd_eq _ _ _, ⟨h8.1, h8.2.1, h8.2.2.1, ?_, hw⟩⟩
  · rw [lo _ (by omega) (by omega), lo _ (by omega) (by omega), lo _ (by omega) (by omega)]; exact h4 i x hx
  · rw [lo _ (by omega) (by omega)]; exact h5 c hc
  · rw [upd_ne _ _ (by decide), upd_eq]
    by_cases hz : w = 0
    · rw [if_pos hz]; exact (if_pos hz).symm
    · rw [if_neg hz]
      show _ = if w = 0 then cst (-1) else nI (bif Nat.beq w 0 then 0 else n)
      rw [if_neg hz, nbf hz]; rfl
  · show (bif Nat.beq w 0 then 0 else n) < 100
    cases Nat.beq w 0 with
    | true => exact (by decide : (0 : Nat) < 100)
    | false => exact hn
theorem doP_3 (a : SA) (x : rl_C) : (doP a x).1 < 3 := by
  unfold doP
  split
  · split
    · exact (by decide : 0 < 3)
    · exact (by decide : 2 < 3)
  · split
    · exact (by decide : 0 < 3)
    · exact (by decide : 1 < 3)
theorem pts_2 : ∀ (t : List Nat) (s e : RS), s.2.2.2 < 5 → runR s t = some e → e.2.2.2 = 4 → 2 * (ptsS s t).length ≤ t.length + (if s.2.2.2 = 0 then 1 else 2) := by
  intro t
  induction t with
  | nil =>
    intro s e h5 hr he
    have hr : s = e := Option.some.inj hr
    subst hr
    rw [if_neg (by omega)]
    show 2 * 1 ≤ 0 + 2
    decide
  | cons c r ih =>
    intro s e h5 hr he
    cases hs : rdS s c with
    | none => rw [runR_n hs] at hr; cases hr
    | some s' =>
      rw [runR_s hs] at hr
      have hi := ih s' e (rdS_lt5 h5 hs) hr he
      rw [ptsS_s hs]
      have hlen : (c :: r).length = r.length + 1 := rfl
      rw [hlen]
      by_cases h59 : c = 59
      · rw [if_pos h59]
        have h4 := rdS_59 h5 hs h59
        have hs' : s'.2.2.2 = 0 := by
          rw [rdS_4 h4, if_pos h59] at hs
          have := Option.some.inj hs
          rw [← this]
        rw [if_pos hs'] at hi
        rw [if_neg (by omega)]
        show 2 * ((ptsS s' r).length + 1) ≤ r.length + 1 + 2
        omega
      · rw [if_neg h59]
        have hi2 : 2 * (ptsS s' r).length ≤ r.length + 2 := by
          split at hi <;> omega
        split <;> omega
theorem m_work (h : rfR aS aH vM aN vS aX vL A) : RO tc21 kX6_work (d + 12) ((rfM vT aS aH vM aN vS aX vL vP vW aR vR aD vF aW aI aQ aL vB)) [] (spWork A) := by
  have hlen := h.2.2.2.2.2.2
  have ht := h.2.2.2.2.2.1
  have h60 := ht.1
  obtain ⟨ps, R', rm', hk, k1, k2⟩ := m_readsWorks (d := d + 6) (vT := nI 0) (aS := aS) (aH := aH) (vM := vM) (aN := aN) (vS := vS) (aX := aX) (vL := vL) (vP := vP) (vW := vW) (aR := aR) (vR := vR) (aD := aD) (vF := vF) (aW := aW) (aI := aI) (aQ := aQ) (aL := aL) (vB := vB) ht hlen
  unfold spWork
  cases hb : okT A.2.2.2 with
  | false =>
    rw [hb] at hk
    refine RO_er (x := .int (nI 0)) (M' := (rfM (nI 1) aS aH vM aN vS aX vL ps (bI false) R' rm' aD vF aW aI aQ aL vB)) ?_ (RM_of (vT := nI 1) (aS := aS) (aH := aH) (vM := vM) (aN := aN) (vS := vS) (aX := aX) (vL := vL) (vP := ps) (vW := bI false) (aR := R') (vR := rm') (aD := aD) (vF := vF) (aW := aW) (aI := aI) (aQ := aQ) (aL := aL) (vB := vB) h)
    refine Cl_go e_X6_work (Nat.le_of_ble_eq_true rfl) rfl ?_; intro P hP; refine hP _ _ _ _ ?_; (conv => whnf)
    refine ⟨⟨rfl, rfl⟩, ?_⟩; (conv => whnf)
    refine ⟨Nat.le_of_ble_eq_true rfl, rfl, ?_⟩; (conv => whnf)
    refine Or.inl ⟨_, _, hk, ?_⟩; (conv => whnf)
    refine b1 0 rfl (by omega) (fun (q : ¬ 0 = 0) => by omega) (fun _ => ?_); (conv => whnf)
    refine ⟨Nat.le_of_ble_eq_true rfl, rfl, ?_⟩; (conv => whnf)
    refine Or.inl ⟨_, _, m_fails (d := d + 10) (vT := nI 0) (aS := aS) (aH := aH) (vM := vM) (aN := aN) (vS := vS) (aX := aX) (vL := vL) (vP := ps) (vW := bI false) (aR := R') (vR := rm') (aD := aD) (vF := vF) (aW := aW) (aI := aI) (aQ := aQ) (aL := aL) (vB := vB) (x := nI 1), ?_⟩; (conv => whnf)
    exact ⟨rfl, ⟨.int, rfl, rfl⟩, rfl, rfl⟩
  | true =>
    obtain ⟨k3, k4⟩ := k2 hb
    rw [hb] at hk
    subst k3
    obtain ⟨e0, he0, he4⟩ : ∃ e, runR t00 A.2.2.2 = some e ∧ e.2.2.2 = 4 := by
      unfold okT at hb
      cases hq : runR t00 A.2.2.2 with
      | none => rw [hq] at hb; cases hb
      | some e => rw [hq] at hb; exact ⟨e, rfl, Nat.eq_of_beq_eq_true hb⟩
    have hV00 : V t00 := V_0 (0, 0, 0, 0) (by decide)
    have hlt := tx_lt ht
    have hlt31 : ∀ c ∈ A.2.2.2, c < 2 ^ 31 := fun c hc => Nat.lt_trans (hlt c hc) (by decide)
    have hpt := ptsS_ok A.2.2.2 t00 e0 hV00 hlt31 he0 he4
    have hp2 := pts_2 A.2.2.2 t00 e0 (by show 0 < 5; decide) he0 he4
    rw [if_pos (show t00.2.2.2 = 0 from rfl)] at hp2
    have hwk : wkA A = runP A.1 (ptsS t00 A.2.2.2) 0 := rfl
    generalize wkA A = W at hwk
    generalize ptsS t00 A.2.2.2 = X at k4 hk hpt hp2 hwk
    show RO tc21 _ _ _ _ (rV (nI W.1), (wkS W, A.2.1, svA A, []))
    -- the whole: from the end of the loop
    suffices hh : ∃ (r : Res) (N : Mem), (r = rV (nI W.1) ∧ ∃ (s' hd' : IA), stM s' (wkS W) ∧ N = (rfM (nI 0) s' (rcF2 A.2.2.1.length aS aH) (nI (svN A.2.2.1.length)) aN vS aX (nI 0) ps (bI true) R' (nI X.length) hd' vF aW aI aQ aL vB)) ∧ Cl (d + 12) kX6_work [.ref 0] ((rfM vT aS aH vM aN vS aX vL vP vW aR vR aD vF aW aI aQ aL vB)) r N by
      obtain ⟨r, N, ⟨rfl, s', hd', hs', rfl⟩, hc⟩ := hh
      refine RO_ok hc (RM_of (vT := nI 0) (aS := s') (aH := rcF2 A.2.2.1.length aS aH) (vM := nI (svN A.2.2.1.length)) (aN := aN) (vS := vS) (aX := aX) (vL := nI 0) (vP := ps) (vW := bI true) (aR := R') (vR := nI X.length) (aD := hd') (vF := vF) (aW := aW) (aI := aI) (aQ := aQ) (aL := aL) (vB := vB) ?_)
      have hq := rfR_chg h hs'
      exact ⟨hq.1, hq.2.1, hq.2.2.1, hq.2.2.2.1, hq.2.2.2.2.1, txR_nil _, rfl⟩
    -- that there's such an end
    have key : ∀ (xs : List rl_C) (a : SA) (k : Nat) (s0 : IA), stM s0 a → (∀ x ∈ xs, ptOK x) → (runP a xs k).2.1 < 3 ∧ (runP a xs k).1 ≤ k + xs.length ∧ ∃ s', stM s' (runP a xs k).2.2 := by
      intro xs
      induction xs with
      | nil => intro a k s0 hs _; exact ⟨(by decide : 0 < 3), Nat.le_refl _, s0, hs⟩
      | cons x xs ih =>
        intro a k s0 hs hx
        obtain ⟨s1, hd1, -, hs1⟩ := m_does (d := d) (vT := vT) (aS := s0) (aH := aH) (vM := vM) (aN := aN) (vS := vS) (aX := aX) (vL := vL) (vP := vP) (vW := vW) (aR := fun j => if j % 3 = 0 then nI x.1 else if j % 3 = 1 then nI x.2.1 else nI x.2.2) (vR := vR) (aD := aD) (vF := vF) (aW := aW) (aI := aI) (aQ := aQ) (aL := aL) (vB := vB) (x := x) (k := 0) hs (hx x List.mem_cons_self) (by decide) ⟨rfl, fun _ => rfl, rfl⟩
        by_cases h0 : (doP a x).1 = 0
        · rw [runP_0 h0]
          obtain ⟨j1, j2, j3⟩ := ih (doP a x).2 (k + 1) s1 hs1 (fun y hy => hx y (List.mem_cons_of_mem _ hy))
          exact ⟨j1, by have : (x :: xs).length = xs.length + 1 := rfl; omega, j3⟩
        · rw [runP_1 h0]
          have hlt3 := doP_3 a x
          exact ⟨hlt3, by have : (x :: xs).length = xs.length + 1 := rfl; show k ≤ _; omega, s1, hs1⟩
    have hW := key X A.1 0 aS h.1 hpt
    rw [← hwk] at hW
    obtain ⟨hw3, hwn, sE, hsE⟩ := hW
    have hstE := stM_stop hsE (n := W.1) (w := W.2.1) (by omega) hw3
    refine Cl_goQ e_X6_work rfl (Nat.le_of_ble_eq_true rfl) (fun r M' q => by obtain ⟨-, s', hd', -, rfl⟩ := q; rfl) (⟨_, _, rfl, _, aD, hstE, rfl⟩) ?_; intro P hP; refine hP _ _ _ _ ?_; (conv => whnf)
    refine ⟨⟨rfl, rfl⟩, ?_⟩; (conv => whnf)
    refine ⟨Nat.le_of_ble_eq_true rfl, rfl, ?_⟩; (conv => whnf)
    refine Or.inl ⟨_, _, hk, ?_⟩; (conv => whnf)
    refine b1 1 rfl (by omega) (fun _ => ?_) (fun (q : ¬ ¬ 1 = 0) => by omega)
    refine hP _ _ _ _ ?_; (conv => whnf)
    refine ⟨Nat.le_of_ble_eq_true rfl, rfl, ?_⟩; (conv => whnf)
    refine Or.inl ⟨_, _, m_records (d := d + 10) (vT := nI 0) (aS := aS) (aH := aH) (vM := vM) (aN := aN) (vS := vS) (aX := aX) (vL := vL) (vP := ps) (vW := bI true) (aR := R') (vR := nI X.length) (aD := aD) (vF := vF) (aW := aW) (aI := aI) (aQ := aQ) (aL := aL) (vB := vB) h.2.1.1 h.2.2.1, ?_⟩; (conv => whnf)
    refine ⟨⟨rfl, rfl⟩, ?_⟩; (conv => whnf)
    -- behind the parts
    have fin : ∀ (s' hd' : IA) (n w : Nat) (a' : SA), stM s' a' → W = (n, w, a') → n < 100 → w < 3 → P 66 [some (.ref 0), some (.int (nI n)), some (.int (nI w))] [] ((rfM (nI 0) s' (rcF2 A.2.2.1.length aS aH) (nI (svN A.2.2.1.length)) aN vS aX (nI 0) ps (bI true) R' (nI X.length) hd' vF aW aI aQ aL vB)) := by
      intro s' hd' n w a' hs' hWe hn hw
      have hfs := stM_stop hs' hn hw
      subst hWe
      have f80 : ∀ v : Int32, v = (if w = 0 then cst (-1) else nI n) → P 80 [some (.ref 0), some (.int (nI n)), some (.int (nI w))] [.int v, .int (nI 1), .ref 1] ((rfM (nI 0) s' (rcF2 A.2.2.1.length aS aH) (nI (svN A.2.2.1.length)) aN vS aX (nI 0) ps (bI true) R' (nI X.length) hd' vF aW aI aQ aL vB)) := by
        intro v hv
        subst hv
        refine hP _ _ _ _ ?_; (conv => whnf)
        refine ⟨vi (n := 1) rfl (by decide) (by decide), ?_⟩; (conv => whnf)
        refine ⟨vi (n := 2) rfl (by decide) (by decide), ?_⟩; (conv => whnf)
        exact ⟨rfl, ⟨.int, rfl, rfl⟩, rfl, _, hd', hfs, rfl⟩
      refine hP _ _ _ _ ?_; (conv => whnf)
      refine b1 w rfl (by omega) (fun (q : ¬ w = 0) => ?_) (fun (q : ¬ ¬ w = 0) => ?_)
      · refine hP _ _ _ _ ?_; (conv => whnf)
        exact f80 (nI n) (if_neg q).symm
      · (conv => whnf)
        exact f80 (cst (-1)) (if_pos (Decidable.of_not_not q)).symm
    have lp : ∀ (xs : List rl_C) (a' : SA) (k : Nat) (s' hd' : IA), stM s' a' → k + xs.length = X.length → (∀ j, xs[j]? = X[k + j]?) → W = runP a' xs k → P 31 [some (.ref 0), some (.int (nI k)), some (.int (nI 0))] [] ((rfM (nI 0) s' (rcF2 A.2.2.1.length aS aH) (nI (svN A.2.2.1.length)) aN vS aX (nI 0) ps (bI true) R' (nI X.length) hd' vF aW aI aQ aL vB)) := by
      intro xs
      induction xs with
      | nil =>
        intro a' k s' hd' hs' hkl _ hWe
        have hkl : k = X.length := hkl
        refine hP _ _ _ _ ?_; (conv => whnf)
        refine b2 k X.length rfl rfl (by omega) (by omega) (fun _ => ?_) (fun (q : ¬ X.length ≤ k) => by omega)
        exact fin s' hd' k 0 a' hs' hWe (by omega) (by decide)
      | cons x xs ih =>
        intro a' k s' hd' hs' hkl hX hWe
        have hxl : (x :: xs).length = xs.length + 1 := rfl
        rw [hxl] at hkl
        have hx0 : X[k]? = some x := (hX 0).symm
        have hxo := hpt x (List.mem_of_getElem? hx0)
        obtain ⟨s1, hd1, hc1, hs1⟩ := m_does (d := d + 8) (vT := nI 0) (aS := s') (aH := rcF2 A.2.2.1.length aS aH) (vM := nI (svN A.2.2.1.length)) (aN := aN) (vS := vS) (aX := aX) (vL := nI 0) (vP := ps) (vW := bI true) (aR := R') (vR := nI X.length) (aD := hd') (vF := vF) (aW := aW) (aI := aI) (aQ := aQ) (aL := aL) (vB := vB) (x := x) (k := k) hs' hxo (by omega) (k4 k x hx0)
        have e3 : nI 3 * nI k = nI (3 * k) := pk_mul _ _
        rw [← e3] at hc1
        refine hP _ _ _ _ ?_; (conv => whnf)
        refine b2 k X.length rfl rfl (by omega) (by omega) (fun (q : X.length ≤ k) => by omega) (fun _ => ?_); (conv => whnf)
        refine b1 0 rfl (by omega) (fun (q : ¬ 0 = 0) => by omega) (fun _ => ?_); (conv => whnf)
        refine ⟨Nat.le_of_ble_eq_true rfl, rfl, ?_⟩; (conv => whnf)
        refine Or.inl ⟨_, _, hc1, ?_⟩; (conv => whnf)
        by_cases h0 : (doP a' x).1 = 0
        · rw [runP_0 h0] at hWe
          have hfin := ih (doP a' x).2 (k + 1) s1 hd1 hs1 (by omega) (fun j => by rw [show k + 1 + j = k + (j + 1) by omega]; exact hX (j + 1)) hWe
          rw [← nI_1 k] at hfin
          refine b1 (doP a' x).1 rfl (by omega) (fun (q : ¬ (doP a' x).1 = 0) => absurd h0 q) (fun _ => ?_); (conv => whnf)
          refine hP _ _ _ _ ?_; (conv => whnf)
          rw [h0]
          exact hfin
        · rw [runP_1 h0] at hWe
          have hlt3 := doP_3 a' x
          refine b1 (doP a' x).1 rfl (by omega) (fun _ => ?_) (fun (q : ¬ ¬ (doP a' x).1 = 0) => absurd h0 q)
          refine hP _ _ _ _ ?_; (conv => whnf)
          refine hP _ _ _ _ ?_; (conv => whnf)
          have e0 : nI k + nI 0 = nI k := Int32.add_zero _
          have f31 : P 31 [some (.ref 0), some (.int (nI k)), some (.int (nI (doP a' x).1))] [] ((rfM (nI 0) s1 (rcF2 A.2.2.1.length aS aH) (nI (svN A.2.2.1.length)) aN vS aX (nI 0) ps (bI true) R' (nI X.length) hd1 vF aW aI aQ aL vB)) := by
            refine hP _ _ _ _ ?_; (conv => whnf)
            refine b2 k X.length rfl rfl (by omega) (by omega) (fun (q : X.length ≤ k) => by omega) (fun _ => ?_); (conv => whnf)
            refine b1 (doP a' x).1 rfl (by omega) (fun _ => ?_) (fun (q : ¬ ¬ (doP a' x).1 = 0) => absurd h0 q)
            exact fin s1 hd1 k (doP a' x).1 (doP a' x).2 hs1 hWe (by omega) hlt3
          rw [← e0] at f31
          exact f31
    exact lp X A.1 0 aS aD h.1 (Nat.zero_add _) (fun j => by rw [Nat.zero_add]) hwk
end M27
