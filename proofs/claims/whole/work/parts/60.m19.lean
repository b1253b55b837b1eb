/-! the reference: changes -/
section M19
variable {d : Nat} {vT vM vS vL vP vW vR vF vB : Int32} {aS aH aN aX aR aD aW aI aQ aL : IA} {A : AS}
theorem rfR_chg (h : rfR aS aH vM aN vS aX vL A) {f : IA} {a : SA} (hf : stM f a) : rfR f (rcF2 A.2.2.1.length aS aH) (nI (svN A.2.2.1.length)) aN vS aX vL (chg A a) := by
  obtain ⟨h1, h2, h3, h4⟩ := h
  refine ⟨hf, hiR_rec h2 h1, ?_, h4⟩
  show _ = nI (svA A).length
  rw [svA_len A h2.1]
theorem rfR_chg2 (h : rfR aS aH vM aN vS aX vL A) {f : IA} {a : SA} {aS2 : IA} (he : aS2 = aS) (hf : stM f a) : rfR f (rcF2 A.2.2.1.length aS2 aH) (nI (svN A.2.2.1.length)) aN vS aX vL (chg A a) := by
  rw [he]; exact rfR_chg h hf
theorem m_notes_ok (h : rfR aS aH vM aN vS aX vL A) (hn : A.1.1.length < 20) (K p c : Int32) : Cl (d + 11) kX6_notes [.ref 0, .int K, .int p, .int c] ((rfM vT aS aH vM aN vS aX vL vP vW aR vR aD vF aW aI aQ aL vB)) (rV (nI (A.1.1.length + 1))) ((rfM vT (adF aS A.1.1.length K p c) (rcF2 A.2.2.1.length aS aH) (nI (svN A.2.2.1.length)) aN vS aX vL vP vW aR vR aD vF aW aI aQ aL vB)) := by
  refine Cl_go e_X6_notes (Nat.le_of_ble_eq_true rfl) rfl ?_; intro P hP; refine hP _ _ _ _ ?_; (conv => whnf)
  refine ⟨vi (n := 0) rfl (by decide) (by decide), ?_⟩; (conv => whnf)
  refine b2 A.1.1.length 20 h.1.1.1 rfl (by omega) (by omega) (fun _ => ?_) (fun (q : ¬ ¬ A.1.1.length = 20) => by omega)
  refine hP _ _ _ _ ?_; (conv => whnf)
  refine ⟨Nat.le_of_ble_eq_true rfl, rfl, ?_⟩; (conv => whnf)
  refine Or.inl ⟨_, _, m_records (d := d + 9) h.2.1.1 h.2.2.1, ?_⟩; (conv => whnf)
  refine ⟨Nat.le_of_ble_eq_true rfl, rfl, ?_⟩; (conv => whnf)
  refine Or.inl ⟨_, _, m_adds (d := d + 9) (vT := vT) (aS := aS) (aH := rcF2 A.2.2.1.length aS aH) (vM := nI (svN A.2.2.1.length)) (aN := aN) (vS := vS) (aX := aX) (vL := vL) (vP := vP) (vW := vW) (aR := aR) (vR := vR) (aD := aD) (vF := vF) (aW := aW) (aI := aI) (aQ := aQ) (aL := aL) (vB := vB) hn h.1.1.1, ?_⟩; (conv => whnf)
  exact ⟨rfl, ⟨.int, rfl, rfl⟩, rfl, rfl⟩
theorem m_notes_no (h : rfR aS aH vM aN vS aX vL A) (hn : ¬ A.1.1.length < 20) (K p c : Int32) : Cl (d + 11) kX6_notes [.ref 0, .int K, .int p, .int c] ((rfM vT aS aH vM aN vS aX vL vP vW aR vR aD vF aW aI aQ aL vB)) (rV (nI 0)) ((rfM (nI 2) aS aH vM aN vS aX vL vP vW aR vR aD vF aW aI aQ aL vB)) := by
  have h20 := h.1.1.2.1
  refine Cl_go e_X6_notes (Nat.le_of_ble_eq_true rfl) rfl ?_; intro P hP; refine hP _ _ _ _ ?_; (conv => whnf)
  refine ⟨vi (n := 0) rfl (by decide) (by decide), ?_⟩; (conv => whnf)
  refine b2 A.1.1.length 20 h.1.1.1 rfl (by omega) (by omega) (fun (q : ¬ A.1.1.length = 20) => by omega) (fun _ => ?_); (conv => whnf)
  refine ⟨Nat.le_of_ble_eq_true rfl, rfl, ?_⟩; (conv => whnf)
  refine Or.inl ⟨_, _, m_fails (d := d + 9) (vT := vT) (aS := aS) (aH := aH) (vM := vM) (aN := aN) (vS := vS) (aX := aX) (vL := vL) (vP := vP) (vW := vW) (aR := aR) (vR := vR) (aD := aD) (vF := vF) (aW := aW) (aI := aI) (aQ := aQ) (aL := aL) (vB := vB) (x := nI 2), ?_⟩; (conv => whnf)
  exact ⟨rfl, ⟨.int, rfl, rfl⟩, rfl, rfl⟩
theorem plI_ne {k p c : Nat} (hp : p < 3) : plI (k, p, c) = nI p := if_neg (show ¬ p = 3 by omega)
theorem m_noteHas (h : rfR aS aH vM aN vS aX vL A) (x y : Int32) : RO tc01 kX6_noteHas (d + 12) ((rfM vT aS aH vM aN vS aX vL vP vW aR vR aD vF aW aI aQ aL vB)) [.int x, .int y] (spNote 0 A x y) := by
  rcases bad_or x y (n := 3) (k := 9) (by decide) (by decide) with hb | ⟨p, c, hp, hc, rfl, rfl⟩
  · have e : spNote 0 A x y = (.inr 0, A) := by
      unfold spNote
      rcases hb with hb | hb
      · rw [decN_out hb]
      · rw [decN_out hb]; cases decN x 3 <;> rfl
    rw [e]
    refine RO_er (x := .int (nI 0)) (M' := (rfM (nI 1) aS aH vM aN vS aX vL vP vW aR vR aD vF aW aI aQ aL vB)) ?_ (RM_of (vT := nI 1) (aS := aS) (aH := aH) (vM := vM) (aN := aN) (vS := vS) (aX := aX) (vL := vL) (vP := vP) (vW := vW) (aR := aR) (vR := vR) (aD := aD) (vF := vF) (aW := aW) (aI := aI) (aQ := aQ) (aL := aL) (vB := vB) h)
    refine Cl_go e_X6_noteHas (Nat.le_of_ble_eq_true rfl) rfl ?_; intro P hP; refine hP _ _ _ _ ?_; (conv => whnf)
    refine ⟨⟨rfl, rfl⟩, ?_⟩; (conv => whnf)
    have f31 : P 31 [some (.ref 0), none, none] [] ((rfM (nI 0) aS aH vM aN vS aX vL vP vW aR vR aD vF aW aI aQ aL vB)) := by
      refine hP _ _ _ _ ?_; (conv => whnf)
      refine ⟨Nat.le_of_ble_eq_true rfl, rfl, ?_⟩; (conv => whnf)
      refine Or.inl ⟨_, _, m_fails (d := d + 10) (vT := nI 0) (aS := aS) (aH := aH) (vM := vM) (aN := aN) (vS := vS) (aX := aX) (vL := vL) (vP := vP) (vW := vW) (aR := aR) (vR := vR) (aD := aD) (vF := vF) (aW := aW) (aI := aI) (aQ := aQ) (aL := aL) (vB := vB) (x := nI 1), ?_⟩; (conv => whnf)
      refine hP _ _ _ _ ?_; (conv => whnf)
      exact ⟨rfl, ⟨.int, rfl, rfl⟩, rfl, rfl⟩
    refine ⟨Nat.le_of_ble_eq_true rfl, rfl, ?_⟩; (conv => whnf)
    rcases in_out x (n := 3) (by decide) with hx | ⟨a, ha, rfl⟩
    · refine Or.inl ⟨_, _, Cl_s (m_isPlayer_f (d := d + 9) hx), ?_⟩; (conv => whnf)
      refine b1 0 rfl (by omega) (fun _ => f31) (fun (q : ¬ 0 = 0) => by omega)
    · have hy : out y 9 := hb.resolve_left (fun z => by
        rcases z with z | z
        · exact nI_pos (show a < 2 ^ 31 by omega) z
        · exact nI_ge ha (by decide) z)
      refine Or.inl ⟨_, _, Cl_s (m_isPlayer_t (d := d + 9) ha), ?_⟩; (conv => whnf)
      refine b1 1 rfl (by omega) (fun (q : 1 = 0) => by omega) (fun _ => ?_); (conv => whnf)
      refine ⟨Nat.le_of_ble_eq_true rfl, rfl, ?_⟩; (conv => whnf)
      refine Or.inl ⟨_, _, Cl_s (m_isCard_f (d := d + 9) hy), ?_⟩; (conv => whnf)
      refine b1 0 rfl (by omega) (fun _ => f31) (fun (q : ¬ 0 = 0) => by omega)
  · have e : spNote 0 A (nI p) (nI c) = if A.1.1.length < 20 then (rV (nI (A.1.1.length + 1)), chg A (A.1.1 ++ [(0, p, 2 ^ c)], A.1.2)) else (.inr 1, A) := by
      unfold spNote
      rw [decN_in hp (by decide), decN_in hc (by decide)]
    rw [e]
    by_cases hn : A.1.1.length < 20
    · rw [if_pos hn]
      have hX : clX (0, p, 2 ^ c) := ⟨clOK_0 (by decide) hp hc, fun (q : 4 ≤ 0) => absurd q (by decide)⟩
      have hst := stM_add h.1 hn hX
      rw [plI_ne hp] at hst
      have hk := m_notes_ok (d := d) (vT := nI 0) (aS := aS) (aH := aH) (vM := vM) (aN := aN) (vS := vS) (aX := aX) (vL := vL) (vP := vP) (vW := vW) (aR := aR) (vR := vR) (aD := aD) (vF := vF) (aW := aW) (aI := aI) (aQ := aQ) (aL := aL) (vB := vB) (A := A) h hn (nI 0) (nI p) (nI (2 ^ c))
      rw [← sh_1 (show c < 31 by omega)] at hk hst
      refine RO_ok (M' := (rfM (nI 0) (adF aS A.1.1.length (nI 0) (nI p) (nI 1 <<< (nI c &&& 31))) (rcF2 A.2.2.1.length aS aH) (nI (svN A.2.2.1.length)) aN vS aX vL vP vW aR vR aD vF aW aI aQ aL vB)) ?_ (RM_of (vT := nI 0) (aS := adF aS A.1.1.length (nI 0) (nI p) (nI 1 <<< (nI c &&& 31))) (aH := rcF2 A.2.2.1.length aS aH) (vM := nI (svN A.2.2.1.length)) (aN := aN) (vS := vS) (aX := aX) (vL := vL) (vP := vP) (vW := vW) (aR := aR) (vR := vR) (aD := aD) (vF := vF) (aW := aW) (aI := aI) (aQ := aQ) (aL := aL) (vB := vB) (rfR_chg h hst))
      refine Cl_go e_X6_noteHas (Nat.le_of_ble_eq_true rfl) rfl ?_; intro P hP; refine hP _ _ _ _ ?_; (conv => whnf)
      refine ⟨⟨rfl, rfl⟩, ?_⟩; (conv => whnf)
      refine ⟨Nat.le_of_ble_eq_true rfl, rfl, ?_⟩; (conv => whnf)
      refine Or.inl ⟨_, _, Cl_s (m_isPlayer_t (d := d + 9) hp), ?_⟩; (conv => whnf)
      refine b1 1 rfl (by omega) (fun (q : 1 = 0) => by omega) (fun _ => ?_); (conv => whnf)
      refine ⟨Nat.le_of_ble_eq_true rfl, rfl, ?_⟩; (conv => whnf)
      refine Or.inl ⟨_, _, Cl_s (m_isCard_t (d := d + 9) hc), ?_⟩; (conv => whnf)
      refine b1 1 rfl (by omega) (fun (q : 1 = 0) => by omega) (fun _ => ?_); (conv => whnf)
      refine ⟨Nat.le_of_ble_eq_true rfl, rfl, ?_⟩; (conv => whnf)
      refine Or.inl ⟨_, _, hk, ?_⟩; (conv => whnf)
      refine hP _ _ _ _ ?_; (conv => whnf)
      exact ⟨rfl, ⟨.int, rfl, rfl⟩, rfl, rfl⟩
    · rw [if_neg hn]
      refine RO_er (x := .int (nI 0)) (M' := (rfM (nI 2) aS aH vM aN vS aX vL vP vW aR vR aD vF aW aI aQ aL vB)) ?_ (RM_of (vT := nI 2) (aS := aS) (aH := aH) (vM := vM) (aN := aN) (vS := vS) (aX := aX) (vL := vL) (vP := vP) (vW := vW) (aR := aR) (vR := vR) (aD := aD) (vF := vF) (aW := aW) (aI := aI) (aQ := aQ) (aL := aL) (vB := vB) h)
      refine Cl_go e_X6_noteHas (Nat.le_of_ble_eq_true rfl) rfl ?_; intro P hP; refine hP _ _ _ _ ?_; (conv => whnf)
      refine ⟨⟨rfl, rfl⟩, ?_⟩; (conv => whnf)
      refine ⟨Nat.le_of_ble_eq_true rfl, rfl, ?_⟩; (conv => whnf)
      refine Or.inl ⟨_, _, Cl_s (m_isPlayer_t (d := d + 9) hp), ?_⟩; (conv => whnf)
      refine b1 1 rfl (by omega) (fun (q : 1 = 0) => by omega) (fun _ => ?_); (conv => whnf)
      refine ⟨Nat.le_of_ble_eq_true rfl, rfl, ?_⟩; (conv => whnf)
      refine Or.inl ⟨_, _, Cl_s (m_isCard_t (d := d + 9) hc), ?_⟩; (conv => whnf)
      refine b1 1 rfl (by omega) (fun (q : 1 = 0) => by omega) (fun _ => ?_); (conv => whnf)
      refine ⟨Nat.le_of_ble_eq_true rfl, rfl, ?_⟩; (conv => whnf)
      refine Or.inl ⟨_, _, m_notes_no (d := d) (vT := nI 0) (aS := aS) (aH := aH) (vM := vM) (aN := aN) (vS := vS) (aX := aX) (vL := vL) (vP := vP) (vW := vW) (aR := aR) (vR := vR) (aD := aD) (vF := vF) (aW := aW) (aI := aI) (aQ := aQ) (aL := aL) (vB := vB) (A := A) h hn _ _ _, ?_⟩; (conv => whnf)
      refine hP _ _ _ _ ?_; (conv => whnf)
      exact ⟨rfl, ⟨.int, rfl, rfl⟩, rfl, rfl⟩
theorem m_noteLacks (h : rfR aS aH vM aN vS aX vL A) (x y : Int32) : RO tc01 kX6_noteLacks (d + 12) ((rfM vT aS aH vM aN vS aX vL vP vW aR vR aD vF aW aI aQ aL vB)) [.int x, .int y] (spNote 1 A x y) := by
  rcases bad_or x y (n := 3) (k := 9) (by decide) (by decide) with hb | ⟨p, c, hp, hc, rfl, rfl⟩
  · have e : spNote 1 A x y = (.inr 0, A) := by
      unfold spNote
      rcases hb with hb | hb
      · rw [decN_out hb]
      · rw [decN_out hb]; cases decN x 3 <;> rfl
    rw [e]
    refine RO_er (x := .int (nI 0)) (M' := (rfM (nI 1) aS aH vM aN vS aX vL vP vW aR vR aD vF aW aI aQ aL vB)) ?_ (RM_of (vT := nI 1) (aS := aS) (aH := aH) (vM := vM) (aN := aN) (vS := vS) (aX := aX) (vL := vL) (vP := vP) (vW := vW) (aR := aR) (vR := vR) (aD := aD) (vF := vF) (aW := aW) (aI := aI) (aQ := aQ) (aL := aL) (vB := vB) h)
    refine Cl_go e_X6_noteLacks (Nat.le_of_ble_eq_true rfl) rfl ?_; intro P hP; refine hP _ _ _ _ ?_; (conv => whnf)
    refine ⟨⟨rfl, rfl⟩, ?_⟩; (conv => whnf)
    have f31 : P 31 [some (.ref 0), none, none] [] ((rfM (nI 0) aS aH vM aN vS aX vL vP vW aR vR aD vF aW aI aQ aL vB)) := by
      refine hP _ _ _ _ ?_; (conv => whnf)
      refine ⟨Nat.le_of_ble_eq_true rfl, rfl, ?_⟩; (conv => whnf)
      refine Or.inl ⟨_, _, m_fails (d := d + 10) (vT := nI 0) (aS := aS) (aH := aH) (vM := vM) (aN := aN) (vS := vS) (aX := aX) (vL := vL) (vP := vP) (vW := vW) (aR := aR) (vR := vR) (aD := aD) (vF := vF) (aW := aW) (aI := aI) (aQ := aQ) (aL := aL) (vB := vB) (x := nI 1), ?_⟩; (conv => whnf)
      refine hP _ _ _ _ ?_; (conv => whnf)
      exact ⟨rfl, ⟨.int, rfl, rfl⟩, rfl, rfl⟩
    refine ⟨Nat.le_of_ble_eq_true rfl, rfl, ?_⟩; (conv => whnf)
    rcases in_out x (n := 3) (by decide) with hx | ⟨a, ha, rfl⟩
    · refine Or.inl ⟨_, _, Cl_s (m_isPlayer_f (d := d + 9) hx), ?_⟩; (conv => whnf)
      refine b1 0 rfl (by omega) (fun _ => f31) (fun (q : ¬ 0 = 0) => by omega)
    · have hy : out y 9 := hb.resolve_left (fun z => by
        rcases z with z | z
        · exact nI_pos (show a < 2 ^ 31 by omega) z
        · exact nI_ge ha (by decide) z)
      refine Or.inl ⟨_, _, Cl_s (m_isPlayer_t (d := d + 9) ha), ?_⟩; (conv => whnf)
      refine b1 1 rfl (by omega) (fun (q : 1 = 0) => by omega) (fun _ => ?_); (conv => whnf)
      refine ⟨Nat.le_of_ble_eq_true rfl, rfl, ?_⟩; (conv => whnf)
      refine Or.inl ⟨_, _, Cl_s (m_isCard_f (d := d + 9) hy), ?_⟩; (conv => whnf)
      refine b1 0 rfl (by omega) (fun _ => f31) (fun (q : ¬ 0 = 0) => by omega)
  · have e : spNote 1 A (nI p) (nI c) = if A.1.1.length < 20 then (rV (nI (A.1.1.length + 1)), chg A (A.1.1 ++ [(1, p, 2 ^ c)], A.1.2)) else (.inr 1, A) := by
      unfold spNote
      rw [decN_in hp (by decide), decN_in hc (by decide)]
    rw [e]
    by_cases hn : A.1.1.length < 20
    · rw [if_pos hn]
      have hX : clX (1, p, 2 ^ c) := ⟨clOK_0 (by decide) hp hc, fun (q : 4 ≤ 1) => absurd q (by decide)⟩
      have hst := stM_add h.1 hn hX
      rw [plI_ne hp] at hst
      have hk := m_notes_ok (d := d) (vT := nI 0) (aS := aS) (aH := aH) (vM := vM) (aN := aN) (vS := vS) (aX := aX) (vL := vL) (vP := vP) (vW := vW) (aR := aR) (vR := vR) (aD := aD) (vF := vF) (aW := aW) (aI := aI) (aQ := aQ) (aL := aL) (vB := vB) (A := A) h hn (nI 1) (nI p) (nI (2 ^ c))
      rw [← sh_1 (show c < 31 by omega)] at hk hst
      refine RO_ok (M' := (rfM (nI 0) (adF aS A.1.1.length (nI 1) (nI p) (nI 1 <<< (nI c &&& 31))) (rcF2 A.2.2.1.length aS aH) (nI (svN A.2.2.1.length)) aN vS aX vL vP vW aR vR aD vF aW aI aQ aL vB)) ?_ (RM_of (vT := nI 0) (aS := adF aS A.1.1.length (nI 1) (nI p) (nI 1 <<< (nI c &&& 31))) (aH := rcF2 A.2.2.1.length aS aH) (vM := nI (svN A.2.2.1.length)) (aN := aN) (vS := vS) (aX := aX) (vL := vL) (vP := vP) (vW := vW) (aR := aR) (vR := vR) (aD := aD) (vF := vF) (aW := aW) (aI := aI) (aQ := aQ) (aL := aL) (vB := vB) (rfR_chg h hst))
      refine Cl_go e_X6_noteLacks (Nat.le_of_ble_eq_true rfl) rfl ?_; intro P hP; refine hP _ _ _ _ ?_; (conv => whnf)
      refine ⟨⟨rfl, rfl⟩, ?_⟩; (conv => whnf)
      refine ⟨Nat.le_of_ble_eq_true rfl, rfl, ?_⟩; (conv => whnf)
      refine Or.inl ⟨_, _, Cl_s (m_isPlayer_t (d := d + 9) hp), ?_⟩; (conv => whnf)
      refine b1 1 rfl (by omega) (fun (q : 1 = 0) => by omega) (fun _ => ?_); (conv => whnf)
      refine ⟨Nat.le_of_ble_eq_true rfl, rfl, ?_⟩; (conv => whnf)
      refine Or.inl ⟨_, _, Cl_s (m_isCard_t (d := d + 9) hc), ?_⟩; (conv => whnf)
      refine b1 1 rfl (by omega) (fun (q : 1 = 0) => by omega) (fun _ => ?_); (conv => whnf)
      refine ⟨Nat.le_of_ble_eq_true rfl, rfl, ?_⟩; (conv => whnf)
      refine Or.inl ⟨_, _, hk, ?_⟩; (conv => whnf)
      refine hP _ _ _ _ ?_; (conv => whnf)
      exact ⟨rfl, ⟨.int, rfl, rfl⟩, rfl, rfl⟩
    · rw [if_neg hn]
      refine RO_er (x := .int (nI 0)) (M' := (rfM (nI 2) aS aH vM aN vS aX vL vP vW aR vR aD vF aW aI aQ aL vB)) ?_ (RM_of (vT := nI 2) (aS := aS) (aH := aH) (vM := vM) (aN := aN) (vS := vS) (aX := aX) (vL := vL) (vP := vP) (vW := vW) (aR := aR) (vR := vR) (aD := aD) (vF := vF) (aW := aW) (aI := aI) (aQ := aQ) (aL := aL) (vB := vB) h)
      refine Cl_go e_X6_noteLacks (Nat.le_of_ble_eq_true rfl) rfl ?_; intro P hP; refine hP _ _ _ _ ?_; (conv => whnf)
      refine ⟨⟨rfl, rfl⟩, ?_⟩; (conv => whnf)
      refine ⟨Nat.le_of_ble_eq_true rfl, rfl, ?_⟩; (conv => whnf)
      refine Or.inl ⟨_, _, Cl_s (m_isPlayer_t (d := d + 9) hp), ?_⟩; (conv => whnf)
      refine b1 1 rfl (by omega) (fun (q : 1 = 0) => by omega) (fun _ => ?_); (conv => whnf)
      refine ⟨Nat.le_of_ble_eq_true rfl, rfl, ?_⟩; (conv => whnf)
      refine Or.inl ⟨_, _, Cl_s (m_isCard_t (d := d + 9) hc), ?_⟩; (conv => whnf)
      refine b1 1 rfl (by omega) (fun (q : 1 = 0) => by omega) (fun _ => ?_); (conv => whnf)
      refine ⟨Nat.le_of_ble_eq_true rfl, rfl, ?_⟩; (conv => whnf)
      refine Or.inl ⟨_, _, m_notes_no (d := d) (vT := nI 0) (aS := aS) (aH := aH) (vM := vM) (aN := aN) (vS := vS) (aX := aX) (vL := vL) (vP := vP) (vW := vW) (aR := aR) (vR := vR) (aD := aD) (vF := vF) (aW := aW) (aI := aI) (aQ := aQ) (aL := aL) (vB := vB) (A := A) h hn _ _ _, ?_⟩; (conv => whnf)
      refine hP _ _ _ _ ?_; (conv => whnf)
      exact ⟨rfl, ⟨.int, rfl, rfl⟩, rfl, rfl⟩
theorem bad4_or (x s t r : Int32) : (out x 3 ∨ badC s t r) ∨ ∃ p a b c : Nat, p < 3 ∧ a < 3 ∧ (3 ≤ b ∧ b < 6) ∧ (6 ≤ c ∧ c < 9) ∧ x = nI p ∧ s = nI a ∧ t = nI b ∧ r = nI c := by
  rcases in_out x (n := 3) (by decide) with hx | ⟨p, hp, rfl⟩
  · exact Or.inl (Or.inl hx)
  · rcases badC_or s t r with hb | ⟨a, b, c, ha, hb, hc, h1, h2, h3⟩
    · exact Or.inl (Or.inr hb)
    · exact Or.inr ⟨p, a, b, c, hp, ha, hb, hc, rfl, h1, h2, h3⟩
theorem spQ_bad {A : AS} {x s t r : Int32} {f : Nat → Nat → Int32 × rl_C} (h : out x 3 ∨ badC s t r) : spQ A x s t r f = (.inr 0, A) := by
  unfold spQ
  rcases h with h | h
  · rw [decN_out h]
  · rw [decT_bad h]; cases decN x 3 <;> rfl
theorem spQ_in {A : AS} {p a b c : Nat} {f : Nat → Nat → Int32 × rl_C} (hp : p < 3) (ha : a < 3) (hb : 3 ≤ b ∧ b < 6) (hc : 6 ≤ c ∧ c < 9) : spQ A (nI p) (nI a) (nI b) (nI c) f = if A.1.1.length < 20 then (rV (f p (9 * a + 3 * (b - 3) + (c - 6))).1, chg A (A.1.1 ++ [(f p (9 * a + 3 * (b - 3) + (c - 6))).2], A.1.2)) else (.inr 1, A) := by
  unfold spQ
  rw [decN_in hp (by decide), decT_in ha hb hc]
theorem m_noteShows (h : rfR aS aH vM aN vS aX vL A) (x s t r : Int32) : RO tc01 kX6_noteShows (d + 12) ((rfM vT aS aH vM aN vS aX vL vP vW aR vR aD vF aW aI aQ aL vB)) [.int x, .int s, .int t, .int r] (spShows A x s t r) := by
  unfold spShows
  rcases bad4_or x s t r with hb | ⟨p, a, b, c, hp, ha, hb, hc, rfl, rfl, rfl, rfl⟩
  · rw [spQ_bad hb]
    refine RO_er (x := .int (nI 0)) (M' := (rfM (nI 1) aS aH vM aN vS aX vL vP vW aR vR aD vF aW aI aQ aL vB)) ?_ (RM_of (vT := nI 1) (aS := aS) (aH := aH) (vM := vM) (aN := aN) (vS := vS) (aX := aX) (vL := vL) (vP := vP) (vW := vW) (aR := aR) (vR := vR) (aD := aD) (vF := vF) (aW := aW) (aI := aI) (aQ := aQ) (aL := aL) (vB := vB) h)
    refine Cl_go e_X6_noteShows (Nat.le_of_ble_eq_true rfl) rfl ?_; intro P hP; refine hP _ _ _ _ ?_; (conv => whnf)
    refine ⟨⟨rfl, rfl⟩, ?_⟩; (conv => whnf)
    have f26 : P 26 [some (.ref 0), some (.int x), some (.int s), some (.int t), some (.int r), none] [] ((rfM (nI 0) aS aH vM aN vS aX vL vP vW aR vR aD vF aW aI aQ aL vB)) := by
      refine hP _ _ _ _ ?_; (conv => whnf)
      refine hP _ _ _ _ ?_; (conv => whnf)
      refine b1 0 rfl (by omega) (fun _ => ?_) (fun (q : ¬ 0 = 0) => by omega)
      refine hP _ _ _ _ ?_; (conv => whnf)
      refine ⟨Nat.le_of_ble_eq_true rfl, rfl, ?_⟩; (conv => whnf)
      refine Or.inl ⟨_, _, m_fails (d := d + 10) (vT := nI 0) (aS := aS) (aH := aH) (vM := vM) (aN := aN) (vS := vS) (aX := aX) (vL := vL) (vP := vP) (vW := vW) (aR := aR) (vR := vR) (aD := aD) (vF := vF) (aW := aW) (aI := aI) (aQ := aQ) (aL := aL) (vB := vB) (x := nI 1), ?_⟩; (conv => whnf)
      refine hP _ _ _ _ ?_; (conv => whnf)
      exact ⟨rfl, ⟨.int, rfl, rfl⟩, rfl, rfl⟩
    refine ⟨Nat.le_of_ble_eq_true rfl, rfl, ?_⟩; (conv => whnf)
    rcases in_out x (n := 3) (by decide) with hx | ⟨a, ha, rfl⟩
    · refine Or.inl ⟨_, _, Cl_s (m_isPlayer_f (d := d + 9) hx), ?_⟩; (conv => whnf)
      refine b1 0 rfl (by omega) (fun _ => f26) (fun (q : ¬ 0 = 0) => by omega)
    · have hy : badC s t r := hb.resolve_left (fun z => by
        rcases z with z | z
        · exact nI_pos (show a < 2 ^ 31 by omega) z
        · exact nI_ge ha (by decide) z)
      refine Or.inl ⟨_, _, Cl_s (m_isPlayer_t (d := d + 9) ha), ?_⟩; (conv => whnf)
      refine b1 1 rfl (by omega) (fun (q : 1 = 0) => by omega) (fun _ => ?_); (conv => whnf)
      refine ⟨Nat.le_of_ble_eq_true rfl, rfl, ?_⟩; (conv => whnf)
      refine Or.inl ⟨_, _, Cl_s (m_areOf_f (d := d + 9) hy), ?_⟩; (conv => whnf)
      refine b1 0 rfl (by omega) (fun _ => f26) (fun (q : ¬ 0 = 0) => by omega)
  · rw [spQ_in hp ha hb hc]
    have hT : 9 * a + 3 * (b - 3) + (c - 6) < 27 := by omega
    have hnum := m_numbered (d := d + 10) ha hb hc
    generalize 9 * a + 3 * (b - 3) + (c - 6) = T at hT hnum
    by_cases hn : A.1.1.length < 20
    · rw [if_pos hn]
      have hX : clX (2, p, dq_mask T) := ⟨clOK_t (by decide) hp hT, fun (q : 4 ≤ 2) => absurd q (by decide)⟩
      have hst := stM_add h.1 hn hX
      rw [plI_ne hp] at hst
      have hk := m_notes_ok (d := d) (vT := nI 0) (aS := aS) (aH := aH) (vM := vM) (aN := aN) (vS := vS) (aX := aX) (vL := vL) (vP := vP) (vW := vW) (aR := aR) (vR := vR) (aD := aD) (vF := vF) (aW := aW) (aI := aI) (aQ := aQ) (aL := aL) (vB := vB) (A := A) h hn (nI 2) (nI p) (nI (dq_mask T))
      refine RO_ok (M' := (rfM (nI 0) (adF aS A.1.1.length (nI 2) (nI p) (nI (dq_mask T))) (rcF2 A.2.2.1.length aS aH) (nI (svN A.2.2.1.length)) aN vS aX vL vP vW aR vR aD vF aW aI aQ aL vB)) ?_ (RM_of (vT := nI 0) (aS := adF aS A.1.1.length (nI 2) (nI p) (nI (dq_mask T))) (aH := rcF2 A.2.2.1.length aS aH) (vM := nI (svN A.2.2.1.length)) (aN := aN) (vS := vS) (aX := aX) (vL := vL) (vP := vP) (vW := vW) (aR := aR) (vR := vR) (aD := aD) (vF := vF) (aW := aW) (aI := aI) (aQ := aQ) (aL := aL) (vB := vB) (rfR_chg h hst))
      refine Cl_go e_X6_noteShows (Nat.le_of_ble_eq_true rfl) rfl ?_; intro P hP; refine hP _ _ _ _ ?_; (conv => whnf)
      refine ⟨⟨rfl, rfl⟩, ?_⟩; (conv => whnf)
      refine ⟨Nat.le_of_ble_eq_true rfl, rfl, ?_⟩; (conv => whnf)
      refine Or.inl ⟨_, _, Cl_s (m_isPlayer_t (d := d + 9) hp), ?_⟩; (conv => whnf)
      refine b1 1 rfl (by omega) (fun (q : 1 = 0) => by omega) (fun _ => ?_); (conv => whnf)
      refine ⟨Nat.le_of_ble_eq_true rfl, rfl, ?_⟩; (conv => whnf)
      refine Or.inl ⟨_, _, Cl_s (m_areOf_t (d := d + 9) ha hb hc), ?_⟩; (conv => whnf)
      refine b1 1 rfl (by omega) (fun (q : 1 = 0) => by omega) (fun _ => ?_); (conv => whnf)
      refine hP _ _ _ _ ?_; (conv => whnf)
      refine b1 1 rfl (by omega) (fun (q : 1 = 0) => by omega) (fun _ => ?_); (conv => whnf)
      refine ⟨Nat.le_of_ble_eq_true rfl, rfl, ?_⟩; (conv => whnf)
      refine Or.inl ⟨_, _, Cl_s hnum, ?_⟩; (conv => whnf)
      refine ⟨Nat.le_of_ble_eq_true rfl, rfl, ?_⟩; (conv => whnf)
      refine Or.inl ⟨_, _, Cl_s (m_maskOf (d := d + 10) hT), ?_⟩; (conv => whnf)
      refine ⟨Nat.le_of_ble_eq_true rfl, rfl, ?_⟩; (conv => whnf)
      refine Or.inl ⟨_, _, hk, ?_⟩; (conv => whnf)
      refine hP _ _ _ _ ?_; (conv => whnf)
      exact ⟨rfl, ⟨.int, rfl, rfl⟩, rfl, rfl⟩
    · rw [if_neg hn]
      refine RO_er (x := .int (nI 0)) (M' := (rfM (nI 2) aS aH vM aN vS aX vL vP vW aR vR aD vF aW aI aQ aL vB)) ?_ (RM_of (vT := nI 2) (aS := aS) (aH := aH) (vM := vM) (aN := aN) (vS := vS) (aX := aX) (vL := vL) (vP := vP) (vW := vW) (aR := aR) (vR := vR) (aD := aD) (vF := vF) (aW := aW) (aI := aI) (aQ := aQ) (aL := aL) (vB := vB) h)
      refine Cl_go e_X6_noteShows (Nat.le_of_ble_eq_true rfl) rfl ?_; intro P hP; refine hP _ _ _ _ ?_; (conv => whnf)
      refine ⟨⟨rfl, rfl⟩, ?_⟩; (conv => whnf)
      refine ⟨Nat.le_of_ble_eq_true rfl, rfl, ?_⟩; (conv => whnf)
      refine Or.inl ⟨_, _, Cl_s (m_isPlayer_t (d := d + 9) hp), ?_⟩; (conv => whnf)
      refine b1 1 rfl (by omega) (fun (q : 1 = 0) => by omega) (fun _ => ?_); (conv => whnf)
      refine ⟨Nat.le_of_ble_eq_true rfl, rfl, ?_⟩; (conv => whnf)
      refine Or.inl ⟨_, _, Cl_s (m_areOf_t (d := d + 9) ha hb hc), ?_⟩; (conv => whnf)
      refine b1 1 rfl (by omega) (fun (q : 1 = 0) => by omega) (fun _ => ?_); (conv => whnf)
      refine hP _ _ _ _ ?_; (conv => whnf)
      refine b1 1 rfl (by omega) (fun (q : 1 = 0) => by omega) (fun _ => ?_); (conv => whnf)
      refine ⟨Nat.le_of_ble_eq_true rfl, rfl, ?_⟩; (conv => whnf)
      refine Or.inl ⟨_, _, Cl_s hnum, ?_⟩; (conv => whnf)
      refine ⟨Nat.le_of_ble_eq_true rfl, rfl, ?_⟩; (conv => whnf)
      refine Or.inl ⟨_, _, Cl_s (m_maskOf (d := d + 10) hT), ?_⟩; (conv => whnf)
      refine ⟨Nat.le_of_ble_eq_true rfl, rfl, ?_⟩; (conv => whnf)
      refine Or.inl ⟨_, _, m_notes_no (d := d) (vT := nI 0) (aS := aS) (aH := aH) (vM := vM) (aN := aN) (vS := vS) (aX := aX) (vL := vL) (vP := vP) (vW := vW) (aR := aR) (vR := vR) (aD := aD) (vF := vF) (aW := aW) (aI := aI) (aQ := aQ) (aL := aL) (vB := vB) (A := A) h hn _ _ _, ?_⟩; (conv => whnf)
      refine hP _ _ _ _ ?_; (conv => whnf)
      exact ⟨rfl, ⟨.int, rfl, rfl⟩, rfl, rfl⟩
theorem m_bars_n {n : Nat} (hn : n ≤ 20) (h0 : aS 0 = nI n) (b : Bool) : Cl (d + 1) kX6_barsQuestion [.ref 0, .int (bI b)] ((rfM vT aS aH vM aN vS aX vL vP vW aR vR aD vF aW aI aQ aL vB)) (rV (nI (if b = true then (if n = 20 then 2 else 0) else 1))) ((rfM vT aS aH vM aN vS aX vL vP vW aR vR aD vF aW aI aQ aL vB)) := by
  refine Cl_go e_X6_barsQuestion (Nat.le_of_ble_eq_true rfl) rfl ?_; intro P hP; refine hP _ _ _ _ ?_; (conv => whnf)
  cases b with
  | false =>
    refine b1 0 rfl (by omega) (fun (q : ¬ 0 = 0) => by omega) (fun _ => ?_); (conv => whnf)
    refine hP _ _ _ _ ?_; (conv => whnf)
    exact ⟨rfl, ⟨.int, rfl, rfl⟩, rfl, rfl⟩
  | true =>
    refine b1 1 rfl (by omega) (fun _ => ?_) (fun (q : ¬ ¬ 1 = 0) => by omega)
    refine hP _ _ _ _ ?_; (conv => whnf)
    refine ⟨vi (n := 0) rfl (by decide) (by decide), ?_⟩; (conv => whnf)
    refine b2 n 20 h0 rfl (by omega) (by omega) (fun (q : ¬ n = 20) => ?_) (fun (q : ¬ ¬ n = 20) => ?_)
    · refine hP _ _ _ _ ?_; (conv => whnf)
      refine hP _ _ _ _ ?_; (conv => whnf)
      exact ⟨rfl, ⟨.int, rfl, rfl⟩, rI (by rw [if_pos rfl, if_neg q]; rfl), rfl⟩
    · (conv => whnf)
      refine hP _ _ _ _ ?_; (conv => whnf)
      exact ⟨rfl, ⟨.int, rfl, rfl⟩, rI (by rw [if_pos rfl, if_pos (Decidable.of_not_not q)]; rfl), rfl⟩
theorem it_clX {k p t : Nat} (hk : k = 2 ∨ k = 3) (hp : p < 3) (ht : t < 27) : clX (k, p, dq_mask t) := ⟨clOK_t hk hp ht, fun (q : 4 ≤ k) => by omega⟩
theorem it_clX4 {k t : Nat} (hk : k = 4 ∨ k = 5) (ht : t < 27) : clX (k, 3, dq_mask t) := ⟨clOK_e hk ht, fun _ => ⟨t, ht, rfl⟩⟩
theorem m_ask (h : rfR aS aH vM aN vS aX vL A) (x s t r : Int32) : RO tc01 kX6_ask (d + 12) ((rfM vT aS aH vM aN vS aX vL vP vW aR vR aD vF aW aI aQ aL vB)) [.int x, .int s, .int t, .int r] (spAsk A x s t r) := by
  have h20 := h.1.1.2.1
  unfold spAsk
  rcases bad4_or x s t r with hb | ⟨p, a, b, c, hp, ha, hb, hc, rfl, rfl, rfl, rfl⟩
  · rw [spQ_bad hb]
    have hbq := m_bars_n (d := d + 10) (vT := vT) (aS := aS) (aH := aH) (vM := vM) (aN := aN) (vS := vS) (aX := aX) (vL := vL) (vP := vP) (vW := vW) (aR := aR) (vR := vR) (aD := aD) (vF := vF) (aW := aW) (aI := aI) (aQ := aQ) (aL := aL) (vB := vB) (n := A.1.1.length) h20 h.1.1.1 false
    refine RO_er (x := .int (nI 0)) (M' := (rfM (nI 1) aS aH vM aN vS aX vL vP vW aR vR aD vF aW aI aQ aL vB)) ?_ (RM_of (vT := nI 1) (aS := aS) (aH := aH) (vM := vM) (aN := aN) (vS := vS) (aX := aX) (vL := vL) (vP := vP) (vW := vW) (aR := aR) (vR := vR) (aD := aD) (vF := vF) (aW := aW) (aI := aI) (aQ := aQ) (aL := aL) (vB := vB) h)
    refine Cl_go e_X6_ask (Nat.le_of_ble_eq_true rfl) rfl ?_; intro P hP; refine hP _ _ _ _ ?_; (conv => whnf)
    have f23 : P 23 [some (.ref 0), some (.int x), some (.int s), some (.int t), some (.int r)] [.ref 0, .ref 0] ((rfM vT aS aH vM aN vS aX vL vP vW aR vR aD vF aW aI aQ aL vB)) := by
      refine hP _ _ _ _ ?_; (conv => whnf)
      refine hP _ _ _ _ ?_; (conv => whnf)
      refine ⟨Nat.le_of_ble_eq_true rfl, rfl, ?_⟩; (conv => whnf)
      refine Or.inl ⟨_, _, hbq, ?_⟩; (conv => whnf)
      refine ⟨⟨rfl, rfl⟩, ?_⟩; (conv => whnf)
      refine b1 1 rfl (by omega) (fun (q : 1 ≤ 0) => by omega) (fun _ => ?_); (conv => whnf)
      exact ⟨rfl, ⟨.boolean, rfl, rfl⟩, rfl, rfl⟩
    refine ⟨Nat.le_of_ble_eq_true rfl, rfl, ?_⟩; (conv => whnf)
    rcases in_out x (n := 3) (by decide) with hx | ⟨a, ha, rfl⟩
    · refine Or.inl ⟨_, _, Cl_s (m_isPlayer_f (d := d + 9) hx), ?_⟩; (conv => whnf)
      refine b1 0 rfl (by omega) (fun _ => f23) (fun (q : ¬ 0 = 0) => by omega)
    · have hy : badC s t r := hb.resolve_left (fun z => by
        rcases z with z | z
        · exact nI_pos (show a < 2 ^ 31 by omega) z
        · exact nI_ge ha (by decide) z)
      refine Or.inl ⟨_, _, Cl_s (m_isPlayer_t (d := d + 9) ha), ?_⟩; (conv => whnf)
      refine b1 1 rfl (by omega) (fun (q : 1 = 0) => by omega) (fun _ => ?_); (conv => whnf)
      refine ⟨Nat.le_of_ble_eq_true rfl, rfl, ?_⟩; (conv => whnf)
      refine Or.inl ⟨_, _, Cl_s (m_areOf_f (d := d + 9) hy), ?_⟩; (conv => whnf)
      refine b1 0 rfl (by omega) (fun _ => f23) (fun (q : ¬ 0 = 0) => by omega)
  · rw [spQ_in hp ha hb hc]
    have hT : 9 * a + 3 * (b - 3) + (c - 6) < 27 := by omega
    have hnum := m_numbered (d := d + 10) ha hb hc
    have hbq := m_bars_n (d := d + 10) (vT := vT) (aS := aS) (aH := aH) (vM := vM) (aN := aN) (vS := vS) (aX := aX) (vL := vL) (vP := vP) (vW := vW) (aR := aR) (vR := vR) (aD := aD) (vF := vF) (aW := aW) (aI := aI) (aQ := aQ) (aL := aL) (vB := vB) (n := A.1.1.length) h20 h.1.1.1 true
    rw [if_pos rfl] at hbq
    generalize 9 * a + 3 * (b - 3) + (c - 6) = T at hT hnum
    by_cases hn : A.1.1.length < 20
    · rw [if_pos hn]
      rw [if_neg (by omega)] at hbq
      have hst := stM_add h.1 hn (it_clX (k := bif Nat.beq (hq A.1.2.1 p &&& dq_mask T) 0 then 3 else 2) (by cases Nat.beq (hq A.1.2.1 p &&& dq_mask T) 0 <;> decide) hp hT)
      rw [plI_ne hp] at hst
      have hk := m_asks (d := d + 9) (vT := nI 0) (aS := aS) (aH := rcF2 A.2.2.1.length aS aH) (vM := nI (svN A.2.2.1.length)) (aN := aN) (vS := vS) (aX := aX) (vL := vL) (vP := vP) (vW := vW) (aR := aR) (vR := vR) (aD := aD) (vF := vF) (aW := aW) (aI := aI) (aQ := aQ) (aL := aL) (vB := vB) (a := A.1) (p := p) (t := T) h.1 hn hp hT
      refine RO_ok (M' := (rfM (nI 0) (adF aS A.1.1.length (nI (bif Nat.beq (hq A.1.2.1 p &&& dq_mask T) 0 then 3 else 2)) (nI p) (nI (dq_mask T))) (rcF2 A.2.2.1.length aS aH) (nI (svN A.2.2.1.length)) aN vS aX vL vP vW aR vR (hdM A.1.2.1 9 aD) vF aW aI aQ aL vB)) ?_ (RM_of (vT := nI 0) (aS := adF aS A.1.1.length (nI (bif Nat.beq (hq A.1.2.1 p &&& dq_mask T) 0 then 3 else 2)) (nI p) (nI (dq_mask T))) (aH := rcF2 A.2.2.1.length aS aH) (vM := nI (svN A.2.2.1.length)) (aN := aN) (vS := vS) (aX := aX) (vL := vL) (vP := vP) (vW := vW) (aR := aR) (vR := vR) (aD := hdM A.1.2.1 9 aD) (vF := vF) (aW := aW) (aI := aI) (aQ := aQ) (aL := aL) (vB := vB) (rfR_chg h hst))
      refine Cl_go e_X6_ask (Nat.le_of_ble_eq_true rfl) rfl ?_; intro P hP; refine hP _ _ _ _ ?_; (conv => whnf)
      refine ⟨Nat.le_of_ble_eq_true rfl, rfl, ?_⟩; (conv => whnf)
      refine Or.inl ⟨_, _, Cl_s (m_isPlayer_t (d := d + 9) hp), ?_⟩; (conv => whnf)
      refine b1 1 rfl (by omega) (fun (q : 1 = 0) => by omega) (fun _ => ?_); (conv => whnf)
      refine ⟨Nat.le_of_ble_eq_true rfl, rfl, ?_⟩; (conv => whnf)
      refine Or.inl ⟨_, _, Cl_s (m_areOf_t (d := d + 9) ha hb hc), ?_⟩; (conv => whnf)
      refine b1 1 rfl (by omega) (fun (q : 1 = 0) => by omega) (fun _ => ?_); (conv => whnf)
      refine hP _ _ _ _ ?_; (conv => whnf)
      refine ⟨Nat.le_of_ble_eq_true rfl, rfl, ?_⟩; (conv => whnf)
      refine Or.inl ⟨_, _, hbq, ?_⟩; (conv => whnf)
      refine ⟨⟨rfl, rfl⟩, ?_⟩; (conv => whnf)
      refine b1 0 rfl (by omega) (fun _ => ?_) (fun (q : ¬ 0 ≤ 0) => by omega)
      refine hP _ _ _ _ ?_; (conv => whnf)
      refine ⟨Nat.le_of_ble_eq_true rfl, rfl, ?_⟩; (conv => whnf)
      refine Or.inl ⟨_, _, m_records (d := d + 10) (vT := nI 0) (aS := aS) (aH := aH) (vM := vM) (aN := aN) (vS := vS) (aX := aX) (vL := vL) (vP := vP) (vW := vW) (aR := aR) (vR := vR) (aD := aD) (vF := vF) (aW := aW) (aI := aI) (aQ := aQ) (aL := aL) (vB := vB) h.2.1.1 h.2.2.1, ?_⟩; (conv => whnf)
      refine ⟨Nat.le_of_ble_eq_true rfl, rfl, ?_⟩; (conv => whnf)
      refine Or.inl ⟨_, _, Cl_s hnum, ?_⟩; (conv => whnf)
      refine ⟨Nat.le_of_ble_eq_true rfl, rfl, ?_⟩; (conv => whnf)
      refine Or.inl ⟨_, _, Cl_s (m_maskOf (d := d + 10) hT), ?_⟩; (conv => whnf)
      refine ⟨Nat.le_of_ble_eq_true rfl, rfl, ?_⟩; (conv => whnf)
      refine Or.inl ⟨_, _, hk, ?_⟩; (conv => whnf)
      exact ⟨rfl, ⟨.boolean, rfl, b01⟩, rfl, rfl⟩
    · rw [if_neg hn]
      rw [if_pos (by omega)] at hbq
      refine RO_er (x := .int (nI 0)) (M' := (rfM (nI 2) aS aH vM aN vS aX vL vP vW aR vR aD vF aW aI aQ aL vB)) ?_ (RM_of (vT := nI 2) (aS := aS) (aH := aH) (vM := vM) (aN := aN) (vS := vS) (aX := aX) (vL := vL) (vP := vP) (vW := vW) (aR := aR) (vR := vR) (aD := aD) (vF := vF) (aW := aW) (aI := aI) (aQ := aQ) (aL := aL) (vB := vB) h)
      refine Cl_go e_X6_ask (Nat.le_of_ble_eq_true rfl) rfl ?_; intro P hP; refine hP _ _ _ _ ?_; (conv => whnf)
      refine ⟨Nat.le_of_ble_eq_true rfl, rfl, ?_⟩; (conv => whnf)
      refine Or.inl ⟨_, _, Cl_s (m_isPlayer_t (d := d + 9) hp), ?_⟩; (conv => whnf)
      refine b1 1 rfl (by omega) (fun (q : 1 = 0) => by omega) (fun _ => ?_); (conv => whnf)
      refine ⟨Nat.le_of_ble_eq_true rfl, rfl, ?_⟩; (conv => whnf)
      refine Or.inl ⟨_, _, Cl_s (m_areOf_t (d := d + 9) ha hb hc), ?_⟩; (conv => whnf)
      refine b1 1 rfl (by omega) (fun (q : 1 = 0) => by omega) (fun _ => ?_); (conv => whnf)
      refine hP _ _ _ _ ?_; (conv => whnf)
      refine ⟨Nat.le_of_ble_eq_true rfl, rfl, ?_⟩; (conv => whnf)
      refine Or.inl ⟨_, _, hbq, ?_⟩; (conv => whnf)
      refine ⟨⟨rfl, rfl⟩, ?_⟩; (conv => whnf)
      refine b1 2 rfl (by omega) (fun (q : 2 ≤ 0) => by omega) (fun _ => ?_); (conv => whnf)
      exact ⟨rfl, ⟨.boolean, rfl, rfl⟩, rfl, rfl⟩
theorem clX_see {a : SA} {p t : Nat} (hp : p < 3) (ht : t < 27) : clX (seeA a p t).2 := by
  unfold seeA
  have hl := Nat.lt_of_le_of_lt (Nat.and_le_left (n := hq a.2.1 p) (m := dq_mask t)) (hq_lt a.2.1 p)
  by_cases h0 : hq a.2.1 p &&& dq_mask t = 0
  · rw [nbt h0]; exact it_clX (Or.inr rfl) hp ht
  · rw [nbf h0]; exact ⟨clOK_0 (Or.inl rfl) hp (lowC_ok hl h0).1, fun (q : 4 ≤ 0) => absurd q (by decide)⟩
theorem plI_see {a : SA} {p t : Nat} (hp : p < 3) : plI (seeA a p t).2 = nI p := by
  unfold seeA
  cases Nat.beq (hq a.2.1 p &&& dq_mask t) 0 <;> exact plI_ne hp
theorem m_look (h : rfR aS aH vM aN vS aX vL A) (x s t r : Int32) : RO tc01 kX6_look (d + 12) ((rfM vT aS aH vM aN vS aX vL vP vW aR vR aD vF aW aI aQ aL vB)) [.int x, .int s, .int t, .int r] (spLook A x s t r) := by
  have h20 := h.1.1.2.1
  unfold spLook
  rcases bad4_or x s t r with hb | ⟨p, a, b, c, hp, ha, hb, hc, rfl, rfl, rfl, rfl⟩
  · rw [spQ_bad hb]
    have hbq := m_bars_n (d := d + 10) (vT := vT) (aS := aS) (aH := aH) (vM := vM) (aN := aN) (vS := vS) (aX := aX) (vL := vL) (vP := vP) (vW := vW) (aR := aR) (vR := vR) (aD := aD) (vF := vF) (aW := aW) (aI := aI) (aQ := aQ) (aL := aL) (vB := vB) (n := A.1.1.length) h20 h.1.1.1 false
    refine RO_er (x := .int (nI 0)) (M' := (rfM (nI 1) aS aH vM aN vS aX vL vP vW aR vR aD vF aW aI aQ aL vB)) ?_ (RM_of (vT := nI 1) (aS := aS) (aH := aH) (vM := vM) (aN := aN) (vS := vS) (aX := aX) (vL := vL) (vP := vP) (vW := vW) (aR := aR) (vR := vR) (aD := aD) (vF := vF) (aW := aW) (aI := aI) (aQ := aQ) (aL := aL) (vB := vB) h)
    refine Cl_go e_X6_look (Nat.le_of_ble_eq_true rfl) rfl ?_; intro P hP; refine hP _ _ _ _ ?_; (conv => whnf)
    have f23 : P 23 [some (.ref 0), some (.int x), some (.int s), some (.int t), some (.int r)] [.ref 0, .ref 0] ((rfM vT aS aH vM aN vS aX vL vP vW aR vR aD vF aW aI aQ aL vB)) := by
      refine hP _ _ _ _ ?_; (conv => whnf)
      refine hP _ _ _ _ ?_; (conv => whnf)
      refine ⟨Nat.le_of_ble_eq_true rfl, rfl, ?_⟩; (conv => whnf)
      refine Or.inl ⟨_, _, hbq, ?_⟩; (conv => whnf)
      refine ⟨⟨rfl, rfl⟩, ?_⟩; (conv => whnf)
      refine b1 1 rfl (by omega) (fun (q : 1 ≤ 0) => by omega) (fun _ => ?_); (conv => whnf)
      exact ⟨rfl, ⟨.int, rfl, rfl⟩, rfl, rfl⟩
    refine ⟨Nat.le_of_ble_eq_true rfl, rfl, ?_⟩; (conv => whnf)
    rcases in_out x (n := 3) (by decide) with hx | ⟨a, ha, rfl⟩
    · refine Or.inl ⟨_, _, Cl_s (m_isPlayer_f (d := d + 9) hx), ?_⟩; (conv => whnf)
      refine b1 0 rfl (by omega) (fun _ => f23) (fun (q : ¬ 0 = 0) => by omega)
    · have hy : badC s t r := hb.resolve_left (fun z => by
        rcases z with z | z
        · exact nI_pos (show a < 2 ^ 31 by omega) z
        · exact nI_ge ha (by decide) z)
      refine Or.inl ⟨_, _, Cl_s (m_isPlayer_t (d := d + 9) ha), ?_⟩; (conv => whnf)
      refine b1 1 rfl (by omega) (fun (q : 1 = 0) => by omega) (fun _ => ?_); (conv => whnf)
      refine ⟨Nat.le_of_ble_eq_true rfl, rfl, ?_⟩; (conv => whnf)
      refine Or.inl ⟨_, _, Cl_s (m_areOf_f (d := d + 9) hy), ?_⟩; (conv => whnf)
      refine b1 0 rfl (by omega) (fun _ => f23) (fun (q : ¬ 0 = 0) => by omega)
  · rw [spQ_in hp ha hb hc]
    have hT : 9 * a + 3 * (b - 3) + (c - 6) < 27 := by omega
    have hnum := m_numbered (d := d + 10) ha hb hc
    have hbq := m_bars_n (d := d + 10) (vT := vT) (aS := aS) (aH := aH) (vM := vM) (aN := aN) (vS := vS) (aX := aX) (vL := vL) (vP := vP) (vW := vW) (aR := aR) (vR := vR) (aD := aD) (vF := vF) (aW := aW) (aI := aI) (aQ := aQ) (aL := aL) (vB := vB) (n := A.1.1.length) h20 h.1.1.1 true
    rw [if_pos rfl] at hbq
    generalize 9 * a + 3 * (b - 3) + (c - 6) = T at hT hnum
    by_cases hn : A.1.1.length < 20
    · rw [if_pos hn]
      rw [if_neg (by omega)] at hbq
      have hst := stM_add h.1 hn (clX_see (a := A.1) hp hT)
      rw [plI_see hp] at hst
      have hk := m_looksAt (d := d + 9) (vT := nI 0) (aS := aS) (aH := rcF2 A.2.2.1.length aS aH) (vM := nI (svN A.2.2.1.length)) (aN := aN) (vS := vS) (aX := aX) (vL := vL) (vP := vP) (vW := vW) (aR := aR) (vR := vR) (aD := aD) (vF := vF) (aW := aW) (aI := aI) (aQ := aQ) (aL := aL) (vB := vB) (a := A.1) (p := p) (t := T) h.1 hn hp hT
      refine RO_ok (M' := (rfM (nI 0) (adF aS A.1.1.length (nI (seeA A.1 p T).2.1) (nI p) (nI (seeA A.1 p T).2.2.2)) (rcF2 A.2.2.1.length aS aH) (nI (svN A.2.2.1.length)) aN vS aX vL vP vW aR vR (hdM A.1.2.1 9 aD) vF aW aI aQ aL vB)) ?_ (RM_of (vT := nI 0) (aS := adF aS A.1.1.length (nI (seeA A.1 p T).2.1) (nI p) (nI (seeA A.1 p T).2.2.2)) (aH := rcF2 A.2.2.1.length aS aH) (vM := nI (svN A.2.2.1.length)) (aN := aN) (vS := vS) (aX := aX) (vL := vL) (vP := vP) (vW := vW) (aR := aR) (vR := vR) (aD := hdM A.1.2.1 9 aD) (vF := vF) (aW := aW) (aI := aI) (aQ := aQ) (aL := aL) (vB := vB) (rfR_chg h hst))
      refine Cl_go e_X6_look (Nat.le_of_ble_eq_true rfl) rfl ?_; intro P hP; refine hP _ _ _ _ ?_; (conv => whnf)
      refine ⟨Nat.le_of_ble_eq_true rfl, rfl, ?_⟩; (conv => whnf)
      refine Or.inl ⟨_, _, Cl_s (m_isPlayer_t (d := d + 9) hp), ?_⟩; (conv => whnf)
      refine b1 1 rfl (by omega) (fun (q : 1 = 0) => by omega) (fun _ => ?_); (conv => whnf)
      refine ⟨Nat.le_of_ble_eq_true rfl, rfl, ?_⟩; (conv => whnf)
      refine Or.inl ⟨_, _, Cl_s (m_areOf_t (d := d + 9) ha hb hc), ?_⟩; (conv => whnf)
      refine b1 1 rfl (by omega) (fun (q : 1 = 0) => by omega) (fun _ => ?_); (conv => whnf)
      refine hP _ _ _ _ ?_; (conv => whnf)
      refine ⟨Nat.le_of_ble_eq_true rfl, rfl, ?_⟩; (conv => whnf)
      refine Or.inl ⟨_, _, hbq, ?_⟩; (conv => whnf)
      refine ⟨⟨rfl, rfl⟩, ?_⟩; (conv => whnf)
      refine b1 0 rfl (by omega) (fun _ => ?_) (fun (q : ¬ 0 ≤ 0) => by omega)
      refine hP _ _ _ _ ?_; (conv => whnf)
      refine ⟨Nat.le_of_ble_eq_true rfl, rfl, ?_⟩; (conv => whnf)
      refine Or.inl ⟨_, _, m_records (d := d + 10) (vT := nI 0) (aS := aS) (aH := aH) (vM := vM) (aN := aN) (vS := vS) (aX := aX) (vL := vL) (vP := vP) (vW := vW) (aR := aR) (vR := vR) (aD := aD) (vF := vF) (aW := aW) (aI := aI) (aQ := aQ) (aL := aL) (vB := vB) h.2.1.1 h.2.2.1, ?_⟩; (conv => whnf)
      refine ⟨Nat.le_of_ble_eq_true rfl, rfl, ?_⟩; (conv => whnf)
      refine Or.inl ⟨_, _, Cl_s hnum, ?_⟩; (conv => whnf)
      refine ⟨Nat.le_of_ble_eq_true rfl, rfl, ?_⟩; (conv => whnf)
      refine Or.inl ⟨_, _, Cl_s (m_maskOf (d := d + 10) hT), ?_⟩; (conv => whnf)
      refine ⟨Nat.le_of_ble_eq_true rfl, rfl, ?_⟩; (conv => whnf)
      refine Or.inl ⟨_, _, hk, ?_⟩; (conv => whnf)
      exact ⟨rfl, ⟨.int, rfl, rfl⟩, rfl, rfl⟩
    · rw [if_neg hn]
      rw [if_pos (by omega)] at hbq
      refine RO_er (x := .int (nI 0)) (M' := (rfM (nI 2) aS aH vM aN vS aX vL vP vW aR vR aD vF aW aI aQ aL vB)) ?_ (RM_of (vT := nI 2) (aS := aS) (aH := aH) (vM := vM) (aN := aN) (vS := vS) (aX := aX) (vL := vL) (vP := vP) (vW := vW) (aR := aR) (vR := vR) (aD := aD) (vF := vF) (aW := aW) (aI := aI) (aQ := aQ) (aL := aL) (vB := vB) h)
      refine Cl_go e_X6_look (Nat.le_of_ble_eq_true rfl) rfl ?_; intro P hP; refine hP _ _ _ _ ?_; (conv => whnf)
      refine ⟨Nat.le_of_ble_eq_true rfl, rfl, ?_⟩; (conv => whnf)
      refine Or.inl ⟨_, _, Cl_s (m_isPlayer_t (d := d + 9) hp), ?_⟩; (conv => whnf)
      refine b1 1 rfl (by omega) (fun (q : 1 = 0) => by omega) (fun _ => ?_); (conv => whnf)
      refine ⟨Nat.le_of_ble_eq_true rfl, rfl, ?_⟩; (conv => whnf)
      refine Or.inl ⟨_, _, Cl_s (m_areOf_t (d := d + 9) ha hb hc), ?_⟩; (conv => whnf)
      refine b1 1 rfl (by omega) (fun (q : 1 = 0) => by omega) (fun _ => ?_); (conv => whnf)
      refine hP _ _ _ _ ?_; (conv => whnf)
      refine ⟨Nat.le_of_ble_eq_true rfl, rfl, ?_⟩; (conv => whnf)
      refine Or.inl ⟨_, _, hbq, ?_⟩; (conv => whnf)
      refine ⟨⟨rfl, rfl⟩, ?_⟩; (conv => whnf)
      refine b1 2 rfl (by omega) (fun (q : 2 ≤ 0) => by omega) (fun _ => ?_); (conv => whnf)
      exact ⟨rfl, ⟨.int, rfl, rfl⟩, rfl, rfl⟩
theorem m_accuse (h : rfR aS aH vM aN vS aX vL A) (s t r : Int32) : RO tc01 kX6_accuse (d + 12) ((rfM vT aS aH vM aN vS aX vL vP vW aR vR aD vF aW aI aQ aL vB)) [.int s, .int t, .int r] (spAccuse A s t r) := by
  have h20 := h.1.1.2.1
  unfold spAccuse
  rcases badC_or s t r with hb | ⟨a, b, c, ha, hb, hc, rfl, rfl, rfl⟩
  · rw [decT_bad hb]
    have hbq := m_bars_n (d := d + 10) (vT := vT) (aS := aS) (aH := aH) (vM := vM) (aN := aN) (vS := vS) (aX := aX) (vL := vL) (vP := vP) (vW := vW) (aR := aR) (vR := vR) (aD := aD) (vF := vF) (aW := aW) (aI := aI) (aQ := aQ) (aL := aL) (vB := vB) (n := A.1.1.length) h20 h.1.1.1 false
    refine RO_er (x := .int (nI 0)) (M' := (rfM (nI 1) aS aH vM aN vS aX vL vP vW aR vR aD vF aW aI aQ aL vB)) ?_ (RM_of (vT := nI 1) (aS := aS) (aH := aH) (vM := vM) (aN := aN) (vS := vS) (aX := aX) (vL := vL) (vP := vP) (vW := vW) (aR := aR) (vR := vR) (aD := aD) (vF := vF) (aW := aW) (aI := aI) (aQ := aQ) (aL := aL) (vB := vB) h)
    refine Cl_go e_X6_accuse (Nat.le_of_ble_eq_true rfl) rfl ?_; intro P hP; refine hP _ _ _ _ ?_; (conv => whnf)
    refine ⟨Nat.le_of_ble_eq_true rfl, rfl, ?_⟩; (conv => whnf)
    refine Or.inl ⟨_, _, Cl_s (m_areOf_f (d := d + 9) hb), ?_⟩; (conv => whnf)
    refine ⟨Nat.le_of_ble_eq_true rfl, rfl, ?_⟩; (conv => whnf)
    refine Or.inl ⟨_, _, hbq, ?_⟩; (conv => whnf)
    refine ⟨⟨rfl, rfl⟩, ?_⟩; (conv => whnf)
    refine b1 1 rfl (by omega) (fun (q : 1 ≤ 0) => by omega) (fun _ => ?_); (conv => whnf)
    exact ⟨rfl, ⟨.boolean, rfl, rfl⟩, rfl, rfl⟩
  · rw [decT_in ha hb hc]
    have hT : 9 * a + 3 * (b - 3) + (c - 6) < 27 := by omega
    have hnum := m_numbered (d := d + 10) ha hb hc
    have hbq := m_bars_n (d := d + 10) (vT := vT) (aS := aS) (aH := aH) (vM := vM) (aN := aN) (vS := vS) (aX := aX) (vL := vL) (vP := vP) (vW := vW) (aR := aR) (vR := vR) (aD := aD) (vF := vF) (aW := aW) (aI := aI) (aQ := aQ) (aL := aL) (vB := vB) (n := A.1.1.length) h20 h.1.1.1 true
    rw [if_pos rfl] at hbq
    generalize 9 * a + 3 * (b - 3) + (c - 6) = T at hT hnum
    show RO tc01 _ _ _ _ (if A.1.1.length < 20 then (rV (bI (Nat.beq (hq A.1.2.1 3) (dq_mask T))), chg A (A.1.1 ++ [(bif Nat.beq (hq A.1.2.1 3) (dq_mask T) then 5 else 4, 3, dq_mask T)], A.1.2)) else (.inr 1, A))
    by_cases hn : A.1.1.length < 20
    · rw [if_pos hn]
      rw [if_neg (by omega)] at hbq
      have hst := stM_add h.1 hn (it_clX4 (k := bif Nat.beq (hq A.1.2.1 3) (dq_mask T) then 5 else 4) (by cases Nat.beq (hq A.1.2.1 3) (dq_mask T) <;> decide) hT)
      have ep : plI (bif Nat.beq (hq A.1.2.1 3) (dq_mask T) then 5 else 4, 3, dq_mask T) = cst (-1) := if_pos rfl
      rw [ep] at hst
      have hk := m_accuses (d := d + 9) (vT := nI 0) (aS := aS) (aH := rcF2 A.2.2.1.length aS aH) (vM := nI (svN A.2.2.1.length)) (aN := aN) (vS := vS) (aX := aX) (vL := vL) (vP := vP) (vW := vW) (aR := aR) (vR := vR) (aD := aD) (vF := vF) (aW := aW) (aI := aI) (aQ := aQ) (aL := aL) (vB := vB) (a := A.1) (t := T) h.1 hn hT
      refine RO_ok (M' := (rfM (nI 0) (adF aS A.1.1.length (nI (bif Nat.beq (hq A.1.2.1 3) (dq_mask T) then 5 else 4)) (cst (-1)) (nI (dq_mask T))) (rcF2 A.2.2.1.length aS aH) (nI (svN A.2.2.1.length)) aN vS aX vL vP vW aR vR (hdM A.1.2.1 9 aD) vF aW aI aQ aL vB)) ?_ (RM_of (vT := nI 0) (aS := adF aS A.1.1.length (nI (bif Nat.beq (hq A.1.2.1 3) (dq_mask T) then 5 else 4)) (cst (-1)) (nI (dq_mask T))) (aH := rcF2 A.2.2.1.length aS aH) (vM := nI (svN A.2.2.1.length)) (aN := aN) (vS := vS) (aX := aX) (vL := vL) (vP := vP) (vW := vW) (aR := aR) (vR := vR) (aD := hdM A.1.2.1 9 aD) (vF := vF) (aW := aW) (aI := aI) (aQ := aQ) (aL := aL) (vB := vB) (rfR_chg h hst))
      refine Cl_go e_X6_accuse (Nat.le_of_ble_eq_true rfl) rfl ?_; intro P hP; refine hP _ _ _ _ ?_; (conv => whnf)
      refine ⟨Nat.le_of_ble_eq_true rfl, rfl, ?_⟩; (conv => whnf)
      refine Or.inl ⟨_, _, Cl_s (m_areOf_t (d := d + 9) ha hb hc), ?_⟩; (conv => whnf)
      refine ⟨Nat.le_of_ble_eq_true rfl, rfl, ?_⟩; (conv => whnf)
      refine Or.inl ⟨_, _, hbq, ?_⟩; (conv => whnf)
      refine ⟨⟨rfl, rfl⟩, ?_⟩; (conv => whnf)
      refine b1 0 rfl (by omega) (fun _ => ?_) (fun (q : ¬ 0 ≤ 0) => by omega)
      refine hP _ _ _ _ ?_; (conv => whnf)
      refine ⟨Nat.le_of_ble_eq_true rfl, rfl, ?_⟩; (conv => whnf)
      refine Or.inl ⟨_, _, m_records (d := d + 10) (vT := nI 0) (aS := aS) (aH := aH) (vM := vM) (aN := aN) (vS := vS) (aX := aX) (vL := vL) (vP := vP) (vW := vW) (aR := aR) (vR := vR) (aD := aD) (vF := vF) (aW := aW) (aI := aI) (aQ := aQ) (aL := aL) (vB := vB) h.2.1.1 h.2.2.1, ?_⟩; (conv => whnf)
      refine ⟨Nat.le_of_ble_eq_true rfl, rfl, ?_⟩; (conv => whnf)
      refine Or.inl ⟨_, _, Cl_s hnum, ?_⟩; (conv => whnf)
      refine ⟨Nat.le_of_ble_eq_true rfl, rfl, ?_⟩; (conv => whnf)
      refine Or.inl ⟨_, _, Cl_s (m_maskOf (d := d + 10) hT), ?_⟩; (conv => whnf)
      refine ⟨Nat.le_of_ble_eq_true rfl, rfl, ?_⟩; (conv => whnf)
      refine Or.inl ⟨_, _, hk, ?_⟩; (conv => whnf)
      exact ⟨rfl, ⟨.boolean, rfl, b01⟩, rfl, rfl⟩
    · rw [if_neg hn]
      rw [if_pos (by omega)] at hbq
      refine RO_er (x := .int (nI 0)) (M' := (rfM (nI 2) aS aH vM aN vS aX vL vP vW aR vR aD vF aW aI aQ aL vB)) ?_ (RM_of (vT := nI 2) (aS := aS) (aH := aH) (vM := vM) (aN := aN) (vS := vS) (aX := aX) (vL := vL) (vP := vP) (vW := vW) (aR := aR) (vR := vR) (aD := aD) (vF := vF) (aW := aW) (aI := aI) (aQ := aQ) (aL := aL) (vB := vB) h)
      refine Cl_go e_X6_accuse (Nat.le_of_ble_eq_true rfl) rfl ?_; intro P hP; refine hP _ _ _ _ ?_; (conv => whnf)
      refine ⟨Nat.le_of_ble_eq_true rfl, rfl, ?_⟩; (conv => whnf)
      refine Or.inl ⟨_, _, Cl_s (m_areOf_t (d := d + 9) ha hb hc), ?_⟩; (conv => whnf)
      refine ⟨Nat.le_of_ble_eq_true rfl, rfl, ?_⟩; (conv => whnf)
      refine Or.inl ⟨_, _, hbq, ?_⟩; (conv => whnf)
      refine ⟨⟨rfl, rfl⟩, ?_⟩; (conv => whnf)
      refine b1 2 rfl (by omega) (fun (q : 2 ≤ 0) => by omega) (fun _ => ?_); (conv => whnf)
      exact ⟨rfl, ⟨.boolean, rfl, rfl⟩, rfl, rfl⟩
theorem m_dropClue (h : rfR aS aH vM aN vS aX vL A) (x : Int32) : RO tc0 kX6_dropClue (d + 12) ((rfM vT aS aH vM aN vS aX vL vP vW aR vR aD vF aW aI aQ aL vB)) [.int x] (spDrop A x) := by
  unfold spDrop
  have h20 := h.1.1.2.1
  rcases in_out x (n := A.1.1.length) (by omega) with hx | ⟨k, hk, rfl⟩
  · rw [decN_out hx]
    refine RO_er (x := .int (nI 0)) (M' := (rfM (nI 1) aS aH vM aN vS aX vL vP vW aR vR aD vF aW aI aQ aL vB)) ?_ (RM_of (vT := nI 1) (aS := aS) (aH := aH) (vM := vM) (aN := aN) (vS := vS) (aX := aX) (vL := vL) (vP := vP) (vW := vW) (aR := aR) (vR := vR) (aD := aD) (vF := vF) (aW := aW) (aI := aI) (aQ := aQ) (aL := aL) (vB := vB) h)
    refine Cl_go e_X6_dropClue (Nat.le_of_ble_eq_true rfl) rfl ?_; intro P hP; refine hP _ _ _ _ ?_; (conv => whnf)
    refine ⟨⟨rfl, rfl⟩, ?_⟩; (conv => whnf)
    refine ⟨Nat.le_of_ble_eq_true rfl, rfl, ?_⟩; (conv => whnf)
    refine Or.inl ⟨_, _, m_isClue_f (d := d + 9) (vT := nI 0) (aS := aS) (aH := aH) (vM := vM) (aN := aN) (vS := vS) (aX := aX) (vL := vL) (vP := vP) (vW := vW) (aR := aR) (vR := vR) (aD := aD) (vF := vF) (aW := aW) (aI := aI) (aQ := aQ) (aL := aL) (vB := vB) h.1.1.1 h.1.1.2.1 hx, ?_⟩; (conv => whnf)
    refine b1 0 rfl (by omega) (fun (q : ¬ 0 = 0) => by omega) (fun _ => ?_); (conv => whnf)
    refine ⟨Nat.le_of_ble_eq_true rfl, rfl, ?_⟩; (conv => whnf)
    refine Or.inl ⟨_, _, m_fails (d := d + 10) (vT := nI 0) (aS := aS) (aH := aH) (vM := vM) (aN := aN) (vS := vS) (aX := aX) (vL := vL) (vP := vP) (vW := vW) (aR := aR) (vR := vR) (aD := aD) (vF := vF) (aW := aW) (aI := aI) (aQ := aQ) (aL := aL) (vB := vB) (x := nI 1), ?_⟩; (conv => whnf)
    exact ⟨rfl, ⟨.int, rfl, rfl⟩, rfl, rfl⟩
  · rw [decN_in hk (by omega)]
    have hst := stM_drop h.1 hk
    have he : dpF aS A.1.1.length k 0 = nI (A.1.1.length - 1) := by
      have := hst.1.1
      rw [this]
      show nI (A.1.1.eraseIdx k).length = _
      rw [List.length_eraseIdx, if_pos hk]
    refine RO_ok (M' := (rfM (nI 0) (dpF aS A.1.1.length k) (rcF2 A.2.2.1.length aS aH) (nI (svN A.2.2.1.length)) aN vS aX vL vP vW aR vR aD vF aW aI aQ aL vB)) ?_ (RM_of (vT := nI 0) (aS := dpF aS A.1.1.length k) (aH := rcF2 A.2.2.1.length aS aH) (vM := nI (svN A.2.2.1.length)) (aN := aN) (vS := vS) (aX := aX) (vL := vL) (vP := vP) (vW := vW) (aR := aR) (vR := vR) (aD := aD) (vF := vF) (aW := aW) (aI := aI) (aQ := aQ) (aL := aL) (vB := vB) (rfR_chg h hst))
    refine Cl_go e_X6_dropClue (Nat.le_of_ble_eq_true rfl) rfl ?_; intro P hP; refine hP _ _ _ _ ?_; (conv => whnf)
    refine ⟨⟨rfl, rfl⟩, ?_⟩; (conv => whnf)
    refine ⟨Nat.le_of_ble_eq_true rfl, rfl, ?_⟩; (conv => whnf)
    refine Or.inl ⟨_, _, m_isClue_t (d := d + 9) (vT := nI 0) (aS := aS) (aH := aH) (vM := vM) (aN := aN) (vS := vS) (aX := aX) (vL := vL) (vP := vP) (vW := vW) (aR := aR) (vR := vR) (aD := aD) (vF := vF) (aW := aW) (aI := aI) (aQ := aQ) (aL := aL) (vB := vB) h.1.1.1 h.1.1.2.1 hk, ?_⟩; (conv => whnf)
    refine b1 1 rfl (by omega) (fun _ => ?_) (fun (q : ¬ ¬ 1 = 0) => by omega)
    refine hP _ _ _ _ ?_; (conv => whnf)
    refine ⟨Nat.le_of_ble_eq_true rfl, rfl, ?_⟩; (conv => whnf)
    refine Or.inl ⟨_, _, m_records (d := d + 10) (vT := nI 0) (aS := aS) (aH := aH) (vM := vM) (aN := aN) (vS := vS) (aX := aX) (vL := vL) (vP := vP) (vW := vW) (aR := aR) (vR := vR) (aD := aD) (vF := vF) (aW := aW) (aI := aI) (aQ := aQ) (aL := aL) (vB := vB) h.2.1.1 h.2.2.1, ?_⟩; (conv => whnf)
    refine ⟨Nat.le_of_ble_eq_true rfl, rfl, ?_⟩; (conv => whnf)
    refine Or.inl ⟨_, _, m_drops (d := d + 10) (vT := nI 0) (aS := aS) (aH := rcF2 A.2.2.1.length aS aH) (vM := nI (svN A.2.2.1.length)) (aN := aN) (vS := vS) (aX := aX) (vL := vL) (vP := vP) (vW := vW) (aR := aR) (vR := vR) (aD := aD) (vF := vF) (aW := aW) (aI := aI) (aQ := aQ) (aL := aL) (vB := vB) h20 hk h.1.1.1, ?_⟩; (conv => whnf)
    refine ⟨vi (n := 0) rfl (by decide) (by decide), ?_⟩; (conv => whnf)
    exact ⟨rfl, ⟨.int, rfl, rfl⟩, rI (he), rfl⟩
theorem m_dropAll (h : rfR aS aH vM aN vS aX vL A) {tc : Nat → Nat} : RO tc kX6_dropAll (d + 12) ((rfM vT aS aH vM aN vS aX vL vP vW aR vR aD vF aW aI aQ aL vB)) [] (spDropAll A) := by
  refine RO_ok (M' := (rfM (nI 0) (upd aS 0 (nI 0)) (rcF2 A.2.2.1.length aS aH) (nI (svN A.2.2.1.length)) aN vS aX vL vP vW aR vR aD vF aW aI aQ aL vB)) ?_ (RM_of (vT := nI 0) (aS := upd aS 0 (nI 0)) (aH := rcF2 A.2.2.1.length aS aH) (vM := nI (svN A.2.2.1.length)) (aN := aN) (vS := vS) (aX := aX) (vL := vL) (vP := vP) (vW := vW) (aR := aR) (vR := vR) (aD := aD) (vF := vF) (aW := aW) (aI := aI) (aQ := aQ) (aL := aL) (vB := vB) (rfR_chg h (stM_nil h.1)))
  refine Cl_go e_X6_dropAll (Nat.le_of_ble_eq_true rfl) rfl ?_; intro P hP; refine hP _ _ _ _ ?_; (conv => whnf)
  refine ⟨⟨rfl, rfl⟩, ?_⟩; (conv => whnf)
  refine ⟨Nat.le_of_ble_eq_true rfl, rfl, ?_⟩; (conv => whnf)
  refine Or.inl ⟨_, _, m_records (d := d + 10) (vT := nI 0) (aS := aS) (aH := aH) (vM := vM) (aN := aN) (vS := vS) (aX := aX) (vL := vL) (vP := vP) (vW := vW) (aR := aR) (vR := vR) (aD := aD) (vF := vF) (aW := aW) (aI := aI) (aQ := aQ) (aL := aL) (vB := vB) h.2.1.1 h.2.2.1, ?_⟩; (conv => whnf)
  refine ⟨vi (n := 0) rfl (by decide) (by decide), ?_⟩; (conv => whnf)
  refine ⟨vi (n := 0) rfl (by decide) (by decide), ?_⟩; (conv => whnf)
  exact ⟨rfl, ⟨.int, rfl, rfl⟩, rI (h.1.1.1), rfl⟩
end M19
