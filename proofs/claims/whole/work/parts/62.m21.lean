/-! the reference: its digest -/
theorem bI_J (b : Bool) : lI (bI b) = bJ b := by cases b <;> decide
section M21
variable {d : Nat} {vT vM vS vL vP vW vR vF vB : Int32} {aS aH aN aX aR aD aW aI aQ aL : IA} {A : AS}
theorem m_digestAll (h : rfR aS aH vM aN vS aX vL A) (z : Int64) : ∃ (hd : IA) (lf : Int32) (lw li lp : IA) (u : NA), Cl (d + 10) kX6_digestAll [.ref 0, .long z] ((rfM vT aS aH vM aN vS aX vL vP vW aR vR aD vF aW aI aQ aL vB)) (rJ (mxBest A.1.1 (mxAll z (mxCntL A)))) ((rfM vT aS aH vM aN vS aX vL vP vW aR vR hd lf lw li lp (nA u) (bI (shB A.1.1)))) := by
  have hT := dT31 A.1.1
  obtain ⟨hd, lf, lw, li, lp, k1, hs⟩ := m_surveys (d := d + 4) (vT := vT) (aS := aS) (aH := aH) (vM := vM) (aN := aN) (vS := vS) (aX := aX) (vL := vL) (vP := vP) (vW := vW) (aR := aR) (vR := vR) (aD := aD) (vF := vF) (aW := aW) (aI := aI) (aQ := aQ) (aL := aL) (vB := vB) (cl := A.1.1) h.1.1
  obtain ⟨u, k2, hu⟩ := m_crossedMany (d := d + 3) (vT := vT) (aS := aS) (aH := aH) (vM := vM) (aN := aN) (vS := vS) (aX := aX) (vL := vL) (vP := vP) (vW := vW) (aR := aR) (vR := vR) (aD := hd) (vF := lf) (aW := lw) (aI := li) (aQ := lp) (aL := aL) (vB := vB) (cl := A.1.1) h.1.1
  have k3 := m_masterTriple (d := d + 7) (vT := vT) (aS := aS) (aH := aH) (vM := vM) (aN := aN) (vS := vS) (aX := aX) (vL := vL) (vP := vP) (vW := vW) (aR := aR) (vR := vR) (aD := hd) (vF := lf) (aW := lw) (aI := li) (aQ := lp) (aL := nA u) (vB := bI (shB A.1.1)) h.1.2.1 (it_ok h.1)
  obtain ⟨hd4, k4⟩ := m_untrueMany (d := d + 5) (vT := vT) (aS := aS) (aH := aH) (vM := vM) (aN := aN) (vS := vS) (aX := aX) (vL := vL) (vP := vP) (vW := vW) (aR := aR) (vR := vR) (aD := hdM A.1.2.1 9 hd) (vF := lf) (aW := lw) (aI := li) (aQ := lp) (aL := nA u) (vB := bI (shB A.1.1)) (cl := A.1.1) (q := A.1.2.1) h.1.1 h.1.2.1 (it_ok h.1)
  have k5 := m_certainMany (d := d + 7) (vT := vT) (aS := aS) (aH := aH) (vM := vM) (aN := aN) (vS := vS) (aX := aX) (vL := vL) (vP := vP) (vW := vW) (aR := aR) (vR := vR) (aD := hd4) (vF := lf) (aW := lw) (aI := li) (aQ := lp) (aL := nA u) (vB := bI (shB A.1.1)) hs
  have k6 := m_mayMany (d := d + 8) (vT := vT) (aS := aS) (aH := aH) (vM := vM) (aN := aN) (vS := vS) (aX := aX) (vL := vL) (vP := vP) (vW := vW) (aR := aR) (vR := vR) (aD := hd4) (vF := lf) (aW := lw) (aI := li) (aQ := lp) (aL := nA u) (vB := bI (shB A.1.1)) hs
  have k7 := m_envelopeMany (d := d + 8) (vT := vT) (aS := aS) (aH := aH) (vM := vM) (aN := aN) (vS := vS) (aX := aX) (vL := vL) (vP := vP) (vW := vW) (aR := aR) (vR := vR) (aD := hd4) (vF := lf) (aW := lw) (aI := li) (aQ := lp) (aL := nA u) (vB := bI (shB A.1.1)) hs
  obtain ⟨hd5, k8⟩ := m_idleMany (d := d + 4) (vT := vT) (aS := aS) (aH := aH) (vM := vM) (aN := aN) (vS := vS) (aX := aX) (vL := vL) (vP := vP) (vW := vW) (aR := aR) (vR := vR) (aD := hd4) (vF := lf) (aW := lw) (aI := li) (aQ := lp) (aL := nA u) (vB := bI (shB A.1.1)) (cl := A.1.1) h.1.1
  have k9 := m_bestIn (d := d + 8) (vT := vT) (aS := aS) (aH := aH) (vM := vM) (aN := aN) (vS := vS) (aX := aX) (vL := vL) (vP := vP) (vW := vW) (aR := aR) (vR := vR) (aD := hd5) (vF := lf) (aW := lw) (aI := li) (aQ := lp) (aL := nA u) (vB := bI (shB A.1.1)) hs
  have k10 := fun (p : Nat) (hp : p < 3) => m_bestFor (d := d + 7) (vT := vT) (aS := aS) (aH := aH) (vM := vM) (aN := aN) (vS := vS) (aX := aX) (vL := vL) (vP := vP) (vW := vW) (aR := aR) (vR := vR) (aD := hd5) (vF := lf) (aW := lw) (aI := li) (aQ := lp) (aL := nA u) (vB := bI (shB A.1.1)) (p := p) hs hp
  have hs1 := hs.1
  have hle := cntN_le (fun t => Nat.blt 0 (dIE A.1.1 t)) 27
  refine ⟨hd5, lf, lw, li, lp, u, ?_⟩
  obtain ⟨w1, hw1⟩ : ∃ w, w = mx (mx (mx z (lI (nI (ntr (hq A.1.2.1 3) 9)))) (lI (aS 0))) (lI (nI (cntN (fun k => !agG (A.1.1, A.1.2.1, 0, 0) k) A.1.1.length))) := ⟨_, rfl⟩
  obtain ⟨w2, hw2⟩ : ∃ w, w = mx (mx (mx w1 (lI lf)) (lI lf)) (lI (nI (cntN (fun c => spB (dT A.1.1) (dCA A.1.1 c)) 9))) := ⟨_, rfl⟩
  obtain ⟨w3, hw3⟩ : ∃ w, w = mx (mx (mx w2 (lI (bI (shB A.1.1)))) (lI (nI 36 - nI (rl_sum 9 (shW A.1.1))))) (lI (nI 36 - (nI 36 - nI (rl_sum 9 (shW A.1.1))) - nI (cntN (fun j => Nat.blt 0 (dCA A.1.1 (j / 4) (j % 4))) 36))) := ⟨_, rfl⟩
  obtain ⟨w4, hw4⟩ : ∃ w, w = mx (mx w3 (lI (nI (cntN (fun t => Nat.blt 0 (dIE A.1.1 t)) 27)))) (lI (bI (Nat.beq (cntN (fun t => Nat.blt 0 (dIE A.1.1 t)) 27) 1))) := ⟨_, rfl⟩
  obtain ⟨w5, hw5⟩ : ∃ w, w = mx (mx w4 (lI (nI (cntN (fun k => Nat.beq (dT A.1.1 + dHB A.1.1 k) (dT A.1.1)) A.1.1.length)))) (lI vM) := ⟨_, rfl⟩
  have hc : mxAll z (mxCntL A) = w5 := by
    rw [hw5, hw4, hw3, hw2, hw1, hs1, h.1.1.1, h.2.2.1, bI_J, bI_J, hid_eq]
    rfl
  rw [hc]
  clear hc
  refine Cl_go e_X6_digestAll (Nat.le_of_ble_eq_true rfl) rfl ?_; intro P hP; refine hP _ _ _ _ ?_; (conv => whnf)
  have hMB : mxBest A.1.1 w5 = if 0 < dT A.1.1 then upN (fun p y => mx y (lI (nI (amn (fun t => lvs (dT A.1.1) (wnN A.1.1 p t)) 26)))) 0 3 (mx w5 (lI (nI (amx (dIE A.1.1) 26)))) else w5 := rfl
  -- the end
  have f231 : ∀ v : Int64, v = mxBest A.1.1 w5 → P 231 [none, none, none, none, some (.long v), none, none] [] ((rfM vT aS aH vM aN vS aX vL vP vW aR vR hd5 lf lw li lp (nA u) (bI (shB A.1.1)))) := by
    intro v hv
    refine hP _ _ _ _ ?_; (conv => whnf)
    exact ⟨rfl, rfl, rL hv, rfl⟩
  have lp3 : 0 < dT A.1.1 → ∀ (n i : Nat) (x : Int32) (v : Int64), i + n = 3 → x = nI i → upN (fun p y => mx y (lI (nI (amn (fun t => lvs (dT A.1.1) (wnN A.1.1 p t)) 26)))) i n v = mxBest A.1.1 w5 → P 203 [some (.ref 0), none, none, none, some (.long v), none, some (.int x)] [] ((rfM vT aS aH vM aN vS aX vL vP vW aR vR hd5 lf lw li lp (nA u) (bI (shB A.1.1)))) := by
    intro h0 n
    induction n with
    | zero =>
      intro i x v hi hx hv
      have hi : i = 3 := hi
      subst hi
      refine hP _ _ _ _ ?_; (conv => whnf)
      refine b2 3 3 hx rfl (by omega) (by omega) (fun _ => ?_) (fun (q : ¬ 3 ≤ 3) => by omega)
      exact f231 v hv
    | succ n ih =>
      intro i x v hi hx hv
      subst hx
      have hi3 : i < 3 := by omega
      refine hP _ _ _ _ ?_; (conv => whnf)
      refine b2 i 3 rfl rfl (by omega) (by omega) (fun (q : 3 ≤ i) => by omega) (fun _ => ?_); (conv => whnf)
      refine ⟨Nat.le_of_ble_eq_true rfl, rfl, ?_⟩; (conv => whnf)
      refine Or.inl ⟨_, _, k10 i hi3, ?_⟩; (conv => whnf)
      exact ih (i + 1) _ _ (by omega) (nI_1 i) hv
  -- from the flag of one envelope on
  have f151 : P 151 [some (.ref 0), none, none, none, none, none, none] [.int (bI (Nat.beq (cntN (fun t => Nat.blt 0 (dIE A.1.1 t)) 27) 1)), .long (Int64.ofNat 31 * mx w3 (lI (nI (cntN (fun t => Nat.blt 0 (dIE A.1.1 t)) 27))))] ((rfM vT aS aH vM aN vS aX vL vP vW aR vR hd4 lf lw li lp (nA u) (bI (shB A.1.1)))) := by
    refine hP _ _ _ _ ?_; (conv => whnf)
    refine ⟨Nat.le_of_ble_eq_true rfl, rfl, ?_⟩; (conv => whnf)
    refine Or.inl ⟨_, _, k8, ?_⟩
    show wI (Cl (d + 9)) _ _ P (fnd pgX6_digestAll 168) [some (.ref 0), none, none, none, some (.long (mx (mx w3 (lI (nI (cntN (fun t => Nat.blt 0 (dIE A.1.1 t)) 27)))) (lI (bI (Nat.beq (cntN (fun t => Nat.blt 0 (dIE A.1.1 t)) 27) 1))))), none, none] [.int (nI (cntN (fun k => Nat.beq (dT A.1.1 + dHB A.1.1 k) (dT A.1.1)) A.1.1.length)), .long (Int64.ofNat 31 * mx (mx w3 (lI (nI (cntN (fun t => Nat.blt 0 (dIE A.1.1 t)) 27)))) (lI (bI (Nat.beq (cntN (fun t => Nat.blt 0 (dIE A.1.1 t)) 27) 1)))), .long (Int64.ofNat 31)] _
    rw [← hw4]
    (conv => whnf)
    refine b1 (dT A.1.1) hs1 hT (fun (q : dT A.1.1 ≤ 0) => f231 _ (by rw [hMB, if_neg (by omega)]; exact hw5.symm)) (fun (q : ¬ dT A.1.1 ≤ 0) => ?_); (conv => whnf)
    refine ⟨Nat.le_of_ble_eq_true rfl, rfl, ?_⟩; (conv => whnf)
    refine Or.inl ⟨_, _, k9, ?_⟩; (conv => whnf)
    refine lp3 (by omega) 3 0 _ _ rfl rfl ?_
    rw [hMB, if_pos (by omega), hw5]
    rfl
  -- from the flag of broken rules on
  have f102 : P 102 [some (.ref 0), none, none, some (.int (nI 36 - nI (rl_sum 9 (shW A.1.1)))), none, none, none] [.int (bI (shB A.1.1)), .long (Int64.ofNat 31 * w2), .long (Int64.ofNat 31), .long (Int64.ofNat 31)] ((rfM vT aS aH vM aN vS aX vL vP vW aR vR hd4 lf lw li lp (nA u) (bI (shB A.1.1)))) := by
    refine hP _ _ _ _ ?_; (conv => whnf)
    refine ⟨Nat.le_of_ble_eq_true rfl, rfl, ?_⟩; (conv => whnf)
    refine Or.inl ⟨_, _, k6, ?_⟩
    show wI (Cl (d + 9)) _ _ P (fnd pgX6_digestAll 117) [some (.ref 0), none, none, some (.int (nI 36 - nI (rl_sum 9 (shW A.1.1)))), none, none, none] [.int (nI (cntN (fun j => Nat.blt 0 (dCA A.1.1 (j / 4) (j % 4))) 36)), .int (nI 36 - (nI 36 - nI (rl_sum 9 (shW A.1.1)))), .long (Int64.ofNat 31 * mx (mx w2 (lI (bI (shB A.1.1)))) (lI (nI 36 - nI (rl_sum 9 (shW A.1.1)))))] _
    (conv => whnf)
    refine ⟨Nat.le_of_ble_eq_true rfl, rfl, ?_⟩; (conv => whnf)
    refine Or.inl ⟨_, _, k7, ?_⟩
    show wI (Cl (d + 9)) _ _ P (fnd pgX6_digestAll 135) [some (.ref 0), none, none, some (.int (nI 36 - nI (rl_sum 9 (shW A.1.1)))), some (.long (mx (mx (mx w2 (lI (bI (shB A.1.1)))) (lI (nI 36 - nI (rl_sum 9 (shW A.1.1))))) (lI (nI 36 - (nI 36 - nI (rl_sum 9 (shW A.1.1))) - nI (cntN (fun j => Nat.blt 0 (dCA A.1.1 (j / 4) (j % 4))) 36))))), none, none] [.int (nI (cntN (fun t => Nat.blt 0 (dIE A.1.1 t)) 27)), .long (Int64.ofNat 31 * mx (mx (mx w2 (lI (bI (shB A.1.1)))) (lI (nI 36 - nI (rl_sum 9 (shW A.1.1))))) (lI (nI 36 - (nI 36 - nI (rl_sum 9 (shW A.1.1))) - nI (cntN (fun j => Nat.blt 0 (dCA A.1.1 (j / 4) (j % 4))) 36)))), .long (Int64.ofNat 31)] _
    rw [← hw3]
    (conv => whnf)
    refine ⟨Nat.le_of_ble_eq_true rfl, rfl, ?_⟩; (conv => whnf)
    refine Or.inl ⟨_, _, k7, ?_⟩; (conv => whnf)
    refine b2 (cntN (fun t => Nat.blt 0 (dIE A.1.1 t)) 27) 1 rfl rfl (by omega) (by omega) (fun (q : ¬ cntN (fun t => Nat.blt 0 (dIE A.1.1 t)) 27 = 1) => ?_) (fun (q : ¬ ¬ cntN (fun t => Nat.blt 0 (dIE A.1.1 t)) 27 = 1) => ?_)
    · rw [nbf q] at f151
      refine hP _ _ _ _ ?_; (conv => whnf)
      exact f151
    · rw [nbt (Decidable.of_not_not q)] at f151
      (conv => whnf)
      exact f151
  -- from the start
  refine ⟨Nat.le_of_ble_eq_true rfl, rfl, ?_⟩; (conv => whnf)
  refine Or.inl ⟨_, _, k1, ?_⟩; (conv => whnf)
  refine ⟨Nat.le_of_ble_eq_true rfl, rfl, ?_⟩; (conv => whnf)
  refine Or.inl ⟨_, _, k2, ?_⟩; (conv => whnf)
  refine ⟨Nat.le_of_ble_eq_true rfl, rfl, ?_⟩; (conv => whnf)
  refine Or.inl ⟨_, _, k3, ?_⟩
  show wI (Cl (d + 9)) _ _ P (fnd pgX6_digestAll 24) [some (.ref 0), some (.long z), none, some (.int (nI 36 - nI (rl_sum 9 (shW A.1.1)))), none, none, none] [.int (nI (ntr (hq A.1.2.1 3) 9)), .long (Int64.ofNat 31 * z), .long (Int64.ofNat 31), .long (Int64.ofNat 31)] _
  (conv => whnf)
  refine ⟨vi (n := 0) rfl (by decide) (by decide), ?_⟩; (conv => whnf)
  refine ⟨Nat.le_of_ble_eq_true rfl, rfl, ?_⟩; (conv => whnf)
  refine Or.inl ⟨_, _, k4, ?_⟩
  show wI (Cl (d + 9)) _ _ P (fnd pgX6_digestAll 40) [some (.ref 0), some (.long z), none, some (.int (nI 36 - nI (rl_sum 9 (shW A.1.1)))), none, none, none] [.int (nI (cntN (fun k => !agG (A.1.1, A.1.2.1, 0, 0) k) A.1.1.length)), .long (Int64.ofNat 31 * mx (mx z (lI (nI (ntr (hq A.1.2.1 3) 9)))) (lI (aS 0)))] _
  (conv => whnf)
  refine ⟨Nat.le_of_ble_eq_true rfl, rfl, ?_⟩; (conv => whnf)
  refine Or.inl ⟨_, _, k5, ?_⟩
  show wI (Cl (d + 9)) _ _ P (fnd pgX6_digestAll 74) [some (.ref 0), some (.long z), none, some (.int (nI 36 - nI (rl_sum 9 (shW A.1.1)))), some (.long (mx (mx (mx z (lI (nI (ntr (hq A.1.2.1 3) 9)))) (lI (aS 0))) (lI (nI (cntN (fun k => !agG (A.1.1, A.1.2.1, 0, 0) k) A.1.1.length))))), none, none] [.int (nI (cntN (fun c => spB (dT A.1.1) (dCA A.1.1 c)) 9)), .long (Int64.ofNat 31 * mx (mx (mx (mx (mx z (lI (nI (ntr (hq A.1.2.1 3) 9)))) (lI (aS 0))) (lI (nI (cntN (fun k => !agG (A.1.1, A.1.2.1, 0, 0) k) A.1.1.length)))) (lI lf)) (lI lf))] _
  rw [← hw1]
  rw [hw2] at f102
  (conv => whnf)
  cases hb : shB A.1.1 with
  | true =>
    rw [hb] at f102
    refine b1 1 rfl (by omega) (fun (q : 1 = 0) => by omega) (fun _ => ?_); (conv => whnf)
    exact f102
  | false =>
    rw [hb] at f102
    refine b1 0 rfl (by omega) (fun _ => ?_) (fun (q : ¬ 0 = 0) => by omega)
    refine hP _ _ _ _ ?_; (conv => whnf)
    exact f102
theorem m_digestClues {a : SA} (h : stM aS a) (z : Int64) : ∃ hd, Cl (d + 10) kX6_digestClues [.ref 0, .long z] ((rfM vT aS aH vM aN vS aX vL vP vW aR vR aD vF aW aI aQ aL vB)) (rJ (upN (mxClu a.1 a) 0 a.1.length z)) ((rfM vT aS aH vM aN vS aX vL vP vW aR vR hd vF aW aI aQ aL vB)) := by
  have hX := h.1.2.2.1
  have hl := h.1.2.1
  suffices hh : ∃ r N, (r = rJ (upN (mxClu a.1 a) 0 a.1.length z) ∧ ∃ hd, N = (rfM vT aS aH vM aN vS aX vL vP vW aR vR hd vF aW aI aQ aL vB)) ∧ Cl (d + 10) kX6_digestClues [.ref 0, .long z] ((rfM vT aS aH vM aN vS aX vL vP vW aR vR aD vF aW aI aQ aL vB)) r N by
    obtain ⟨r, N, ⟨rfl, hd, rfl⟩, h⟩ := hh
    exact ⟨hd, h⟩
  generalize hE : upN (mxClu a.1 a) 0 a.1.length z = E
  refine Cl_goQ e_X6_digestClues rfl (Nat.le_of_ble_eq_true rfl) (fun r M' q => by obtain ⟨-, hd, rfl⟩ := q; rfl) (⟨_, _, rfl, aD, rfl⟩) ?_; intro P hP; refine hP _ _ _ _ ?_; (conv => whnf)
  have lp : ∀ (n i : Nat) (x : Int32) (y : Int64) (hd : IA), x = nI i → i + n = a.1.length → upN (mxClu a.1 a) i n y = E → P 5 [some (.ref 0), none, none, some (.long y), none, some (.int x)] [] ((rfM vT aS aH vM aN vS aX vL vP vW aR vR hd vF aW aI aQ aL vB)) := by
    intro n
    induction n with
    | zero =>
      intro i x y hd hx hi hy
      have hi : i = a.1.length := hi
      refine hP _ _ _ _ ?_; (conv => whnf)
      refine ⟨vi (n := 0) rfl (by decide) (by decide), ?_⟩; (conv => whnf)
      refine b2 i a.1.length hx h.1.1 (by omega) (by omega) (fun _ => ?_) (fun (q : ¬ a.1.length ≤ i) => by omega)
      refine hP _ _ _ _ ?_; (conv => whnf)
      exact ⟨rfl, rfl, rL hy, hd, rfl⟩
    | succ n ih =>
      intro i x y hd hx hi hy
      subst hx
      have hil : i < a.1.length := by omega
      have hi20 : i < 20 := by omega
      obtain ⟨e1, e2, e3⟩ := cl_at h.1 hil
      have o0 : Cl (d + 9) kX6_of [.ref 0, .int (nI i), .int (nI 0)] ((rfM vT aS aH vM aN vS aX vL vP vW aR vR hd vF aW aI aQ aL vB)) (rV (nI (clG a i).1)) ((rfM vT aS aH vM aN vS aX vL vP vW aR vR hd vF aW aI aQ aL vB)) := by rw [show nI (clG a i).1 = aS (12 + 3 * i) from e1.symm]; exact m_of (w := 0) hi20 (by decide)
      have o1 : Cl (d + 9) kX6_of [.ref 0, .int (nI i), .int (nI 1)] ((rfM vT aS aH vM aN vS aX vL vP vW aR vR hd vF aW aI aQ aL vB)) (rV (plI (clG a i))) ((rfM vT aS aH vM aN vS aX vL vP vW aR vR hd vF aW aI aQ aL vB)) := by rw [show plI (clG a i) = aS (12 + 3 * i + 1) from e2.symm]; exact m_of (w := 1) hi20 (by decide)
      have o2 : Cl (d + 9) kX6_of [.ref 0, .int (nI i), .int (nI 2)] ((rfM vT aS aH vM aN vS aX vL vP vW aR vR hd vF aW aI aQ aL vB)) (rV (nI (clG a i).2.2)) ((rfM vT aS aH vM aN vS aX vL vP vW aR vR hd vF aW aI aQ aL vB)) := by rw [show nI (clG a i).2.2 = aS (12 + 3 * i + 2) from e3.symm]; exact m_of (w := 2) hi20 (by decide)
      have k4 := m_holdsTrue (d := d + 6) (vT := vT) (aS := aS) (aH := aH) (vM := vM) (aN := aN) (vS := vS) (aX := aX) (vL := vL) (vP := vP) (vW := vW) (aR := aR) (vR := vR) (aD := hd) (vF := vF) (aW := aW) (aI := aI) (aQ := aQ) (aL := aL) (vB := vB) (cl := a.1) (q := a.2.1) h.1 h.2.1 (it_ok h) hil
      obtain ⟨hd5, k5⟩ := m_goesF (d := d + 5) (vT := vT) (aS := aS) (aH := aH) (vM := vM) (aN := aN) (vS := vS) (aX := aX) (vL := vL) (vP := vP) (vW := vW) (aR := aR) (vR := vR) (aD := hdM a.2.1 9 hd) (vF := vF) (aW := aW) (aI := aI) (aQ := aQ) (aL := aL) (vB := vB) (cl := a.1) (w := i) h.1 (Or.inr ⟨rfl, by omega⟩)
      rw [goN_K hX hil] at k5
      have eag : agG (a.1, a.2.1, 0, 0) i = agG a i := rfl
      rw [eag] at k4
      have hy2 : upN (mxClu a.1 a) (i + 1) n (mx (mx (mx (mx (mx y (lI (nI (clG a i).1))) (lI (plI (clG a i)))) (lI (nI (clG a i).2.2))) (lI (bI (agG a i)))) (lI (nI (dT a.1 + dHB a.1 i)))) = E := by rw [bI_J]; exact hy
      have f79 : P 79 [some (.ref 0), none, none, none, none, some (.int (nI i))] [.int (bI (agG a i)), .long (Int64.ofNat 31 * mx (mx (mx y (lI (nI (clG a i).1))) (lI (plI (clG a i)))) (lI (nI (clG a i).2.2))), .long (Int64.ofNat 31)] ((rfM vT aS aH vM aN vS aX vL vP vW aR vR (hdM a.2.1 9 hd) vF aW aI aQ aL vB)) := by
        refine hP _ _ _ _ ?_; (conv => whnf)
        refine ⟨Nat.le_of_ble_eq_true rfl, rfl, ?_⟩; (conv => whnf)
        refine Or.inl ⟨_, _, k5, ?_⟩; (conv => whnf)
        exact ih (i + 1) _ _ hd5 (nI_1 i) (by omega) hy2
      refine hP _ _ _ _ ?_; (conv => whnf)
      refine ⟨vi (n := 0) rfl (by decide) (by decide), ?_⟩; (conv => whnf)
      refine b2 i a.1.length rfl h.1.1 (by omega) (by omega) (fun (q : a.1.length ≤ i) => by omega) (fun _ => ?_); (conv => whnf)
      refine ⟨Nat.le_of_ble_eq_true rfl, rfl, ?_⟩; (conv => whnf)
      refine Or.inl ⟨_, _, o0, ?_⟩; (conv => whnf)
      refine ⟨Nat.le_of_ble_eq_true rfl, rfl, ?_⟩; (conv => whnf)
      refine Or.inl ⟨_, _, o1, ?_⟩; (conv => whnf)
      refine ⟨Nat.le_of_ble_eq_true rfl, rfl, ?_⟩; (conv => whnf)
      refine Or.inl ⟨_, _, o2, ?_⟩
      show wI (Cl (d + 9)) _ _ P (fnd pgX6_digestClues 54) [some (.ref 0), none, none, some (.long y), none, some (.int (nI i))] [.int (nI (clG a i).2.2), .long (Int64.ofNat 31 * mx (mx y (lI (nI (clG a i).1))) (lI (plI (clG a i))))] _
      (conv => whnf)
      refine ⟨Nat.le_of_ble_eq_true rfl, rfl, ?_⟩; (conv => whnf)
      refine Or.inl ⟨_, _, k4, ?_⟩; (conv => whnf)
      cases hb : agG a i with
      | true =>
        rw [hb] at f79
        refine b1 1 rfl (by omega) (fun (q : 1 = 0) => by omega) (fun _ => ?_); (conv => whnf)
        exact f79
      | false =>
        rw [hb] at f79
        refine b1 0 rfl (by omega) (fun _ => ?_) (fun (q : ¬ 0 = 0) => by omega)
        refine hP _ _ _ _ ?_; (conv => whnf)
        exact f79
  exact lp a.1.length 0 _ z aD rfl (Nat.zero_add _) hE
end M21
