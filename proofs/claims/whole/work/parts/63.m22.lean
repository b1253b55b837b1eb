/-! the reference: its digest, second half -/
section M22
variable {d : Nat} {vT vM vS vL vP vW vR vF vB : Int32} {aS aH aN aX aR aD aW aI aQ aL : IA} {A : AS}
theorem m_digestCards {a : SA} (h : stM aS a) (z : Int64) : ∃ (hd : IA) (lf : Int32) (lw li lp : IA) (u : NA), Cl (d + 10) kX6_digestCards [.ref 0, .long z] ((rfM vT aS aH vM aN vS aX vL vP vW aR vR aD vF aW aI aQ aL vB)) (rJ (upN (mxTri a.1) 0 27 (upN (mxCrd a.1 a) 0 9 z))) ((rfM vT aS aH vM aN vS aX vL vP vW aR vR hd lf lw li lp (nA u) (bI (shB a.1)))) := by
  obtain ⟨hd, lf, lw, li, lp, k1, hs⟩ := m_surveys (d := d + 4) (vT := vT) (aS := aS) (aH := aH) (vM := vM) (aN := aN) (vS := vS) (aX := aX) (vL := vL) (vP := vP) (vW := vW) (aR := aR) (vR := vR) (aD := aD) (vF := vF) (aW := aW) (aI := aI) (aQ := aQ) (aL := aL) (vB := vB) (cl := a.1) h.1
  obtain ⟨u, k2, hu⟩ := m_rules (d := d + 4) (vT := vT) (aS := aS) (aH := aH) (vM := vM) (aN := aN) (vS := vS) (aX := aX) (vL := vL) (vP := vP) (vW := vW) (aR := aR) (vR := vR) (aD := hd) (vF := lf) (aW := lw) (aI := li) (aQ := lp) (aL := aL) (vB := vB) (cl := a.1) h.1
  refine ⟨hd, lf, lw, li, lp, u, ?_⟩
  have hE : ∃ E, upN (mxTri a.1) 0 27 (upN (mxCrd a.1 a) 0 9 z) = E := ⟨_, rfl⟩
  obtain ⟨E, hE⟩ := hE
  rw [hE]
  refine Cl_go e_X6_digestCards (Nat.le_of_ble_eq_true rfl) rfl ?_; intro P hP; refine hP _ _ _ _ ?_; (conv => whnf)
  -- triples
  have l2 : ∀ (n i : Nat) (x : Int32) (y : Int64), x = nI i → i + n = 27 → upN (mxTri a.1) i n y = E → P 127 [some (.ref 0), none, none, some (.long y), none, some (.int x), none] [] ((rfM vT aS aH vM aN vS aX vL vP vW aR vR hd lf lw li lp (nA u) (bI (shB a.1)))) := by
    intro n
    induction n with
    | zero =>
      intro i x y hx hi hy
      have hi : i = 27 := hi
      subst hi
      refine hP _ _ _ _ ?_; (conv => whnf)
      refine b2 27 27 hx rfl (by omega) (by omega) (fun _ => ?_) (fun (q : ¬ 27 ≤ 27) => by omega)
      refine hP _ _ _ _ ?_; (conv => whnf)
      exact ⟨rfl, rfl, rL hy, rfl⟩
    | succ n ih =>
      intro i x y hx hi hy
      subst hx
      have hi27 : i < 27 := by omega
      have ev : li (nI i).toNatClampNeg = nI (dIE a.1 i) := by rw [nI_clamp (by omega)]; exact hs.2.2.1 i hi27
      have hy2 : upN (mxTri a.1) (i + 1) n (upN (fun p y => mx y (lI (nI (lvs (dT a.1) (wnN a.1 p i))))) 0 3 (mx y (lI (nI (dIE a.1 i))))) = E := hy
      generalize hw : upN (fun p y => mx y (lI (nI (lvs (dT a.1) (wnN a.1 p i))))) 0 3 (mx y (lI (nI (dIE a.1 i)))) = w at hy2
      have inn : ∀ (k j : Nat) (x2 : Int32) (y2 : Int64), x2 = nI j → j + k = 3 → upN (fun p y => mx y (lI (nI (lvs (dT a.1) (wnN a.1 p i))))) j k y2 = w → P 152 [some (.ref 0), none, none, some (.long y2), none, some (.int (nI i)), some (.int x2)] [] ((rfM vT aS aH vM aN vS aX vL vP vW aR vR hd lf lw li lp (nA u) (bI (shB a.1)))) := by
        intro k
        induction k with
        | zero =>
          intro j x2 y2 hx2 hj hy3
          have hj : j = 3 := hj
          subst hj
          have hy3 : y2 = w := hy3
          subst hy3
          refine hP _ _ _ _ ?_; (conv => whnf)
          refine b2 3 3 hx2 rfl (by omega) (by omega) (fun _ => ?_) (fun (q : ¬ 3 ≤ 3) => by omega)
          refine hP _ _ _ _ ?_; (conv => whnf)
          exact ih (i + 1) _ _ (nI_1 i) (by omega) hy2
        | succ k ih2 =>
          intro j x2 y2 hx2 hj hy3
          subst hx2
          have hj3 : j < 3 := by omega
          refine hP _ _ _ _ ?_; (conv => whnf)
          refine b2 j 3 rfl rfl (by omega) (by omega) (fun (q : 3 ≤ j) => by omega) (fun _ => ?_); (conv => whnf)
          refine ⟨Nat.le_of_ble_eq_true rfl, rfl, ?_⟩; (conv => whnf)
          refine Or.inl ⟨_, _, m_leaves (d := d + 8) (vT := vT) (aS := aS) (aH := aH) (vM := vM) (aN := aN) (vS := vS) (aX := aX) (vL := vL) (vP := vP) (vW := vW) (aR := aR) (vR := vR) (aD := hd) (vF := lf) (aW := lw) (aI := li) (aQ := lp) (aL := nA u) (vB := bI (shB a.1)) hs hj3 hi27, ?_⟩; (conv => whnf)
          exact ih2 (j + 1) _ _ (nI_1 j) (by omega) hy3
      rw [← ev] at hw
      refine hP _ _ _ _ ?_; (conv => whnf)
      refine b2 i 27 rfl rfl (by omega) (by omega) (fun (q : 27 ≤ i) => by omega) (fun _ => ?_); (conv => whnf)
      refine ⟨vi rfl hi27 (by decide), ?_⟩; (conv => whnf)
      exact inn 3 0 _ _ rfl rfl hw
  -- cards
  have l1 : ∀ (n i : Nat) (x : Int32) (y : Int64), x = nI i → i + n = 9 → upN (mxTri a.1) 0 27 (upN (mxCrd a.1 a) i n y) = E → P 13 [some (.ref 0), none, none, some (.long y), none, some (.int x), none] [] ((rfM vT aS aH vM aN vS aX vL vP vW aR vR hd lf lw li lp (nA u) (bI (shB a.1)))) := by
    intro n
    induction n with
    | zero =>
      intro i x y hx hi hy
      have hi : i = 9 := hi
      subst hi
      refine hP _ _ _ _ ?_; (conv => whnf)
      refine b2 9 9 hx rfl (by omega) (by omega) (fun _ => ?_) (fun (q : ¬ 9 ≤ 9) => by omega)
      refine hP _ _ _ _ ?_; (conv => whnf)
      exact l2 27 0 _ y rfl rfl hy
    | succ n ih =>
      intro i x y hx hi hy
      subst hx
      have hi9 : i < 9 := by omega
      have ex : nI 3 + nI i = nI (3 + i) := nI_add _ _
      have ev : aS (nI 3 + nI i).toNatClampNeg = nI (a.2.1 i) := by rw [ex, nI_clamp (by omega)]; exact (h.2.1 i hi9).1
      have eu := hu.2 i hi9
      have k5 : Cl (d + 9) kX6_only [.ref 0, .int (nI i)] ((rfM vT aS aH vM aN vS aX vL vP vW aR vR hd lf lw li lp (nA u) (bI (shB a.1)))) (rV (oplG (shW a.1 i) 4 0)) ((rfM vT aS aH vM aN vS aX vL vP vW aR vR hd lf lw li lp (nA u) (bI (shB a.1)))) := by rw [← eu]; exact m_only (d := d + 7) hi9 hu.1
      have hy2 : upN (mxTri a.1) 0 27 (upN (mxCrd a.1 a) (i + 1) n (upN (mxCd a.1 i) 0 4 (mx (mx (mx y (lI (nI (a.2.1 i)))) (lI (splG (dT a.1) (dCA a.1 i) 4 0))) (lI (oplG (shW a.1 i) 4 0))))) = E := hy
      generalize hw : upN (mxCd a.1 i) 0 4 (mx (mx (mx y (lI (nI (a.2.1 i)))) (lI (splG (dT a.1) (dCA a.1 i) 4 0))) (lI (oplG (shW a.1 i) 4 0))) = w at hy2
      have inn : ∀ (k j : Nat) (x2 : Int32) (y2 : Int64), x2 = nI j → j + k = 4 → upN (mxCd a.1 i) j k y2 = w → P 64 [some (.ref 0), none, none, some (.long y2), none, some (.int (nI i)), some (.int x2)] [] ((rfM vT aS aH vM aN vS aX vL vP vW aR vR hd lf lw li lp (nA u) (bI (shB a.1)))) := by
        intro k
        induction k with
        | zero =>
          intro j x2 y2 hx2 hj hy3
          have hj : j = 4 := hj
          subst hj
          have hy3 : y2 = w := hy3
          subst hy3
          refine hP _ _ _ _ ?_; (conv => whnf)
          refine b2 4 4 hx2 rfl (by omega) (by omega) (fun _ => ?_) (fun (q : ¬ 4 ≤ 4) => by omega)
          refine hP _ _ _ _ ?_; (conv => whnf)
          exact ih (i + 1) _ _ (nI_1 i) (by omega) hy2
        | succ k ih2 =>
          intro j x2 y2 hx2 hj hy3
          subst hx2
          have hj4 : j < 4 := by omega
          have ex2 : cst 4 * nI i + nI j = nI (4 * i + j) := by rw [show cst 4 = nI 4 from rfl, pk_mul, nI_add]
          have ev2 : lw (cst 4 * nI i + nI j).toNatClampNeg = nI (dCA a.1 i j) := by rw [ex2, nI_clamp (by omega)]; exact hs.2.1 i j hi9 hj4
          have k6 : Cl (d + 9) kX6_mayLie [.ref 0, .int (nI i), .int (nI j)] ((rfM vT aS aH vM aN vS aX vL vP vW aR vR hd lf lw li lp (nA u) (bI (shB a.1)))) (rV (bI ((shW a.1 i).testBit j))) ((rfM vT aS aH vM aN vS aX vL vP vW aR vR hd lf lw li lp (nA u) (bI (shB a.1)))) := by rw [← eu]; exact m_mayLie (d := d + 8) hi9 hu.1 (show j < 9 by omega)
          have hy4 : upN (mxCd a.1 i) (j + 1) k (mx (mx y2 (lI (lw (cst 4 * nI i + nI j).toNatClampNeg))) (lI (bI ((shW a.1 i).testBit j)))) = w := by rw [ev2, bI_J]; exact hy3
          have f109 : P 109 [some (.ref 0), none, none, none, none, some (.int (nI i)), some (.int (nI j))] [.int (bI ((shW a.1 i).testBit j)), .long (Int64.ofNat 31 * mx y2 (lI (lw (cst 4 * nI i + nI j).toNatClampNeg)))] ((rfM vT aS aH vM aN vS aX vL vP vW aR vR hd lf lw li lp (nA u) (bI (shB a.1)))) := by
            refine hP _ _ _ _ ?_; (conv => whnf)
            exact ih2 (j + 1) _ _ (nI_1 j) (by omega) hy4
          refine hP _ _ _ _ ?_; (conv => whnf)
          refine b2 j 4 rfl rfl (by omega) (by omega) (fun (q : 4 ≤ j) => by omega) (fun _ => ?_); (conv => whnf)
          refine ⟨vi (n := 4 * i + j) ex2 (by omega) (by decide), ?_⟩; (conv => whnf)
          refine ⟨Nat.le_of_ble_eq_true rfl, rfl, ?_⟩; (conv => whnf)
          refine Or.inl ⟨_, _, k6, ?_⟩; (conv => whnf)
          cases hb : (shW a.1 i).testBit j with
          | true =>
            rw [hb] at f109
            refine b1 1 rfl (by omega) (fun (q : 1 = 0) => by omega) (fun _ => ?_); (conv => whnf)
            exact f109
          | false =>
            rw [hb] at f109
            refine b1 0 rfl (by omega) (fun _ => ?_) (fun (q : ¬ 0 = 0) => by omega)
            refine hP _ _ _ _ ?_; (conv => whnf)
            exact f109
      rw [← ev] at hw
      refine hP _ _ _ _ ?_; (conv => whnf)
      refine b2 i 9 rfl rfl (by omega) (by omega) (fun (q : 9 ≤ i) => by omega) (fun _ => ?_); (conv => whnf)
      refine ⟨vi (n := 3 + i) ex (by omega) (by decide), ?_⟩; (conv => whnf)
      refine ⟨Nat.le_of_ble_eq_true rfl, rfl, ?_⟩; (conv => whnf)
      refine Or.inl ⟨_, _, m_certain (d := d + 8) (vT := vT) (aS := aS) (aH := aH) (vM := vM) (aN := aN) (vS := vS) (aX := aX) (vL := vL) (vP := vP) (vW := vW) (aR := aR) (vR := vR) (aD := hd) (vF := lf) (aW := lw) (aI := li) (aQ := lp) (aL := nA u) (vB := bI (shB a.1)) hs hi9, ?_⟩
      show wI (Cl (d + 9)) _ _ P (fnd pgX6_digestCards 49) [some (.ref 0), none, none, some (.long y), none, some (.int (nI i)), none] [.int (splG (dT a.1) (dCA a.1 i) 4 0), .long (Int64.ofNat 31 * mx y (lI (aS (nI 3 + nI i).toNatClampNeg))), .long (Int64.ofNat 31)] _
      (conv => whnf)
      refine ⟨Nat.le_of_ble_eq_true rfl, rfl, ?_⟩; (conv => whnf)
      refine Or.inl ⟨_, _, k5, ?_⟩; (conv => whnf)
      exact inn 4 0 _ _ rfl rfl hw
  refine ⟨Nat.le_of_ble_eq_true rfl, rfl, ?_⟩; (conv => whnf)
  refine Or.inl ⟨_, _, k1, ?_⟩; (conv => whnf)
  refine ⟨Nat.le_of_ble_eq_true rfl, rfl, ?_⟩; (conv => whnf)
  refine Or.inl ⟨_, _, k2, ?_⟩; (conv => whnf)
  exact l1 9 0 _ z rfl rfl hE
theorem m_digest (h : rfR aS aH vM aN vS aX vL A) {tc : Nat → Nat} : RO tc kX6_digest (d + 12) ((rfM vT aS aH vM aN vS aX vL vP vW aR vR aD vF aW aI aQ aL vB)) [] (spDig A) := by
  obtain ⟨hd1, lf1, lw1, li1, lp1, u1, k1⟩ := m_digestAll (d := d + 1) (vT := nI 0) (aS := aS) (aH := aH) (vM := vM) (aN := aN) (vS := vS) (aX := aX) (vL := vL) (vP := vP) (vW := vW) (aR := aR) (vR := vR) (aD := aD) (vF := vF) (aW := aW) (aI := aI) (aQ := aQ) (aL := aL) (vB := vB) (A := A) h (Int64.ofNat 4597)
  obtain ⟨hd2, k2⟩ := m_digestClues (d := d + 1) (vT := nI 0) (aS := aS) (aH := aH) (vM := vM) (aN := aN) (vS := vS) (aX := aX) (vL := vL) (vP := vP) (vW := vW) (aR := aR) (vR := vR) (aD := hd1) (vF := lf1) (aW := lw1) (aI := li1) (aQ := lp1) (aL := nA u1) (vB := bI (shB A.1.1)) (a := A.1) h.1 (mxBest A.1.1 (mxAll (Int64.ofNat 4597) (mxCntL A)))
  obtain ⟨hd3, lf3, lw3, li3, lp3, u3, k3⟩ := m_digestCards (d := d + 1) (vT := nI 0) (aS := aS) (aH := aH) (vM := vM) (aN := aN) (vS := vS) (aX := aX) (vL := vL) (vP := vP) (vW := vW) (aR := aR) (vR := vR) (aD := hd2) (vF := lf1) (aW := lw1) (aI := li1) (aQ := lp1) (aL := nA u1) (vB := bI (shB A.1.1)) (a := A.1) h.1 (upN (mxClu A.1.1 A.1) 0 A.1.1.length (mxBest A.1.1 (mxAll (Int64.ofNat 4597) (mxCntL A))))
  obtain ⟨hd4, lf4, lw4, li4, lp4, k4⟩ := m_chanceNow (d := d) (vT := nI 0) (aS := aS) (aH := aH) (vM := vM) (aN := aN) (vS := vS) (aX := aX) (vL := vL) (vP := vP) (vW := vW) (aR := aR) (vR := vR) (aD := hd3) (vF := lf3) (aW := lw3) (aI := li3) (aQ := lp3) (aL := nA u3) (vB := bI (shB A.1.1)) (cl := A.1.1) h.1.1
  unfold spDig
  refine RO_ok (M' := (rfM (nI 0) aS aH vM aN vS aX vL vP vW aR vR hd4 lf4 lw4 li4 lp4 (nA u3) (bI (shB A.1.1)))) ?_ (RM_of (vT := nI 0) (aS := aS) (aH := aH) (vM := vM) (aN := aN) (vS := vS) (aX := aX) (vL := vL) (vP := vP) (vW := vW) (aR := aR) (vR := vR) (aD := hd4) (vF := lf4) (aW := lw4) (aI := li4) (aQ := lp4) (aL := nA u3) (vB := bI (shB A.1.1)) h)
  have hn := shX_n64 A.1.1
  have h1 := h.1.2.2.1
  have h2 := h.1.2.2.2.1
  have ht := h.2.2.2.2.2.1
  have hlen := h.2.2.2.2.2.2
  have h60 := ht.1
  have hok := h.1.2.2.2.2
  have hy : mxDig A = mxAll (mx (mx (mxStop (upN (mxTri A.1.1) 0 27 (upN (mxCrd A.1.1 A.1) 0 9 (upN (mxClu A.1.1 A.1) 0 A.1.1.length (mxBest A.1.1 (mxAll (Int64.ofNat 4597) (mxCntL A)))))) A.1) (shX A.1.1).toInt64) (nI A.2.2.2.length).toInt64) (A.2.2.2.map fun c => (nI c).toInt64) := rfl
  generalize mxDig A = E at hy
  generalize mxBest A.1.1 (mxAll (Int64.ofNat 4597) (mxCntL A)) = v1 at k1 k2 k3 hy
  generalize upN (mxClu A.1.1 A.1) 0 A.1.1.length v1 = v2 at k2 k3 hy
  generalize upN (mxTri A.1.1) 0 27 (upN (mxCrd A.1.1 A.1) 0 9 v2) = v3 at k3 hy
  generalize shX A.1.1 = sx at k4 hn hy
  refine Cl_go e_X6_digest (Nat.le_of_ble_eq_true rfl) rfl ?_; intro P hP; refine hP _ _ _ _ ?_; (conv => whnf)
  refine ⟨⟨rfl, rfl⟩, ?_⟩; (conv => whnf)
  -- the buffer
  have lp : ∀ (l : List Nat) (i : Nat) (x : Int32) (w : Int64), x = nI i → i + l.length = A.2.2.2.length → (∀ k, l[k]? = A.2.2.2[i + k]?) → mxAll w (l.map fun c => (nI c).toInt64) = E →
      P 112 [some (.ref 0), some (.long w), none, some (.int x)] [] ((rfM (nI 0) aS aH vM aN vS aX vL vP vW aR vR hd4 lf4 lw4 li4 lp4 (nA u3) (bI (shB A.1.1)))) := by
    intro l
    induction l with
    | nil =>
      intro i x w hx hi _ hw
      have hi : i = A.2.2.2.length := hi
      refine hP _ _ _ _ ?_; (conv => whnf)
      refine b2 i A.2.2.2.length hx hlen (by omega) (by omega) (fun _ => ?_) (fun (q : ¬ A.2.2.2.length ≤ i) => by omega)
      refine hP _ _ _ _ ?_; (conv => whnf)
      exact ⟨rfl, rfl, rL hw, rfl⟩
    | cons c l ih =>
      intro i x w hx hi hl hw
      subst hx
      have hil : i < A.2.2.2.length := by rw [← hi]; show i < i + (l.length + 1); omega
      have hc0 : A.2.2.2[i]? = some c := (hl 0).symm
      have hbc := ht.2 i c hc0
      have hb : aX (nI i).toNatClampNeg = nI c := by rw [nI_clamp (by omega)]; exact hbc.1
      refine hP _ _ _ _ ?_; (conv => whnf)
      refine b2 i A.2.2.2.length rfl hlen (by omega) (by omega) (fun (q : A.2.2.2.length ≤ i) => by omega) (fun _ => ?_); (conv => whnf)
      refine ⟨vi rfl (show i < 60 by omega) (by decide), ?_⟩; (conv => whnf)
      refine ih (i + 1) _ _ (nI_1 i) ?_ (fun k => ?_) ?_
      · have hi : i + (l.length + 1) = A.2.2.2.length := hi
        omega
      · have := hl (k + 1)
        rw [show i + 1 + k = i + (k + 1) by omega]
        exact this
      · rw [← hw]
        show mxAll (mx w (aX (nI i).toNatClampNeg).toInt64) _ = _
        rw [hb]; rfl
  -- behind the stop
  have f83 : ∀ v : Int64, v = mxStop v3 A.1 → P 83 [some (.ref 0), none, none, none] [.long v] ((rfM (nI 0) aS aH vM aN vS aX vL vP vW aR vR hd3 lf3 lw3 li3 lp3 (nA u3) (bI (shB A.1.1)))) := by
    intro v hv
    rw [← hv] at hy
    refine hP _ _ _ _ ?_; (conv => whnf)
    refine ⟨Nat.le_of_ble_eq_true rfl, rfl, ?_⟩; (conv => whnf)
    refine Or.inl ⟨_, _, k4, ?_⟩; (conv => whnf)
    refine ⟨Nat.le_of_ble_eq_true rfl, ?_⟩
    refine Or.inl ⟨_, _, (Or.inl ⟨rfl, Nat.le_add_left 2 (d + 8), sx, rfl, hn, rfl, rfl⟩), ?_⟩
    (conv => whnf)
    refine lp A.2.2.2 0 _ _ rfl (Nat.zero_add _) (fun k => by rw [Nat.zero_add]) ?_
    rw [hy, ← hlen]
    rfl
  have f41 : ∀ b : Bool, b = !Nat.beq A.1.2.2.2 0 → P 41 [some (.ref 0), none, none, none] [.int (bI b), .long (Int64.ofNat 31 * v3)] ((rfM (nI 0) aS aH vM aN vS aX vL vP vW aR vR hd3 lf3 lw3 li3 lp3 (nA u3) (bI (shB A.1.1)))) := by
    intro b hb
    refine hP _ _ _ _ ?_; (conv => whnf)
    refine ⟨vi (n := 1) rfl (by decide) (by decide), ?_⟩; (conv => whnf)
    by_cases h0 : A.1.2.2.2 = 0
    · rw [if_pos h0] at h1
      rw [nbt h0] at hb
      subst hb
      refine ⟨fun z => absurd (show aS 1 = cst (-1) from h1) z, fun _ => ?_⟩; (conv => whnf)
      refine f83 _ ?_
      unfold mxStop
      rw [if_pos h0]
      rfl
    · rw [if_neg h0] at h1
      rw [nbf h0] at hb
      subst hb
      have hp := hok.2.2.2.1
      refine ⟨fun _ => ?_, fun z => absurd (h1.symm.trans (show aS 1 = cst (-1) from Decidable.of_not_not z)) (nI_m1 (by omega))⟩
      refine hP _ _ _ _ ?_; (conv => whnf)
      refine ⟨vi (n := 1) rfl (by decide) (by decide), ?_⟩; (conv => whnf)
      refine ⟨vi (n := 2) rfl (by decide) (by decide), ?_⟩; (conv => whnf)
      refine f83 _ ?_
      unfold mxStop
      rw [if_neg h0, ← h1, ← h2]
      rfl
  refine ⟨Nat.le_of_ble_eq_true rfl, rfl, ?_⟩; (conv => whnf)
  refine Or.inl ⟨_, _, k1, ?_⟩; (conv => whnf)
  refine ⟨Nat.le_of_ble_eq_true rfl, rfl, ?_⟩; (conv => whnf)
  refine Or.inl ⟨_, _, k2, ?_⟩; (conv => whnf)
  refine ⟨Nat.le_of_ble_eq_true rfl, rfl, ?_⟩; (conv => whnf)
  refine Or.inl ⟨_, _, k3, ?_⟩
  show wI (Cl (d + 11)) _ _ P (fnd pgX6_digest 20) [some (.ref 0), none, none, none] [.long v3] _
  (conv => whnf)
  refine ⟨vi (n := 1) rfl (by decide) (by decide), ?_⟩; (conv => whnf)
  by_cases h0 : A.1.2.2.2 = 0
  · have h1' := h1
    rw [if_pos h0] at h1'
    refine ⟨fun z => absurd (show aS 1 = cst (-1) from h1') z, fun _ => ?_⟩; (conv => whnf)
    exact f41 false (by rw [nbt h0]; rfl)
  · have h1' := h1
    rw [if_neg h0] at h1'
    have hp := hok.2.2.2.1
    refine ⟨fun _ => ?_, fun z => absurd (h1'.symm.trans (show aS 1 = cst (-1) from Decidable.of_not_not z)) (nI_m1 (by omega))⟩
    refine hP _ _ _ _ ?_; (conv => whnf)
    exact f41 true (by rw [nbf h0]; rfl)
end M22
