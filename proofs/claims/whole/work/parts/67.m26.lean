/-! the reference's reader: works -/
theorem rdA_drop {vL vP : Int32} {aX : IA} : ∀ (k : Nat) {p : Nat} {r : List Nat} {vP : Int32}, rdA vL vP aX p r → k ≤ r.length → rdA vL (nI (p + k)) aX (p + k) (r.drop k) := by
  intro k
  induction k with
  | zero => intro p r vP h _; obtain ⟨h1, h2⟩ := h; exact ⟨rfl, h2⟩
  | succ k ih =>
    intro p r vP h hk
    cases r with
    | nil => exact absurd hk (Nat.not_succ_le_zero k)
    | cons c r =>
      have := ih (rdA_c h).2.2.2.2 (by have : k + 1 ≤ r.length + 1 := hk; omega)
      rw [show p + (k + 1) = p + 1 + k by omega]
      exact this
theorem rdA_0 {vL : Int32} {aX : IA} {t : List Nat} (ht : txR aX t) (hl : vL = nI t.length) : rdA vL (nI 0) aX 0 t :=
  ⟨rfl, by rw [hl, Nat.zero_add], by have := ht.1; omega, fun k c hk => by rw [Nat.zero_add]; exact ht.2 k c hk⟩
theorem scan_1 {s : RS} {r : List Nat} (h4 : ¬ s.2.2.2 = 4) (h : (scanR s r).1 = true) : 1 ≤ (scanR s r).2.1 := by
  cases r with
  | nil =>
    have h : Nat.beq s.2.2.2 4 = true := h
    rw [nbf h4] at h; cases h
  | cons c r =>
    cases hr : rdS s c with
    | none => rw [scan_n hr, nbf h4] at h; cases h
    | some s' => rw [scan_s hr (fun z => h4 z.1)]; exact Nat.succ_le_succ (Nat.zero_le _)
theorem scan_2 {s : RS} {r : List Nat} (h0 : s.2.2.2 = 0) (h : (scanR s r).1 = true) : 2 ≤ (scanR s r).2.1 := by
  cases r with
  | nil =>
    have h : Nat.beq s.2.2.2 4 = true := h
    rw [nbf (by omega)] at h; cases h
  | cons c r =>
    cases hr : rdS s c with
    | none => rw [scan_n hr, nbf (by omega)] at h; cases h
    | some s' =>
      have hn : ¬ (s.2.2.2 = 4 ∧ c = 59) := fun z => by omega
      rw [scan_s hr hn] at h ⊢
      have h1 : (scanR s' r).1 = true := h
      have h4 : ¬ s'.2.2.2 = 4 := by
        rw [rdS_0 h0] at hr
        by_cases hl : 0 < lim c
        · rw [if_pos hl] at hr
          have e := Option.some.inj hr
          rw [← e]
          show ¬ (bif npl c then 1 else 3) = 4
          cases npl c <;> decide
        · rw [if_neg hl] at hr; cases hr
      exact Nat.succ_le_succ (scan_1 h4 h1)
/-- parts as they are read -/
def ptR (R : IA) (L : List rl_C) : Prop := ∀ (j : Nat) (x : rl_C), L[j]? = some x → R (3 * j) = nI x.1 ∧ (npl x.1 = true → R (3 * j + 1) = nI x.2.1) ∧ R (3 * j + 2) = nI x.2.2
theorem ptR_snoc {R R' : IA} {L : List rl_C} {e : RS} (h : ptR R L) (hp : prR L.length R R' true e) : ptR R' (L ++ [ptS e]) := by
  intro j x hj
  by_cases hjl : j < L.length
  · rw [List.getElem?_append_left hjl] at hj
    obtain ⟨a1, a2, a3⟩ := h j x hj
    rw [hp.1 _ (by omega), hp.1 _ (by omega), hp.1 _ (by omega)]
    exact ⟨a1, a2, a3⟩
  · rw [List.getElem?_append_right (by omega)] at hj
    have h0 : j - L.length = 0 := by
      by_cases h0 : j - L.length = 0
      · exact h0
      · obtain ⟨k, hk⟩ : ∃ k, j - L.length = k + 1 := ⟨j - L.length - 1, by omega⟩
        rw [hk] at hj; cases hj
    rw [h0] at hj
    have e1 : ptS e = x := Option.some.inj hj
    have hjn : j = L.length := by omega
    subst hjn
    subst e1
    exact hp.2 rfl
theorem ptR_ex (L : List rl_C) : ∃ R, ptR R L := by
  refine ⟨fun j => match L[j / 3]? with | some x => if j % 3 = 0 then nI x.1 else if j % 3 = 1 then nI x.2.1 else nI x.2.2 | none => nI 0, fun j x hj => ?_⟩
  have a0 : L[(3 * j) / 3]? = some x := by rw [show 3 * j / 3 = j by omega]; exact hj
  have a1 : L[(3 * j + 1) / 3]? = some x := by rw [show (3 * j + 1) / 3 = j by omega]; exact hj
  have a2 : L[(3 * j + 2) / 3]? = some x := by rw [show (3 * j + 2) / 3 = j by omega]; exact hj
  refine ⟨?_, fun _ => ?_, ?_⟩
  · show (match L[(3 * j) / 3]? with | some x => if (3 * j) % 3 = 0 then nI x.1 else if (3 * j) % 3 = 1 then nI x.2.1 else nI x.2.2 | none => nI 0) = _
    rw [a0]; exact if_pos (by omega)
  · show (match L[(3 * j + 1) / 3]? with | some x => if (3 * j + 1) % 3 = 0 then nI x.1 else if (3 * j + 1) % 3 = 1 then nI x.2.1 else nI x.2.2 | none => nI 0) = _
    rw [a1]
    show (if (3 * j + 1) % 3 = 0 then _ else if (3 * j + 1) % 3 = 1 then _ else _) = _
    rw [if_neg (by omega), if_pos (by omega)]
  · show (match L[(3 * j + 2) / 3]? with | some x => if (3 * j + 2) % 3 = 0 then nI x.1 else if (3 * j + 2) % 3 = 1 then nI x.2.1 else nI x.2.2 | none => nI 0) = _
    rw [a2]
    show (if (3 * j + 2) % 3 = 0 then _ else if (3 * j + 2) % 3 = 1 then _ else _) = _
    rw [if_neg (by omega), if_neg (by omega)]
section M26
variable {d : Nat} {vT vM vS vL vP vW vR vF vB : Int32} {aS aH aN aX aR aD aW aI aQ aL : IA} {A : AS}
theorem m_readsWorks {t : List Nat} (ht : txR aX t) (hl : vL = nI t.length) : ∃ (ps : Int32) (R' : IA) (rm' : Int32), Cl (d + 5) kX6_readsWorks [.ref 0] ((rfM vT aS aH vM aN vS aX vL vP vW aR vR aD vF aW aI aQ aL vB)) (rV (bI (okT t))) ((rfM vT aS aH vM aN vS aX vL ps (bI (okT t)) R' rm' aD vF aW aI aQ aL vB)) ∧ (okT t = false → ps = nI (errP t00 t)) ∧ (okT t = true → rm' = nI (ptsS t00 t).length ∧ ptR R' (ptsS t00 t)) := by
  suffices hh : ∃ r N, (r = rV (bI (okT t)) ∧ ∃ (ps : Int32) (R' : IA) (rm' : Int32), N = (rfM vT aS aH vM aN vS aX vL ps (bI (okT t)) R' rm' aD vF aW aI aQ aL vB) ∧ (okT t = false → ps = nI (errP t00 t)) ∧ (okT t = true → rm' = nI (ptsS t00 t).length ∧ ptR R' (ptsS t00 t))) ∧ Cl (d + 5) kX6_readsWorks [.ref 0] ((rfM vT aS aH vM aN vS aX vL vP vW aR vR aD vF aW aI aQ aL vB)) r N by
    obtain ⟨r, N, ⟨rfl, ps, R', rm', rfl, h1, h2⟩, hc⟩ := hh
    exact ⟨ps, R', rm', hc, h1, h2⟩
  have hA0 := rdA_0 ht hl
  obtain ⟨Rw, hRw⟩ := ptR_ex (ptsS t00 t)
  refine Cl_goQ e_X6_readsWorks rfl (Nat.le_of_ble_eq_true rfl) (fun r M' q => by obtain ⟨-, ps, R', rm', rfl, -, -⟩ := q; rfl) (⟨_, _, rfl, nI (errP t00 t), Rw, nI (ptsS t00 t).length, rfl, fun _ => rfl, fun _ => ⟨rfl, hRw⟩⟩) ?_; intro P hP; refine hP _ _ _ _ ?_; (conv => whnf)
  refine ⟨⟨rfl, rfl⟩, ?_⟩; (conv => whnf)
  refine ⟨⟨rfl, rfl⟩, ?_⟩; (conv => whnf)
  -- not well
  have exF : ∀ (R : IA) (rm' : Int32), okT t = false → ∀ ps : Int32, ps = nI (errP t00 t) → P 14 [some (.ref 0)] [] ((rfM vT aS aH vM aN vS aX vL ps (bI false) R rm' aD vF aW aI aQ aL vB)) := by
    intro R rm' hf ps hps
    rw [hf] at hP
    refine hP _ _ _ _ ?_; (conv => whnf)
    refine b1 0 rfl (by omega) (fun _ => ?_) (fun (q : ¬ 0 = 0) => by omega)
    refine hP _ _ _ _ ?_; (conv => whnf)
    exact ⟨rfl, ⟨.boolean, rfl, rfl⟩, rfl, ps, R, rm', rfl, fun _ => hps, fun z => by cases z⟩
  -- behind a part that is well
  have lp : ∀ (n : Nat) (r : List Nat) (p : Nat) (e : RS) (L0 : List rl_C) (R : IA), r.length ≤ n → rdA vL (nI p) aX p r → e.2.2.2 = 4 → okT t = okS e r → errP t00 t = p + errP e r → ptsS t00 t = L0 ++ ptsS e r → (∀ c r', r = c :: r' → ¬ c = 59 → rdS e c = none) → 3 * L0.length + 2 ≤ p → ptR R (L0 ++ [ptS e]) →
      P 14 [some (.ref 0)] [] ((rfM vT aS aH vM aN vS aX vL (nI p) (bI true) R (nI (L0.length + 1)) aD vF aW aI aQ aL vB)) := by
    intro n
    induction n with
    | zero =>
      intro r p e L0 R hrn hA h4 hok herr hpt hst h3 hR
      have hr : r = [] := List.eq_nil_of_length_eq_zero (by omega)
      subst hr
      have hok : okT t = true := by rw [hok]; show Nat.beq e.2.2.2 4 = true; rw [h4]; rfl
      have hpt : ptsS t00 t = L0 ++ [ptS e] := hpt
      rw [hok] at hP
      have hb := hA.2.1
      have h60 := hA.2.2.1
      refine hP _ _ _ _ ?_; (conv => whnf)
      refine b1 1 rfl (by omega) (fun (q : 1 = 0) => by omega) (fun _ => ?_); (conv => whnf)
      refine b2 p (p + 0) rfl hb (by omega) (by omega) (fun _ => ?_) (fun (q : ¬ p + 0 ≤ p) => by omega)
      refine hP _ _ _ _ ?_; (conv => whnf)
      refine ⟨rfl, ⟨.boolean, rfl, rfl⟩, rfl, nI p, R, nI (L0.length + 1), rfl, fun z => (by cases z), fun _ => ⟨?_, by rw [hpt]; exact hR⟩⟩
      rw [hpt, List.length_append]; rfl
    | succ n ih =>
      intro r p e L0 R hrn hA h4 hok herr hpt hst h3 hR
      cases r with
      | nil => exact ih [] p e L0 R (Nat.zero_le _) hA h4 hok herr hpt hst h3 hR
      | cons c r =>
        have hlen : (c :: r).length = r.length + 1 := rfl
        have hb := hA.2.1
        rw [hlen] at hb hrn
        have hc := rdA_c hA
        have h60 := hA.2.2.1
        rw [hlen] at h60
        refine hP _ _ _ _ ?_; (conv => whnf)
        refine b1 1 rfl (by omega) (fun (q : 1 = 0) => by omega) (fun _ => ?_); (conv => whnf)
        refine b2 p (p + (r.length + 1)) rfl hb (by omega) (by omega) (fun (q : p + (r.length + 1) ≤ p) => by omega) (fun _ => ?_); (conv => whnf)
        refine ⟨Nat.le_of_ble_eq_true rfl, rfl, ?_⟩; (conv => whnf)
        by_cases h59 : c = 59
        · subst h59
          have hs : rdS e 59 = some (e.1, e.2.1, e.2.2.1, 0) := by rw [rdS_4 h4]; exact if_pos rfl
          have e1 : errP e (59 :: r) = errP (e.1, e.2.1, e.2.2.1, 0) r + 1 := errP_s hs
          have e2 : okS e (59 :: r) = okS (e.1, e.2.1, e.2.2.1, 0) r := by unfold okS; rw [runR_s hs]
          have e3 : ptsS e (59 :: r) = ptS e :: ptsS (e.1, e.2.1, e.2.2.1, 0) r := by rw [ptsS_s hs]; exact if_pos rfl
          rw [e1] at herr
          rw [e2] at hok
          rw [e3] at hpt
          have hA1 := hc.2.2.2.2
          obtain ⟨k1, k2, k3⟩ := scan_ok r (e.1, e.2.1, e.2.2.1, 0) (by show 0 < 5; decide)
          have hs2 := fun q => scan_2 (s := (e.1, e.2.1, e.2.2.1, 0)) (r := r) rfl q
          obtain ⟨R', hpk, hpr⟩ := m_readsPart (d := d) (vT := vT) (aS := aS) (aH := aH) (vM := vM) (aN := aN) (vS := vS) (aX := aX) (vL := vL) (vP := nI (p + 1)) (vW := bI true) (aR := R) (vR := nI (L0.length + 1)) (aD := aD) (vF := vF) (aW := aW) (aI := aI) (aQ := aQ) (aL := aL) (vB := vB) (p := p + 1) (r := r) (s := (e.1, e.2.1, e.2.2.1, 0)) (n := L0.length + 1) hA1 rfl (by omega) rfl
          generalize scanR (e.1, e.2.1, e.2.2.1, 0) r = Z at k1 k2 k3 hs2 hpk hpr
          obtain ⟨ok, K, E⟩ := Z
          refine Or.inl ⟨_, _, m_takes_t (d := d + 2) (vT := vT) (aS := aS) (aH := aH) (vM := vM) (aN := aN) (vS := vS) (aX := aX) (vL := vL) (vP := nI p) (vW := bI true) (aR := R) (vR := nI (L0.length + 1)) (aD := aD) (vF := vF) (aW := aW) (aI := aI) (aQ := aQ) (aL := aL) (vB := vB) (p := p) (lo := 59) (hi := 59) hA rfl (Nat.le_refl _) (Nat.le_refl _) (by decide), ?_⟩; (conv => whnf)
          refine b1 1 rfl (by omega) (fun (q : 1 = 0) => by omega) (fun _ => ?_); (conv => whnf)
          refine ⟨Nat.le_of_ble_eq_true rfl, rfl, ?_⟩; (conv => whnf)
          refine Or.inl ⟨_, _, hpk, ?_⟩; (conv => whnf)
          cases ok with
          | false =>
            obtain ⟨j1, j2⟩ := k2 rfl
            have j1 : errP (e.1, e.2.1, e.2.2.1, 0) r = K := j1
            refine exF R' _ (by rw [hok, j2]) _ ?_
            rw [herr, j1]; congr 1; omega
          | true =>
            obtain ⟨j1, j2, j3, j4, j5⟩ := k3 rfl
            have hK2 : 2 ≤ K := hs2 rfl
            have hKr : K ≤ r.length := k1
            have hA2 := rdA_drop (vP := nI (p + 1)) K hA1 hKr
            have hll : (L0 ++ [ptS e]).length = L0.length + 1 := by rw [List.length_append]; rfl
            have hpr2 : prR (L0 ++ [ptS e]).length R R' true E := by rw [hll]; exact hpr
            have j2 : errP (e.1, e.2.1, e.2.2.1, 0) r = K + errP E (r.drop K) := j2
            have hfin := ih (r.drop K) (p + 1 + K) E (L0 ++ [ptS e]) R' (by rw [List.length_drop]; omega) hA2 j1 (by rw [hok]; unfold okS; rw [j3]) (by rw [herr, j2]; omega) (by rw [hpt, j4, List.append_assoc]; rfl) j5 (by rw [hll]; omega) (ptR_snoc hR hpr2)
            rw [hll] at hfin
            exact hfin
        · have hno := hst c r rfl h59
          have e1 : errP e (c :: r) = 0 := errP_n hno
          have e2 : okS e (c :: r) = false := by unfold okS; rw [runR_n hno]
          refine Or.inl ⟨_, _, m_takes_f (d := d + 2) (vT := vT) (aS := aS) (aH := aH) (vM := vM) (aN := aN) (vS := vS) (aX := aX) (vL := vL) (vP := nI p) (vW := bI true) (aR := R) (vR := nI (L0.length + 1)) (aD := aD) (vF := vF) (aW := aW) (aI := aI) (aQ := aQ) (aL := aL) (vB := vB) (p := p) (lo := 59) (hi := 59) hA (Or.inr ⟨rfl, fun (z : 59 ≤ c ∧ c ≤ 59) => h59 (by omega)⟩) (by decide) (by decide), ?_⟩; (conv => whnf)
          refine b1 0 rfl (by omega) (fun _ => ?_) (fun (q : ¬ 0 = 0) => by omega)
          exact exF R _ (by rw [hok, e2]) (nI p) (by rw [herr, e1]; rfl)
  -- the first part
  obtain ⟨k1, k2, k3⟩ := scan_ok t t00 (by show 0 < 5; decide)
  have hs2 := fun q => scan_2 (s := t00) (r := t) rfl q
  obtain ⟨R', hpk, hpr⟩ := m_readsPart (d := d) (vT := vT) (aS := aS) (aH := aH) (vM := vM) (aN := aN) (vS := vS) (aX := aX) (vL := vL) (vP := nI 0) (vW := vW) (aR := aR) (vR := nI 0) (aD := aD) (vF := vF) (aW := aW) (aI := aI) (aQ := aQ) (aL := aL) (vB := vB) (p := 0) (r := t) (s := t00) (n := 0) hA0 rfl (by decide) rfl
  generalize scanR t00 t = Z at k1 k2 k3 hs2 hpk hpr
  obtain ⟨ok, K, E⟩ := Z
  refine ⟨Nat.le_of_ble_eq_true rfl, rfl, ?_⟩; (conv => whnf)
  refine Or.inl ⟨_, _, hpk, ?_⟩; (conv => whnf)
  cases ok with
  | false =>
    obtain ⟨j1, j2⟩ := k2 rfl
    have j1 : errP t00 t = K := j1
    refine exF R' _ j2 _ ?_
    rw [j1, Nat.zero_add]
  | true =>
    obtain ⟨j1, j2, j3, j4, j5⟩ := k3 rfl
    have hK2 : 2 ≤ K := hs2 rfl
    have hKr : K ≤ t.length := k1
    have hA2 := rdA_drop (vP := nI 0) K hA0 hKr
    have j2 : errP t00 t = K + errP E (t.drop K) := j2
    have j3 : runR t00 t = runR E (t.drop K) := j3
    exact lp t.length (t.drop K) (0 + K) E [] R' (by rw [List.length_drop]; omega) hA2 j1 (by show okS t00 t = okS E (t.drop K); unfold okS; rw [j3]) (by rw [j2]; omega) j4 j5 (by show 3 * 0 + 2 ≤ 0 + K; omega) (ptR_snoc (L := []) (R := aR) (fun j x hj => by cases hj) hpr)
theorem m_firstError (h : rfR aS aH vM aN vS aX vL A) {tc : Nat → Nat} : RO tc kX6_firstError (d + 12) ((rfM vT aS aH vM aN vS aX vL vP vW aR vR aD vF aW aI aQ aL vB)) [] (spFirst A) := by
  have hlen := h.2.2.2.2.2.2
  obtain ⟨ps, R', rm', hk, h1, h2⟩ := m_readsWorks (d := d + 6) (vT := nI 0) (aS := aS) (aH := aH) (vM := vM) (aN := aN) (vS := vS) (aX := aX) (vL := vL) (vP := vP) (vW := vW) (aR := aR) (vR := vR) (aD := aD) (vF := vF) (aW := aW) (aI := aI) (aQ := aQ) (aL := aL) (vB := vB) h.2.2.2.2.2.1 hlen
  unfold spFirst
  refine RO_ok (M' := (rfM (nI 0) aS aH vM aN vS aX vL ps (bI (okT A.2.2.2)) R' rm' aD vF aW aI aQ aL vB)) ?_ (RM_of (vT := nI 0) (aS := aS) (aH := aH) (vM := vM) (aN := aN) (vS := vS) (aX := aX) (vL := vL) (vP := ps) (vW := bI (okT A.2.2.2)) (aR := R') (vR := rm') (aD := aD) (vF := vF) (aW := aW) (aI := aI) (aQ := aQ) (aL := aL) (vB := vB) h)
  refine Cl_go e_X6_firstError (Nat.le_of_ble_eq_true rfl) rfl ?_; intro P hP; refine hP _ _ _ _ ?_; (conv => whnf)
  refine ⟨⟨rfl, rfl⟩, ?_⟩; (conv => whnf)
  refine ⟨Nat.le_of_ble_eq_true rfl, rfl, ?_⟩; (conv => whnf)
  refine Or.inl ⟨_, _, hk, ?_⟩; (conv => whnf)
  cases hb : okT A.2.2.2 with
  | false =>
    rw [hb] at hP
    refine b1 0 rfl (by omega) (fun _ => ?_) (fun (q : ¬ 0 = 0) => by omega)
    refine hP _ _ _ _ ?_; (conv => whnf)
    refine hP _ _ _ _ ?_; (conv => whnf)
    exact ⟨rfl, ⟨.int, rfl, rfl⟩, rI (h1 hb), rfl⟩
  | true =>
    rw [hb] at hP
    refine b1 1 rfl (by omega) (fun (q : 1 = 0) => by omega) (fun _ => ?_); (conv => whnf)
    refine hP _ _ _ _ ?_; (conv => whnf)
    refine ⟨rfl, ⟨.int, rfl, rfl⟩, rI ?_, rfl⟩
    rw [hlen]
    congr 1
    unfold okT at hb
    cases hr : runR t00 A.2.2.2 with
    | none => rw [hr] at hb; cases hb
    | some e => exact ((errP_run A.2.2.2 t00).2 e hr).symm
end M26
