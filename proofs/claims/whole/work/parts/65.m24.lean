/-! the reference's reader: signs and numbers -/
def rdA (vL vP : Int32) (aX : IA) (p : Nat) (r : List Nat) : Prop := vP = nI p ∧ vL = nI (p + r.length) ∧ p + r.length ≤ 60 ∧ ∀ (k c : Nat), r[k]? = some c → aX (p + k) = nI c ∧ 33 ≤ c ∧ c ≤ 126
theorem rdA_c {vL vP : Int32} {aX : IA} {p c : Nat} {r : List Nat} (h : rdA vL vP aX p (c :: r)) : p < 60 ∧ aX p = nI c ∧ 33 ≤ c ∧ c ≤ 126 ∧ rdA vL (nI (p + 1)) aX (p + 1) r := by
  obtain ⟨h1, h2, h3, h4⟩ := h
  have hl : (c :: r).length = r.length + 1 := rfl
  rw [hl] at h2 h3
  obtain ⟨a1, a2, a3⟩ := h4 0 c rfl
  refine ⟨by omega, a1, a2, a3, rfl, ?_, by omega, fun k c' hk => ?_⟩
  · rw [h2]; congr 1; omega
  · have := h4 (k + 1) c' hk
    rw [show p + 1 + k = p + (k + 1) by omega]
    exact this
theorem sgn_lt {vL vP : Int32} {aX : IA} {p : Nat} {r : List Nat} (h : rdA vL vP aX p r) : sgn r < 127 := by
  cases r with
  | nil => exact (by decide : (0 : Nat) < 127)
  | cons c r => have := (rdA_c h).2.2.2.1; show c < 127; omega
section M24
variable {d : Nat} {vT vM vS vL vP vW vR vF vB : Int32} {aS aH aN aX aR aD aW aI aQ aL : IA} {p : Nat} {r : List Nat}
theorem m_sign (h : rdA vL vP aX p r) : Cl (d + 1) kX6_sign [.ref 0] ((rfM vT aS aH vM aN vS aX vL vP vW aR vR aD vF aW aI aQ aL vB)) (rV (nI (sgn r))) ((rfM vT aS aH vM aN vS aX vL vP vW aR vR aD vF aW aI aQ aL vB)) := by
  have h60 := h.2.2.1
  refine Cl_go e_X6_sign (Nat.le_of_ble_eq_true rfl) rfl ?_; intro P hP; refine hP _ _ _ _ ?_; (conv => whnf)
  cases r with
  | nil =>
    refine b2 p (p + 0) h.1 h.2.1 (by omega) (by omega) (fun _ => ?_) (fun (q : ¬ p + 0 ≤ p) => by omega)
    refine hP _ _ _ _ ?_; (conv => whnf)
    refine hP _ _ _ _ ?_; (conv => whnf)
    exact ⟨rfl, ⟨.int, rfl, rfl⟩, rfl, rfl⟩
  | cons c r =>
    have hc := rdA_c h
    have hl : (c :: r).length = r.length + 1 := rfl
    have hb := h.2.1
    rw [hl] at hb
    refine b2 p (p + (r.length + 1)) h.1 hb (by omega) (by omega) (fun (q : p + (r.length + 1) ≤ p) => by omega) (fun _ => ?_); (conv => whnf)
    refine ⟨vi h.1 hc.1 (by decide), ?_⟩; (conv => whnf)
    refine hP _ _ _ _ ?_; (conv => whnf)
    exact ⟨rfl, ⟨.int, rfl, rfl⟩, rI (by rw [show vP = nI p from h.1, nI_clamp (by omega)]; exact hc.2.1), rfl⟩
theorem in_or (v : Nat) {lo hi : Nat} (hv : v < 2 ^ 31) (hlo : lo < 2 ^ 31) (hhi : hi < 2 ^ 31) : Cl (d + 1) kX6_in [.int (nI v), .int (nI lo), .int (nI hi)] [] (rV (bI (decide (lo ≤ v ∧ v ≤ hi)))) [] := by
  by_cases h : lo ≤ v ∧ v ≤ hi
  · rw [decide_eq_true h]; exact m_in_t (nI_nlt h.1 hv) (nI_nlt h.2 hhi)
  · rw [decide_eq_false h]
    refine m_in_f ?_
    by_cases h1 : v < lo
    · exact Or.inl (nI_lt h1 hlo)
    · exact Or.inr (nI_lt (by omega) hv)
theorem m_takes_t {lo hi c : Nat} {r : List Nat} (h : rdA vL vP aX p (c :: r)) (hw : vW = bI true) (h1 : lo ≤ c) (h2 : c ≤ hi) (hhi : hi < 127) : Cl (d + 2) kX6_takes [.ref 0, .int (nI lo), .int (nI hi)] ((rfM vT aS aH vM aN vS aX vL vP vW aR vR aD vF aW aI aQ aL vB)) (rV (nI c - nI 48)) ((rfM vT aS aH vM aN vS aX vL (nI (p + 1)) (bI true) aR vR aD vF aW aI aQ aL vB)) := by
  have hin := in_or (d := d) c (lo := lo) (hi := hi) (by omega) (by omega) (by omega)
  rw [decide_eq_true ⟨h1, h2⟩] at hin
  have hs1 := m_sign (d := d) (vT := vT) (aS := aS) (aH := aH) (vM := vM) (aN := aN) (vS := vS) (aX := aX) (vL := vL) (vP := vP) (vW := vW) (aR := aR) (vR := vR) (aD := aD) (vF := vF) (aW := aW) (aI := aI) (aQ := aQ) (aL := aL) (vB := vB) h
  have hs2 := m_sign (d := d) (vT := vT) (aS := aS) (aH := aH) (vM := vM) (aN := aN) (vS := vS) (aX := aX) (vL := vL) (vP := vP) (vW := bI true) (aR := aR) (vR := vR) (aD := aD) (vF := vF) (aW := aW) (aI := aI) (aQ := aQ) (aL := aL) (vB := vB) h
  have hp := h.1
  refine Cl_go e_X6_takes (Nat.le_of_ble_eq_true rfl) rfl ?_; intro P hP; refine hP _ _ _ _ ?_; (conv => whnf)
  refine b1 1 hw (by omega) (fun (q : 1 = 0) => by omega) (fun _ => ?_); (conv => whnf)
  refine ⟨Nat.le_of_ble_eq_true rfl, rfl, ?_⟩; (conv => whnf)
  refine Or.inl ⟨_, _, hs1, ?_⟩; (conv => whnf)
  refine ⟨Nat.le_of_ble_eq_true rfl, rfl, ?_⟩; (conv => whnf)
  refine Or.inl ⟨_, _, Cl_s hin, ?_⟩; (conv => whnf)
  refine b1 1 rfl (by omega) (fun (q : 1 = 0) => by omega) (fun _ => ?_); (conv => whnf)
  refine hP _ _ _ _ ?_; (conv => whnf)
  refine ⟨⟨rfl, rfl⟩, ?_⟩; (conv => whnf)
  refine ⟨Nat.le_of_ble_eq_true rfl, rfl, ?_⟩; (conv => whnf)
  refine Or.inl ⟨_, _, hs2, ?_⟩; (conv => whnf)
  refine b1 1 rfl (by omega) (fun (q : 1 = 0) => by omega) (fun _ => ?_); (conv => whnf)
  refine hP _ _ _ _ ?_; (conv => whnf)
  refine ⟨⟨rfl, rfl⟩, ?_⟩; (conv => whnf)
  refine ⟨rfl, ⟨.int, rfl, rfl⟩, rfl, ?_⟩
  rw [← nI_1 p, ← hp]
  rfl
theorem m_takes_f {lo hi : Nat} (h : rdA vL vP aX p r) (hb : vW = bI false ∨ (vW = bI true ∧ ¬ (lo ≤ sgn r ∧ sgn r ≤ hi))) (hlo : lo < 127) (hhi : hi < 127) : Cl (d + 2) kX6_takes [.ref 0, .int (nI lo), .int (nI hi)] ((rfM vT aS aH vM aN vS aX vL vP vW aR vR aD vF aW aI aQ aL vB)) (rV (nI (sgn r) - nI 48)) ((rfM vT aS aH vM aN vS aX vL vP (bI false) aR vR aD vF aW aI aQ aL vB)) := by
  have hsl := sgn_lt h
  have hs1 := m_sign (d := d) (vT := vT) (aS := aS) (aH := aH) (vM := vM) (aN := aN) (vS := vS) (aX := aX) (vL := vL) (vP := vP) (vW := vW) (aR := aR) (vR := vR) (aD := aD) (vF := vF) (aW := aW) (aI := aI) (aQ := aQ) (aL := aL) (vB := vB) h
  have hs2 := m_sign (d := d) (vT := vT) (aS := aS) (aH := aH) (vM := vM) (aN := aN) (vS := vS) (aX := aX) (vL := vL) (vP := vP) (vW := bI false) (aR := aR) (vR := vR) (aD := aD) (vF := vF) (aW := aW) (aI := aI) (aQ := aQ) (aL := aL) (vB := vB) h
  refine Cl_go e_X6_takes (Nat.le_of_ble_eq_true rfl) rfl ?_; intro P hP; refine hP _ _ _ _ ?_; (conv => whnf)
  have f25 : P 25 [some (.ref 0), none, none, none] [.int (bI false), .ref 0] ((rfM vT aS aH vM aN vS aX vL vP vW aR vR aD vF aW aI aQ aL vB)) := by
    refine hP _ _ _ _ ?_; (conv => whnf)
    refine ⟨⟨rfl, rfl⟩, ?_⟩; (conv => whnf)
    refine ⟨Nat.le_of_ble_eq_true rfl, rfl, ?_⟩; (conv => whnf)
    refine Or.inl ⟨_, _, hs2, ?_⟩; (conv => whnf)
    refine b1 0 rfl (by omega) (fun _ => ?_) (fun (q : ¬ 0 = 0) => by omega)
    refine hP _ _ _ _ ?_; (conv => whnf)
    refine hP _ _ _ _ ?_; (conv => whnf)
    refine ⟨⟨rfl, rfl⟩, ?_⟩; (conv => whnf)
    refine ⟨rfl, ⟨.int, rfl, rfl⟩, rfl, ?_⟩
    have e : vP + nI 0 = vP := Int32.add_zero _
    exact congrArg (fun z => (rfM vT aS aH vM aN vS aX vL z (bI false) aR vR aD vF aW aI aQ aL vB)) e
  rcases hb with hb | ⟨hb, hn⟩
  · refine b1 0 hb (by omega) (fun _ => ?_) (fun (q : ¬ 0 = 0) => by omega)
    refine hP _ _ _ _ ?_; (conv => whnf)
    exact f25
  · have hin := in_or (d := d) (sgn r) (lo := lo) (hi := hi) (by omega) (by omega) (by omega)
    rw [decide_eq_false hn] at hin
    refine b1 1 hb (by omega) (fun (q : 1 = 0) => by omega) (fun _ => ?_); (conv => whnf)
    refine ⟨Nat.le_of_ble_eq_true rfl, rfl, ?_⟩; (conv => whnf)
    refine Or.inl ⟨_, _, hs1, ?_⟩; (conv => whnf)
    refine ⟨Nat.le_of_ble_eq_true rfl, rfl, ?_⟩; (conv => whnf)
    refine Or.inl ⟨_, _, Cl_s hin, ?_⟩; (conv => whnf)
    refine b1 0 rfl (by omega) (fun _ => ?_) (fun (q : ¬ 0 = 0) => by omega)
    refine hP _ _ _ _ ?_; (conv => whnf)
    exact f25
theorem m_number {s : RS} {most : Nat} (h : rdA vL vP aX p r) (hw : vW = bI true) (h3 : s.2.2.2 = 3) (hl : lim s.1 = most + 1) (hm : 9 ≤ most) (hm2 : most < 1000) : ∃ v, Cl (d + 3) kX6_number [.ref 0, .int (nI most)] ((rfM vT aS aH vM aN vS aX vL vP vW aR vR aD vF aW aI aQ aL vB)) (rV v) ((rfM vT aS aH vM aN vS aX vL (nI (p + (scanR s r).2.1)) (bI (scanR s r).1) aR vR aD vF aW aI aQ aL vB)) ∧ ((scanR s r).1 = true → v = nI (scanR s r).2.2.2.2.1) := by
  have hsl := sgn_lt h
  by_cases hd : 48 ≤ sgn r ∧ sgn r ≤ 57
  · cases r with
    | nil => exact absurd hd.1 (by decide)
    | cons c r =>
      have hd : 48 ≤ c ∧ c ≤ 57 := hd
      have hst : rdS s c = some (s.1, s.2.1, c - 48, 4) := by rw [rdS_3 h3]; exact if_pos ⟨hd, by omega⟩
      have hsc := scan_s (r := r) hst (by omega)
      have hc := rdA_c h
      have hok : ∀ (r : List Nat) (n : Nat), (scanR (s.1, s.2.1, n, 4) r).1 = true := by
        intro r
        induction r with
        | nil => intro n; rfl
        | cons c r ih =>
          intro n
          show (if (4 = 4 ∧ c = 59) then ((true, 0, (s.1, s.2.1, n, 4)) : Bool × (Nat × RS)) else match rdS (s.1, s.2.1, n, 4) c with
            | some s' => ((scanR s' r).1, (scanR s' r).2.1 + 1, (scanR s' r).2.2)
            | none => (Nat.beq 4 4, 0, (s.1, s.2.1, n, 4))).1 = true
          by_cases h59 : c = 59
          · rw [if_pos ⟨rfl, h59⟩]
          · rw [if_neg (fun z => h59 z.2)]
            have h4 : rdS (s.1, s.2.1, n, 4) c = _ := rdS_4 rfl
            rw [if_neg h59] at h4
            by_cases hq : (48 ≤ c ∧ c ≤ 57) ∧ n ≠ 0 ∧ 10 * n + (c - 48) < lim s.1
            · have h4 : rdS (s.1, s.2.1, n, 4) c = some (s.1, s.2.1, 10 * n + (c - 48), 4) := by rw [h4]; exact if_pos hq
              rw [h4]; exact ih _
            · have h4 : rdS (s.1, s.2.1, n, 4) c = none := by rw [h4]; exact if_neg hq
              rw [h4]; rfl
      refine ⟨nI (scanR (s.1, s.2.1, c - 48, 4) r).2.2.2.2.1, ?_, fun _ => by rw [hsc]⟩
      rw [hsc]
      show Cl _ _ _ _ _ ((rfM vT aS aH vM aN vS aX vL (nI (p + ((scanR (s.1, s.2.1, c - 48, 4) r).2.1 + 1))) (bI (scanR (s.1, s.2.1, c - 48, 4) r).1) aR vR aD vF aW aI aQ aL vB))
      rw [hok]
      have ht := m_takes_t (d := d) (vT := vT) (aS := aS) (aH := aH) (vM := vM) (aN := aN) (vS := vS) (aX := aX) (vL := vL) (vP := vP) (vW := vW) (aR := aR) (vR := vR) (aD := aD) (vF := vF) (aW := aW) (aI := aI) (aQ := aQ) (aL := aL) (vB := vB) (lo := 48) (hi := 57) h hw hd.1 hd.2 (by decide)
      generalize hN : (scanR (s.1, s.2.1, c - 48, 4) r).2.2.2.2.1 = N
      generalize hK : p + ((scanR (s.1, s.2.1, c - 48, 4) r).2.1 + 1) = K
      refine Cl_go e_X6_number (Nat.le_of_ble_eq_true rfl) rfl ?_; intro P hP; refine hP _ _ _ _ ?_; (conv => whnf)
      refine ⟨Nat.le_of_ble_eq_true rfl, rfl, ?_⟩; (conv => whnf)
      refine Or.inl ⟨_, _, ht, ?_⟩
      have lp : ∀ (r : List Nat) (p n : Nat) (x : Int32) (ps : Int32), rdA vL ps aX p r → x = nI n → n ≤ most → p + (scanR (s.1, s.2.1, n, 4) r).2.1 = K → (scanR (s.1, s.2.1, n, 4) r).2.2.2.2.1 = N → P 9 [some (.ref 0), some (.int (nI most)), some (.int x)] [] ((rfM vT aS aH vM aN vS aX vL ps (bI true) aR vR aD vF aW aI aQ aL vB)) := by
        intro r
        induction r with
        | nil =>
          intro p n x ps hA hx hn hk hv
          subst hx
          have hps := hA.1
          have hk : p = K := hk
          have hv : n = N := hv
          subst hk
          subst hv
          subst hps
          have f76 : P 76 [none, none, some (.int (nI n))] [] ((rfM vT aS aH vM aN vS aX vL (nI p) (bI true) aR vR aD vF aW aI aQ aL vB)) := by
            refine hP _ _ _ _ ?_; (conv => whnf)
            exact ⟨rfl, ⟨.int, rfl, rfl⟩, rfl, rfl⟩
          refine hP _ _ _ _ ?_; (conv => whnf)
          refine b1 1 rfl (by omega) (fun (q : 1 = 0) => by omega) (fun _ => ?_); (conv => whnf)
          refine b1 n rfl (by omega) (fun _ => f76) (fun _ => ?_); (conv => whnf)
          refine ⟨Nat.le_of_ble_eq_true rfl, rfl, ?_⟩; (conv => whnf)
          refine Or.inl ⟨_, _, m_sign (d := d + 1) (vT := vT) (aS := aS) (aH := aH) (vM := vM) (aN := aN) (vS := vS) (aX := aX) (vL := vL) (vP := nI p) (vW := bI true) (aR := aR) (vR := vR) (aD := aD) (vF := vF) (aW := aW) (aI := aI) (aQ := aQ) (aL := aL) (vB := vB) hA, ?_⟩; (conv => whnf)
          refine ⟨Nat.le_of_ble_eq_true rfl, rfl, ?_⟩; (conv => whnf)
          refine Or.inl ⟨_, _, Cl_s (in_or (d := d + 1) 0 (lo := 48) (hi := 57) (by decide) (by decide) (by decide)), ?_⟩; (conv => whnf)
          refine b1 0 rfl (by omega) (fun _ => f76) (fun (q : ¬ 0 = 0) => by omega)
        | cons c r ih =>
          intro p n x ps hA hx hn hk hv
          subst hx
          have hps := hA.1
          subst hps
          have hc := rdA_c hA
          have f76 : rdS (s.1, s.2.1, n, 4) c = none ∨ c = 59 → P 76 [none, none, some (.int (nI n))] [] ((rfM vT aS aH vM aN vS aX vL (nI p) (bI true) aR vR aD vF aW aI aQ aL vB)) := by
            intro q
            have e : scanR (s.1, s.2.1, n, 4) (c :: r) = (true, 0, (s.1, s.2.1, n, 4)) := by
              rcases q with q | q
              · rw [scan_n q]; rfl
              · exact if_pos ⟨rfl, q⟩
            rw [e] at hk hv
            have hk : p = K := hk
            have hv : n = N := hv
            subst hk
            subst hv
            refine hP _ _ _ _ ?_; (conv => whnf)
            exact ⟨rfl, ⟨.int, rfl, rfl⟩, rfl, rfl⟩
          have h4 : rdS (s.1, s.2.1, n, 4) c = _ := rdS_4 rfl
          have no : ¬ ((48 ≤ c ∧ c ≤ 57) ∧ n ≠ 0 ∧ 10 * n + (c - 48) < lim s.1) → rdS (s.1, s.2.1, n, 4) c = none ∨ c = 59 := by
            intro q
            by_cases h59 : c = 59
            · exact Or.inr h59
            · rw [if_neg h59] at h4
              exact Or.inl (h4.trans (if_neg q))
          refine hP _ _ _ _ ?_; (conv => whnf)
          refine b1 1 rfl (by omega) (fun (q : 1 = 0) => by omega) (fun _ => ?_); (conv => whnf)
          refine b1 n rfl (by omega) (fun (q : n ≤ 0) => f76 (no (by omega))) (fun (q0 : ¬ n ≤ 0) => ?_); (conv => whnf)
          refine ⟨Nat.le_of_ble_eq_true rfl, rfl, ?_⟩; (conv => whnf)
          refine Or.inl ⟨_, _, m_sign (d := d + 1) (vT := vT) (aS := aS) (aH := aH) (vM := vM) (aN := aN) (vS := vS) (aX := aX) (vL := vL) (vP := nI p) (vW := bI true) (aR := aR) (vR := vR) (aD := aD) (vF := vF) (aW := aW) (aI := aI) (aQ := aQ) (aL := aL) (vB := vB) hA, ?_⟩; (conv => whnf)
          refine ⟨Nat.le_of_ble_eq_true rfl, rfl, ?_⟩; (conv => whnf)
          refine Or.inl ⟨_, _, Cl_s (in_or (d := d + 1) c (lo := 48) (hi := 57) (by omega) (by decide) (by decide)), ?_⟩; (conv => whnf)
          by_cases hdg : 48 ≤ c ∧ c ≤ 57
          · refine b1 1 (by rw [decide_eq_true hdg]; rfl) (by omega) (fun (q : 1 = 0) => by omega) (fun _ => ?_); (conv => whnf)
            have e10 : nI 10 * nI n + nI c - nI 48 = nI (10 * n + (c - 48)) := by
              rw [pk_mul, nI_add, pk_sub (by omega)]; congr 1; omega
            refine ⟨Nat.le_of_ble_eq_true rfl, rfl, ?_⟩; (conv => whnf)
            refine Or.inl ⟨_, _, m_sign (d := d + 1) (vT := vT) (aS := aS) (aH := aH) (vM := vM) (aN := aN) (vS := vS) (aX := aX) (vL := vL) (vP := nI p) (vW := bI true) (aR := aR) (vR := vR) (aD := aD) (vF := vF) (aW := aW) (aI := aI) (aQ := aQ) (aL := aL) (vB := vB) hA, ?_⟩; (conv => whnf)
            refine b2 (10 * n + (c - 48)) most e10 rfl (by omega) (by omega) (fun (q : most < 10 * n + (c - 48)) => f76 (no (by omega))) (fun (q1 : ¬ most < 10 * n + (c - 48)) => ?_); (conv => whnf)
            refine ⟨Nat.le_of_ble_eq_true rfl, rfl, ?_⟩; (conv => whnf)
            refine Or.inl ⟨_, _, m_sign (d := d + 1) (vT := vT) (aS := aS) (aH := aH) (vM := vM) (aN := aN) (vS := vS) (aX := aX) (vL := vL) (vP := nI p) (vW := bI true) (aR := aR) (vR := vR) (aD := aD) (vF := vF) (aW := aW) (aI := aI) (aQ := aQ) (aL := aL) (vB := vB) hA, ?_⟩; (conv => whnf)
            refine ⟨⟨rfl, rfl⟩, ?_⟩; (conv => whnf)
            have h59 : ¬ c = 59 := by omega
            rw [if_neg h59] at h4
            have h4 : rdS (s.1, s.2.1, n, 4) c = some (s.1, s.2.1, 10 * n + (c - 48), 4) := h4.trans (if_pos (show (48 ≤ c ∧ c ≤ 57) ∧ n ≠ 0 ∧ 10 * n + (c - 48) < lim s.1 from ⟨hdg, by omega, by omega⟩))
            have e := scan_s (r := r) h4 (fun z => h59 z.2)
            rw [e] at hk hv
            have hk : p + ((scanR (s.1, s.2.1, 10 * n + (c - 48), 4) r).2.1 + 1) = K := hk
            have hA2 := hc.2.2.2.2
            rw [← nI_1 p] at hA2
            exact ih (p + 1) (10 * n + (c - 48)) _ _ hA2 e10 (by omega) (by omega) hv
          · refine b1 0 (by rw [decide_eq_false hdg]; rfl) (by omega) (fun _ => f76 (no (fun z => hdg z.1))) (fun (q : ¬ 0 = 0) => by omega)
      (conv => whnf)
      refine lp r (p + 1) (c - 48) _ _ hc.2.2.2.2 (pk_sub hd.1) (by omega) (by omega) hN
  · have hno : ∀ c r', r = c :: r' → rdS s c = none := by
      intro c r' e
      subst e
      have hd : ¬ (48 ≤ c ∧ c ≤ 57) := hd
      rw [rdS_3 h3, if_neg (fun z => hd z.1)]
    have hsc := scan_no (by omega) hno
    refine ⟨nI (sgn r) - nI 48, ?_, fun q => by rw [hsc] at q; cases q⟩
    rw [hsc]
    have hp : nI (p + 0) = vP := h.1.symm
    show Cl _ _ _ _ _ ((rfM vT aS aH vM aN vS aX vL (nI (p + 0)) (bI false) aR vR aD vF aW aI aQ aL vB))
    rw [hp]
    have ht := m_takes_f (d := d) (vT := vT) (aS := aS) (aH := aH) (vM := vM) (aN := aN) (vS := vS) (aX := aX) (vL := vL) (vP := vP) (vW := vW) (aR := aR) (vR := vR) (aD := aD) (vF := vF) (aW := aW) (aI := aI) (aQ := aQ) (aL := aL) (vB := vB) (lo := 48) (hi := 57) h (Or.inr ⟨hw, hd⟩) (by decide) (by decide)
    refine Cl_go e_X6_number (Nat.le_of_ble_eq_true rfl) rfl ?_; intro P hP; refine hP _ _ _ _ ?_; (conv => whnf)
    refine ⟨Nat.le_of_ble_eq_true rfl, rfl, ?_⟩; (conv => whnf)
    refine Or.inl ⟨_, _, ht, ?_⟩; (conv => whnf)
    refine hP _ _ _ _ ?_; (conv => whnf)
    refine b1 0 rfl (by omega) (fun _ => ?_) (fun (q : ¬ 0 = 0) => by omega)
    refine hP _ _ _ _ ?_; (conv => whnf)
    exact ⟨rfl, ⟨.int, rfl, rfl⟩, rfl, rfl⟩
end M24
