/-! the reference's reader: a part -/
theorem lim_all : (List.range 128).all (fun c => decide (0 < lim c) == (npl c || Nat.beq c 110 || Nat.beq c 105 || Nat.beq c 33 || Nat.beq c 120)) = true := by decide +kernel
theorem lim_b {c : Nat} (h : c < 128) : decide (0 < lim c) = (npl c || Nat.beq c 110 || Nat.beq c 105 || Nat.beq c 33 || Nat.beq c 120) := eq_of_beq (List.all_eq_true.mp lim_all c (List.mem_range.mpr h))
def hdB (c : Nat) : Bool := Nat.beq c 104 || Nat.beq c 108
theorem lim2_all : (List.range 128).all (fun c => Nat.beq (lim c) 0 || (bif hdB c then Nat.beq (lim c) 9 else bif Nat.beq c 120 then Nat.beq (lim c) 20 else Nat.beq (lim c) 27)) = true := by decide +kernel
theorem lim_hd {c : Nat} (h : c < 128) (h0 : 0 < lim c) (hb : hdB c = true) : lim c = 9 := by
  have e := List.all_eq_true.mp lim2_all c (List.mem_range.mpr h)
  rw [nbf (by omega), hb] at e
  exact Nat.eq_of_beq_eq_true e
theorem lim_no {c : Nat} (h : c < 128) (h0 : 0 < lim c) (hb : hdB c = false) : lim c = if c = 120 then 20 else 27 := by
  have e := List.all_eq_true.mp lim2_all c (List.mem_range.mpr h)
  rw [nbf (by omega), hb] at e
  by_cases q : c = 120
  · rw [if_pos q]; rw [nbt q] at e; exact Nat.eq_of_beq_eq_true e
  · rw [if_neg q]; rw [nbf q] at e; exact Nat.eq_of_beq_eq_true e
theorem scan_9 {l a v : Nat} (hl : lim l = 9) (r : List Nat) : scanR (l, a, v, 4) r = (true, 0, (l, a, v, 4)) := by
  cases r with
  | nil => rfl
  | cons c r =>
    by_cases h59 : c = 59
    · exact if_pos ⟨rfl, h59⟩
    · have h4 : rdS (l, a, v, 4) c = _ := rdS_4 rfl
      rw [if_neg h59] at h4
      have h4 : rdS (l, a, v, 4) c = none := h4.trans (if_neg (fun (z : (48 ≤ c ∧ c ≤ 57) ∧ v ≠ 0 ∧ 10 * v + (c - 48) < lim l) => by omega))
      rw [scan_n h4]; rfl
/-- what is read of a part -/
def prR (n : Nat) (R R' : IA) (ok : Bool) (e : RS) : Prop := (∀ j, j < 3 * n → R' j = R j) ∧ (ok = true → R' (3 * n) = nI e.1 ∧ (npl e.1 = true → R' (3 * n + 1) = nI e.2.1) ∧ R' (3 * n + 2) = nI e.2.2.1)
section M25
variable {d : Nat} {vT vM vS vL vP vW vR vF vB : Int32} {aS aH aN aX aR aD aW aI aQ aL : IA} {p : Nat} {r : List Nat}
theorem m_readsPart {s : RS} {n : Nat} (h : rdA vL vP aX p r) (h0 : s.2.2.2 = 0) (hn : 3 * n + 2 < 93) (hm : vR = nI n) : ∃ R', Cl (d + 4) kX6_readsPart [.ref 0] ((rfM vT aS aH vM aN vS aX vL vP vW aR vR aD vF aW aI aQ aL vB)) (.inl none) ((rfM vT aS aH vM aN vS aX vL (nI (p + (scanR s r).2.1)) (bI (scanR s r).1) R' (nI (n + (if (scanR s r).1 = true then 1 else 0))) aD vF aW aI aQ aL vB)) ∧ prR n aR R' (scanR s r).1 (scanR s r).2.2 := by
  suffices hh : ∃ r0 N, (r0 = (.inl none : Res) ∧ ∃ R', prR n aR R' (scanR s r).1 (scanR s r).2.2 ∧ N = (rfM vT aS aH vM aN vS aX vL (nI (p + (scanR s r).2.1)) (bI (scanR s r).1) R' (nI (n + (if (scanR s r).1 = true then 1 else 0))) aD vF aW aI aQ aL vB)) ∧ Cl (d + 4) kX6_readsPart [.ref 0] ((rfM vT aS aH vM aN vS aX vL vP vW aR vR aD vF aW aI aQ aL vB)) r0 N by
    obtain ⟨r0, N, ⟨rfl, R', hR, rfl⟩, hc⟩ := hh
    exact ⟨R', hc, hR⟩
  have hsl := sgn_lt h
  generalize hZ : scanR s r = Z
  obtain ⟨ok, K, E⟩ := Z
  have hne : ∃ r0 N, (r0 = (.inl none : Res) ∧ ∃ R', prR n aR R' ok E ∧ N = (rfM vT aS aH vM aN vS aX vL (nI (p + K)) (bI ok) R' (nI (n + (if ok = true then 1 else 0))) aD vF aW aI aQ aL vB)) := by
    refine ⟨_, _, rfl, upd (upd (upd aR (3 * n) (nI E.1)) (3 * n + 1) (nI E.2.1)) (3 * n + 2) (nI E.2.2.1), ⟨fun j hj => ?_, fun _ => ⟨?_, fun _ => ?_, upd_eq _ _ _⟩⟩, rfl⟩
    · rw [upd_ne _ _ (by omega), upd_ne _ _ (by omega), upd_ne _ _ (by omega)]
    · rw [upd_ne _ _ (by omega), upd_ne _ _ (by omega), upd_eq]
    · rw [upd_ne _ _ (by omega), upd_eq]
  show ∃ r0 N, (r0 = (.inl none : Res) ∧ ∃ R', prR n aR R' ok E ∧ N = (rfM vT aS aH vM aN vS aX vL (nI (p + K)) (bI ok) R' (nI (n + (if ok = true then 1 else 0))) aD vF aW aI aQ aL vB)) ∧ Cl (d + 4) kX6_readsPart [.ref 0] ((rfM vT aS aH vM aN vS aX vL vP vW aR vR aD vF aW aI aQ aL vB)) r0 N
  refine Cl_goQ e_X6_readsPart rfl (Nat.le_of_ble_eq_true rfl) (fun r0 M' q => by obtain ⟨-, R', -, rfl⟩ := q; rfl) (hne) ?_; intro P hP; refine hP _ _ _ _ ?_; (conv => whnf)
  -- the end
  have f211 : ∀ R' : IA, prR n aR R' ok E → P 211 [some (.ref 0), none, none, none, none] [] ((rfM vT aS aH vM aN vS aX vL (nI (p + K)) (bI ok) R' vR aD vF aW aI aQ aL vB)) := by
    intro R' hR
    refine hP _ _ _ _ ?_; (conv => whnf)
    cases ok with
    | true =>
      refine b1 1 rfl (by omega) (fun (q : 1 = 0) => by omega) (fun _ => ?_); (conv => whnf)
      refine hP _ _ _ _ ?_; (conv => whnf)
      refine ⟨⟨rfl, rfl⟩, ?_⟩; (conv => whnf)
      refine ⟨rfl, rfl, rfl, R', hR, ?_⟩
      have e : vR + nI 1 = nI (n + 1) := by rw [hm, nI_add]
      exact congrArg (fun z => (rfM vT aS aH vM aN vS aX vL (nI (p + K)) (bI true) R' z aD vF aW aI aQ aL vB)) e
    | false =>
      refine b1 0 rfl (by omega) (fun _ => ?_) (fun (q : ¬ 0 = 0) => by omega)
      refine hP _ _ _ _ ?_; (conv => whnf)
      refine hP _ _ _ _ ?_; (conv => whnf)
      refine ⟨⟨rfl, rfl⟩, ?_⟩; (conv => whnf)
      refine ⟨rfl, rfl, rfl, R', hR, ?_⟩
      have e : vR + nI 0 = nI (n + 0) := by rw [hm, nI_add]
      exact congrArg (fun z => (rfM vT aS aH vM aN vS aX vL (nI (p + K)) (bI false) R' z aD vF aW aI aQ aL vB)) e
  have ek : cst 3 * vR = nI (3 * n) := by rw [show cst 3 = nI 3 from rfl, hm, pk_mul]
  -- not well: at 164
  have f164F : ∀ (R' : IA) (k c hb : Int32) (x : Option Value), ok = false → (∀ j, j < 3 * n → R' j = aR j) → P 164 [some (.ref 0), some (.int k), some (.int c), some (.int hb), none] [] ((rfM vT aS aH vM aN vS aX vL (nI (p + K)) (bI false) R' vR aD vF aW aI aQ aL vB)) := by
    intro R' k c hb x hf hR
    subst hf
    refine hP _ _ _ _ ?_; (conv => whnf)
    refine b1 0 rfl (by omega) (fun _ => ?_) (fun (q : ¬ 0 = 0) => by omega)
    exact f211 R' ⟨hR, fun q => by cases q⟩
  -- well, and the digits are due: at 164
  have f164T : ∀ (R' : IA) (s3 : RS) (q : Nat) (r3 : List Nat) (k3 : Int32), k3 = nI (3 * n) → rdA vL (nI q) aX q r3 → s3.2.2.2 = 3 → s3.1 < 128 → 0 < lim s3.1 → ok = (scanR s3 r3).1 → p + K = q + (scanR s3 r3).2.1 → E = (scanR s3 r3).2.2 → (∀ j, j < 3 * n → R' j = aR j) → R' (3 * n) = nI s3.1 → (npl s3.1 = true → R' (3 * n + 1) = nI s3.2.1) →
      P 164 [some (.ref 0), some (.int k3), some (.int (nI s3.1)), some (.int (bI (hdB s3.1))), none] [] ((rfM vT aS aH vM aN vS aX vL (nI q) (bI true) R' vR aD vF aW aI aQ aL vB)) := by
    intro R' s3 q r3 k3 hk3 hA h3 h128 hl hok hK hE hR h1 h2
    have ex : k3 + nI 2 = nI (3 * n + 2) := by rw [hk3, nI_add]
    -- the value's stored
    have f210 : ∀ v : Int32, (ok = true → v = nI E.2.2.1) → E.1 = s3.1 → E.2.1 = s3.2.1 → P 210 [some (.ref 0), none, none, none, none] [.int v, .int (k3 + nI 2), .ref 5] ((rfM vT aS aH vM aN vS aX vL (nI (p + K)) (bI ok) R' vR aD vF aW aI aQ aL vB)) := by
      intro v hv e1 e2
      refine hP _ _ _ _ ?_; (conv => whnf)
      refine ⟨vi (n := 3 * n + 2) ex (by omega) (by decide), ?_⟩; (conv => whnf)
      refine f211 (upd R' (k3 + nI 2).toNatClampNeg v) ?_
      rw [ex, nI_clamp (by omega)]
      refine ⟨fun j hj => ?_, fun hq => ⟨?_, fun hp => ?_, ?_⟩⟩
      · rw [upd_ne _ _ (by omega)]; exact hR j hj
      · rw [upd_ne _ _ (by omega), h1, e1]
      · rw [upd_ne _ _ (by omega), e2]; exact h2 (by rw [← e1]; exact hp)
      · rw [upd_eq]; exact hv hq
    refine hP _ _ _ _ ?_; (conv => whnf)
    refine b1 1 rfl (by omega) (fun (q : 1 = 0) => by omega) (fun _ => ?_); (conv => whnf)
    cases hb : hdB s3.1 with
    | true =>
      have hl9 := lim_hd h128 hl hb
      refine b1 1 rfl (by omega) (fun (q : 1 = 0) => by omega) (fun _ => ?_); (conv => whnf)
      refine ⟨Nat.le_of_ble_eq_true rfl, rfl, ?_⟩; (conv => whnf)
      by_cases hd : 48 ≤ sgn r3 ∧ sgn r3 ≤ 56
      · cases r3 with
        | nil => exact absurd hd.1 (by decide)
        | cons c r4 =>
          have hd : 48 ≤ c ∧ c ≤ 56 := hd
          have hst : rdS s3 c = some (s3.1, s3.2.1, c - 48, 4) := by rw [rdS_3 h3]; exact if_pos ⟨by omega, by omega⟩
          have hsc := scan_s (r := r4) hst (by omega)
          rw [scan_9 hl9] at hsc
          rw [hsc] at hok hK hE
          have hok : ok = true := hok
          have hK : p + K = q + 1 := hK
          subst hok
          rw [hK] at f210
          refine Or.inl ⟨_, _, m_takes_t (d := d + 1) (vT := vT) (aS := aS) (aH := aH) (vM := vM) (aN := aN) (vS := vS) (aX := aX) (vL := vL) (vP := nI q) (vW := bI true) (aR := R') (vR := vR) (aD := aD) (vF := vF) (aW := aW) (aI := aI) (aQ := aQ) (aL := aL) (vB := vB) (p := q) (lo := 48) (hi := 56) hA rfl hd.1 hd.2 (by decide), ?_⟩; (conv => whnf)
          refine f210 _ (fun _ => ?_) (by rw [hE]) (by rw [hE])
          rw [hE]
          exact pk_sub hd.1
      · have hno : ∀ c r', r3 = c :: r' → rdS s3 c = none := by
          intro c r' e
          subst e
          have hd : ¬ (48 ≤ c ∧ c ≤ 56) := hd
          rw [rdS_3 h3, if_neg (fun z => hd ⟨z.1.1, by omega⟩)]
        have hsc := scan_no (by omega) hno
        rw [hsc] at hok hK hE
        have hok : ok = false := hok
        have hK : p + K = q := hK
        subst hok
        rw [hK] at f210
        refine Or.inl ⟨_, _, m_takes_f (d := d + 1) (vT := vT) (aS := aS) (aH := aH) (vM := vM) (aN := aN) (vS := vS) (aX := aX) (vL := vL) (vP := nI q) (vW := bI true) (aR := R') (vR := vR) (aD := aD) (vF := vF) (aW := aW) (aI := aI) (aQ := aQ) (aL := aL) (vB := vB) (p := q) (lo := 48) (hi := 56) hA (Or.inr ⟨rfl, hd⟩) (by decide) (by decide), ?_⟩; (conv => whnf)
        exact f210 _ (fun z => by cases z) (by rw [hE]) (by rw [hE])
    | false =>
      have hl2 := lim_no h128 hl hb
      have hscE : (scanR s3 r3).2.2.1 = s3.1 ∧ (scanR s3 r3).2.2.2.1 = s3.2.1 := by
        have h5 : ∀ (r : List Nat) (t : RS), 3 ≤ t.2.2.2 → t.2.2.2 < 5 → (scanR t r).2.2.1 = t.1 ∧ (scanR t r).2.2.2.1 = t.2.1 := by
          intro r
          induction r with
          | nil => intro t _ _; exact ⟨rfl, rfl⟩
          | cons c r ih =>
            intro t ht ht5
            by_cases q4 : t.2.2.2 = 4 ∧ c = 59
            · have e : scanR t (c :: r) = (true, 0, t) := if_pos q4
              rw [e]; exact ⟨rfl, rfl⟩
            · cases hr : rdS t c with
              | none => rw [scan_n hr]; exact ⟨rfl, rfl⟩
              | some t' =>
                rw [scan_s hr q4]
                rcases rdS_cases hr ht5 with ⟨z, -, -⟩ | ⟨z, -, -⟩ | ⟨z, -, -⟩ | ⟨-, -, e⟩ | ⟨z1, z2, -⟩ | ⟨-, -, -, e⟩
                · omega
                · omega
                · omega
                · subst e; exact ih _ (by show 3 ≤ 4; decide) (by show 4 < 5; decide)
                · exact absurd ⟨z1, z2⟩ q4
                · subst e; exact ih _ (by show 3 ≤ 4; decide) (by show 4 < 5; decide)
        exact h5 r3 s3 (by omega) (by omega)
      have f207 : ∀ most : Nat, lim s3.1 = most + 1 → 9 ≤ most → most < 1000 → P 207 [some (.ref 0), none, none, none, none] [.int (nI most), .ref 0, .int (k3 + nI 2), .ref 5] ((rfM vT aS aH vM aN vS aX vL (nI q) (bI true) R' vR aD vF aW aI aQ aL vB)) := by
        intro most hmo h9 h1000
        obtain ⟨v, hv1, hv2⟩ := m_number (d := d) (vT := vT) (aS := aS) (aH := aH) (vM := vM) (aN := aN) (vS := vS) (aX := aX) (vL := vL) (vP := nI q) (vW := bI true) (aR := R') (vR := vR) (aD := aD) (vF := vF) (aW := aW) (aI := aI) (aQ := aQ) (aL := aL) (vB := vB) (p := q) (r := r3) (s := s3) hA rfl h3 hmo h9 h1000
        rw [← hK, ← hok] at hv1
        refine hP _ _ _ _ ?_; (conv => whnf)
        refine ⟨Nat.le_of_ble_eq_true rfl, rfl, ?_⟩; (conv => whnf)
        refine Or.inl ⟨_, _, hv1, ?_⟩; (conv => whnf)
        refine f210 v (fun z => ?_) (by rw [hE]; exact hscE.1) (by rw [hE]; exact hscE.2)
        rw [hE]; exact hv2 (by rw [← hok]; exact z)
      refine b1 0 rfl (by omega) (fun _ => ?_) (fun (q : ¬ 0 = 0) => by omega)
      refine hP _ _ _ _ ?_; (conv => whnf)
      by_cases h120 : s3.1 = 120
      · rw [if_pos h120] at hl2
        refine b2 s3.1 120 rfl rfl (by omega) (by omega) (fun (z : ¬ s3.1 = 120) => absurd h120 z) (fun _ => ?_); (conv => whnf)
        exact f207 19 hl2 (by decide) (by decide)
      · rw [if_neg h120] at hl2
        refine b2 s3.1 120 rfl rfl (by omega) (by omega) (fun _ => ?_) (fun (z : ¬ ¬ s3.1 = 120) => absurd h120 z)
        refine hP _ _ _ _ ?_; (conv => whnf)
        exact f207 26 hl2 (by decide) (by decide)
  have hse : sgn r < 128 := by omega
  -- behind the letter
  have f127T : ∀ (r1 : List Nat), r = sgn r :: r1 → 0 < lim (sgn r) → P 127 [some (.ref 0), some (.int (cst 3 * vR)), some (.int (nI (sgn r))), some (.int (bI (hdB (sgn r)))), some (.int (bI (npl (sgn r))))] [] ((rfM vT aS aH vM aN vS aX vL (nI (p + 1)) (bI true) (upd aR (3 * n) (nI (sgn r))) vR aD vF aW aI aQ aL vB)) := by
    intro r1 hr hl
    generalize sgn r = c at *
    subst hr
    have hc := rdA_c h
    have hA := hc.2.2.2.2
    have hst : rdS s c = some (c, s.2.1, s.2.2.1, bif npl c then 1 else 3) := by rw [rdS_0 h0]; exact if_pos hl
    rw [scan_s hst (by omega)] at hZ
    have hR1 : ∀ j, j < 3 * n → upd aR (3 * n) (nI c) j = aR j := fun j hj => upd_ne _ _ (by omega)
    refine hP _ _ _ _ ?_; (conv => whnf)
    refine b1 1 rfl (by omega) (fun (q : 1 = 0) => by omega) (fun _ => ?_); (conv => whnf)
    cases hb : npl c with
    | false =>
      rw [hb] at hZ
      have hZ : ((scanR (c, s.2.1, s.2.2.1, 3) r1).1, (scanR (c, s.2.1, s.2.2.1, 3) r1).2.1 + 1, (scanR (c, s.2.1, s.2.2.1, 3) r1).2.2) = (ok, K, E) := hZ
      injection hZ with z1 z2
      injection z2 with z2 z3
      refine b1 0 rfl (by omega) (fun _ => ?_) (fun (q : ¬ 0 = 0) => by omega)
      exact f164T (upd aR (3 * n) (nI c)) (c, s.2.1, s.2.2.1, 3) (p + 1) r1 _ ek hA rfl hse hl z1.symm (by omega) z3.symm hR1 (upd_eq _ _ _) (fun (z : npl c = true) => by rw [hb] at z; cases z)
    | true =>
      rw [hb] at hZ
      have hZ : ((scanR (c, s.2.1, s.2.2.1, 1) r1).1, (scanR (c, s.2.1, s.2.2.1, 1) r1).2.1 + 1, (scanR (c, s.2.1, s.2.2.1, 1) r1).2.2) = (ok, K, E) := hZ
      injection hZ with z1 z2
      injection z2 with z2 z3
      have ex : cst 3 * vR + nI 1 = nI (3 * n + 1) := by rw [ek, nI_add]
      have hR2 : ∀ v j, j < 3 * n → upd (upd aR (3 * n) (nI c)) (cst 3 * vR + nI 1).toNatClampNeg v j = aR j := fun v j hj => by
        rw [ex, nI_clamp (by omega), upd_ne _ _ (by omega)]; exact hR1 j hj
      refine b1 1 rfl (by omega) (fun (q : 1 = 0) => by omega) (fun _ => ?_); (conv => whnf)
      refine ⟨Nat.le_of_ble_eq_true rfl, rfl, ?_⟩; (conv => whnf)
      by_cases hd : 48 ≤ sgn r1 ∧ sgn r1 ≤ 50
      · cases r1 with
        | nil => exact absurd hd.1 (by decide)
        | cons c2 r2 =>
          have hd : 48 ≤ c2 ∧ c2 ≤ 50 := hd
          have hst2 : rdS (c, s.2.1, s.2.2.1, 1) c2 = some (c, c2 - 48, s.2.2.1, 2) := by rw [rdS_1 rfl]; exact if_pos hd
          rw [scan_s hst2 (fun z => absurd z.1 (show ¬ 1 = 4 by decide))] at z1 z2 z3
          have hc2 := rdA_c hA
          have hA2 := hc2.2.2.2.2
          refine Or.inl ⟨_, _, m_takes_t (d := d + 1) (vT := vT) (aS := aS) (aH := aH) (vM := vM) (aN := aN) (vS := vS) (aX := aX) (vL := vL) (vP := nI (p + 1)) (vW := bI true) (aR := upd aR (3 * n) (nI c)) (vR := vR) (aD := aD) (vF := vF) (aW := aW) (aI := aI) (aQ := aQ) (aL := aL) (vB := vB) (p := p + 1) (lo := 48) (hi := 50) hA rfl hd.1 hd.2 (by decide), ?_⟩; (conv => whnf)
          refine ⟨vi (n := 3 * n + 1) ex (by omega) (by decide), ?_⟩; (conv => whnf)
          refine ⟨Nat.le_of_ble_eq_true rfl, rfl, ?_⟩; (conv => whnf)
          by_cases hd3 : 58 ≤ sgn r2 ∧ sgn r2 ≤ 58
          · cases r2 with
            | nil => exact absurd hd3.1 (by decide)
            | cons c3 r3 =>
              have hd3 : 58 ≤ c3 ∧ c3 ≤ 58 := hd3
              have h58 : c3 = 58 := by omega
              have hst3 : rdS (c, c2 - 48, s.2.2.1, 2) c3 = some (c, c2 - 48, s.2.2.1, 3) := by rw [rdS_2 rfl]; exact if_pos h58
              rw [scan_s hst3 (fun z => absurd z.1 (show ¬ 2 = 4 by decide))] at z1 z2 z3
              have z2 : (scanR (c, c2 - 48, s.2.2.1, 3) r3).2.1 + 1 + 1 + 1 = K := z2
              have hc3 := rdA_c hA2
              have hA3 := hc3.2.2.2.2
              refine Or.inl ⟨_, _, m_takes_t (d := d + 1) (vT := vT) (aS := aS) (aH := aH) (vM := vM) (aN := aN) (vS := vS) (aX := aX) (vL := vL) (vP := nI (p + 1 + 1)) (vW := bI true) (aR := upd (upd aR (3 * n) (nI c)) (cst 3 * vR + nI 1).toNatClampNeg (nI c2 - nI 48)) (vR := vR) (aD := aD) (vF := vF) (aW := aW) (aI := aI) (aQ := aQ) (aL := aL) (vB := vB) (p := p + 1 + 1) (lo := 58) (hi := 58) hA2 rfl hd3.1 hd3.2 (by decide), ?_⟩; (conv => whnf)
              refine f164T _ (c, c2 - 48, s.2.2.1, 3) (p + 1 + 1 + 1) r3 _ ek hA3 rfl hse hl z1.symm (by omega) z3.symm (hR2 _) ?_ (fun _ => ?_)
              · show upd (upd aR (3 * n) (nI c)) (cst 3 * vR + nI 1).toNatClampNeg (nI c2 - nI 48) (3 * n) = nI c
                rw [ex, nI_clamp (by omega), upd_ne _ _ (by omega), upd_eq]
              · show upd (upd aR (3 * n) (nI c)) (cst 3 * vR + nI 1).toNatClampNeg (nI c2 - nI 48) (3 * n + 1) = nI (c2 - 48)
                rw [ex, nI_clamp (by omega), upd_eq, pk_sub (show 48 ≤ c2 from hd.1)]
          · have hno : ∀ c3 r', r2 = c3 :: r' → rdS (c, c2 - 48, s.2.2.1, 2) c3 = none := by
              intro c3 r' e
              subst e
              have hd3 : ¬ (58 ≤ c3 ∧ c3 ≤ 58) := hd3
              rw [rdS_2 rfl, if_neg (by omega)]
            rw [scan_no (show ¬ 2 = 4 by decide) hno] at z1 z2 z3
            have z1 : false = ok := z1
            have z2 : 0 + 1 + 1 = K := z2
            subst z1
            subst z2
            refine Or.inl ⟨_, _, m_takes_f (d := d + 1) (vT := vT) (aS := aS) (aH := aH) (vM := vM) (aN := aN) (vS := vS) (aX := aX) (vL := vL) (vP := nI (p + 1 + 1)) (vW := bI true) (aR := upd (upd aR (3 * n) (nI c)) (cst 3 * vR + nI 1).toNatClampNeg (nI c2 - nI 48)) (vR := vR) (aD := aD) (vF := vF) (aW := aW) (aI := aI) (aQ := aQ) (aL := aL) (vB := vB) (p := p + 1 + 1) (lo := 58) (hi := 58) hA2 (Or.inr ⟨rfl, hd3⟩) (by decide) (by decide), ?_⟩; (conv => whnf)
            exact f164F _ _ _ _ none rfl (hR2 _)
      · have hno : ∀ c2 r', r1 = c2 :: r' → rdS (c, s.2.1, s.2.2.1, 1) c2 = none := by
          intro c2 r' e
          subst e
          have hd : ¬ (48 ≤ c2 ∧ c2 ≤ 50) := hd
          rw [rdS_1 rfl, if_neg hd]
        rw [scan_no (show ¬ 1 = 4 by decide) hno] at z1 z2 z3
        have z1 : false = ok := z1
        have z2 : 0 + 1 = K := z2
        subst z1
        subst z2
        refine Or.inl ⟨_, _, m_takes_f (d := d + 1) (vT := vT) (aS := aS) (aH := aH) (vM := vM) (aN := aN) (vS := vS) (aX := aX) (vL := vL) (vP := nI (p + 1)) (vW := bI true) (aR := upd aR (3 * n) (nI c)) (vR := vR) (aD := aD) (vF := vF) (aW := aW) (aI := aI) (aQ := aQ) (aL := aL) (vB := vB) (p := p + 1) (lo := 48) (hi := 50) hA (Or.inr ⟨rfl, hd⟩) (by decide) (by decide), ?_⟩; (conv => whnf)
        refine ⟨vi (n := 3 * n + 1) ex (by omega) (by decide), ?_⟩; (conv => whnf)
        refine ⟨Nat.le_of_ble_eq_true rfl, rfl, ?_⟩; (conv => whnf)
        refine Or.inl ⟨_, _, m_takes_f (d := d + 1) (vT := vT) (aS := aS) (aH := aH) (vM := vM) (aN := aN) (vS := vS) (aX := aX) (vL := vL) (vP := nI (p + 1)) (vW := bI false) (aR := upd (upd aR (3 * n) (nI c)) (cst 3 * vR + nI 1).toNatClampNeg (nI (sgn r1) - nI 48)) (vR := vR) (aD := aD) (vF := vF) (aW := aW) (aI := aI) (aQ := aQ) (aL := aL) (vB := vB) (p := p + 1) (lo := 58) (hi := 58) hA (Or.inl rfl) (by decide) (by decide), ?_⟩; (conv => whnf)
        exact f164F _ _ _ _ none rfl (hR2 _)
  -- whether the letter's one
  have f100 : ∀ wb : Bool, wb = decide (0 < lim (sgn r)) → P 100 [some (.ref 0), some (.int (cst 3 * vR)), some (.int (nI (sgn r))), some (.int (bI (hdB (sgn r)))), some (.int (bI (npl (sgn r))))] [.int (bI wb), .ref 0] ((rfM vT aS aH vM aN vS aX vL vP vW aR vR aD vF aW aI aQ aL vB)) := by
    intro wb hwb
    refine hP _ _ _ _ ?_; (conv => whnf)
    cases wb with
    | false =>
      have hl : ¬ 0 < lim (sgn r) := of_decide_eq_false hwb.symm
      have hno : ∀ c r', r = c :: r' → rdS s c = none := by
        intro c r' e
        subst e
        have hl : ¬ 0 < lim c := hl
        rw [rdS_0 h0, if_neg hl]
      rw [scan_no (by omega) hno] at hZ
      injection hZ with z1 z2
      injection z2 with z2 z3
      subst z1
      subst z2
      have hp0 : nI (p + 0) = vP := h.1.symm
      rw [hp0] at f164F
      refine ⟨⟨rfl, rfl⟩, ?_⟩; (conv => whnf)
      refine b1 0 rfl (by omega) (fun _ => ?_) (fun (q : ¬ 0 = 0) => by omega)
      refine hP _ _ _ _ ?_; (conv => whnf)
      refine b1 0 rfl (by omega) (fun _ => ?_) (fun (q : ¬ 0 = 0) => by omega)
      exact f164F _ _ _ _ none rfl (fun _ _ => rfl)
    | true =>
      have hl : 0 < lim (sgn r) := of_decide_eq_true hwb.symm
      have hr : ∃ r1, r = sgn r :: r1 := by
        cases r with
        | nil => exact absurd hl (by decide)
        | cons c r1 => exact ⟨r1, rfl⟩
      obtain ⟨r1, hr⟩ := hr
      have hf := f127T r1 hr hl
      have e1 : vP + nI 1 = nI (p + 1) := by rw [h.1, nI_add]
      have e2 : (cst 3 * vR).toNatClampNeg = 3 * n := by rw [ek, nI_clamp (by omega)]
      rw [← e1, ← e2] at hf
      refine ⟨⟨rfl, rfl⟩, ?_⟩; (conv => whnf)
      refine b1 1 rfl (by omega) (fun (q : 1 = 0) => by omega) (fun _ => ?_); (conv => whnf)
      refine ⟨⟨rfl, rfl⟩, ?_⟩; (conv => whnf)
      refine ⟨vi ek (show 3 * n < 93 by omega) (by decide), ?_⟩; (conv => whnf)
      exact hf
  -- the letter among others
  have hlb := lim_b hse
  have f63 : ∀ pb : Bool, pb = npl (sgn r) → P 63 [some (.ref 0), some (.int (cst 3 * vR)), some (.int (nI (sgn r))), some (.int (bI (hdB (sgn r)))), none] [.int (bI pb)] ((rfM vT aS aH vM aN vS aX vL vP vW aR vR aD vF aW aI aQ aL vB)) := by
    intro pb hpb
    have g95 : 0 < lim (sgn r) → P 95 [some (.ref 0), some (.int (cst 3 * vR)), some (.int (nI (sgn r))), some (.int (bI (hdB (sgn r)))), some (.int (bI (npl (sgn r))))] [.ref 0] ((rfM vT aS aH vM aN vS aX vL vP vW aR vR aD vF aW aI aQ aL vB)) := by
      intro hl
      refine hP _ _ _ _ ?_; (conv => whnf)
      exact f100 true (decide_eq_true hl).symm
    rw [← hpb] at g95 f100 hlb
    have lt : ∀ x, decide (0 < lim (sgn r)) = x → x = true → 0 < lim (sgn r) := fun x e1 e2 => of_decide_eq_true (e1.trans e2)
    refine hP _ _ _ _ ?_; (conv => whnf)
    cases pb with
    | true =>
      refine b1 1 rfl (by omega) (fun _ => ?_) (fun (q : ¬ ¬ 1 = 0) => by omega)
      exact g95 (lt _ hlb (by simp))
    | false =>
      refine b1 0 rfl (by omega) (fun (q : ¬ 0 = 0) => by omega) (fun _ => ?_); (conv => whnf)
      refine b2 (sgn r) 110 rfl rfl (by omega) (by omega) (fun (q : sgn r = 110) => g95 (lt _ hlb (by rw [nbt q]; simp))) (fun (q1 : ¬ sgn r = 110) => ?_); (conv => whnf)
      refine b2 (sgn r) 105 rfl rfl (by omega) (by omega) (fun (q : sgn r = 105) => g95 (lt _ hlb (by rw [nbt q]; simp))) (fun (q2 : ¬ sgn r = 105) => ?_); (conv => whnf)
      refine b2 (sgn r) 33 rfl rfl (by omega) (by omega) (fun (q : sgn r = 33) => g95 (lt _ hlb (by rw [nbt q]; simp))) (fun (q3 : ¬ sgn r = 33) => ?_); (conv => whnf)
      refine b2 (sgn r) 120 rfl rfl (by omega) (by omega) (fun (q4 : ¬ sgn r = 120) => ?_) (fun (q : ¬ ¬ sgn r = 120) => ?_)
      · refine hP _ _ _ _ ?_; (conv => whnf)
        exact f100 false (by rw [hlb, nbf q1, nbf q2, nbf q3, nbf q4]; rfl)
      · (conv => whnf)
        exact g95 (lt _ hlb (by rw [nbt (Decidable.of_not_not q)]; simp))
  have f29 : ∀ hb : Bool, hb = hdB (sgn r) → P 29 [some (.ref 0), some (.int (cst 3 * vR)), some (.int (nI (sgn r))), none, none] [.int (bI hb)] ((rfM vT aS aH vM aN vS aX vL vP vW aR vR aD vF aW aI aQ aL vB)) := by
    intro hb hhb
    have hnp : npl (sgn r) = (hb || (Nat.beq (sgn r) 115 || (Nat.beq (sgn r) 112 || (Nat.beq (sgn r) 97 || Nat.beq (sgn r) 118)))) := by
      rw [hhb]; unfold npl hdB; rw [Bool.or_assoc]
    have g58 : npl (sgn r) = true → P 58 [some (.ref 0), some (.int (cst 3 * vR)), some (.int (nI (sgn r))), some (.int (bI (hdB (sgn r)))), none] [] ((rfM vT aS aH vM aN vS aX vL vP vW aR vR aD vF aW aI aQ aL vB)) := by
      intro q
      refine hP _ _ _ _ ?_; (conv => whnf)
      exact f63 true q.symm
    rw [← hhb] at g58 f63
    refine hP _ _ _ _ ?_; (conv => whnf)
    cases hb with
    | true =>
      refine b1 1 rfl (by omega) (fun _ => ?_) (fun (q : ¬ ¬ 1 = 0) => by omega)
      exact g58 (by rw [hnp]; rfl)
    | false =>
      refine b1 0 rfl (by omega) (fun (q : ¬ 0 = 0) => by omega) (fun _ => ?_); (conv => whnf)
      refine b2 (sgn r) 115 rfl rfl (by omega) (by omega) (fun (q : sgn r = 115) => g58 (by rw [hnp, nbt q]; simp)) (fun (q1 : ¬ sgn r = 115) => ?_); (conv => whnf)
      refine b2 (sgn r) 112 rfl rfl (by omega) (by omega) (fun (q : sgn r = 112) => g58 (by rw [hnp, nbt q]; simp)) (fun (q2 : ¬ sgn r = 112) => ?_); (conv => whnf)
      refine b2 (sgn r) 97 rfl rfl (by omega) (by omega) (fun (q : sgn r = 97) => g58 (by rw [hnp, nbt q]; simp)) (fun (q3 : ¬ sgn r = 97) => ?_); (conv => whnf)
      refine b2 (sgn r) 118 rfl rfl (by omega) (by omega) (fun (q4 : ¬ sgn r = 118) => ?_) (fun (q : ¬ ¬ sgn r = 118) => ?_)
      · refine hP _ _ _ _ ?_; (conv => whnf)
        exact f63 false (by rw [hnp, nbf q1, nbf q2, nbf q3, nbf q4]; rfl)
      · (conv => whnf)
        exact g58 (by rw [hnp, nbt (Decidable.of_not_not q)]; simp)
  refine ⟨Nat.le_of_ble_eq_true rfl, rfl, ?_⟩; (conv => whnf)
  refine Or.inl ⟨_, _, m_sign (d := d + 2) (vT := vT) (aS := aS) (aH := aH) (vM := vM) (aN := aN) (vS := vS) (aX := aX) (vL := vL) (vP := vP) (vW := vW) (aR := aR) (vR := vR) (aD := aD) (vF := vF) (aW := aW) (aI := aI) (aQ := aQ) (aL := aL) (vB := vB) h, ?_⟩; (conv => whnf)
  have g24 : hdB (sgn r) = true → P 24 [some (.ref 0), some (.int (cst 3 * vR)), some (.int (nI (sgn r))), none, none] [] ((rfM vT aS aH vM aN vS aX vL vP vW aR vR aD vF aW aI aQ aL vB)) := by
    intro q
    refine hP _ _ _ _ ?_; (conv => whnf)
    exact f29 true q.symm
  refine b2 (sgn r) 104 rfl rfl (by omega) (by omega) (fun (q : sgn r = 104) => g24 (by unfold hdB; rw [nbt q]; rfl)) (fun (q1 : ¬ sgn r = 104) => ?_); (conv => whnf)
  refine b2 (sgn r) 108 rfl rfl (by omega) (by omega) (fun (q2 : ¬ sgn r = 108) => ?_) (fun (q : ¬ ¬ sgn r = 108) => ?_)
  · refine hP _ _ _ _ ?_; (conv => whnf)
    exact f29 false (by unfold hdB; rw [nbf q1, nbf q2]; rfl)
  · (conv => whnf)
    exact g24 (by unfold hdB; rw [nbt (Decidable.of_not_not q), Bool.or_true])
end M25
