/-! the reference: rules of kinds and players -/
section M10
variable {d : Nat} {vT vM vS vL vP vW vR vF vB : Int32} {aS aH aN aX aR aD aW aI aQ aL : IA} {cl : List rl_C} {v : NA}
theorem m_bars {s p : Nat} (hs : s < 512) (hv : rl_ok v) (hp : p < 4) : Cl (d + 3) kX6_bars [.ref 0, .int (nI s), .int (nI p)] ((rfM vT aS aH vM aN vS aX vL vP vW aR vR aD vF aW aI aQ (nA v) vB)) (rV (bI (chgB v (rl_bar s p v)))) ((rfM vT aS aH vM aN vS aX vL vP vW aR vR aD vF aW aI aQ (nA (rl_bar s p v)) vB)) := by
  refine Cl_go e_X6_bars (Nat.le_of_ble_eq_true rfl) rfl ?_; intro P hP; refine hP _ _ _ _ ?_; (conv => whnf)
  have lp : ∀ (n i : Nat) (x : Int32) (b : Bool) (N : Mem), i + n = 9 → x = nI i → b = chgB v (mapI i (fun c => s.testBit c && !(v c == 2 ^ p)) (fun x => x &&& (15 - 2 ^ p)) v) → N = (rfM vT aS aH vM aN vS aX vL vP vW aR vR aD vF aW aI aQ (nA (mapI i (fun c => s.testBit c && !(v c == 2 ^ p)) (fun x => x &&& (15 - 2 ^ p)) v)) vB) → P 5 [some (.ref 0), some (.int (nI s)), some (.int (nI p)), some (.int (bI b)), some (.int x)] [] N := by
    intro n
    induction n with
    | zero =>
      intro i x b N hi hx hb hN
      have hi : i = 9 := hi
      subst hi
      subst hN
      refine hP _ _ _ _ ?_; (conv => whnf)
      refine b2 9 9 hx rfl (by omega) (by omega) (fun _ => ?_) (fun (q : ¬ 9 ≤ 9) => by omega)
      refine hP _ _ _ _ ?_; (conv => whnf)
      exact ⟨rfl, ⟨.boolean, rfl, b01⟩, rI (congrArg bI hb), rfl⟩
    | succ n ih =>
      intro i x b N hi hx hb hN
      subst hx
      subst hN
      have hi9 : i < 9 := by omega
      have hw := mapI_le (cond := (fun c => s.testBit c && !(v c == 2 ^ p))) (and_g (15 - 2 ^ p)) i hv
      have hwi : mapI i (fun c => s.testBit c && !(v c == 2 ^ p)) (fun x => x &&& (15 - 2 ^ p)) v i = v i := mapI_i _ _ _ _
      have no : (fun c => s.testBit c && !(v c == 2 ^ p)) i = false → P 52 [some (.ref 0), some (.int (nI s)), some (.int (nI p)), some (.int (bI b)), some (.int (nI i))] [] ((rfM vT aS aH vM aN vS aX vL vP vW aR vR aD vF aW aI aQ (nA (mapI i (fun c => s.testBit c && !(v c == 2 ^ p)) (fun x => x &&& (15 - 2 ^ p)) v)) vB)) := by
        intro q
        refine hP _ _ _ _ ?_; (conv => whnf)
        refine ih (i + 1) _ b _ (by omega) (nI_1 i) ?_ ?_
        · rw [← mapI_f q]; exact hb
        · rw [← mapI_f q]
      have f53 : (fun c => s.testBit c && !(v c == 2 ^ p)) i = true → ∀ b' : Bool, b' = (!Nat.beq (v i &&& (15 - 2 ^ p)) (v i) || b) → P 51 [some (.ref 0), some (.int (nI s)), some (.int (nI p)), none, some (.int (nI i))] [.int (bI b')] ((rfM vT aS aH vM aN vS aX vL vP vW aR vR aD vF aW aI aQ (nA (sv1 i (15 - 2 ^ p) (mapI i (fun c => s.testBit c && !(v c == 2 ^ p)) (fun x => x &&& (15 - 2 ^ p)) v))) vB)) := by
        intro hc b' hb'
        refine hP _ _ _ _ ?_; (conv => whnf)
        refine hP _ _ _ _ ?_; (conv => whnf)
        refine ih (i + 1) _ b' _ (by omega) (nI_1 i) ?_ ?_
        · rw [chg_step hi9 hc, hb', hb]
        · rw [sv1_map hc]
      refine hP _ _ _ _ ?_; (conv => whnf)
      refine b2 i 9 rfl rfl (by omega) (by omega) (fun (q : 9 ≤ i) => by omega) (fun _ => ?_); (conv => whnf)
      have e : (nI s >>> (nI i &&& 31)) &&& nI 1 = nI (bif s.testBit i then 1 else 0) := shr_bit hs hi9
      cases hb1 : s.testBit i with
      | false =>
        refine b2 0 1 (e.trans (by rw [hb1]; rfl)) rfl (by omega) (by omega) (fun _ => ?_) (fun (q : ¬ ¬ 0 = 1) => by omega)
        exact no (by show (s.testBit i && _) = false; rw [hb1]; rfl)
      | true =>
        refine b2 1 1 (e.trans (by rw [hb1]; rfl)) rfl (by omega) (by omega) (fun (q : ¬ 1 = 1) => by omega) (fun _ => ?_); (conv => whnf)
        refine ⟨Nat.le_of_ble_eq_true rfl, rfl, ?_⟩; (conv => whnf)
        have hml : Cl (d + 2) kX6_isOnly [.ref 0, .int (nI i), .int (nI p)] ((rfM vT aS aH vM aN vS aX vL vP vW aR vR aD vF aW aI aQ (nA (mapI i (fun c => s.testBit c && !(v c == 2 ^ p)) (fun x => x &&& (15 - 2 ^ p)) v)) vB)) (rV (bI (v i == 2 ^ p))) ((rfM vT aS aH vM aN vS aX vL vP vW aR vR aD vF aW aI aQ (nA (mapI i (fun c => s.testBit c && !(v c == 2 ^ p)) (fun x => x &&& (15 - 2 ^ p)) v)) vB)) := by
          have h := congrArg (fun z => (bI (z == 2 ^ p))) hwi
          rw [← (h : bI ((mapI i (fun c => s.testBit c && !(v c == 2 ^ p)) (fun x => x &&& (15 - 2 ^ p)) v) i == 2 ^ p) = bI (v i == 2 ^ p))]
          exact m_isOnly hi9 hw.1 hp
        refine Or.inl ⟨_, _, hml, ?_⟩; (conv => whnf)
        cases hb2 : (v i == 2 ^ p) with
        | true =>
          refine b1 1 rfl (by omega) (fun _ => ?_) (fun (q : ¬ ¬ 1 = 0) => by omega)
          exact no (by show (s.testBit i && !(v i == 2 ^ p)) = false; rw [hb2, Bool.not_true, Bool.and_false])
        | false =>
          have hc : (fun c => s.testBit c && !(v c == 2 ^ p)) i = true := by show (s.testBit i && !(v i == 2 ^ p)) = true; rw [hb1, hb2]; rfl
          refine b1 0 rfl (by omega) (fun (q : ¬ 0 = 0) => by omega) (fun _ => ?_); (conv => whnf)
          refine ⟨Nat.le_of_ble_eq_true rfl, rfl, ?_⟩; (conv => whnf)
          have hkk : Cl (d + 2) kX6_loses [.ref 0, .int (nI i), .int (nI p)] ((rfM vT aS aH vM aN vS aX vL vP vW aR vR aD vF aW aI aQ (nA (mapI i (fun c => s.testBit c && !(v c == 2 ^ p)) (fun x => x &&& (15 - 2 ^ p)) v)) vB)) (rV (bI (!Nat.beq (v i &&& (15 - 2 ^ p)) (v i)))) ((rfM vT aS aH vM aN vS aX vL vP vW aR vR aD vF aW aI aQ (nA (sv1 i (15 - 2 ^ p) (mapI i (fun c => s.testBit c && !(v c == 2 ^ p)) (fun x => x &&& (15 - 2 ^ p)) v))) vB)) := by
            have h := congrArg (fun z => (bI (!Nat.beq (z &&& (15 - 2 ^ p)) z))) hwi
            rw [← (h : bI (!Nat.beq ((mapI i (fun c => s.testBit c && !(v c == 2 ^ p)) (fun x => x &&& (15 - 2 ^ p)) v) i &&& (15 - 2 ^ p)) ((mapI i (fun c => s.testBit c && !(v c == 2 ^ p)) (fun x => x &&& (15 - 2 ^ p)) v) i)) = bI (!Nat.beq (v i &&& (15 - 2 ^ p)) (v i)))]
            exact m_loses hi9 hw.1 hp
          refine Or.inl ⟨_, _, hkk, ?_⟩; (conv => whnf)
          cases hb3 : Nat.beq (v i &&& (15 - 2 ^ p)) (v i) with
          | false =>
            refine b1 1 rfl (by omega) (fun _ => ?_) (fun (q : ¬ ¬ 1 = 0) => by omega)
            refine hP _ _ _ _ ?_; (conv => whnf)
            exact f53 hc true (by rw [hb3]; rfl)
          | true =>
            refine b1 0 rfl (by omega) (fun (q : ¬ 0 = 0) => by omega) (fun _ => ?_); (conv => whnf)
            cases b with
            | true =>
              refine b1 1 rfl (by omega) (fun (q : 1 = 0) => by omega) (fun _ => ?_)
              (conv => whnf)
              refine hP _ _ _ _ ?_; (conv => whnf)
              exact f53 hc true (by rw [hb3]; rfl)
            | false =>
              refine b1 0 rfl (by omega) (fun _ => ?_) (fun (q : ¬ 0 = 0) => by omega)
              refine hP _ _ _ _ ?_; (conv => whnf)
              exact f53 hc false (by rw [hb3]; rfl)
  exact lp 9 0 _ false _ rfl rfl (by rw [mapI_0, chgB_refl]) (by rw [mapI_0])
theorem on_cn (v : NA) (s p : Nat) : cntN (cnB true v s p) 9 = rl_on v s p := rfl
theorem ps_cn (v : NA) (s p : Nat) : cntN (cnB false v s p) 9 = rl_ps v s p := rfl
theorem rl_on_le (v : NA) (s p : Nat) : rl_on v s p ≤ 9 := cntN_le (rl_inO v s p) 9
theorem rl_ps_le (v : NA) (s p : Nat) : rl_ps v s p ≤ 9 := cntN_le (rl_inP v s p) 9
theorem m_usesKind {k : Nat} (hk : k < 3) (hv : rl_ok v) : Cl (d + 4) kX6_usesKind [.ref 0, .int (nI k)] ((rfM vT aS aH vM aN vS aX vL vP vW aR vR aD vF aW aI aQ (nA v) vB)) (rV (bI (chgB v (rl_kdM k v)))) ((rfM vT aS aH vM aN vS aX vL vP vW aR vR aD vF aW aI aQ (nA (rl_kdM k v)) vB)) := by
  have hs := kd_lt hk
  have e7 : nI 7 <<< ((nI 3 * nI k) &&& 31) = nI (rl_kd k) := by rw [pk_mul]; exact sh_7 hk
  have hcp := rl_cp_ok (rl_kd k) 3 hv
  have hkj := rl_kj_ok 1 (rl_kd k) 3 hcp.1
  have hc1 := m_counts (d := d + 1) (vT := vT) (aS := aS) (aH := aH) (vM := vM) (aN := aN) (vS := vS) (aX := aX) (vL := vL) (vP := vP) (vW := vW) (aR := aR) (vR := vR) (aD := aD) (vF := vF) (aW := aW) (aI := aI) (aQ := aQ) (vB := vB) (o := true) (s := rl_kd k) (p := 3) hs hv (by decide)
  have hc2 := fun (w : NA) (hw : rl_ok w) => m_counts (d := d + 1) (vT := vT) (aS := aS) (aH := aH) (vM := vM) (aN := aN) (vS := vS) (aX := aX) (vL := vL) (vP := vP) (vW := vW) (aR := aR) (vR := vR) (aD := aD) (vF := vF) (aW := aW) (aI := aI) (aQ := aQ) (vB := vB) (v := w) (o := false) (s := rl_kd k) (p := 3) hs hw (by decide)
  have hb := m_bars (d := d) (vT := vT) (aS := aS) (aH := aH) (vM := vM) (aN := aN) (vS := vS) (aX := aX) (vL := vL) (vP := vP) (vW := vW) (aR := aR) (vR := vR) (aD := aD) (vF := vF) (aW := aW) (aI := aI) (aQ := aQ) (vB := vB) (s := rl_kd k) (p := 3) hs hv (by decide)
  have hf := m_fixes (d := d + 1) (vT := vT) (aS := aS) (aH := aH) (vM := vM) (aN := aN) (vS := vS) (aX := aX) (vL := vL) (vP := vP) (vW := vW) (aR := aR) (vR := vR) (aD := aD) (vF := vF) (aW := aW) (aI := aI) (aQ := aQ) (vB := vB) (v := rl_cp (rl_kd k) 3 v) (s := rl_kd k) (p := 3) hs hcp.1 (by decide)
  have hon := rl_on_le v (rl_kd k) 3
  have hps := rl_ps_le (rl_cp (rl_kd k) 3 v) (rl_kd k) 3
  rw [on_cn] at hc1
  refine Cl_go e_X6_usesKind (Nat.le_of_ble_eq_true rfl) rfl ?_; intro P hP; refine hP _ _ _ _ ?_; (conv => whnf)
  have hR : rl_kdM k v = rl_kj 1 (rl_kd k) 3 (rl_cp (rl_kd k) 3 v) := rfl
  rw [hR] at hP ⊢
  have e1 := chgB_trans hkj.2 hcp.2
  have f26 : P 26 [some (.ref 0), none, some (.int (nI (rl_kd k))), some (.int (bI (chgB v (rl_cp (rl_kd k) 3 v))))] [] ((rfM vT aS aH vM aN vS aX vL vP vW aR vR aD vF aW aI aQ (nA (rl_cp (rl_kd k) 3 v)) vB)) := by
    have hc3 := hc2 _ hcp.1
    rw [ps_cn] at hc3
    refine hP _ _ _ _ ?_; (conv => whnf)
    refine ⟨Nat.le_of_ble_eq_true rfl, rfl, ?_⟩; (conv => whnf)
    refine Or.inl ⟨_, _, hc3, ?_⟩; (conv => whnf)
    refine b2 (rl_ps (rl_cp (rl_kd k) 3 v) (rl_kd k) 3) 1 rfl rfl (by omega) (by omega) (fun (q : ¬ rl_ps (rl_cp (rl_kd k) 3 v) (rl_kd k) 3 = 1) => ?_) (fun (q : ¬ ¬ rl_ps (rl_cp (rl_kd k) 3 v) (rl_kd k) 3 = 1) => ?_)
    · have e : rl_kj 1 (rl_kd k) 3 (rl_cp (rl_kd k) 3 v) = rl_cp (rl_kd k) 3 v := if_neg q
      rw [e] at hP
      refine hP _ _ _ _ ?_; (conv => whnf)
      exact ⟨rfl, ⟨.boolean, rfl, b01⟩, rfl, rfl⟩
    · have e : rl_kj 1 (rl_kd k) 3 (rl_cp (rl_kd k) 3 v) = rl_fix (rl_kd k) 3 (rl_cp (rl_kd k) 3 v) := if_pos (Decidable.of_not_not q)
      rw [e] at hP e1
      have f55 : ∀ b' : Bool, b' = chgB v (rl_fix (rl_kd k) 3 (rl_cp (rl_kd k) 3 v)) → P 55 [none, none, none, none] [.int (bI b')] ((rfM vT aS aH vM aN vS aX vL vP vW aR vR aD vF aW aI aQ (nA (rl_fix (rl_kd k) 3 (rl_cp (rl_kd k) 3 v))) vB)) := by
        intro b' hb'
        refine hP _ _ _ _ ?_; (conv => whnf)
        refine hP _ _ _ _ ?_; (conv => whnf)
        exact ⟨rfl, ⟨.boolean, rfl, b01⟩, rI (congrArg bI hb'), rfl⟩
      (conv => whnf)
      refine ⟨Nat.le_of_ble_eq_true rfl, rfl, ?_⟩; (conv => whnf)
      refine Or.inl ⟨_, _, hf, ?_⟩; (conv => whnf)
      cases h3 : chgB (rl_cp (rl_kd k) 3 v) (rl_fix (rl_kd k) 3 (rl_cp (rl_kd k) 3 v)) with
      | true =>
        refine b1 1 rfl (by omega) (fun _ => ?_) (fun (q : ¬ ¬ 1 = 0) => by omega)
        refine hP _ _ _ _ ?_; (conv => whnf)
        exact f55 true (by rw [e1, h3]; rfl)
      | false =>
        refine b1 0 rfl (by omega) (fun (q : ¬ 0 = 0) => by omega) (fun _ => ?_); (conv => whnf)
        cases h4 : chgB v (rl_cp (rl_kd k) 3 v) with
        | true =>
          refine b1 1 rfl (by omega) (fun (q : 1 = 0) => by omega) (fun _ => ?_); (conv => whnf)
          refine hP _ _ _ _ ?_; (conv => whnf)
          exact f55 true (by rw [e1, h4, Bool.or_true])
        | false =>
          refine b1 0 rfl (by omega) (fun _ => ?_) (fun (q : ¬ 0 = 0) => by omega)
          refine hP _ _ _ _ ?_; (conv => whnf)
          exact f55 false (by rw [e1, h3, h4]; rfl)
  refine ⟨Nat.le_of_ble_eq_true rfl, rfl, ?_⟩; (conv => whnf)
  have hc1' : Cl (d + 3) kX6_counts [.ref 0, .int (nI 7 <<< ((nI 3 * nI k) &&& 31)), .int (nI 3), .int (bI true)] ((rfM vT aS aH vM aN vS aX vL vP vW aR vR aD vF aW aI aQ (nA v) vB)) (rV (nI (rl_on v (rl_kd k) 3))) ((rfM vT aS aH vM aN vS aX vL vP vW aR vR aD vF aW aI aQ (nA v) vB)) := by rw [e7]; exact hc1
  refine Or.inl ⟨_, _, hc1', ?_⟩; (conv => whnf)
  refine b1 (rl_on v (rl_kd k) 3) rfl (by omega) (fun (q : rl_on v (rl_kd k) 3 ≤ 0) => ?_) (fun (q : ¬ rl_on v (rl_kd k) 3 ≤ 0) => ?_)
  · have e : rl_cp (rl_kd k) 3 v = v := if_neg (by omega)
    rw [e, chgB_refl] at f26
    rw [← e7] at f26
    exact f26
  · have e : rl_cp (rl_kd k) 3 v = rl_bar (rl_kd k) 3 v := if_pos (by omega)
    rw [e] at f26
    rw [← e7] at f26 hb
    (conv => whnf)
    refine ⟨Nat.le_of_ble_eq_true rfl, rfl, ?_⟩; (conv => whnf)
    refine Or.inl ⟨_, _, hb, ?_⟩
    exact f26
theorem m_usesPlayer {k : Nat} (hk : k < 3) (hv : rl_ok v) : Cl (d + 4) kX6_usesPlayer [.ref 0, .int (nI k)] ((rfM vT aS aH vM aN vS aX vL vP vW aR vR aD vF aW aI aQ (nA v) vB)) (rV (bI (chgB v (rl_pl k v)))) ((rfM vT aS aH vM aN vS aX vL vP vW aR vR aD vF aW aI aQ (nA (rl_pl k v)) vB)) := by
  have hp4 : k < 4 := by omega
  have hcp := rl_cs_ok 2 511 k hv
  have hkj := rl_kj_ok 2 511 k hcp.1
  have hc1 := m_counts (d := d + 1) (vT := vT) (aS := aS) (aH := aH) (vM := vM) (aN := aN) (vS := vS) (aX := aX) (vL := vL) (vP := vP) (vW := vW) (aR := aR) (vR := vR) (aD := aD) (vF := vF) (aW := aW) (aI := aI) (aQ := aQ) (vB := vB) (o := true) (s := 511) (p := k) (by decide) hv hp4
  have hc3 := m_counts (d := d + 1) (vT := vT) (aS := aS) (aH := aH) (vM := vM) (aN := aN) (vS := vS) (aX := aX) (vL := vL) (vP := vP) (vW := vW) (aR := aR) (vR := vR) (aD := aD) (vF := vF) (aW := aW) (aI := aI) (aQ := aQ) (vB := vB) (v := rl_cs 2 511 k v) (o := false) (s := 511) (p := k) (by decide) hcp.1 hp4
  have hb := m_bars (d := d) (vT := vT) (aS := aS) (aH := aH) (vM := vM) (aN := aN) (vS := vS) (aX := aX) (vL := vL) (vP := vP) (vW := vW) (aR := aR) (vR := vR) (aD := aD) (vF := vF) (aW := aW) (aI := aI) (aQ := aQ) (vB := vB) (s := 511) (p := k) (by decide) hv hp4
  have hf := m_fixes (d := d + 1) (vT := vT) (aS := aS) (aH := aH) (vM := vM) (aN := aN) (vS := vS) (aX := aX) (vL := vL) (vP := vP) (vW := vW) (aR := aR) (vR := vR) (aD := aD) (vF := vF) (aW := aW) (aI := aI) (aQ := aQ) (vB := vB) (v := rl_cs 2 511 k v) (s := 511) (p := k) (by decide) hcp.1 hp4
  have hon := rl_on_le v 511 k
  have hps := rl_ps_le (rl_cs 2 511 k v) 511 k
  rw [on_cn] at hc1
  rw [ps_cn] at hc3
  refine Cl_go e_X6_usesPlayer (Nat.le_of_ble_eq_true rfl) rfl ?_; intro P hP; refine hP _ _ _ _ ?_; (conv => whnf)
  have hR : rl_pl k v = rl_kj 2 511 k (rl_cs 2 511 k v) := rfl
  rw [hR] at hP ⊢
  have e1 := chgB_trans hkj.2 hcp.2
  have f24 : P 24 [some (.ref 0), some (.int (nI k)), some (.int (bI (chgB v (rl_cs 2 511 k v))))] [] ((rfM vT aS aH vM aN vS aX vL vP vW aR vR aD vF aW aI aQ (nA (rl_cs 2 511 k v)) vB)) := by
    refine hP _ _ _ _ ?_; (conv => whnf)
    refine ⟨Nat.le_of_ble_eq_true rfl, rfl, ?_⟩; (conv => whnf)
    refine Or.inl ⟨_, _, hc3, ?_⟩; (conv => whnf)
    refine b2 (rl_ps (rl_cs 2 511 k v) 511 k) 2 rfl rfl (by omega) (by omega) (fun (q : ¬ rl_ps (rl_cs 2 511 k v) 511 k = 2) => ?_) (fun (q : ¬ ¬ rl_ps (rl_cs 2 511 k v) 511 k = 2) => ?_)
    · have e : rl_kj 2 511 k (rl_cs 2 511 k v) = rl_cs 2 511 k v := if_neg q
      rw [e] at hP
      refine hP _ _ _ _ ?_; (conv => whnf)
      exact ⟨rfl, ⟨.boolean, rfl, b01⟩, rfl, rfl⟩
    · have e : rl_kj 2 511 k (rl_cs 2 511 k v) = rl_fix 511 k (rl_cs 2 511 k v) := if_pos (Decidable.of_not_not q)
      rw [e] at hP e1
      have f57 : ∀ b' : Bool, b' = chgB v (rl_fix 511 k (rl_cs 2 511 k v)) → P 57 [none, none, none] [.int (bI b')] ((rfM vT aS aH vM aN vS aX vL vP vW aR vR aD vF aW aI aQ (nA (rl_fix 511 k (rl_cs 2 511 k v))) vB)) := by
        intro b' hb'
        refine hP _ _ _ _ ?_; (conv => whnf)
        refine hP _ _ _ _ ?_; (conv => whnf)
        exact ⟨rfl, ⟨.boolean, rfl, b01⟩, rI (congrArg bI hb'), rfl⟩
      (conv => whnf)
      refine ⟨Nat.le_of_ble_eq_true rfl, rfl, ?_⟩; (conv => whnf)
      refine Or.inl ⟨_, _, hf, ?_⟩; (conv => whnf)
      cases h3 : chgB (rl_cs 2 511 k v) (rl_fix 511 k (rl_cs 2 511 k v)) with
      | true =>
        refine b1 1 rfl (by omega) (fun _ => ?_) (fun (q : ¬ ¬ 1 = 0) => by omega)
        refine hP _ _ _ _ ?_; (conv => whnf)
        exact f57 true (by rw [e1, h3]; rfl)
      | false =>
        refine b1 0 rfl (by omega) (fun (q : ¬ 0 = 0) => by omega) (fun _ => ?_); (conv => whnf)
        cases h4 : chgB v (rl_cs 2 511 k v) with
        | true =>
          refine b1 1 rfl (by omega) (fun (q : 1 = 0) => by omega) (fun _ => ?_); (conv => whnf)
          refine hP _ _ _ _ ?_; (conv => whnf)
          exact f57 true (by rw [e1, h4, Bool.or_true])
        | false =>
          refine b1 0 rfl (by omega) (fun _ => ?_) (fun (q : ¬ 0 = 0) => by omega)
          refine hP _ _ _ _ ?_; (conv => whnf)
          exact f57 false (by rw [e1, h3, h4]; rfl)
  refine ⟨Nat.le_of_ble_eq_true rfl, rfl, ?_⟩; (conv => whnf)
  refine Or.inl ⟨_, _, hc1, ?_⟩; (conv => whnf)
  refine b2 (rl_on v 511 k) 2 rfl rfl (by omega) (by omega) (fun (q : ¬ rl_on v 511 k = 2) => ?_) (fun (q : ¬ ¬ rl_on v 511 k = 2) => ?_)
  · have e : rl_cs 2 511 k v = v := if_neg q
    rw [e, chgB_refl] at f24
    exact f24
  · have e : rl_cs 2 511 k v = rl_bar 511 k v := if_pos (Decidable.of_not_not q)
    rw [e] at f24
    (conv => whnf)
    refine ⟨Nat.le_of_ble_eq_true rfl, rfl, ?_⟩; (conv => whnf)
    refine Or.inl ⟨_, _, hb, ?_⟩
    exact f24
end M10
