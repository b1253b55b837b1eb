/-! the reference: a clue used -/
def gC (x : rl_C) : Nat → Nat := fun y => if x.1 = 0 ∨ x.1 = 5 then y &&& 2 ^ x.2.1 else if x.1 = 1 ∨ x.1 = 3 then y &&& (15 - 2 ^ x.2.1) else y
theorem gC_ok (x : rl_C) : ∀ y, y < 16 → gC x y < 16 ∧ rl_sub (gC x y) y = true := by
  intro y hy
  unfold gC
  split
  · exact and_g _ y hy
  · split
    · exact and_g _ y hy
    · exact ⟨hy, rl_sub_refl y⟩
theorem mapI_id {cond : Nat → Bool} {g : Nat → Nat} (hg : ∀ y, g y = y) (i : Nat) (v : NA) : mapI i cond g v = v := by
  funext c
  unfold mapI
  split
  · exact hg _
  · rfl
abbrev wC (x : rl_C) (i : Nat) (v : NA) : NA := mapI i (fun c => x.2.2.testBit c) (gC x) v
theorem wC_id {x : rl_C} (h : x.1 = 2 ∨ x.1 = 4) (i : Nat) (v : NA) : wC x i v = v := mapI_id (fun y => by unfold gC; rw [if_neg (by omega), if_neg (by omega)]) i v
theorem gC_and {x : rl_C} (h : x.1 = 0 ∨ x.1 = 5) : gC x = fun y => y &&& 2 ^ x.2.1 := by funext y; exact if_pos h
theorem gC_los {x : rl_C} (h : x.1 = 1 ∨ x.1 = 3) : gC x = fun y => y &&& (15 - 2 ^ x.2.1) := by
  funext y; unfold gC; rw [if_neg (by omega), if_pos h]
theorem wC_cl {x : rl_C} (h6 : x.1 < 6) (h : ¬ x.1 = 2 ∧ ¬ x.1 = 4) (v : NA) : wC x 9 v = rl_cl x v := by
  unfold rl_cl wC
  by_cases h0 : x.1 = 0 ∨ x.1 = 5
  · rw [if_pos h0, gC_and h0]; rfl
  · have h1 : x.1 = 1 ∨ x.1 = 3 := by omega
    rw [if_neg h0, if_pos h1, gC_los h1]; rfl
section M11
variable {d : Nat} {vT vM vS vL vP vW vR vF vB : Int32} {aS aH aN aX aR aD aW aI aQ aL : IA} {cl : List rl_C} {v : NA}
theorem m_usesClue {k : Nat} {x : rl_C} (hc : clS aS cl) (hk : cl[k]? = some x) (hv : rl_ok v) : Cl (d + 4) kX6_usesClue [.ref 0, .int (nI k)] ((rfM vT aS aH vM aN vS aX vL vP vW aR vR aD vF aW aI aQ (nA v) vB)) (rV (bI (chgB v (rl_cl x v)))) ((rfM vT aS aH vM aN vS aX vL vP vW aR vR aD vF aW aI aQ (nA (rl_cl x v)) vB)) := by
  have hkl : k < cl.length := (List.getElem?_eq_some_iff.mp hk).1
  have hk20 : k < 20 := Nat.lt_of_lt_of_le hkl hc.2.1
  have hx := hc.2.2.1 x (List.mem_of_getElem? hk)
  obtain ⟨e1, e2, e3⟩ := hc.2.2.2 k x hk
  have ok := hx.1
  have hs : x.2.2 < 512 := ok.1.2.2.1
  have hp4 : x.2.1 < 4 := ok.1.2.1
  have hk6 : x.1 < 6 := ok.1.1
  have ep : x.1 < 4 → plI x = nI x.2.1 := fun h => if_neg (by have := ok.2.1 h; omega)
  have e53 : 4 ≤ x.1 → x.2.1 = 3 := ok.2.2
  have o0 : ∀ w : NA, Cl (d + 3) kX6_of [.ref 0, .int (nI k), .int (nI 0)] ((rfM vT aS aH vM aN vS aX vL vP vW aR vR aD vF aW aI aQ (nA w) vB)) (rV (nI x.1)) ((rfM vT aS aH vM aN vS aX vL vP vW aR vR aD vF aW aI aQ (nA w) vB)) := fun w => by rw [← e1]; exact m_of (w := 0) hk20 (by decide)
  have o1 : ∀ w : NA, Cl (d + 3) kX6_of [.ref 0, .int (nI k), .int (nI 1)] ((rfM vT aS aH vM aN vS aX vL vP vW aR vR aD vF aW aI aQ (nA w) vB)) (rV (plI x)) ((rfM vT aS aH vM aN vS aX vL vP vW aR vR aD vF aW aI aQ (nA w) vB)) := fun w => by
    rw [← e2, show 13 + 3 * k = 12 + 3 * k + 1 by omega]; exact m_of (w := 1) hk20 (by decide)
  have o2 : ∀ w : NA, Cl (d + 3) kX6_of [.ref 0, .int (nI k), .int (nI 2)] ((rfM vT aS aH vM aN vS aX vL vP vW aR vR aD vF aW aI aQ (nA w) vB)) (rV (nI x.2.2)) ((rfM vT aS aH vM aN vS aX vL vP vW aR vR aD vF aW aI aQ (nA w) vB)) := fun w => by
    rw [← e3, show 14 + 3 * k = 12 + 3 * k + 2 by omega]; exact m_of (w := 2) hk20 (by decide)
  have hw := fun i => mapI_le (cond := fun c => x.2.2.testBit c) (gC_ok x) i hv
  refine Cl_go e_X6_usesClue (Nat.le_of_ble_eq_true rfl) rfl ?_; intro P hP; refine hP _ _ _ _ ?_; (conv => whnf)
  refine ⟨Nat.le_of_ble_eq_true rfl, rfl, ?_⟩; (conv => whnf)
  refine Or.inl ⟨_, _, o2 v, ?_⟩; (conv => whnf)
  refine ⟨Nat.le_of_ble_eq_true rfl, rfl, ?_⟩; (conv => whnf)
  refine Or.inl ⟨_, _, o1 v, ?_⟩
  -- the end
  have f257 : ∀ b : Bool, b = chgB v (rl_cl x v) → P 257 [none, none, none, none, some (.int (bI b)), none, none] [] ((rfM vT aS aH vM aN vS aX vL vP vW aR vR aD vF aW aI aQ (nA (rl_cl x v)) vB)) := by
    intro b hb
    refine hP _ _ _ _ ?_; (conv => whnf)
    exact ⟨rfl, ⟨.boolean, rfl, b01⟩, rI (congrArg bI hb), rfl⟩
  have f215 : ¬ x.1 = 4 → ∀ b : Bool, b = chgB v (rl_cl x v) → P 215 [some (.ref 0), some (.int (nI k)), some (.int (nI x.2.2)), none, some (.int (bI b)), none, none] [] ((rfM vT aS aH vM aN vS aX vL vP vW aR vR aD vF aW aI aQ (nA (rl_cl x v)) vB)) := by
    intro h4 b hb
    refine hP _ _ _ _ ?_; (conv => whnf)
    refine ⟨Nat.le_of_ble_eq_true rfl, rfl, ?_⟩; (conv => whnf)
    refine Or.inl ⟨_, _, o0 _, ?_⟩; (conv => whnf)
    refine b2 x.1 4 rfl rfl (by omega) (by omega) (fun _ => ?_) (fun (q : ¬ ¬ x.1 = 4) => absurd h4 q)
    exact f257 b hb
  have f255 : x.1 = 4 → rl_on v x.2.2 3 = 2 → ∀ b : Bool, b = chgB v (rl_cl x v) → P 255 [none, none, none, none, none, none, none] [.int (bI b)] ((rfM vT aS aH vM aN vS aX vL vP vW aR vR aD vF aW aI aQ (nA (rl_cl x v)) vB)) := by
    intro _ _ b hb
    refine hP _ _ _ _ ?_; (conv => whnf)
    exact f257 b hb
  have g215 : x.1 = 4 → P 215 [some (.ref 0), some (.int (nI k)), some (.int (nI x.2.2)), none, some (.int (bI false)), none, none] [] ((rfM vT aS aH vM aN vS aX vL vP vW aR vR aD vF aW aI aQ (nA v) vB)) := by
    intro h4
    have h3 := e53 (by omega)
    have er : rl_cl x v = rl_cs 2 x.2.2 3 v := by
      unfold rl_cl
      rw [if_neg (by omega), if_neg (by omega), if_neg (by omega), h3]
    have hon := rl_on_le v x.2.2 3
    have hcn : Cl (d + 3) kX6_counts [.ref 0, .int (nI x.2.2), .int (nI 3), .int (bI true)] ((rfM vT aS aH vM aN vS aX vL vP vW aR vR aD vF aW aI aQ (nA v) vB)) (rV (nI (rl_on v x.2.2 3))) ((rfM vT aS aH vM aN vS aX vL vP vW aR vR aD vF aW aI aQ (nA v) vB)) := by rw [← on_cn]; exact m_counts (d := d + 1) hs hv (by decide)
    refine hP _ _ _ _ ?_; (conv => whnf)
    refine ⟨Nat.le_of_ble_eq_true rfl, rfl, ?_⟩; (conv => whnf)
    refine Or.inl ⟨_, _, o0 _, ?_⟩; (conv => whnf)
    refine b2 x.1 4 rfl rfl (by omega) (by omega) (fun (q : ¬ x.1 = 4) => absurd h4 q) (fun _ => ?_); (conv => whnf)
    refine ⟨Nat.le_of_ble_eq_true rfl, rfl, ?_⟩; (conv => whnf)
    refine Or.inl ⟨_, _, hcn, ?_⟩; (conv => whnf)
    refine b2 (rl_on v x.2.2 3) 2 rfl rfl (by omega) (by omega) (fun (q : ¬ rl_on v x.2.2 3 = 2) => ?_) (fun (q : ¬ ¬ rl_on v x.2.2 3 = 2) => ?_)
    · have e : rl_cl x v = v := by rw [er]; exact if_neg q
      rw [e, chgB_refl] at f257
      exact f257 false rfl
    · have q := Decidable.of_not_not q
      have e : rl_cl x v = rl_bar x.2.2 3 v := by rw [er]; exact if_pos q
      rw [e] at f255
      (conv => whnf)
      refine ⟨Nat.le_of_ble_eq_true rfl, rfl, ?_⟩; (conv => whnf)
      refine Or.inl ⟨_, _, m_bars (d := d) (vT := vT) (aS := aS) (aH := aH) (vM := vM) (aN := aN) (vS := vS) (aX := aX) (vL := vL) (vP := vP) (vW := vW) (aR := aR) (vR := vR) (aD := aD) (vF := vF) (aW := aW) (aI := aI) (aQ := aQ) (vB := vB) (s := x.2.2) (p := 3) hs hv (by decide), ?_⟩; (conv => whnf)
      cases h5 : chgB v (rl_bar x.2.2 3 v) with
      | true =>
        refine b1 1 rfl (by omega) (fun _ => ?_) (fun (q : ¬ ¬ 1 = 0) => by omega)
        refine hP _ _ _ _ ?_; (conv => whnf)
        exact f255 h4 q true h5.symm
      | false =>
        refine b1 0 rfl (by omega) (fun (q : ¬ 0 = 0) => by omega) (fun _ => ?_); (conv => whnf)
        refine b1 0 rfl (by omega) (fun _ => ?_) (fun (q : ¬ 0 = 0) => by omega)
        refine hP _ _ _ _ ?_; (conv => whnf)
        exact f255 h4 q false h5.symm
  -- behind the cards
  have f173 : ∀ b : Bool, b = chgB v (wC x 9 v) → P 173 [some (.ref 0), some (.int (nI k)), some (.int (nI x.2.2)), some (.int (plI x)), some (.int (bI b)), none, none] [] ((rfM vT aS aH vM aN vS aX vL vP vW aR vR aD vF aW aI aQ (nA (wC x 9 v)) vB)) := by
    intro b hb
    refine hP _ _ _ _ ?_; (conv => whnf)
    refine ⟨Nat.le_of_ble_eq_true rfl, rfl, ?_⟩; (conv => whnf)
    refine Or.inl ⟨_, _, o0 _, ?_⟩; (conv => whnf)
    by_cases h2 : x.1 = 2
    · have ew : wC x 9 v = v := wC_id (Or.inl h2) 9 v
      rw [ew] at hb ⊢
      have eP : plI x = nI x.2.1 := ep (by omega)
      have er : rl_cl x v = rl_kj 1 x.2.2 x.2.1 v := by
        unfold rl_cl
        rw [if_neg (by omega), if_neg (by omega), if_pos h2]
      have hps := rl_ps_le v x.2.2 x.2.1
      have hcn : Cl (d + 3) kX6_counts [.ref 0, .int (nI x.2.2), .int (plI x), .int (bI false)] ((rfM vT aS aH vM aN vS aX vL vP vW aR vR aD vF aW aI aQ (nA v) vB)) (rV (nI (rl_ps v x.2.2 x.2.1))) ((rfM vT aS aH vM aN vS aX vL vP vW aR vR aD vF aW aI aQ (nA v) vB)) := by rw [← ps_cn, eP]; exact m_counts (d := d + 1) hs hv hp4
      refine b2 x.1 2 rfl rfl (by omega) (by omega) (fun (q : ¬ x.1 = 2) => absurd h2 q) (fun _ => ?_); (conv => whnf)
      refine ⟨Nat.le_of_ble_eq_true rfl, rfl, ?_⟩; (conv => whnf)
      refine Or.inl ⟨_, _, hcn, ?_⟩; (conv => whnf)
      refine b2 (rl_ps v x.2.2 x.2.1) 1 rfl rfl (by omega) (by omega) (fun (q : ¬ rl_ps v x.2.2 x.2.1 = 1) => ?_) (fun (q : ¬ ¬ rl_ps v x.2.2 x.2.1 = 1) => ?_)
      · have e : rl_cl x v = v := by rw [er]; exact if_neg q
        rw [e] at f215
        exact f215 (by omega) b hb
      · have e : rl_cl x v = rl_fix x.2.2 x.2.1 v := by rw [er]; exact if_pos (Decidable.of_not_not q)
        rw [e] at f215
        rw [chgB_refl] at hb
        subst hb
        have f213 : ∀ b : Bool, b = chgB v (rl_fix x.2.2 x.2.1 v) → P 213 [some (.ref 0), some (.int (nI k)), some (.int (nI x.2.2)), none, none, none, none] [.int (bI b)] ((rfM vT aS aH vM aN vS aX vL vP vW aR vR aD vF aW aI aQ (nA (rl_fix x.2.2 x.2.1 v)) vB)) := by
          intro b hb
          refine hP _ _ _ _ ?_; (conv => whnf)
          exact f215 (by omega) b hb
        have hfx : Cl (d + 3) kX6_fixes [.ref 0, .int (nI x.2.2), .int (plI x)] ((rfM vT aS aH vM aN vS aX vL vP vW aR vR aD vF aW aI aQ (nA v) vB)) (rV (bI (chgB v (rl_fix x.2.2 x.2.1 v)))) ((rfM vT aS aH vM aN vS aX vL vP vW aR vR aD vF aW aI aQ (nA (rl_fix x.2.2 x.2.1 v)) vB)) := by rw [eP]; exact m_fixes (d := d + 1) hs hv hp4
        (conv => whnf)
        refine ⟨Nat.le_of_ble_eq_true rfl, rfl, ?_⟩; (conv => whnf)
        refine Or.inl ⟨_, _, hfx, ?_⟩; (conv => whnf)
        cases h5 : chgB v (rl_fix x.2.2 x.2.1 v) with
        | true =>
          refine b1 1 rfl (by omega) (fun _ => ?_) (fun (q : ¬ ¬ 1 = 0) => by omega)
          refine hP _ _ _ _ ?_; (conv => whnf)
          exact f213 true h5.symm
        | false =>
          refine b1 0 rfl (by omega) (fun (q : ¬ 0 = 0) => by omega) (fun _ => ?_); (conv => whnf)
          refine b1 0 rfl (by omega) (fun _ => ?_) (fun (q : ¬ 0 = 0) => by omega)
          refine hP _ _ _ _ ?_; (conv => whnf)
          exact f213 false h5.symm
    · refine b2 x.1 2 rfl rfl (by omega) (by omega) (fun _ => ?_) (fun (q : ¬ ¬ x.1 = 2) => absurd h2 q)
      by_cases h4 : x.1 = 4
      · have ew : wC x 9 v = v := wC_id (Or.inr h4) 9 v
        rw [ew] at hb ⊢
        rw [chgB_refl] at hb
        subst hb
        exact g215 h4
      · rw [wC_cl hk6 ⟨h2, h4⟩] at hb ⊢
        exact f215 h4 b hb
  -- over the cards
  have lp : ∀ (n i : Nat) (y : Int32) (b : Bool) (w : NA), i + n = 9 → y = nI i → b = chgB v w → w = wC x i v → P 20 [some (.ref 0), some (.int (nI k)), some (.int (nI x.2.2)), some (.int (plI x)), some (.int (bI b)), some (.int y), none] [] ((rfM vT aS aH vM aN vS aX vL vP vW aR vR aD vF aW aI aQ (nA w) vB)) := by
    intro n
    induction n with
    | zero =>
      intro i y b w hi hy hb hw2
      have hi : i = 9 := hi
      subst hi
      subst hw2
      refine hP _ _ _ _ ?_; (conv => whnf)
      refine b2 9 9 hy rfl (by omega) (by omega) (fun _ => ?_) (fun (q : ¬ 9 ≤ 9) => by omega)
      exact f173 b hb
    | succ n ih =>
      intro i y b w hi hy hb hw2
      subst hy
      have hi9 : i < 9 := by omega
      have hok : rl_ok w := by rw [hw2]; exact (hw i).1
      have hwi : w i = v i := by rw [hw2]; exact mapI_i _ _ _ _
      have s167 : ∀ (b' : Bool) (w' : NA), b' = chgB v w' → w' = wC x (i + 1) v → P 167 [some (.ref 0), some (.int (nI k)), some (.int (nI x.2.2)), some (.int (plI x)), some (.int (bI b')), some (.int (nI i)), none] [] ((rfM vT aS aH vM aN vS aX vL vP vW aR vR aD vF aW aI aQ (nA w') vB)) := by
        intro b' w' hb' hw'
        refine hP _ _ _ _ ?_; (conv => whnf)
        exact ih (i + 1) _ b' w' (by omega) (nI_1 i) hb' hw'
      have s129 : ∀ (hs' : Bool), (hs' = false ∨ ¬ x.1 = 5) → ∀ (b' : Bool) (w' : NA), b' = chgB v w' → w' = wC x (i + 1) v → P 129 [some (.ref 0), some (.int (nI k)), some (.int (nI x.2.2)), some (.int (plI x)), some (.int (bI b')), some (.int (nI i)), some (.int (bI hs'))] [] ((rfM vT aS aH vM aN vS aX vL vP vW aR vR aD vF aW aI aQ (nA w') vB)) := by
        intro hs' h b' w' hb' hw'
        refine hP _ _ _ _ ?_; (conv => whnf)
        cases hs' with
        | false =>
          refine b1 0 rfl (by omega) (fun _ => ?_) (fun (q : ¬ 0 = 0) => by omega)
          exact s167 b' w' hb' hw'
        | true =>
          refine b1 1 rfl (by omega) (fun (q : 1 = 0) => by omega) (fun _ => ?_); (conv => whnf)
          refine ⟨Nat.le_of_ble_eq_true rfl, rfl, ?_⟩; (conv => whnf)
          refine Or.inl ⟨_, _, o0 _, ?_⟩; (conv => whnf)
          refine b2 x.1 5 rfl rfl (by omega) (by omega) (fun _ => ?_) (fun (q : ¬ ¬ x.1 = 5) => absurd (h.resolve_left (by intro z; cases z)) q)
          exact s167 b' w' hb' hw'
      have t129 : ∀ (hs' : Bool) (b' : Bool) (w' : NA), (hs' = false ∨ (¬ x.1 = 1 ∧ ¬ x.1 = 3)) → P 129 [some (.ref 0), some (.int (nI k)), some (.int (nI x.2.2)), some (.int (plI x)), some (.int (bI b')), some (.int (nI i)), some (.int (bI hs'))] [] ((rfM vT aS aH vM aN vS aX vL vP vW aR vR aD vF aW aI aQ (nA w') vB)) → P 82 [some (.ref 0), some (.int (nI k)), some (.int (nI x.2.2)), some (.int (plI x)), some (.int (bI b')), some (.int (nI i)), some (.int (bI hs'))] [] ((rfM vT aS aH vM aN vS aX vL vP vW aR vR aD vF aW aI aQ (nA w') vB)) := by
        intro hs' b' w' h hn
        refine hP _ _ _ _ ?_; (conv => whnf)
        cases hs' with
        | false =>
          refine b1 0 rfl (by omega) (fun _ => ?_) (fun (q : ¬ 0 = 0) => by omega)
          exact hn
        | true =>
          have h := h.resolve_left (by intro z; cases z)
          refine b1 1 rfl (by omega) (fun (q : 1 = 0) => by omega) (fun _ => ?_); (conv => whnf)
          refine ⟨Nat.le_of_ble_eq_true rfl, rfl, ?_⟩; (conv => whnf)
          refine Or.inl ⟨_, _, o0 _, ?_⟩; (conv => whnf)
          refine b2 x.1 1 rfl rfl (by omega) (by omega) (fun (q : x.1 = 1) => absurd q h.1) (fun _ => ?_); (conv => whnf)
          refine ⟨Nat.le_of_ble_eq_true rfl, rfl, ?_⟩; (conv => whnf)
          refine Or.inl ⟨_, _, o0 _, ?_⟩; (conv => whnf)
          refine b2 x.1 3 rfl rfl (by omega) (by omega) (fun _ => ?_) (fun (q : ¬ ¬ x.1 = 3) => absurd h.2 q)
          exact hn
      refine hP _ _ _ _ ?_; (conv => whnf)
      refine b2 i 9 rfl rfl (by omega) (by omega) (fun (q : 9 ≤ i) => by omega) (fun _ => ?_); (conv => whnf)
      have e : (nI x.2.2 >>> (nI i &&& 31)) &&& nI 1 = nI (bif x.2.2.testBit i then 1 else 0) := shr_bit hs hi9
      cases hb1 : x.2.2.testBit i with
      | false =>
        have ew : w = wC x (i + 1) v := by rw [hw2]; exact mapI_f (cond := fun c => x.2.2.testBit c) hb1
        refine b2 0 1 (e.trans (by rw [hb1]; rfl)) rfl (by omega) (by omega) (fun _ => ?_) (fun (q : ¬ ¬ 0 = 1) => by omega)
        refine hP _ _ _ _ ?_; (conv => whnf)
        refine hP _ _ _ _ ?_; (conv => whnf)
        refine b1 0 rfl (by omega) (fun _ => ?_) (fun (q : ¬ 0 = 0) => by omega)
        exact t129 false b w (Or.inl rfl) (s129 false (Or.inl rfl) b w hb ew)
      | true =>
        have hcnd : (fun c => x.2.2.testBit c) i = true := hb1
        have hst := chg_step (g := gC x) (v := v) hi9 hcnd
        refine b2 1 1 (e.trans (by rw [hb1]; rfl)) rfl (by omega) (by omega) (fun (q : ¬ 1 = 1) => by omega) (fun _ => ?_); (conv => whnf)
        refine hP _ _ _ _ ?_; (conv => whnf)
        refine b1 1 rfl (by omega) (fun (q : 1 = 0) => by omega) (fun _ => ?_); (conv => whnf)
        refine ⟨Nat.le_of_ble_eq_true rfl, rfl, ?_⟩; (conv => whnf)
        refine Or.inl ⟨_, _, o0 w, ?_⟩; (conv => whnf)
        by_cases h0 : x.1 = 0
        · have eP : plI x = nI x.2.1 := ep (by omega)
          have hg := gC_and (x := x) (Or.inl h0)
          have ew : sv1 i (2 ^ x.2.1) w = wC x (i + 1) v := by rw [hw2]; unfold wC; rw [hg]; exact sv1_map hcnd
          rw [hg] at hst
          have hst2 : chgB v (sv1 i (2 ^ x.2.1) w) = (!Nat.beq (v i &&& 2 ^ x.2.1) (v i) || b) := by rw [ew, hb, hw2]; unfold wC; rw [hg]; exact hst
          have hkk : Cl (d + 3) kX6_keeps [.ref 0, .int (nI i), .int (nI 1 <<< (plI x &&& 31))] ((rfM vT aS aH vM aN vS aX vL vP vW aR vR aD vF aW aI aQ (nA w) vB)) (rV (bI (!Nat.beq (v i &&& 2 ^ x.2.1) (v i)))) ((rfM vT aS aH vM aN vS aX vL vP vW aR vR aD vF aW aI aQ (nA (sv1 i (2 ^ x.2.1) w)) vB)) := by
            have h := congrArg (fun z => (bI (!Nat.beq (z &&& 2 ^ x.2.1) z))) hwi
            rw [eP, sh_1 (show x.2.1 < 31 by omega), ← (h : bI (!Nat.beq (w i &&& 2 ^ x.2.1) (w i)) = bI (!Nat.beq (v i &&& 2 ^ x.2.1) (v i)))]
            exact m_keeps hi9 hok (p2_lt hp4)
          have f80 : ∀ b' : Bool, b' = chgB v (sv1 i (2 ^ x.2.1) w) → P 80 [some (.ref 0), some (.int (nI k)), some (.int (nI x.2.2)), some (.int (plI x)), none, some (.int (nI i)), some (.int (bI true))] [.int (bI b')] ((rfM vT aS aH vM aN vS aX vL vP vW aR vR aD vF aW aI aQ (nA (sv1 i (2 ^ x.2.1) w)) vB)) := by
            intro b' hb'
            refine hP _ _ _ _ ?_; (conv => whnf)
            exact t129 true b' _ (Or.inr (by omega)) (s129 true (Or.inr (by omega)) b' _ hb' ew)
          refine b1 x.1 rfl (by omega) (fun (q : ¬ x.1 = 0) => absurd h0 q) (fun _ => ?_); (conv => whnf)
          refine ⟨Nat.le_of_ble_eq_true rfl, rfl, ?_⟩; (conv => whnf)
          refine Or.inl ⟨_, _, hkk, ?_⟩; (conv => whnf)
          cases hb3 : Nat.beq (v i &&& 2 ^ x.2.1) (v i) with
          | false =>
            refine b1 1 rfl (by omega) (fun _ => ?_) (fun (q : ¬ ¬ 1 = 0) => by omega)
            refine hP _ _ _ _ ?_; (conv => whnf)
            exact f80 true (by rw [hst2, hb3]; rfl)
          | true =>
            refine b1 0 rfl (by omega) (fun (q : ¬ 0 = 0) => by omega) (fun _ => ?_); (conv => whnf)
            cases b with
            | true =>
              refine b1 1 rfl (by omega) (fun (q : 1 = 0) => by omega) (fun _ => ?_); (conv => whnf)
              refine hP _ _ _ _ ?_; (conv => whnf)
              exact f80 true (by rw [hst2, hb3]; rfl)
            | false =>
              refine b1 0 rfl (by omega) (fun _ => ?_) (fun (q : ¬ 0 = 0) => by omega)
              refine hP _ _ _ _ ?_; (conv => whnf)
              exact f80 false (by rw [hst2, hb3]; rfl)
        · refine b1 x.1 rfl (by omega) (fun _ => ?_) (fun (q : ¬ ¬ x.1 = 0) => absurd h0 q)
          by_cases h13 : x.1 = 1 ∨ x.1 = 3
          · have eP : plI x = nI x.2.1 := ep (by omega)
            have hg := gC_los h13
            have ew : sv1 i (15 - 2 ^ x.2.1) w = wC x (i + 1) v := by rw [hw2]; unfold wC; rw [hg]; exact sv1_map hcnd
            rw [hg] at hst
            have hst2 : chgB v (sv1 i (15 - 2 ^ x.2.1) w) = (!Nat.beq (v i &&& (15 - 2 ^ x.2.1)) (v i) || b) := by rw [ew, hb, hw2]; unfold wC; rw [hg]; exact hst
            have hkk : Cl (d + 3) kX6_loses [.ref 0, .int (nI i), .int (plI x)] ((rfM vT aS aH vM aN vS aX vL vP vW aR vR aD vF aW aI aQ (nA w) vB)) (rV (bI (!Nat.beq (v i &&& (15 - 2 ^ x.2.1)) (v i)))) ((rfM vT aS aH vM aN vS aX vL vP vW aR vR aD vF aW aI aQ (nA (sv1 i (15 - 2 ^ x.2.1) w)) vB)) := by
              have h := congrArg (fun z => (bI (!Nat.beq (z &&& (15 - 2 ^ x.2.1)) z))) hwi
              rw [eP, ← (h : bI (!Nat.beq (w i &&& (15 - 2 ^ x.2.1)) (w i)) = bI (!Nat.beq (v i &&& (15 - 2 ^ x.2.1)) (v i)))]
              exact m_loses (d := d + 1) hi9 hok hp4
            have f127 : ∀ b' : Bool, b' = chgB v (sv1 i (15 - 2 ^ x.2.1) w) → P 127 [some (.ref 0), some (.int (nI k)), some (.int (nI x.2.2)), some (.int (plI x)), none, some (.int (nI i)), some (.int (bI true))] [.int (bI b')] ((rfM vT aS aH vM aN vS aX vL vP vW aR vR aD vF aW aI aQ (nA (sv1 i (15 - 2 ^ x.2.1) w)) vB)) := by
              intro b' hb'
              refine hP _ _ _ _ ?_; (conv => whnf)
              exact s129 true (Or.inr (by omega)) b' _ hb' ew
            have f107 : P 107 [some (.ref 0), some (.int (nI k)), some (.int (nI x.2.2)), some (.int (plI x)), some (.int (bI b)), some (.int (nI i)), some (.int (bI true))] [] ((rfM vT aS aH vM aN vS aX vL vP vW aR vR aD vF aW aI aQ (nA w) vB)) := by
              refine hP _ _ _ _ ?_; (conv => whnf)
              refine ⟨Nat.le_of_ble_eq_true rfl, rfl, ?_⟩; (conv => whnf)
              refine Or.inl ⟨_, _, hkk, ?_⟩; (conv => whnf)
              cases hb3 : Nat.beq (v i &&& (15 - 2 ^ x.2.1)) (v i) with
              | false =>
                refine b1 1 rfl (by omega) (fun _ => ?_) (fun (q : ¬ ¬ 1 = 0) => by omega)
                refine hP _ _ _ _ ?_; (conv => whnf)
                exact f127 true (by rw [hst2, hb3]; rfl)
              | true =>
                refine b1 0 rfl (by omega) (fun (q : ¬ 0 = 0) => by omega) (fun _ => ?_); (conv => whnf)
                cases b with
                | true =>
                  refine b1 1 rfl (by omega) (fun (q : 1 = 0) => by omega) (fun _ => ?_); (conv => whnf)
                  refine hP _ _ _ _ ?_; (conv => whnf)
                  exact f127 true (by rw [hst2, hb3]; rfl)
                | false =>
                  refine b1 0 rfl (by omega) (fun _ => ?_) (fun (q : ¬ 0 = 0) => by omega)
                  refine hP _ _ _ _ ?_; (conv => whnf)
                  exact f127 false (by rw [hst2, hb3]; rfl)
            show P 82 [some (.ref 0), some (.int (nI k)), some (.int (nI x.2.2)), some (.int (plI x)), some (.int (bI b)), some (.int (nI i)), some (.int (bI true))] [] ((rfM vT aS aH vM aN vS aX vL vP vW aR vR aD vF aW aI aQ (nA w) vB))
            refine hP _ _ _ _ ?_; (conv => whnf)
            refine b1 1 rfl (by omega) (fun (q : 1 = 0) => by omega) (fun _ => ?_); (conv => whnf)
            refine ⟨Nat.le_of_ble_eq_true rfl, rfl, ?_⟩; (conv => whnf)
            refine Or.inl ⟨_, _, o0 w, ?_⟩; (conv => whnf)
            refine b2 x.1 1 rfl rfl (by omega) (by omega) (fun _ => f107) (fun (q : ¬ x.1 = 1) => ?_); (conv => whnf)
            refine ⟨Nat.le_of_ble_eq_true rfl, rfl, ?_⟩; (conv => whnf)
            refine Or.inl ⟨_, _, o0 w, ?_⟩; (conv => whnf)
            refine b2 x.1 3 rfl rfl (by omega) (by omega) (fun (q2 : ¬ x.1 = 3) => by omega) (fun _ => ?_); (conv => whnf)
            exact f107
          · refine t129 true b w (Or.inr (by omega)) ?_
            by_cases h5 : x.1 = 5
            · have h3 := e53 (by omega)
              have hg := gC_and (x := x) (Or.inr h5)
              rw [h3] at hg
              have ew : sv1 i 8 w = wC x (i + 1) v := by rw [hw2]; unfold wC; rw [hg]; exact sv1_map hcnd
              rw [hg] at hst
              have hst2 : chgB v (sv1 i 8 w) = (!Nat.beq (v i &&& 8) (v i) || b) := by rw [ew, hb, hw2]; unfold wC; rw [hg]; exact hst
              have hkk : Cl (d + 3) kX6_keeps [.ref 0, .int (nI i), .int (nI 8)] ((rfM vT aS aH vM aN vS aX vL vP vW aR vR aD vF aW aI aQ (nA w) vB)) (rV (bI (!Nat.beq (v i &&& 8) (v i)))) ((rfM vT aS aH vM aN vS aX vL vP vW aR vR aD vF aW aI aQ (nA (sv1 i 8 w)) vB)) := by
                have h := congrArg (fun z => (bI (!Nat.beq (z &&& 8) z))) hwi
                rw [← (h : bI (!Nat.beq (w i &&& 8) (w i)) = bI (!Nat.beq (v i &&& 8) (v i)))]
                exact m_keeps hi9 hok (by decide)
              have f165 : ∀ b' : Bool, b' = chgB v (sv1 i 8 w) → P 165 [some (.ref 0), some (.int (nI k)), some (.int (nI x.2.2)), some (.int (plI x)), none, some (.int (nI i)), none] [.int (bI b')] ((rfM vT aS aH vM aN vS aX vL vP vW aR vR aD vF aW aI aQ (nA (sv1 i 8 w)) vB)) := by
                intro b' hb'
                refine hP _ _ _ _ ?_; (conv => whnf)
                exact s167 b' _ hb' ew
              refine hP _ _ _ _ ?_; (conv => whnf)
              refine b1 1 rfl (by omega) (fun (q : 1 = 0) => by omega) (fun _ => ?_); (conv => whnf)
              refine ⟨Nat.le_of_ble_eq_true rfl, rfl, ?_⟩; (conv => whnf)
              refine Or.inl ⟨_, _, o0 w, ?_⟩; (conv => whnf)
              refine b2 x.1 5 rfl rfl (by omega) (by omega) (fun (q : ¬ x.1 = 5) => absurd h5 q) (fun _ => ?_); (conv => whnf)
              refine ⟨Nat.le_of_ble_eq_true rfl, rfl, ?_⟩; (conv => whnf)
              refine Or.inl ⟨_, _, hkk, ?_⟩; (conv => whnf)
              cases hb3 : Nat.beq (v i &&& 8) (v i) with
              | false =>
                refine b1 1 rfl (by omega) (fun _ => ?_) (fun (q : ¬ ¬ 1 = 0) => by omega)
                refine hP _ _ _ _ ?_; (conv => whnf)
                exact f165 true (by rw [hst2, hb3]; rfl)
              | true =>
                refine b1 0 rfl (by omega) (fun (q : ¬ 0 = 0) => by omega) (fun _ => ?_); (conv => whnf)
                cases b with
                | true =>
                  refine b1 1 rfl (by omega) (fun (q : 1 = 0) => by omega) (fun _ => ?_); (conv => whnf)
                  refine hP _ _ _ _ ?_; (conv => whnf)
                  exact f165 true (by rw [hst2, hb3]; rfl)
                | false =>
                  refine b1 0 rfl (by omega) (fun _ => ?_) (fun (q : ¬ 0 = 0) => by omega)
                  refine hP _ _ _ _ ?_; (conv => whnf)
                  exact f165 false (by rw [hst2, hb3]; rfl)
            · have h24 : x.1 = 2 ∨ x.1 = 4 := by omega
              have ew : w = wC x (i + 1) v := by rw [hw2, wC_id h24, wC_id h24]
              exact s129 true (Or.inr h5) b w hb ew
  (conv => whnf)
  exact lp 9 0 _ false v rfl rfl (chgB_refl v).symm (mapI_0 _ _ _).symm
end M11
