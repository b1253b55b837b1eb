/-! the reference: what is left, surveyed -/
def zer (n : Nat) (f : IA) : IA := fun j => if j < n then nI 0 else f j
theorem zer_0 (f : IA) : zer 0 f = f := by
  funext j; exact if_neg (Nat.not_lt_zero j)
theorem zer_s (n : Nat) (f : IA) : upd (zer n f) n (nI 0) = zer (n + 1) f := by
  funext j
  unfold upd zer
  by_cases hj : j = n
  · subst hj; rw [if_pos rfl, if_pos (Nat.lt_succ_self _)]
  · rw [if_neg hj]
    by_cases hl : j < n
    · rw [if_pos hl, if_pos (by omega)]
    · rw [if_neg hl, if_neg (by omega)]
def svY (vF : Int32) (aW aI aQ : IA) (cl : List rl_C) : Prop := vF = nI (dT cl) ∧ (∀ c p, c < 9 → p < 4 → aW (4 * c + p) = nI (dCA cl c p)) ∧ (∀ t, t < 27 → aI t = nI (dIE cl t)) ∧ (∀ p t, p < 3 → t < 27 → aQ (27 * p + t) = nI (wnN cl p t))
theorem cnt_2 (cl : List rl_C) (hc : ∀ y ∈ cl, clX y) (hl : cl.length ≤ 20) (q : Nat → Bool) : dq_2.countP (fun x => goQf cl 20 x && q x) = dq_D.countP (fun x => isA cl x && q x) := by
  rw [go2]
  exact cnt_congr _ (fun x hx => by rw [goQ_A hx hc hl])
section M6
variable {d : Nat} {vT vM vS vL vP vW vR vF vB : Int32} {aS aH aN aX aR aD aW aI aQ aL : IA} {cl : List rl_C}
theorem m_surveys (hc : clS aS cl) : ∃ (hd : IA) (lf : Int32) (lw li lp : IA), Cl (d + 5) kX6_surveys [.ref 0] ((rfM vT aS aH vM aN vS aX vL vP vW aR vR aD vF aW aI aQ aL vB)) (.inl none) ((rfM vT aS aH vM aN vS aX vL vP vW aR vR hd lf lw li lp aL vB)) ∧ svY lf lw li lp cl := by
  obtain ⟨r, N, ⟨rfl, hd, lf, lw, li, lp, ⟨g1, g2, g3, g4⟩, rfl⟩, hg⟩ := m_goes0 (d := d) (vT := vT) (aS := aS) (aH := aH) (vM := vM) (aN := aN) (vS := vS) (aX := aX) (vL := vL) (vP := vP) (vW := vW) (aR := aR) (vR := vR) (aD := aD) (vF := nI 0) (aW := zer 36 aW) (aI := zer 27 aI) (aQ := zer 81 aQ) (aL := aL) (vB := vB) (cl := cl) (w := 20) (wi := cst (-1)) (cts := true) hc (Or.inl ⟨rfl, rfl⟩)
    ⟨rfl, fun c p hc hp => if_pos (by omega), fun t ht => if_pos ht, fun p t hp ht => if_pos (by omega)⟩
  have hX := hc.2.2.1
  have hl := hc.2.1
  refine ⟨hd, lf, lw, li, lp, ?_, ?_, fun c p hc' hp => ?_, fun t ht => ?_, fun p t hp ht => ?_⟩
  · have hg : Cl (d + 4) kX6_goes [.ref 0, .int (cst (-1)), .int (nI 1)] ((rfM vT aS aH vM aN vS aX vL vP vW aR vR aD (nI 0) (zer 36 aW) (zer 27 aI) (zer 81 aQ) aL vB)) (rV (nI (dq_2.countP (goQf cl 20)))) ((rfM vT aS aH vM aN vS aX vL vP vW aR vR hd lf lw li lp aL vB)) := hg
    refine Cl_go e_X6_surveys (Nat.le_of_ble_eq_true rfl) rfl ?_; intro P hP; refine hP _ _ _ _ ?_; (conv => whnf)
    refine ⟨⟨rfl, rfl⟩, ?_⟩; (conv => whnf)
    have l3 : ∀ (n j : Nat) (x : Int32) (N : Mem), j + n = 81 → x = nI j → N = (rfM vT aS aH vM aN vS aX vL vP vW aR vR aD (nI 0) (zer 36 aW) (zer 27 aI) (zer j aQ) aL vB) → P 49 [some (.ref 0), some (.int x)] [] N := by
      intro n
      induction n with
      | zero =>
        intro j x N hj hx hN
        have hj : j = 81 := hj
        subst hN
        subst hj
        refine hP _ _ _ _ ?_; (conv => whnf)
        refine b2 81 81 hx rfl (by omega) (by omega) (fun _ => ?_) (fun (q : ¬ 81 ≤ 81) => by omega)
        refine hP _ _ _ _ ?_; (conv => whnf)
        refine ⟨Nat.le_of_ble_eq_true rfl, rfl, ?_⟩; (conv => whnf)
        refine Or.inl ⟨_, _, hg, ?_⟩; (conv => whnf)
        exact ⟨rfl, rfl, rfl, rfl⟩
      | succ n ih =>
        intro j x N hj hx hN
        subst hN
        subst hx
        refine hP _ _ _ _ ?_; (conv => whnf)
        refine b2 j 81 rfl rfl (by omega) (by omega) (fun (q : 81 ≤ j) => by omega) (fun _ => ?_); (conv => whnf)
        refine ⟨vi rfl (show j < 81 by omega) (by decide), ?_⟩; (conv => whnf)
        refine ih (j + 1) _ _ (by omega) (nI_1 j) ?_
        have e9 : upd (zer j aQ) (nI j).toNatClampNeg (nI 0) = zer (j + 1) aQ := by rw [nI_clamp (show j < 2 ^ 31 by omega)]; exact zer_s j aQ
        rw [← e9]
        rfl
    have l2 : ∀ (n j : Nat) (x : Int32) (N : Mem), j + n = 27 → x = nI j → N = (rfM vT aS aH vM aN vS aX vL vP vW aR vR aD (nI 0) (zer 36 aW) (zer j aI) aQ aL vB) → P 28 [some (.ref 0), some (.int x)] [] N := by
      intro n
      induction n with
      | zero =>
        intro j x N hj hx hN
        have hj : j = 27 := hj
        subst hN
        subst hj
        refine hP _ _ _ _ ?_; (conv => whnf)
        refine b2 27 27 hx rfl (by omega) (by omega) (fun _ => ?_) (fun (q : ¬ 27 ≤ 27) => by omega)
        refine hP _ _ _ _ ?_; (conv => whnf)
        exact l3 81 0 _ _ rfl rfl (by rw [zer_0])
      | succ n ih =>
        intro j x N hj hx hN
        subst hN
        subst hx
        refine hP _ _ _ _ ?_; (conv => whnf)
        refine b2 j 27 rfl rfl (by omega) (by omega) (fun (q : 27 ≤ j) => by omega) (fun _ => ?_); (conv => whnf)
        refine ⟨vi rfl (show j < 27 by omega) (by decide), ?_⟩; (conv => whnf)
        refine ih (j + 1) _ _ (by omega) (nI_1 j) ?_
        have e9 : upd (zer j aI) (nI j).toNatClampNeg (nI 0) = zer (j + 1) aI := by rw [nI_clamp (show j < 2 ^ 31 by omega)]; exact zer_s j aI
        rw [← e9]
        rfl
    have l1 : ∀ (n j : Nat) (x : Int32) (N : Mem), j + n = 36 → x = nI j → N = (rfM vT aS aH vM aN vS aX vL vP vW aR vR aD (nI 0) (zer j aW) aI aQ aL vB) → P 7 [some (.ref 0), some (.int x)] [] N := by
      intro n
      induction n with
      | zero =>
        intro j x N hj hx hN
        have hj : j = 36 := hj
        subst hN
        subst hj
        refine hP _ _ _ _ ?_; (conv => whnf)
        refine b2 36 36 hx rfl (by omega) (by omega) (fun _ => ?_) (fun (q : ¬ 36 ≤ 36) => by omega)
        refine hP _ _ _ _ ?_; (conv => whnf)
        exact l2 27 0 _ _ rfl rfl (by rw [zer_0])
      | succ n ih =>
        intro j x N hj hx hN
        subst hN
        subst hx
        refine hP _ _ _ _ ?_; (conv => whnf)
        refine b2 j 36 rfl rfl (by omega) (by omega) (fun (q : 36 ≤ j) => by omega) (fun _ => ?_); (conv => whnf)
        refine ⟨vi rfl (show j < 36 by omega) (by decide), ?_⟩; (conv => whnf)
        refine ih (j + 1) _ _ (by omega) (nI_1 j) ?_
        have e9 : upd (zer j aW) (nI j).toNatClampNeg (nI 0) = zer (j + 1) aW := by rw [nI_clamp (show j < 2 ^ 31 by omega)]; exact zer_s j aW
        rw [← e9]
        rfl
    exact l1 36 0 _ _ rfl rfl (by rw [zer_0]; rfl)
  · show lf = _
    rw [g1, go2]
    exact congrArg nI (goN_T hX hl)
  · show lw _ = _
    rw [g2 c p hc' hp, cnt_2 cl hX hl]; rfl
  · show li _ = _
    rw [g3 t ht, cnt_2 cl hX hl]; rfl
  · show lp _ = _
    rw [g4 p t hp ht, cnt_2 cl hX hl]; rfl
theorem m_certain (hs : svY vF aW aI aQ cl) {c : Nat} (hc : c < 9) : Cl (d + 1) kX6_certain [.ref 0, .int (nI c)] ((rfM vT aS aH vM aN vS aX vL vP vW aR vR aD vF aW aI aQ aL vB)) (rV (splG (dT cl) (dCA cl c) 4 0)) ((rfM vT aS aH vM aN vS aX vL vP vW aR vR aD vF aW aI aQ aL vB)) := by
  have hT := dT31 cl
  rw [← crt_spl (fun p q hp hq h0 h1 h2 => dCA_one hc hp hq h0 h1 h2)]
  refine Cl_go e_X6_certain (Nat.le_of_ble_eq_true rfl) rfl ?_; intro P hP; refine hP _ _ _ _ ?_; (conv => whnf)
  have lp : ∀ (n i : Nat) (x y : Int32), i + n = 4 → x = nI i → y = crtG (dT cl) (dCA cl c) i → P 4 [some (.ref 0), some (.int (nI c)), some (.int y), some (.int x)] [] ((rfM vT aS aH vM aN vS aX vL vP vW aR vR aD vF aW aI aQ aL vB)) := by
    intro n
    induction n with
    | zero =>
      intro i x y hi hx hy
      have hi : i = 4 := hi
      subst hi
      refine hP _ _ _ _ ?_; (conv => whnf)
      refine b2 4 4 hx rfl (by omega) (by omega) (fun _ => ?_) (fun (q : ¬ 4 ≤ 4) => by omega)
      refine hP _ _ _ _ ?_; (conv => whnf)
      exact ⟨rfl, ⟨.int, rfl, rfl⟩, rI (hy), rfl⟩
    | succ n ih =>
      intro i x y hi hx hy
      subst hx
      have hi4 : i < 4 := by omega
      have ex : cst 4 * nI c + nI i = nI (4 * c + i) := by rw [show cst 4 = nI 4 from rfl, pk_mul, nI_add]
      have ev : aW (cst 4 * nI c + nI i).toNatClampNeg = nI (dCA cl c i) := by rw [ex, nI_clamp (by omega)]; exact hs.2.1 c i hc hi4
      have hle := dCA_le cl c i
      have no : ¬ (0 < dT cl ∧ dCA cl c i = dT cl) → P 37 [some (.ref 0), some (.int (nI c)), some (.int y), some (.int (nI i))] [] ((rfM vT aS aH vM aN vS aX vL vP vW aR vR aD vF aW aI aQ aL vB)) := by
        intro q
        refine hP _ _ _ _ ?_; (conv => whnf)
        refine hP _ _ _ _ ?_; (conv => whnf)
        refine ih (i + 1) _ _ (by omega) (nI_1 i) ?_
        show y = if 0 < dT cl ∧ dCA cl c i = dT cl then nI i else crtG (dT cl) (dCA cl c) i
        rw [if_neg q, hy]
      refine hP _ _ _ _ ?_; (conv => whnf)
      refine b2 i 4 rfl rfl (by omega) (by omega) (fun (q : 4 ≤ i) => by omega) (fun _ => ?_); (conv => whnf)
      refine b1 (dT cl) hs.1 hT (fun (q : dT cl ≤ 0) => no (by omega)) (fun (q : ¬ dT cl ≤ 0) => ?_); (conv => whnf)
      refine ⟨vi (n := 4 * c + i) ex (by omega) (by decide), ?_⟩; (conv => whnf)
      refine b2 (dCA cl c i) (dT cl) ev hs.1 (by omega) hT (fun (q : ¬ dCA cl c i = dT cl) => no (by omega)) (fun (q2 : ¬ ¬ dCA cl c i = dT cl) => ?_); (conv => whnf)
      refine hP _ _ _ _ ?_; (conv => whnf)
      refine ih (i + 1) _ _ (by omega) (nI_1 i) ?_
      show nI i = if 0 < dT cl ∧ dCA cl c i = dT cl then nI i else crtG (dT cl) (dCA cl c) i
      rw [if_pos (by omega)]
  exact lp 4 0 _ _ rfl rfl rfl
theorem spl_m1 (T : Nat) (f : NA) : (splG T f 4 0 = cst (-1)) ↔ spB T f = false := by
  rcases splG_val T f 4 0 with ⟨e, k⟩ | ⟨p, h1, h2, h3, h4, h5⟩
  · refine ⟨fun _ => ?_, fun _ => e⟩
    unfold spB
    cases h0 : Nat.blt 0 T with
    | false => rfl
    | true =>
      have h0 : 0 < T := Nat.le_of_ble_eq_true h0
      rw [Bool.true_and, List.any_eq_false]
      intro p hp hq
      exact k p (by omega) (by have := List.mem_range.mp hp; omega) ⟨h0, Nat.eq_of_beq_eq_true hq⟩
  · refine ⟨fun h => ?_, fun h => ?_⟩
    · rw [h5] at h
      exact absurd h (nI_m1 (by omega))
    · unfold spB at h
      rw [show Nat.blt 0 T = true from Nat.ble_eq_true_of_le h3, Bool.true_and, List.any_eq_false] at h
      exact absurd (nbt h4) (h p (List.mem_range.mpr (by omega)))
theorem m_certainMany (hs : svY vF aW aI aQ cl) : Cl (d + 2) kX6_certainMany [.ref 0] ((rfM vT aS aH vM aN vS aX vL vP vW aR vR aD vF aW aI aQ aL vB)) (rV (nI (cntN (fun c => spB (dT cl) (dCA cl c)) 9))) ((rfM vT aS aH vM aN vS aX vL vP vW aR vR aD vF aW aI aQ aL vB)) := by
  refine Cl_go e_X6_certainMany (Nat.le_of_ble_eq_true rfl) rfl ?_; intro P hP; refine hP _ _ _ _ ?_; (conv => whnf)
  have lp : ∀ (n i : Nat) (x y : Int32), i + n = 9 → x = nI i → y = nI (cntN (fun c => spB (dT cl) (dCA cl c)) i) → P 4 [some (.ref 0), some (.int y), some (.int x)] [] ((rfM vT aS aH vM aN vS aX vL vP vW aR vR aD vF aW aI aQ aL vB)) := by
    intro n
    induction n with
    | zero =>
      intro i x y hi hx hy
      have hi : i = 9 := hi
      subst hi
      refine hP _ _ _ _ ?_; (conv => whnf)
      refine b2 9 9 hx rfl (by omega) (by omega) (fun _ => ?_) (fun (q : ¬ 9 ≤ 9) => by omega)
      refine hP _ _ _ _ ?_; (conv => whnf)
      exact ⟨rfl, ⟨.int, rfl, rfl⟩, rI (hy), rfl⟩
    | succ n ih =>
      intro i x y hi hx hy
      subst hx
      have hi9 : i < 9 := by omega
      refine hP _ _ _ _ ?_; (conv => whnf)
      refine b2 i 9 rfl rfl (by omega) (by omega) (fun (q : 9 ≤ i) => by omega) (fun _ => ?_); (conv => whnf)
      refine ⟨Nat.le_of_ble_eq_true rfl, rfl, ?_⟩; (conv => whnf)
      refine Or.inl ⟨_, _, m_certain (d := d) hs hi9, ?_⟩; (conv => whnf)
      refine ⟨fun (q : ¬ splG (dT cl) (dCA cl i) 4 0 = cst (-1)) => ?_, fun (q : ¬ ¬ splG (dT cl) (dCA cl i) 4 0 = cst (-1)) => ?_⟩
      · have hb : spB (dT cl) (dCA cl i) = true := by
          cases hb : spB (dT cl) (dCA cl i) with
          | true => rfl
          | false => exact absurd ((spl_m1 _ _).mpr hb) q
        refine hP _ _ _ _ ?_; (conv => whnf)
        refine hP _ _ _ _ ?_; (conv => whnf)
        exact ih (i + 1) _ _ (by omega) (nI_1 i) (by rw [hy]; exact cntN_t (p := fun c => spB (dT cl) (dCA cl c)) hb)
      · have hb := (spl_m1 _ _).mp (Decidable.of_not_not q)
        (conv => whnf)
        refine hP _ _ _ _ ?_; (conv => whnf)
        exact ih (i + 1) _ _ (by omega) (nI_1 i) (by rw [hy]; exact cntN_f (p := fun c => spB (dT cl) (dCA cl c)) hb)
  exact lp 9 0 _ _ rfl rfl rfl
theorem m_envelopeMany (hs : svY vF aW aI aQ cl) : Cl (d + 1) kX6_envelopeMany [.ref 0] ((rfM vT aS aH vM aN vS aX vL vP vW aR vR aD vF aW aI aQ aL vB)) (rV (nI (cntN (fun t => Nat.blt 0 (dIE cl t)) 27))) ((rfM vT aS aH vM aN vS aX vL vP vW aR vR aD vF aW aI aQ aL vB)) := by
  refine Cl_go e_X6_envelopeMany (Nat.le_of_ble_eq_true rfl) rfl ?_; intro P hP; refine hP _ _ _ _ ?_; (conv => whnf)
  have lp : ∀ (n i : Nat) (x y : Int32), i + n = 27 → x = nI i → y = nI (cntN (fun t => Nat.blt 0 (dIE cl t)) i) → P 4 [some (.ref 0), some (.int y), some (.int x)] [] ((rfM vT aS aH vM aN vS aX vL vP vW aR vR aD vF aW aI aQ aL vB)) := by
    intro n
    induction n with
    | zero =>
      intro i x y hi hx hy
      have hi : i = 27 := hi
      subst hi
      refine hP _ _ _ _ ?_; (conv => whnf)
      refine b2 27 27 hx rfl (by omega) (by omega) (fun _ => ?_) (fun (q : ¬ 27 ≤ 27) => by omega)
      refine hP _ _ _ _ ?_; (conv => whnf)
      exact ⟨rfl, ⟨.int, rfl, rfl⟩, rI (hy), rfl⟩
    | succ n ih =>
      intro i x y hi hx hy
      subst hx
      have hi27 : i < 27 := by omega
      have ev : aI (nI i).toNatClampNeg = nI (dIE cl i) := by rw [nI_clamp (by omega)]; exact hs.2.2.1 i hi27
      have hlt := Nat.lt_of_le_of_lt (dIE_le cl i) (dT31 cl)
      refine hP _ _ _ _ ?_; (conv => whnf)
      refine b2 i 27 rfl rfl (by omega) (by omega) (fun (q : 27 ≤ i) => by omega) (fun _ => ?_); (conv => whnf)
      refine ⟨vi rfl hi27 (by decide), ?_⟩; (conv => whnf)
      refine b1 (dIE cl i) ev hlt (fun (q : dIE cl i ≤ 0) => ?_) (fun (q : ¬ dIE cl i ≤ 0) => ?_)
      · refine hP _ _ _ _ ?_; (conv => whnf)
        refine hP _ _ _ _ ?_; (conv => whnf)
        exact ih (i + 1) _ _ (by omega) (nI_1 i) (by rw [hy]; exact cntN_f (p := fun t => Nat.blt 0 (dIE cl t)) (ble_f (by omega)))
      · (conv => whnf)
        refine hP _ _ _ _ ?_; (conv => whnf)
        exact ih (i + 1) _ _ (by omega) (nI_1 i) (by rw [hy]; exact cntN_t (p := fun t => Nat.blt 0 (dIE cl t)) (Nat.ble_eq_true_of_le (by omega)))
  exact lp 27 0 _ _ rfl rfl rfl
theorem m_mayMany (hs : svY vF aW aI aQ cl) : Cl (d + 1) kX6_mayMany [.ref 0] ((rfM vT aS aH vM aN vS aX vL vP vW aR vR aD vF aW aI aQ aL vB)) (rV (nI (cntN (fun j => Nat.blt 0 (dCA cl (j / 4) (j % 4))) 36))) ((rfM vT aS aH vM aN vS aX vL vP vW aR vR aD vF aW aI aQ aL vB)) := by
  refine Cl_go e_X6_mayMany (Nat.le_of_ble_eq_true rfl) rfl ?_; intro P hP; refine hP _ _ _ _ ?_; (conv => whnf)
  have lp : ∀ (n i : Nat) (x y : Int32), i + n = 36 → x = nI i → y = nI (cntN (fun j => Nat.blt 0 (dCA cl (j / 4) (j % 4))) i) → P 4 [some (.ref 0), some (.int y), some (.int x)] [] ((rfM vT aS aH vM aN vS aX vL vP vW aR vR aD vF aW aI aQ aL vB)) := by
    intro n
    induction n with
    | zero =>
      intro i x y hi hx hy
      have hi : i = 36 := hi
      subst hi
      refine hP _ _ _ _ ?_; (conv => whnf)
      refine b2 36 36 hx rfl (by omega) (by omega) (fun _ => ?_) (fun (q : ¬ 36 ≤ 36) => by omega)
      refine hP _ _ _ _ ?_; (conv => whnf)
      exact ⟨rfl, ⟨.int, rfl, rfl⟩, rI (hy), rfl⟩
    | succ n ih =>
      intro i x y hi hx hy
      subst hx
      have hi36 : i < 36 := by omega
      have e := hs.2.1 (i / 4) (i % 4) (by omega) (by omega)
      rw [show 4 * (i / 4) + i % 4 = i by omega] at e
      have ev : aW (nI i).toNatClampNeg = nI (dCA cl (i / 4) (i % 4)) := by rw [nI_clamp (by omega)]; exact e
      have hlt := Nat.lt_of_le_of_lt (dCA_le cl (i / 4) (i % 4)) (dT31 cl)
      refine hP _ _ _ _ ?_; (conv => whnf)
      refine b2 i 36 rfl rfl (by omega) (by omega) (fun (q : 36 ≤ i) => by omega) (fun _ => ?_); (conv => whnf)
      refine ⟨vi rfl hi36 (by decide), ?_⟩; (conv => whnf)
      refine b1 (dCA cl (i / 4) (i % 4)) ev hlt (fun (q : dCA cl (i / 4) (i % 4) ≤ 0) => ?_) (fun (q : ¬ dCA cl (i / 4) (i % 4) ≤ 0) => ?_)
      · refine hP _ _ _ _ ?_; (conv => whnf)
        refine hP _ _ _ _ ?_; (conv => whnf)
        exact ih (i + 1) _ _ (by omega) (nI_1 i) (by rw [hy]; exact cntN_f (p := fun j => Nat.blt 0 (dCA cl (j / 4) (j % 4))) (ble_f (by omega)))
      · (conv => whnf)
        refine hP _ _ _ _ ?_; (conv => whnf)
        exact ih (i + 1) _ _ (by omega) (nI_1 i) (by rw [hy]; exact cntN_t (p := fun j => Nat.blt 0 (dCA cl (j / 4) (j % 4))) (Nat.ble_eq_true_of_le (by omega)))
  exact lp 36 0 _ _ rfl rfl rfl
theorem m_bestIn (hs : svY vF aW aI aQ cl) : Cl (d + 1) kX6_bestIn [.ref 0] ((rfM vT aS aH vM aN vS aX vL vP vW aR vR aD vF aW aI aQ aL vB)) (rV (nI (amx (dIE cl) 26))) ((rfM vT aS aH vM aN vS aX vL vP vW aR vR aD vF aW aI aQ aL vB)) := by
  refine Cl_go e_X6_bestIn (Nat.le_of_ble_eq_true rfl) rfl ?_; intro P hP; refine hP _ _ _ _ ?_; (conv => whnf)
  have lp : ∀ (n i : Nat) (x y : Int32), i + n = 26 → x = nI (i + 1) → y = nI (amx (dIE cl) i) → P 4 [some (.ref 0), some (.int y), some (.int x)] [] ((rfM vT aS aH vM aN vS aX vL vP vW aR vR aD vF aW aI aQ aL vB)) := by
    intro n
    induction n with
    | zero =>
      intro i x y hi hx hy
      have hi : i = 26 := hi
      subst hi
      refine hP _ _ _ _ ?_; (conv => whnf)
      refine b2 27 27 hx rfl (by omega) (by omega) (fun _ => ?_) (fun (q : ¬ 27 ≤ 27) => by omega)
      refine hP _ _ _ _ ?_; (conv => whnf)
      exact ⟨rfl, ⟨.int, rfl, rfl⟩, rI (hy), rfl⟩
    | succ n ih =>
      intro i x y hi hx hy
      subst hx
      subst hy
      have hi26 : i + 1 < 27 := by omega
      have ha := amx_le (dIE cl) i
      have ev : aI (nI (i + 1)).toNatClampNeg = nI (dIE cl (i + 1)) := by rw [nI_clamp (by omega)]; exact hs.2.2.1 _ hi26
      have ev2 : aI (nI (amx (dIE cl) i)).toNatClampNeg = nI (dIE cl (amx (dIE cl) i)) := by rw [nI_clamp (by omega)]; exact hs.2.2.1 _ (by omega)
      have h1 := Nat.lt_of_le_of_lt (dIE_le cl (i + 1)) (dT31 cl)
      have h2 := Nat.lt_of_le_of_lt (dIE_le cl (amx (dIE cl) i)) (dT31 cl)
      refine hP _ _ _ _ ?_; (conv => whnf)
      refine b2 (i + 1) 27 rfl rfl (by omega) (by omega) (fun (q : 27 ≤ i + 1) => by omega) (fun _ => ?_); (conv => whnf)
      refine ⟨vi rfl hi26 (by decide), ?_⟩; (conv => whnf)
      refine ⟨vi rfl (show amx (dIE cl) i < 27 by omega) (by decide), ?_⟩; (conv => whnf)
      refine b2 (dIE cl (i + 1)) (dIE cl (amx (dIE cl) i)) ev ev2 h1 h2 (fun (q : dIE cl (i + 1) ≤ dIE cl (amx (dIE cl) i)) => ?_) (fun (q : ¬ dIE cl (i + 1) ≤ dIE cl (amx (dIE cl) i)) => ?_)
      · refine hP _ _ _ _ ?_; (conv => whnf)
        refine hP _ _ _ _ ?_; (conv => whnf)
        refine ih (i + 1) _ _ (by omega) (nI_1 (i + 1)) ?_
        show _ = nI (if dIE cl (amx (dIE cl) i) < dIE cl (i + 1) then i + 1 else amx (dIE cl) i)
        rw [if_neg (by omega)]
      · (conv => whnf)
        refine hP _ _ _ _ ?_; (conv => whnf)
        refine ih (i + 1) _ _ (by omega) (nI_1 (i + 1)) ?_
        show _ = nI (if dIE cl (amx (dIE cl) i) < dIE cl (i + 1) then i + 1 else amx (dIE cl) i)
        rw [if_pos (by omega)]
  exact lp 26 0 _ _ rfl rfl rfl
theorem lv_a {T n : Nat} (h : n ≤ T - n) : T - n = lvs T n := by
  unfold lvs
  split <;> omega
theorem lv_b {T n : Nat} (h : ¬ n ≤ T - n) : n = lvs T n := by
  unfold lvs
  split <;> omega
theorem m_leaves (hs : svY vF aW aI aQ cl) {p t : Nat} (hp : p < 3) (ht : t < 27) : Cl (d + 1) kX6_leaves [.ref 0, .int (nI p), .int (nI t)] ((rfM vT aS aH vM aN vS aX vL vP vW aR vR aD vF aW aI aQ aL vB)) (rV (nI (lvs (dT cl) (wnN cl p t)))) ((rfM vT aS aH vM aN vS aX vL vP vW aR vR aD vF aW aI aQ aL vB)) := by
  have hle := wnN_le cl p t
  have hT := dT31 cl
  have ex : cst 27 * nI p + nI t = nI (27 * p + t) := by rw [show cst 27 = nI 27 from rfl, pk_mul, nI_add]
  have ev : aQ (cst 27 * nI p + nI t).toNatClampNeg = nI (wnN cl p t) := by rw [ex, nI_clamp (by omega)]; exact hs.2.2.2 p t hp ht
  have e2 : vF - aQ (cst 27 * nI p + nI t).toNatClampNeg = nI (dT cl - wnN cl p t) := by rw [ev, hs.1, pk_sub hle]
  refine Cl_go e_X6_leaves (Nat.le_of_ble_eq_true rfl) rfl ?_; intro P hP; refine hP _ _ _ _ ?_; (conv => whnf)
  refine ⟨vi (n := 27 * p + t) ex (by omega) (by decide), ?_⟩; (conv => whnf)
  refine b2 (wnN cl p t) (dT cl - wnN cl p t) ev e2 (by omega) (by omega) (fun (q : wnN cl p t ≤ dT cl - wnN cl p t) => ?_) (fun (q : ¬ wnN cl p t ≤ dT cl - wnN cl p t) => ?_)
  · refine hP _ _ _ _ ?_; (conv => whnf)
    refine hP _ _ _ _ ?_; (conv => whnf)
    exact ⟨rfl, ⟨.int, rfl, rfl⟩, rI (e2.trans (congrArg nI (lv_a q))), rfl⟩
  · (conv => whnf)
    refine hP _ _ _ _ ?_; (conv => whnf)
    exact ⟨rfl, ⟨.int, rfl, rfl⟩, rI (ev.trans (congrArg nI (lv_b q))), rfl⟩
theorem m_bestFor (hs : svY vF aW aI aQ cl) {p : Nat} (hp : p < 3) : Cl (d + 2) kX6_bestFor [.ref 0, .int (nI p)] ((rfM vT aS aH vM aN vS aX vL vP vW aR vR aD vF aW aI aQ aL vB)) (rV (nI (amn (fun t => lvs (dT cl) (wnN cl p t)) 26))) ((rfM vT aS aH vM aN vS aX vL vP vW aR vR aD vF aW aI aQ aL vB)) := by
  have hb : ∀ t, lvs (dT cl) (wnN cl p t) < 2 ^ 31 := by
    intro t
    have h1 := wnN_le cl p t
    have h2 := dT31 cl
    unfold lvs
    split <;> omega
  refine Cl_go e_X6_bestFor (Nat.le_of_ble_eq_true rfl) rfl ?_; intro P hP; refine hP _ _ _ _ ?_; (conv => whnf)
  have lp : ∀ (n i : Nat) (x y : Int32), i + n = 26 → x = nI (i + 1) → y = nI (amn (fun t => lvs (dT cl) (wnN cl p t)) i) → P 4 [some (.ref 0), some (.int (nI p)), some (.int y), some (.int x)] [] ((rfM vT aS aH vM aN vS aX vL vP vW aR vR aD vF aW aI aQ aL vB)) := by
    intro n
    induction n with
    | zero =>
      intro i x y hi hx hy
      have hi : i = 26 := hi
      subst hi
      refine hP _ _ _ _ ?_; (conv => whnf)
      refine b2 27 27 hx rfl (by omega) (by omega) (fun _ => ?_) (fun (q : ¬ 27 ≤ 27) => by omega)
      refine hP _ _ _ _ ?_; (conv => whnf)
      exact ⟨rfl, ⟨.int, rfl, rfl⟩, rI (hy), rfl⟩
    | succ n ih =>
      intro i x y hi hx hy
      subst hx
      subst hy
      have hi26 : i + 1 < 27 := by omega
      have ha := amn_le (fun t => lvs (dT cl) (wnN cl p t)) i
      refine hP _ _ _ _ ?_; (conv => whnf)
      refine b2 (i + 1) 27 rfl rfl (by omega) (by omega) (fun (q : 27 ≤ i + 1) => by omega) (fun _ => ?_); (conv => whnf)
      refine ⟨Nat.le_of_ble_eq_true rfl, rfl, ?_⟩; (conv => whnf)
      refine Or.inl ⟨_, _, m_leaves (d := d) hs hp hi26, ?_⟩; (conv => whnf)
      refine ⟨Nat.le_of_ble_eq_true rfl, rfl, ?_⟩; (conv => whnf)
      refine Or.inl ⟨_, _, m_leaves (d := d) hs hp (show amn (fun t => lvs (dT cl) (wnN cl p t)) i < 27 by omega), ?_⟩; (conv => whnf)
      refine b2 (lvs (dT cl) (wnN cl p (i + 1))) (lvs (dT cl) (wnN cl p (amn (fun t => lvs (dT cl) (wnN cl p t)) i))) rfl rfl (hb _) (hb _) (fun (q : lvs (dT cl) (wnN cl p (amn (fun t => lvs (dT cl) (wnN cl p t)) i)) ≤ lvs (dT cl) (wnN cl p (i + 1))) => ?_) (fun (q : ¬ lvs (dT cl) (wnN cl p (amn (fun t => lvs (dT cl) (wnN cl p t)) i)) ≤ lvs (dT cl) (wnN cl p (i + 1))) => ?_)
      · refine hP _ _ _ _ ?_; (conv => whnf)
        refine hP _ _ _ _ ?_; (conv => whnf)
        refine ih (i + 1) _ _ (by omega) (nI_1 (i + 1)) ?_
        show _ = nI (if lvs (dT cl) (wnN cl p (i + 1)) < lvs (dT cl) (wnN cl p (amn (fun t => lvs (dT cl) (wnN cl p t)) i)) then i + 1 else amn (fun t => lvs (dT cl) (wnN cl p t)) i)
        rw [if_neg (by omega)]
      · (conv => whnf)
        refine hP _ _ _ _ ?_; (conv => whnf)
        refine ih (i + 1) _ _ (by omega) (nI_1 (i + 1)) ?_
        show _ = nI (if lvs (dT cl) (wnN cl p (i + 1)) < lvs (dT cl) (wnN cl p (amn (fun t => lvs (dT cl) (wnN cl p t)) i)) then i + 1 else amn (fun t => lvs (dT cl) (wnN cl p t)) i)
        rw [if_pos (by omega)]
  exact lp 26 0 _ _ rfl rfl rfl
theorem m_idleMany (hc : clS aS cl) : ∃ hd, Cl (d + 5) kX6_idleMany [.ref 0] ((rfM vT aS aH vM aN vS aX vL vP vW aR vR aD vF aW aI aQ aL vB)) (rV (nI (cntN (fun k => Nat.beq (dT cl + dHB cl k) (dT cl)) cl.length))) ((rfM vT aS aH vM aN vS aX vL vP vW aR vR hd vF aW aI aQ aL vB)) := by
  have hX := hc.2.2.1
  have hl := hc.2.1
  have hT := dT31 cl
  suffices hh : ∃ r N, (r = rV (nI (cntN (fun k => Nat.beq (dT cl + dHB cl k) (dT cl)) cl.length)) ∧ ∃ hd, N = (rfM vT aS aH vM aN vS aX vL vP vW aR vR hd vF aW aI aQ aL vB)) ∧ Cl (d + 5) kX6_idleMany [.ref 0] ((rfM vT aS aH vM aN vS aX vL vP vW aR vR aD vF aW aI aQ aL vB)) r N by
    obtain ⟨r, N, ⟨rfl, hd, rfl⟩, h⟩ := hh
    exact ⟨hd, h⟩
  refine Cl_goQ e_X6_idleMany rfl (Nat.le_of_ble_eq_true rfl) (fun r M' q => by obtain ⟨-, hd, rfl⟩ := q; rfl) (⟨_, _, rfl, aD, rfl⟩) ?_; intro P hP; refine hP _ _ _ _ ?_; (conv => whnf)
  refine ⟨Nat.le_of_ble_eq_true rfl, rfl, ?_⟩; (conv => whnf)
  obtain ⟨hd0, hg⟩ := m_goesF (d := d) (w := 20) hc (Or.inl ⟨rfl, rfl⟩)
  rw [goN_T hX hl] at hg
  refine Or.inl ⟨_, _, hg, ?_⟩; (conv => whnf)
  have lp : ∀ (n i : Nat) (x y : Int32) (hd : IA), i + n = cl.length → x = nI i → y = nI (cntN (fun k => Nat.beq (dT cl + dHB cl k) (dT cl)) i) → P 11 [some (.ref 0), some (.int (nI (dT cl))), some (.int y), some (.int x)] [] ((rfM vT aS aH vM aN vS aX vL vP vW aR vR hd vF aW aI aQ aL vB)) := by
    intro n
    induction n with
    | zero =>
      intro i x y hd hi hx hy
      have hi : i = cl.length := hi
      refine hP _ _ _ _ ?_; (conv => whnf)
      refine ⟨vi (n := 0) rfl (by decide) (by decide), ?_⟩; (conv => whnf)
      refine b2 i cl.length hx hc.1 (by omega) (by omega) (fun _ => ?_) (fun (q : ¬ cl.length ≤ i) => by omega)
      refine hP _ _ _ _ ?_; (conv => whnf)
      rw [hi] at hy
      exact ⟨rfl, ⟨.int, rfl, rfl⟩, by rw [hy], hd, rfl⟩
    | succ n ih =>
      intro i x y hd hi hx hy
      subst hx
      have hil : i < cl.length := by omega
      obtain ⟨hd1, hg1⟩ := m_goesF (d := d) (vT := vT) (aS := aS) (aH := aH) (vM := vM) (aN := aN) (vS := vS) (aX := aX) (vL := vL) (vP := vP) (vW := vW) (aR := aR) (vR := vR) (aD := hd) (vF := vF) (aW := aW) (aI := aI) (aQ := aQ) (aL := aL) (vB := vB) (w := i) (cl := cl) hc (Or.inr ⟨rfl, by omega⟩)
      rw [goN_K hX hil] at hg1
      have hHB := dHB_le cl i
      have hle := dT_le cl
      refine hP _ _ _ _ ?_; (conv => whnf)
      refine ⟨vi (n := 0) rfl (by decide) (by decide), ?_⟩; (conv => whnf)
      refine b2 i cl.length rfl hc.1 (by omega) (by omega) (fun (q : cl.length ≤ i) => by omega) (fun _ => ?_); (conv => whnf)
      refine ⟨Nat.le_of_ble_eq_true rfl, rfl, ?_⟩; (conv => whnf)
      refine Or.inl ⟨_, _, hg1, ?_⟩; (conv => whnf)
      refine b2 (dT cl + dHB cl i) (dT cl) rfl rfl (by omega) hT (fun (q : ¬ dT cl + dHB cl i = dT cl) => ?_) (fun (q : ¬ ¬ dT cl + dHB cl i = dT cl) => ?_)
      · refine hP _ _ _ _ ?_; (conv => whnf)
        refine hP _ _ _ _ ?_; (conv => whnf)
        exact ih (i + 1) _ _ hd1 (by omega) (nI_1 i) (by rw [hy]; exact cntN_f (p := fun k => Nat.beq (dT cl + dHB cl k) (dT cl)) (nbf q))
      · (conv => whnf)
        refine hP _ _ _ _ ?_; (conv => whnf)
        exact ih (i + 1) _ _ hd1 (by omega) (nI_1 i) (by rw [hy]; exact cntN_t (p := fun k => Nat.beq (dT cl + dHB cl k) (dT cl)) (nbt (Decidable.of_not_not q)))
  exact lp cl.length 0 _ _ hd0 (Nat.zero_add _) rfl rfl
end M6
