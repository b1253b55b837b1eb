/-! the reference: rules of a set of cards -/
theorem nA_c {v : NA} {c : Nat} (h : c < 9) : nA v (nI c).toNatClampNeg = nI (v c) := by rw [nI_clamp (by omega)]; rfl
theorem testBit_hi {x p : Nat} (hx : x < 16) (hp : 4 ≤ p) : x.testBit p = false := Nat.testBit_lt_two_pow (Nat.lt_of_lt_of_le hx (Nat.pow_le_pow_right (n := 2) (by decide) hp))
section M9
variable {d : Nat} {vT vM vS vL vP vW vR vF vB : Int32} {aS aH aN aX aR aD aW aI aQ aL : IA} {cl : List rl_C} {v : NA}
theorem m_loses {c p : Nat} (hc : c < 9) (hv : rl_ok v) (hp : p < 4) : Cl (d + 2) kX6_loses [.ref 0, .int (nI c), .int (nI p)] ((rfM vT aS aH vM aN vS aX vL vP vW aR vR aD vF aW aI aQ (nA v) vB)) (rV (bI (!Nat.beq (v c &&& (15 - 2 ^ p)) (v c)))) ((rfM vT aS aH vM aN vS aX vL vP vW aR vR aD vF aW aI aQ (nA (sv1 c (15 - 2 ^ p) v)) vB)) := by
  have hk : Cl (d + 1) kX6_keeps [.ref 0, .int (nI c), .int (nI 15 &&& (nI 1 <<< (nI p &&& 31) ^^^ cst (-1)))] ((rfM vT aS aH vM aN vS aX vL vP vW aR vR aD vF aW aI aQ (nA v) vB)) (rV (bI (!Nat.beq (v c &&& (15 - 2 ^ p)) (v c)))) ((rfM vT aS aH vM aN vS aX vL vP vW aR vR aD vF aW aI aQ (nA (sv1 c (15 - 2 ^ p) v)) vB)) := by
    rw [l15 hp]; exact m_keeps hc hv (Nat.lt_of_le_of_lt (Nat.sub_le _ _) (by decide))
  refine Cl_go e_X6_loses (Nat.le_of_ble_eq_true rfl) rfl ?_; intro P hP; refine hP _ _ _ _ ?_; (conv => whnf)
  refine ⟨Nat.le_of_ble_eq_true rfl, rfl, ?_⟩; (conv => whnf)
  refine Or.inl ⟨_, _, hk, ?_⟩; (conv => whnf)
  exact ⟨rfl, ⟨.boolean, rfl, b01⟩, rfl, rfl⟩
theorem m_mayLie {c p : Nat} (hc : c < 9) (hv : rl_ok v) (hp : p < 9) : Cl (d + 1) kX6_mayLie [.ref 0, .int (nI c), .int (nI p)] ((rfM vT aS aH vM aN vS aX vL vP vW aR vR aD vF aW aI aQ (nA v) vB)) (rV (bI ((v c).testBit p))) ((rfM vT aS aH vM aN vS aX vL vP vW aR vR aD vF aW aI aQ (nA v) vB)) := by
  have hvc := hv c hc
  have e : (nA v (nI c).toNatClampNeg >>> (nI p &&& 31)) &&& nI 1 = nI (bif (v c).testBit p then 1 else 0) := by rw [nA_c hc, shr_bit (by omega) hp]
  refine Cl_go e_X6_mayLie (Nat.le_of_ble_eq_true rfl) rfl ?_; intro P hP; refine hP _ _ _ _ ?_; (conv => whnf)
  refine ⟨vi rfl hc (by decide), ?_⟩; (conv => whnf)
  cases hb : (v c).testBit p with
  | true =>
    refine b2 1 1 (e.trans (by rw [hb]; rfl)) rfl (by omega) (by omega) (fun (q : ¬ 1 = 1) => by omega) (fun _ => ?_); (conv => whnf)
    refine hP _ _ _ _ ?_; (conv => whnf)
    exact ⟨rfl, ⟨.boolean, rfl, rfl⟩, rI (by rw [hb]; rfl), rfl⟩
  | false =>
    refine b2 0 1 (e.trans (by rw [hb]; rfl)) rfl (by omega) (by omega) (fun _ => ?_) (fun (q : ¬ ¬ 0 = 1) => by omega)
    refine hP _ _ _ _ ?_; (conv => whnf)
    refine hP _ _ _ _ ?_; (conv => whnf)
    exact ⟨rfl, ⟨.boolean, rfl, rfl⟩, rI (by rw [hb]; rfl), rfl⟩
theorem m_isOnly {c p : Nat} (hc : c < 9) (hv : rl_ok v) (hp : p < 4) : Cl (d + 1) kX6_isOnly [.ref 0, .int (nI c), .int (nI p)] ((rfM vT aS aH vM aN vS aX vL vP vW aR vR aD vF aW aI aQ (nA v) vB)) (rV (bI (v c == 2 ^ p))) ((rfM vT aS aH vM aN vS aX vL vP vW aR vR aD vF aW aI aQ (nA v) vB)) := by
  have hvc := hv c hc
  have h2 := p2_lt hp
  refine Cl_go e_X6_isOnly (Nat.le_of_ble_eq_true rfl) rfl ?_; intro P hP; refine hP _ _ _ _ ?_; (conv => whnf)
  refine ⟨vi rfl hc (by decide), ?_⟩; (conv => whnf)
  refine b2 (v c) (2 ^ p) (nA_c hc) (sh_1 (by omega)) (by omega) (by omega) (fun (q : ¬ v c = 2 ^ p) => ?_) (fun (q : ¬ ¬ v c = 2 ^ p) => ?_)
  · refine hP _ _ _ _ ?_; (conv => whnf)
    refine hP _ _ _ _ ?_; (conv => whnf)
    exact ⟨rfl, ⟨.boolean, rfl, rfl⟩, rI (by rw [beq_false_of_ne q]; rfl), rfl⟩
  · (conv => whnf)
    refine hP _ _ _ _ ?_; (conv => whnf)
    exact ⟨rfl, ⟨.boolean, rfl, rfl⟩, rI (by rw [Decidable.of_not_not q, beq_self_eq_true]; rfl), rfl⟩
/-- how many have a place, or it only -/
def cnB (o : Bool) (v : NA) (cards place c : Nat) : Bool := bif o then rl_inO v cards place c else rl_inP v cards place c
theorem m_counts {o : Bool} {s p : Nat} (hs : s < 512) (hv : rl_ok v) (hp : p < 4) : Cl (d + 2) kX6_counts [.ref 0, .int (nI s), .int (nI p), .int (bI o)] ((rfM vT aS aH vM aN vS aX vL vP vW aR vR aD vF aW aI aQ (nA v) vB)) (rV (nI (cntN (cnB o v s p) 9))) ((rfM vT aS aH vM aN vS aX vL vP vW aR vR aD vF aW aI aQ (nA v) vB)) := by
  refine Cl_go e_X6_counts (Nat.le_of_ble_eq_true rfl) rfl ?_; intro P hP; refine hP _ _ _ _ ?_; (conv => whnf)
  have lp : ∀ (n i : Nat) (x y : Int32), i + n = 9 → x = nI i → y = nI (cntN (cnB o v s p) i) → P 6 [some (.ref 0), some (.int (nI s)), some (.int (nI p)), some (.int (bI o)), some (.int y), some (.int x), none] [] ((rfM vT aS aH vM aN vS aX vL vP vW aR vR aD vF aW aI aQ (nA v) vB)) := by
    intro n
    induction n with
    | zero =>
      intro i x y hi hx hy
      have hi : i = 9 := hi
      subst hi
      refine hP _ _ _ _ ?_; (conv => whnf)
      refine b2 9 9 hx rfl (by omega) (by omega) (fun _ => ?_) (fun (q : ¬ 9 ≤ 9) => by omega)
      refine hP _ _ _ _ ?_; (conv => whnf)
      exact ⟨rfl, ⟨.int, rfl, rfl⟩, rI (hy), rfl⟩
    | succ n ih =>
      intro i x y hi hx hy
      subst hx
      have hi9 : i < 9 := by omega
      have jn : ∀ b : Bool, cnB o v s p i = (s.testBit i && b) → P 34 [some (.ref 0), some (.int (nI s)), some (.int (nI p)), some (.int (bI o)), some (.int y), some (.int (nI i)), none] [.int (bI b)] ((rfM vT aS aH vM aN vS aX vL vP vW aR vR aD vF aW aI aQ (nA v) vB)) := by
        intro b hb
        refine hP _ _ _ _ ?_; (conv => whnf)
        cases b with
        | true =>
          rw [Bool.and_true] at hb
          refine b1 1 rfl (by omega) (fun (q : 1 = 0) => by omega) (fun _ => ?_); (conv => whnf)
          refine hP _ _ _ _ ?_; (conv => whnf)
          refine ih (i + 1) _ _ (by omega) (nI_1 i) ?_
          have e : y + (nI s >>> (nI i &&& 31) &&& nI 1) = nI (cntN (cnB o v s p) (i + 1)) := by
            rw [shr_bit hs hi9, hy]
            cases hb2 : s.testBit i with
            | true => rw [hb2] at hb; exact cntN_t hb
            | false => rw [hb2] at hb; exact cntN_f hb
          exact e
        | false =>
          rw [Bool.and_false] at hb
          refine b1 0 rfl (by omega) (fun _ => ?_) (fun (q : ¬ 0 = 0) => by omega)
          refine hP _ _ _ _ ?_; (conv => whnf)
          refine hP _ _ _ _ ?_; (conv => whnf)
          refine ih (i + 1) _ _ (by omega) (nI_1 i) ?_
          rw [hy]; exact cntN_f hb
      refine hP _ _ _ _ ?_; (conv => whnf)
      refine b2 i 9 rfl rfl (by omega) (by omega) (fun (q : 9 ≤ i) => by omega) (fun _ => ?_); (conv => whnf)
      cases o with
      | true =>
        refine b1 1 rfl (by omega) (fun (q : 1 = 0) => by omega) (fun _ => ?_); (conv => whnf)
        refine ⟨Nat.le_of_ble_eq_true rfl, rfl, ?_⟩; (conv => whnf)
        refine Or.inl ⟨_, _, m_isOnly (d := d) hi9 hv hp, ?_⟩
        exact jn _ rfl
      | false =>
        refine b1 0 rfl (by omega) (fun _ => ?_) (fun (q : ¬ 0 = 0) => by omega)
        refine hP _ _ _ _ ?_; (conv => whnf)
        refine ⟨Nat.le_of_ble_eq_true rfl, rfl, ?_⟩; (conv => whnf)
        refine Or.inl ⟨_, _, m_mayLie (d := d) hi9 hv (show p < 9 by omega), ?_⟩
        exact jn _ rfl
  exact lp 9 0 _ _ rfl rfl rfl
theorem m_fixes {s p : Nat} (hs : s < 512) (hv : rl_ok v) (hp : p < 4) : Cl (d + 2) kX6_fixes [.ref 0, .int (nI s), .int (nI p)] ((rfM vT aS aH vM aN vS aX vL vP vW aR vR aD vF aW aI aQ (nA v) vB)) (rV (bI (chgB v (rl_fix s p v)))) ((rfM vT aS aH vM aN vS aX vL vP vW aR vR aD vF aW aI aQ (nA (rl_fix s p v)) vB)) := by
  refine Cl_go e_X6_fixes (Nat.le_of_ble_eq_true rfl) rfl ?_; intro P hP; refine hP _ _ _ _ ?_; (conv => whnf)
  have lp : ∀ (n i : Nat) (x : Int32) (b : Bool) (N : Mem), i + n = 9 → x = nI i → b = chgB v (mapI i (rl_inP v s p) (fun x => x &&& 2 ^ p) v) → N = (rfM vT aS aH vM aN vS aX vL vP vW aR vR aD vF aW aI aQ (nA (mapI i (rl_inP v s p) (fun x => x &&& 2 ^ p) v)) vB) → P 5 [some (.ref 0), some (.int (nI s)), some (.int (nI p)), some (.int (bI b)), some (.int x)] [] N := by
    intro n
    induction n with
    | zero =>
      intro i x b N hi hx hb hN
      have hi : i = 9 := hi
      subst hi
      subst hN
      refine hP _ _ _ _ ?_; (conv => whnf)
      refine b2 9 9 hx rfl (by omega) (by omega) (fun _ => ?_) (fun (q : ¬ 9 ≤ 9) => by omega)
      refine hP _ _ _ _ ?_; (conv => whnf)
      exact ⟨rfl, ⟨.boolean, rfl, b01⟩, rI (congrArg bI hb), rfl⟩
    | succ n ih =>
      intro i x b N hi hx hb hN
      subst hx
      subst hN
      have hi9 : i < 9 := by omega
      have hw := mapI_le (cond := rl_inP v s p) (and_g (2 ^ p)) i hv
      have hwi : mapI i (rl_inP v s p) (fun x => x &&& 2 ^ p) v i = v i := mapI_i _ _ _ _
      have no : rl_inP v s p i = false → P 54 [some (.ref 0), some (.int (nI s)), some (.int (nI p)), some (.int (bI b)), some (.int (nI i))] [] ((rfM vT aS aH vM aN vS aX vL vP vW aR vR aD vF aW aI aQ (nA (mapI i (rl_inP v s p) (fun x => x &&& 2 ^ p) v)) vB)) := by
        intro q
        refine hP _ _ _ _ ?_; (conv => whnf)
        refine ih (i + 1) _ b _ (by omega) (nI_1 i) ?_ ?_
        · rw [← mapI_f q]; exact hb
        · rw [← mapI_f q]
      have f53 : rl_inP v s p i = true → ∀ b' : Bool, b' = (!Nat.beq (v i &&& 2 ^ p) (v i) || b) → P 53 [some (.ref 0), some (.int (nI s)), some (.int (nI p)), none, some (.int (nI i))] [.int (bI b')] ((rfM vT aS aH vM aN vS aX vL vP vW aR vR aD vF aW aI aQ (nA (sv1 i (2 ^ p) (mapI i (rl_inP v s p) (fun x => x &&& 2 ^ p) v))) vB)) := by
        intro hc b' hb'
        refine hP _ _ _ _ ?_; (conv => whnf)
        refine hP _ _ _ _ ?_; (conv => whnf)
        refine ih (i + 1) _ b' _ (by omega) (nI_1 i) ?_ ?_
        · rw [chg_step hi9 hc, hb', hb]
        · rw [sv1_map hc]
      refine hP _ _ _ _ ?_; (conv => whnf)
      refine b2 i 9 rfl rfl (by omega) (by omega) (fun (q : 9 ≤ i) => by omega) (fun _ => ?_); (conv => whnf)
      have e : (nI s >>> (nI i &&& 31)) &&& nI 1 = nI (bif s.testBit i then 1 else 0) := shr_bit hs hi9
      cases hb1 : s.testBit i with
      | false =>
        refine b2 0 1 (e.trans (by rw [hb1]; rfl)) rfl (by omega) (by omega) (fun _ => ?_) (fun (q : ¬ ¬ 0 = 1) => by omega)
        exact no (by unfold rl_inP; rw [hb1]; rfl)
      | true =>
        refine b2 1 1 (e.trans (by rw [hb1]; rfl)) rfl (by omega) (by omega) (fun (q : ¬ 1 = 1) => by omega) (fun _ => ?_); (conv => whnf)
        refine ⟨Nat.le_of_ble_eq_true rfl, rfl, ?_⟩; (conv => whnf)
        have hml : Cl (d + 1) kX6_mayLie [.ref 0, .int (nI i), .int (nI p)] ((rfM vT aS aH vM aN vS aX vL vP vW aR vR aD vF aW aI aQ (nA (mapI i (rl_inP v s p) (fun x => x &&& 2 ^ p) v)) vB)) (rV (bI ((v i).testBit p))) ((rfM vT aS aH vM aN vS aX vL vP vW aR vR aD vF aW aI aQ (nA (mapI i (rl_inP v s p) (fun x => x &&& 2 ^ p) v)) vB)) := by
          have h := congrArg (fun z => (bI (z.testBit p))) hwi
          rw [← (h : bI (((mapI i (rl_inP v s p) (fun x => x &&& 2 ^ p) v) i).testBit p) = bI ((v i).testBit p))]
          exact m_mayLie hi9 hw.1 (show p < 9 by omega)
        refine Or.inl ⟨_, _, hml, ?_⟩; (conv => whnf)
        cases hb2 : (v i).testBit p with
        | false =>
          refine b1 0 rfl (by omega) (fun _ => ?_) (fun (q : ¬ 0 = 0) => by omega)
          exact no (by unfold rl_inP; rw [hb2, Bool.and_false])
        | true =>
          have hc : rl_inP v s p i = true := by unfold rl_inP; rw [hb1, hb2]; rfl
          refine b1 1 rfl (by omega) (fun (q : 1 = 0) => by omega) (fun _ => ?_); (conv => whnf)
          refine ⟨Nat.le_of_ble_eq_true rfl, rfl, ?_⟩; (conv => whnf)
          have hkk : Cl (d + 1) kX6_keeps [.ref 0, .int (nI i), .int (nI 1 <<< (nI p &&& 31))] ((rfM vT aS aH vM aN vS aX vL vP vW aR vR aD vF aW aI aQ (nA (mapI i (rl_inP v s p) (fun x => x &&& 2 ^ p) v)) vB)) (rV (bI (!Nat.beq (v i &&& 2 ^ p) (v i)))) ((rfM vT aS aH vM aN vS aX vL vP vW aR vR aD vF aW aI aQ (nA (sv1 i (2 ^ p) (mapI i (rl_inP v s p) (fun x => x &&& 2 ^ p) v))) vB)) := by
            have h := congrArg (fun z => (bI (!Nat.beq (z &&& 2 ^ p) z))) hwi
            rw [sh_1 (show p < 31 by omega), ← (h : bI (!Nat.beq ((mapI i (rl_inP v s p) (fun x => x &&& 2 ^ p) v) i &&& 2 ^ p) ((mapI i (rl_inP v s p) (fun x => x &&& 2 ^ p) v) i)) = bI (!Nat.beq (v i &&& 2 ^ p) (v i)))]
            exact m_keeps hi9 hw.1 (p2_lt hp)
          refine Or.inl ⟨_, _, hkk, ?_⟩; (conv => whnf)
          cases hb3 : Nat.beq (v i &&& 2 ^ p) (v i) with
          | false =>
            refine b1 1 rfl (by omega) (fun _ => ?_) (fun (q : ¬ ¬ 1 = 0) => by omega)
            refine hP _ _ _ _ ?_; (conv => whnf)
            exact f53 hc true (by rw [hb3]; rfl)
          | true =>
            refine b1 0 rfl (by omega) (fun (q : ¬ 0 = 0) => by omega) (fun _ => ?_); (conv => whnf)
            cases b with
            | true =>
              refine b1 1 rfl (by omega) (fun (q : 1 = 0) => by omega) (fun _ => ?_)
              (conv => whnf)
              refine hP _ _ _ _ ?_; (conv => whnf)
              exact f53 hc true (by rw [hb3]; rfl)
            | false =>
              refine b1 0 rfl (by omega) (fun _ => ?_) (fun (q : ¬ 0 = 0) => by omega)
              refine hP _ _ _ _ ?_; (conv => whnf)
              exact f53 hc false (by rw [hb3]; rfl)
  exact lp 9 0 _ false _ rfl rfl (by rw [mapI_0, chgB_refl]) (by rw [mapI_0])
end M9
