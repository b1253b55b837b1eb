/-! the reference: whether a deal agrees with clues -/
set_option maxRecDepth 100000 in
theorem shr_all : (List.range 512).all (fun x => (List.range 9).all (fun c => decide ((nI x >>> (nI c &&& 31)) &&& nI 1 = nI (bif x.testBit c then 1 else 0)))) = true := by decide +kernel
theorem shr_bit {x c : Nat} (hx : x < 512) (hc : c < 9) : (nI x >>> (nI c &&& 31)) &&& nI 1 = nI (bif x.testBit c then 1 else 0) :=
  of_decide_eq_true (List.all_eq_true.mp (List.all_eq_true.mp shr_all x (List.mem_range.mpr hx)) c (List.mem_range.mpr hc))
/-- a clue of the works: of the envelope's kinds its cards are a triple -/
def clX (x : rl_C) : Prop := clOK x ∧ (4 ≤ x.1 → ∃ t, t < 27 ∧ x.2.2 = dq_mask t)
/-- clues as the reference keeps them -/
def clS (f : IA) (cl : List rl_C) : Prop := f 0 = nI cl.length ∧ cl.length ≤ 20 ∧ (∀ x ∈ cl, clX x) ∧ ∀ (i : Nat) (x : rl_C), cl[i]? = some x → f (12 + 3 * i) = nI x.1 ∧ f (13 + 3 * i) = plI x ∧ f (14 + 3 * i) = nI x.2.2
/-- a hand's part in a clue, as the reference looks -/
def agM (x : rl_C) (h : Nat) : Bool :=
  if x.1 = 0 ∨ x.1 = 2 then !Nat.beq (h &&& x.2.2) 0
  else if x.1 = 1 ∨ x.1 = 3 then Nat.beq (h &&& x.2.2) 0
  else if x.1 = 4 then !Nat.beq h x.2.2
  else Nat.beq h x.2.2
theorem mask_and_all : (List.range 27).all (fun s => (List.range 27).all (fun t => Nat.beq (dq_mask s &&& dq_mask t) (dq_mask t) == Nat.beq (dq_mask s) (dq_mask t))) = true := by decide +kernel
theorem agM_eq {x : rl_C} {h : Nat} (hx : clX x) (hh : 4 ≤ x.1 → ∃ t, t < 27 ∧ h = dq_mask t) : agM x h = agN x (h &&& x.2.2) := by
  unfold agM agN
  by_cases h0 : x.1 = 0 ∨ x.1 = 2
  · rw [if_pos h0, if_pos h0]
  · by_cases h1 : x.1 = 1 ∨ x.1 = 3
    · rw [if_neg h0, if_neg h0, if_pos h1, if_pos h1]
    · obtain ⟨t, ht, e1⟩ := hx.2 (by omega)
      obtain ⟨s, hs, e2⟩ := hh (by omega)
      have e := List.all_eq_true.mp (List.all_eq_true.mp mask_and_all s (List.mem_range.mpr hs)) t (List.mem_range.mpr ht)
      rw [if_neg h0, if_neg h0, if_neg h1, if_neg h1, e1, e2, eq_of_beq e]
theorem nI_m1 {n : Nat} (h : n < 2 ^ 31) : ¬ nI n = cst (-1) := by
  intro q
  have q := congrArg Int32.toInt q
  rw [nI_toInt h] at q
  have h2 : (cst (-1)).toInt = -1 := by decide
  omega
section M2
variable {d : Nat} {vT vM vS vL vP vW vR vF vB : Int32} {aS aH aN aX aR aD aW aI aQ aL : IA}
theorem m_bits {x : Nat} (hx : x < 512) : Cl (d + 1) kX6_bits [.int (nI x)] [] (rV (nI (pcN x))) [] := by
  refine Cl_go e_X6_bits (Nat.le_of_ble_eq_true rfl) rfl ?_; intro P hP; refine hP _ _ _ _ ?_; (conv => whnf)
  have lp : ∀ (k i : Nat) (y z : Int32), i + k = 9 → y = nI i → z = nI (cntN (fun c => x.testBit c) i) → P 4 [some (.int (nI x)), some (.int z), some (.int y)] [] [] := by
    intro k
    induction k with
    | zero =>
      intro i y z hi hy hz
      refine hP _ _ _ _ ?_; (conv => whnf)
      refine b2 i 9 hy rfl (by omega) (by omega) (fun _ => ?_) (fun (q : ¬ 9 ≤ i) => by omega)
      refine hP _ _ _ _ ?_; (conv => whnf)
      have h9 : i = 9 := by omega
      exact ⟨rfl, ⟨.int, rfl, rfl⟩, rI (by rw [hz, h9]; rfl), rfl⟩
    | succ k ih =>
      intro i y z hi hy hz
      subst hy
      refine hP _ _ _ _ ?_; (conv => whnf)
      refine b2 i 9 rfl rfl (by omega) (by omega) (fun (q : 9 ≤ i) => by omega) (fun _ => ?_); (conv => whnf)
      refine ih (i + 1) _ _ (by omega) (nI_1 i) ?_
      show z + ((nI x >>> (nI i &&& 31)) &&& nI 1) = _
      rw [shr_bit hx (by omega), hz]
      cases hb : x.testBit i with
      | true => exact cntN_t (p := fun c => x.testBit c) hb
      | false => exact cntN_f (p := fun c => x.testBit c) hb
  exact lp 9 0 _ _ rfl rfl rfl
theorem m_agrees {cl : List rl_C} {k : Nat} {x : rl_C} {h : Nat → Nat} (hc : clS aS cl) (hk : cl[k]? = some x) (hh : ∀ p, p < 4 → aD p = nI (h p) ∧ h p < 512) :
    Cl (d + 2) kX6_agrees [.ref 0, .int (nI k)] ((rfM vT aS aH vM aN vS aX vL vP vW aR vR aD vF aW aI aQ aL vB)) (rV (bI (agM x (h x.2.1)))) ((rfM vT aS aH vM aN vS aX vL vP vW aR vR aD vF aW aI aQ aL vB)) := by
  have hkl : k < cl.length := (List.getElem?_eq_some_iff.mp hk).1
  have hk20 : k < 20 := Nat.lt_of_lt_of_le hkl hc.2.1
  have hx := hc.2.2.1 x (List.mem_of_getElem? hk)
  obtain ⟨e1, e2, e3⟩ := hc.2.2.2 k x hk
  have ok := hx.1
  have hm512 : x.2.2 < 512 := ok.1.2.2.1
  have hp4 : x.2.1 < 4 := ok.1.2.1
  have hk6 : x.1 < 6 := ok.1.1
  obtain ⟨f1, f2⟩ := hh x.2.1 hp4
  have o0 : Cl (d + 1) kX6_of [.ref 0, .int (nI k), .int (nI 0)] ((rfM vT aS aH vM aN vS aX vL vP vW aR vR aD vF aW aI aQ aL vB)) (rV (nI x.1)) ((rfM vT aS aH vM aN vS aX vL vP vW aR vR aD vF aW aI aQ aL vB)) := by rw [← e1]; exact m_of (w := 0) hk20 (by decide)
  have o1 : Cl (d + 1) kX6_of [.ref 0, .int (nI k), .int (nI 1)] ((rfM vT aS aH vM aN vS aX vL vP vW aR vR aD vF aW aI aQ aL vB)) (rV (plI x)) ((rfM vT aS aH vM aN vS aX vL vP vW aR vR aD vF aW aI aQ aL vB)) := by
    rw [← e2, show 13 + 3 * k = 12 + 3 * k + 1 by omega]; exact m_of (w := 1) hk20 (by decide)
  have o2 : Cl (d + 1) kX6_of [.ref 0, .int (nI k), .int (nI 2)] ((rfM vT aS aH vM aN vS aX vL vP vW aR vR aD vF aW aI aQ aL vB)) (rV (nI x.2.2)) ((rfM vT aS aH vM aN vS aX vL vP vW aR vR aD vF aW aI aQ aL vB)) := by
    rw [← e3, show 14 + 3 * k = 12 + 3 * k + 2 by omega]; exact m_of (w := 2) hk20 (by decide)
  have hl : h x.2.1 &&& x.2.2 < 512 := Nat.lt_of_le_of_lt Nat.and_le_left f2
  have ez : (nI x.1).toInt = (x.1 : Int) := nI_toInt (by omega)
  refine Cl_go e_X6_agrees (Nat.le_of_ble_eq_true rfl) rfl ?_; intro P hP; refine hP _ _ _ _ ?_; (conv => whnf)
  refine ⟨Nat.le_of_ble_eq_true rfl, rfl, ?_⟩; (conv => whnf)
  refine Or.inl ⟨_, _, o2, ?_⟩; (conv => whnf)
  refine ⟨Nat.le_of_ble_eq_true rfl, rfl, ?_⟩; (conv => whnf)
  refine Or.inl ⟨_, _, o1, ?_⟩; (conv => whnf)
  have f37 : P 37 [some (.ref 0), some (.int (nI k)), some (.int (nI x.2.2)), none] [.int (nI (h x.2.1))] ((rfM vT aS aH vM aN vS aX vL vP vW aR vR aD vF aW aI aQ aL vB)) := by
    refine hP _ _ _ _ ?_; (conv => whnf)
    refine ⟨Nat.le_of_ble_eq_true rfl, rfl, ?_⟩; (conv => whnf)
    refine Or.inl ⟨_, _, o0, ?_⟩; (conv => whnf)
    have et : nI (h x.2.1) &&& nI x.2.2 = nI (h x.2.1 &&& x.2.2) := nI_and _ _
    have k02 : (x.1 = 0 ∨ x.1 = 2) → P 80 [none, none, some (.int (nI x.2.2)), some (.int (nI (h x.2.1)))] [] ((rfM vT aS aH vM aN vS aX vL vP vW aR vR aD vF aW aI aQ aL vB)) := by
      intro q
      refine hP _ _ _ _ ?_; (conv => whnf)
      refine b1 _ et (by omega) (fun (z : h x.2.1 &&& x.2.2 = 0) => ?_) (fun (z : ¬ h x.2.1 &&& x.2.2 = 0) => ?_)
      · refine hP _ _ _ _ ?_; (conv => whnf)
        refine hP _ _ _ _ ?_; (conv => whnf)
        exact ⟨rfl, ⟨.boolean, rfl, rfl⟩, rI (by unfold agM; rw [if_pos q, nbt z]; rfl), rfl⟩
      · (conv => whnf)
        refine hP _ _ _ _ ?_; (conv => whnf)
        exact ⟨rfl, ⟨.boolean, rfl, rfl⟩, rI (by unfold agM; rw [if_pos q, nbf z]; rfl), rfl⟩
    have k13 : (x.1 = 1 ∨ x.1 = 3) → P 92 [none, none, some (.int (nI x.2.2)), some (.int (nI (h x.2.1)))] [] ((rfM vT aS aH vM aN vS aX vL vP vW aR vR aD vF aW aI aQ aL vB)) := by
      intro q
      have q0 : ¬ (x.1 = 0 ∨ x.1 = 2) := by omega
      refine hP _ _ _ _ ?_; (conv => whnf)
      refine b1 _ et (by omega) (fun (z : ¬ h x.2.1 &&& x.2.2 = 0) => ?_) (fun (z : ¬ ¬ h x.2.1 &&& x.2.2 = 0) => ?_)
      · refine hP _ _ _ _ ?_; (conv => whnf)
        refine hP _ _ _ _ ?_; (conv => whnf)
        exact ⟨rfl, ⟨.boolean, rfl, rfl⟩, rI (by unfold agM; rw [if_neg q0, if_pos q, nbf z]; rfl), rfl⟩
      · (conv => whnf)
        refine hP _ _ _ _ ?_; (conv => whnf)
        exact ⟨rfl, ⟨.boolean, rfl, rfl⟩, rI (by unfold agM; rw [if_neg q0, if_pos q, nbt (Decidable.of_not_not z)]; rfl), rfl⟩
    refine ⟨fun q => ?_, fun q => ?_, fun q => ?_, fun q => ?_, fun q => ?_, fun q => ?_, trivial⟩
    · have q : (x.1 : Int) < 0 ∨ (4 : Int) < x.1 := by rw [← ez]; exact q
      have q5 : x.1 = 5 := by omega
      refine hP _ _ _ _ ?_; (conv => whnf)
      refine b2 (h x.2.1) x.2.2 rfl rfl (by omega) (by omega) (fun (z : ¬ h x.2.1 = x.2.2) => ?_) (fun (z : ¬ ¬ h x.2.1 = x.2.2) => ?_)
      · refine hP _ _ _ _ ?_; (conv => whnf)
        refine hP _ _ _ _ ?_; (conv => whnf)
        exact ⟨rfl, ⟨.boolean, rfl, rfl⟩, rI (by unfold agM; rw [if_neg (by omega), if_neg (by omega), if_neg (by omega), nbf z]; rfl), rfl⟩
      · (conv => whnf)
        refine hP _ _ _ _ ?_; (conv => whnf)
        exact ⟨rfl, ⟨.boolean, rfl, rfl⟩, rI (by unfold agM; rw [if_neg (by omega), if_neg (by omega), if_neg (by omega), nbt (Decidable.of_not_not z)]; rfl), rfl⟩
    · have q : (x.1 : Int) = 0 := by rw [← ez]; exact q
      exact k02 (by omega)
    · have q : (x.1 : Int) = 0 + 1 := by rw [← ez]; exact q
      exact k13 (by omega)
    · have q : (x.1 : Int) = 0 + 1 + 1 := by rw [← ez]; exact q
      exact k02 (by omega)
    · have q : (x.1 : Int) = 0 + 1 + 1 + 1 := by rw [← ez]; exact q
      exact k13 (by omega)
    · have q : (x.1 : Int) = 0 + 1 + 1 + 1 + 1 := by rw [← ez]; exact q
      refine hP _ _ _ _ ?_; (conv => whnf)
      refine b2 (h x.2.1) x.2.2 rfl rfl (by omega) (by omega) (fun (z : h x.2.1 = x.2.2) => ?_) (fun (z : ¬ h x.2.1 = x.2.2) => ?_)
      · refine hP _ _ _ _ ?_; (conv => whnf)
        refine hP _ _ _ _ ?_; (conv => whnf)
        exact ⟨rfl, ⟨.boolean, rfl, rfl⟩, rI (by unfold agM; rw [if_neg (by omega), if_neg (by omega), if_pos (by omega), nbt z]; rfl), rfl⟩
      · (conv => whnf)
        refine hP _ _ _ _ ?_; (conv => whnf)
        exact ⟨rfl, ⟨.boolean, rfl, rfl⟩, rI (by unfold agM; rw [if_neg (by omega), if_neg (by omega), if_pos (by omega), nbf z]; rfl), rfl⟩
  by_cases h3 : x.2.1 = 3
  · have e : plI x = cst (-1) := if_pos h3
    refine ⟨fun z => absurd (show plI x = cst (-1) from e) z, fun _ => ?_⟩; (conv => whnf)
    refine ⟨vi (n := 3) rfl (by decide) (by decide), ?_⟩; (conv => whnf)
    have e3 : aD 3 = nI (h x.2.1) := by rw [← f1, h3]
    rw [← e3] at f37
    exact f37
  · have e : plI x = nI x.2.1 := if_neg h3
    refine ⟨fun _ => ?_, fun z => ?_⟩
    · refine hP _ _ _ _ ?_; (conv => whnf)
      refine ⟨Nat.le_of_ble_eq_true rfl, rfl, ?_⟩; (conv => whnf)
      refine Or.inl ⟨_, _, o1, ?_⟩; (conv => whnf)
      refine ⟨vi (n := x.2.1) e hp4 (by decide), ?_⟩; (conv => whnf)
      have e3 : aD (plI x).toNatClampNeg = nI (h x.2.1) := by rw [e, nI_clamp (by omega)]; exact f1
      rw [← e3] at f37
      exact f37
    · exact absurd (show nI x.2.1 = cst (-1) from e.symm.trans (Decidable.of_not_not z)) (nI_m1 (by omega))
/-- clues but one -/
def allBut (cl : List rl_C) (h : Nat → Nat) (w : Nat) (i : Nat) : Bool := (List.range i).all (fun k => Nat.beq k w || agM (cl.getD k (0, 0, 0)) (h (cl.getD k (0, 0, 0)).2.1))
theorem m_agreesAll {cl : List rl_C} {w : Nat} {wi : Int32} {h : Nat → Nat} (hc : clS aS cl) (hw : (wi = cst (-1) ∧ w = 20) ∨ (wi = nI w ∧ w < 20)) (hh : ∀ p, p < 4 → aD p = nI (h p) ∧ h p < 512) :
    Cl (d + 3) kX6_agreesAll [.ref 0, .int wi] ((rfM vT aS aH vM aN vS aX vL vP vW aR vR aD vF aW aI aQ aL vB)) (rV (bI (allBut cl h w cl.length))) ((rfM vT aS aH vM aN vS aX vL vP vW aR vR aD vF aW aI aQ aL vB)) := by
  have hl := hc.2.1
  refine Cl_go e_X6_agreesAll (Nat.le_of_ble_eq_true rfl) rfl ?_; intro P hP; refine hP _ _ _ _ ?_; (conv => whnf)
  have out : ∀ b : Bool, b = allBut cl h w cl.length → P 43 [none, none, some (.int (bI b)), none] [] ((rfM vT aS aH vM aN vS aX vL vP vW aR vR aD vF aW aI aQ aL vB)) := by
    intro b hb
    refine hP _ _ _ _ ?_; (conv => whnf)
    exact ⟨rfl, ⟨.boolean, rfl, b01⟩, rI (by rw [hb]), rfl⟩
  have stop : ∀ (n i : Nat), allBut cl h w i = false → allBut cl h w (i + n) = false := by
    intro n i hi
    unfold allBut at hi ⊢
    rw [List.all_eq_false] at hi ⊢
    obtain ⟨k, hk, hk2⟩ := hi
    exact ⟨k, List.mem_range.mpr (by have := List.mem_range.mp hk; omega), hk2⟩
  have lp : ∀ (n i : Nat) (x : Int32) (b : Bool), x = nI i → i + n = cl.length → b = allBut cl h w i → P 4 [some (.ref 0), some (.int wi), some (.int (bI b)), some (.int x)] [] ((rfM vT aS aH vM aN vS aX vL vP vW aR vR aD vF aW aI aQ aL vB)) := by
    intro n
    induction n with
    | zero =>
      intro i x b hx hi hb
      have hi : i = cl.length := hi
      refine hP _ _ _ _ ?_; (conv => whnf)
      refine ⟨vi (n := 0) rfl (by decide) (by decide), ?_⟩; (conv => whnf)
      refine b2 i cl.length hx hc.1 (by omega) (by omega) (fun _ => ?_) (fun (q : ¬ cl.length ≤ i) => by omega)
      exact out b (by rw [hb, hi])
    | succ n ih =>
      intro i x b hx hi hb
      subst hx
      have hg : cl[i]? = some cl[i] := List.getElem?_eq_getElem (by omega)
      have hd : cl.getD i (0, 0, 0) = cl[i] := by rw [List.getD_eq_getElem?_getD, hg]; rfl
      have hs : allBut cl h w (i + 1) = (allBut cl h w i && (Nat.beq i w || agM cl[i] (h (cl[i]).2.1))) := by
        unfold allBut
        rw [List.range_succ, List.all_append]
        show (_ && ((_ || agM (cl.getD i (0, 0, 0)) _) && true)) = _
        rw [hd, Bool.and_true]
      refine hP _ _ _ _ ?_; (conv => whnf)
      refine ⟨vi (n := 0) rfl (by decide) (by decide), ?_⟩; (conv => whnf)
      refine b2 i cl.length rfl hc.1 (by omega) (by omega) (fun (q : cl.length ≤ i) => by omega) (fun _ => ?_); (conv => whnf)
      cases b with
      | false =>
        refine b1 0 rfl (by omega) (fun _ => ?_) (fun (q : ¬ 0 = 0) => by omega)
        exact out false (by rw [← hi]; exact (stop _ _ hb.symm).symm)
      | true =>
        refine b1 1 rfl (by omega) (fun (q : 1 = 0) => by omega) (fun _ => ?_); (conv => whnf)
        have g31 : (Nat.beq i w || agM cl[i] (h (cl[i]).2.1)) = true → P 31 [some (.ref 0), some (.int wi), none, some (.int (nI i))] [] ((rfM vT aS aH vM aN vS aX vL vP vW aR vR aD vF aW aI aQ aL vB)) := by
          intro q
          refine hP _ _ _ _ ?_; (conv => whnf)
          refine hP _ _ _ _ ?_; (conv => whnf)
          refine ih (i + 1) _ true (nI_1 i) (by omega) ?_
          rw [hs, ← hb, q]; rfl
        have tl : ¬ nI i = wi → Nat.beq i w = false := by
          intro q
          refine nbf (fun z => ?_)
          rcases hw with ⟨_, h2⟩ | ⟨h1, _⟩
          · omega
          · exact q (by rw [h1, z])
        refine ⟨fun (q : nI i = wi) => ?_, fun (q : ¬ nI i = wi) => ?_⟩
        · refine g31 ?_
          rcases hw with ⟨h1, _⟩ | ⟨h1, h2⟩
          · rw [h1] at q
            exact absurd q (nI_m1 (by omega))
          · rw [h1] at q
            rw [nbt ((nI_eq (by omega) (by omega)).mp q)]; rfl
        · (conv => whnf)
          refine ⟨Nat.le_of_ble_eq_true rfl, rfl, ?_⟩; (conv => whnf)
          refine Or.inl ⟨_, _, m_agrees (d := d) hc hg hh, ?_⟩; (conv => whnf)
          cases hb2 : agM cl[i] (h (cl[i]).2.1) with
          | true =>
            refine b1 1 rfl (by omega) (fun (q : 1 = 0) => by omega) (fun _ => ?_)
            exact g31 (by rw [hb2, Bool.or_true])
          | false =>
            refine b1 0 rfl (by omega) (fun _ => ?_) (fun (q : ¬ 0 = 0) => by omega)
            refine hP _ _ _ _ ?_; (conv => whnf)
            refine hP _ _ _ _ ?_; (conv => whnf)
            refine ih (i + 1) _ false (nI_1 i) (by omega) ?_
            rw [hs, hb2, tl q]
            exact (Bool.and_false _).symm
  exact lp cl.length 0 _ true rfl (Nat.zero_add _) rfl
end M2
