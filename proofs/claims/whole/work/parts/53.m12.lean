/-! the reference: what breaks down -/
theorem brK_eq (v : NA) (k : Nat) : brK v k = (Nat.beq (rl_ps v (rl_kd k) 3) 0 || !Nat.ble (rl_on v (rl_kd k) 3) 1) := by
  unfold brK fitB
  cases h : rl_ps v (rl_kd k) 3 with
  | zero => rfl
  | succ n =>
    rw [show Nat.ble 1 (n + 1) = true from Nat.ble_eq_true_of_le (by omega), nbf (show ¬ n + 1 = 0 by omega)]; rfl
theorem brP_eq (v : NA) (p : Nat) : brP v p = (!Nat.ble 2 (rl_ps v 511 p) || !Nat.ble (rl_on v 511 p) 2) := by
  unfold brP fitB
  cases Nat.ble 2 (rl_ps v 511 p) <;> rfl
theorem brC_eq {x : rl_C} (hx : rl_cok x) (v : NA) : brC v x = ((Nat.beq x.1 2 && Nat.beq (rl_ps v x.2.2 x.2.1) 0) || (Nat.beq x.1 4 && Nat.beq (rl_on v x.2.2 x.2.1) 3)) := by
  unfold brC
  have e1 : Nat.beq (mkP (rl_inP v x.2.2 x.2.1) 9) 0 = Nat.beq (rl_ps v x.2.2 x.2.1) 0 := by
    by_cases h : rl_ps v x.2.2 x.2.1 = 0
    · rw [nbt h, nbt ((mkP_0 _).mpr h)]
    · rw [nbf h, nbf (fun z => h ((mkP_0 _).mp z))]
  rw [e1]
  by_cases h4 : x.1 = 4
  · have e2 : Nat.beq (mkP (rl_inO v x.2.2 x.2.1) 9) x.2.2 = Nat.beq (rl_on v x.2.2 x.2.1) 3 := by
      have hall := mkP_all hx.2.2.1 (p := rl_inO v x.2.2 x.2.1) (fun c hc => by unfold rl_inO at hc; rw [Bool.and_eq_true] at hc; exact hc.1)
      rw [hx.2.2.2 h4] at hall
      by_cases h : rl_on v x.2.2 x.2.1 = 3
      · rw [nbt h, nbt (hall.mpr h)]
      · rw [nbf h, nbf (fun z => h (hall.mp z))]
    rw [e2]
  · rw [nbf h4, Bool.false_and, Bool.false_and]
section M12
variable {d : Nat} {vT vM vS vL vP vW vR vF vB : Int32} {aS aH aN aX aR aD aW aI aQ aL : IA} {cl : List rl_C} {v : NA}
theorem m_breaksDown (hc : clS aS cl) (hv : rl_ok v) : Cl (d + 3) kX6_breaksDown [.ref 0] ((rfM vT aS aH vM aN vS aX vL vP vW aR vR aD vF aW aI aQ (nA v) vB)) (rV (bI (brk cl v))) ((rfM vT aS aH vM aN vS aX vL vP vW aR vR aD vF aW aI aQ (nA v) vB)) := by
  have hcn : ∀ (o : Bool) (s p : Nat), s < 512 → p < 4 → Cl (d + 2) kX6_counts [.ref 0, .int (nI s), .int (nI p), .int (bI o)] ((rfM vT aS aH vM aN vS aX vL vP vW aR vR aD vF aW aI aQ (nA v) vB)) (rV (nI (cntN (cnB o v s p) 9))) ((rfM vT aS aH vM aN vS aX vL vP vW aR vR aD vF aW aI aQ (nA v) vB)) := fun o s p hs hp => m_counts hs hv hp
  have hl := hc.2.1
  refine Cl_go e_X6_breaksDown (Nat.le_of_ble_eq_true rfl) rfl ?_; intro P hP; refine hP _ _ _ _ ?_; (conv => whnf)
  -- clues
  have l4 : ∀ (n i : Nat) (x : Int32) (b : Bool), i + n = cl.length → x = nI i → b = (brD v || (cl.take i).any (brC v)) → P 140 [some (.ref 0), some (.int (bI b)), some (.int x)] [] ((rfM vT aS aH vM aN vS aX vL vP vW aR vR aD vF aW aI aQ (nA v) vB)) := by
    intro n
    induction n with
    | zero =>
      intro i x b hi hx hb
      have hi : i = cl.length := hi
      refine hP _ _ _ _ ?_; (conv => whnf)
      refine ⟨vi (n := 0) rfl (by decide) (by decide), ?_⟩; (conv => whnf)
      refine b2 i cl.length hx hc.1 (by omega) (by omega) (fun _ => ?_) (fun (q : ¬ cl.length ≤ i) => by omega)
      refine hP _ _ _ _ ?_; (conv => whnf)
      rw [List.take_of_length_le (by omega)] at hb
      exact ⟨rfl, ⟨.boolean, rfl, b01⟩, rI (congrArg bI hb), rfl⟩
    | succ n ih =>
      intro i x b hi hx hb
      subst hx
      have hg : cl[i]? = some cl[i] := List.getElem?_eq_getElem (by omega)
      generalize cl[i] = y at hg
      have hy := hc.2.2.1 y (List.mem_of_getElem? hg)
      obtain ⟨e1, e2, e3⟩ := hc.2.2.2 i y hg
      have ok := hy.1
      have hms : y.2.2 < 512 := ok.1.2.2.1
      have hy6 : y.1 < 6 := ok.1.1
      have hy4 : y.2.1 < 4 := ok.1.2.1
      have hi20 : i < 20 := by omega
      have o0 : Cl (d + 2) kX6_of [.ref 0, .int (nI i), .int (nI 0)] ((rfM vT aS aH vM aN vS aX vL vP vW aR vR aD vF aW aI aQ (nA v) vB)) (rV (nI y.1)) ((rfM vT aS aH vM aN vS aX vL vP vW aR vR aD vF aW aI aQ (nA v) vB)) := by rw [← e1]; exact m_of (w := 0) hi20 (by decide)
      have o1 : Cl (d + 2) kX6_of [.ref 0, .int (nI i), .int (nI 1)] ((rfM vT aS aH vM aN vS aX vL vP vW aR vR aD vF aW aI aQ (nA v) vB)) (rV (plI y)) ((rfM vT aS aH vM aN vS aX vL vP vW aR vR aD vF aW aI aQ (nA v) vB)) := by
        rw [← e2, show 13 + 3 * i = 12 + 3 * i + 1 by omega]; exact m_of (w := 1) hi20 (by decide)
      have o2 : Cl (d + 2) kX6_of [.ref 0, .int (nI i), .int (nI 2)] ((rfM vT aS aH vM aN vS aX vL vP vW aR vR aD vF aW aI aQ (nA v) vB)) (rV (nI y.2.2)) ((rfM vT aS aH vM aN vS aX vL vP vW aR vR aD vF aW aI aQ (nA v) vB)) := by
        rw [← e3, show 14 + 3 * i = 12 + 3 * i + 2 by omega]; exact m_of (w := 2) hi20 (by decide)
      have hbC := brC_eq ok.1 v
      have hnx : (brD v || (cl.take (i + 1)).any (brC v)) = (b || brC v y) := by
        rw [List.take_add_one, hg, List.any_append, hb]
        show (_ || (_ || (brC v y || false))) = _
        rw [Bool.or_false, Bool.or_assoc]
      have f225 : ∀ b' : Bool, b' = (b || brC v y) → P 225 [some (.ref 0), none, some (.int (nI i))] [.int (bI b')] ((rfM vT aS aH vM aN vS aX vL vP vW aR vR aD vF aW aI aQ (nA v) vB)) := by
        intro b' hb'
        refine hP _ _ _ _ ?_; (conv => whnf)
        exact ih (i + 1) _ b' (by omega) (nI_1 i) (by rw [hnx, hb'])
      -- behind the first half
      have f189 : ∀ b' : Bool, b' = (b || (Nat.beq y.1 2 && Nat.beq (rl_ps v y.2.2 y.2.1) 0)) → P 189 [some (.ref 0), none, some (.int (nI i))] [.int (bI b')] ((rfM vT aS aH vM aN vS aX vL vP vW aR vR aD vF aW aI aQ (nA v) vB)) := by
        intro b' hb'
        have g224 : (b' || (Nat.beq y.1 4 && Nat.beq (rl_on v y.2.2 y.2.1) 3)) = false → P 224 [some (.ref 0), none, some (.int (nI i))] [] ((rfM vT aS aH vM aN vS aX vL vP vW aR vR aD vF aW aI aQ (nA v) vB)) := by
          intro q
          refine hP _ _ _ _ ?_; (conv => whnf)
          exact f225 false (by rw [hbC, ← Bool.or_assoc, ← hb', q])
        have g220 : (b' || (Nat.beq y.1 4 && Nat.beq (rl_on v y.2.2 y.2.1) 3)) = true → P 220 [some (.ref 0), none, some (.int (nI i))] [] ((rfM vT aS aH vM aN vS aX vL vP vW aR vR aD vF aW aI aQ (nA v) vB)) := by
          intro q
          refine hP _ _ _ _ ?_; (conv => whnf)
          exact f225 true (by rw [hbC, ← Bool.or_assoc, ← hb', q])
        refine hP _ _ _ _ ?_; (conv => whnf)
        cases b' with
        | true =>
          refine b1 1 rfl (by omega) (fun _ => ?_) (fun (q : ¬ ¬ 1 = 0) => by omega)
          exact g220 rfl
        | false =>
          refine b1 0 rfl (by omega) (fun (q : ¬ 0 = 0) => by omega) (fun _ => ?_); (conv => whnf)
          refine ⟨Nat.le_of_ble_eq_true rfl, rfl, ?_⟩; (conv => whnf)
          refine Or.inl ⟨_, _, o0, ?_⟩; (conv => whnf)
          refine b2 y.1 4 rfl rfl (by omega) (by omega) (fun (q : ¬ y.1 = 4) => g224 (by rw [nbf q]; rfl)) (fun (q : ¬ ¬ y.1 = 4) => ?_); (conv => whnf)
          have q := Decidable.of_not_not q
          have h3 := ok.2.2 (by omega)
          have hon := rl_on_le v y.2.2 3
          refine ⟨Nat.le_of_ble_eq_true rfl, rfl, ?_⟩; (conv => whnf)
          refine Or.inl ⟨_, _, o2, ?_⟩; (conv => whnf)
          refine ⟨Nat.le_of_ble_eq_true rfl, rfl, ?_⟩; (conv => whnf)
          refine Or.inl ⟨_, _, hcn true y.2.2 3 hms (by decide), ?_⟩; (conv => whnf)
          refine b2 (rl_on v y.2.2 3) 3 rfl rfl (by omega) (by omega) (fun (z : ¬ rl_on v y.2.2 3 = 3) => g224 (by rw [h3, nbf z, Bool.and_false]; rfl)) (fun (z : ¬ ¬ rl_on v y.2.2 3 = 3) => ?_); (conv => whnf)
          refine hP _ _ _ _ ?_; (conv => whnf)
          exact f225 true (by rw [hbC, q, h3, nbt (Decidable.of_not_not z)]; cases b <;> cases (Nat.beq 4 2 && Nat.beq (rl_ps v y.2.2 3) 0) <;> rfl)
      have g188 : (b || (Nat.beq y.1 2 && Nat.beq (rl_ps v y.2.2 y.2.1) 0)) = false → P 188 [some (.ref 0), none, some (.int (nI i))] [] ((rfM vT aS aH vM aN vS aX vL vP vW aR vR aD vF aW aI aQ (nA v) vB)) := by
        intro q
        refine hP _ _ _ _ ?_; (conv => whnf)
        exact f189 false q.symm
      refine hP _ _ _ _ ?_; (conv => whnf)
      refine ⟨vi (n := 0) rfl (by decide) (by decide), ?_⟩; (conv => whnf)
      refine b2 i cl.length rfl hc.1 (by omega) (by omega) (fun (q : cl.length ≤ i) => by omega) (fun _ => ?_); (conv => whnf)
      cases b with
      | true =>
        refine b1 1 rfl (by omega) (fun _ => ?_) (fun (q : ¬ ¬ 1 = 0) => by omega)
        refine hP _ _ _ _ ?_; (conv => whnf)
        exact f189 true rfl
      | false =>
        refine b1 0 rfl (by omega) (fun (q : ¬ 0 = 0) => by omega) (fun _ => ?_); (conv => whnf)
        refine ⟨Nat.le_of_ble_eq_true rfl, rfl, ?_⟩; (conv => whnf)
        refine Or.inl ⟨_, _, o0, ?_⟩; (conv => whnf)
        refine b2 y.1 2 rfl rfl (by omega) (by omega) (fun (q : ¬ y.1 = 2) => g188 (by rw [nbf q]; rfl)) (fun (q : ¬ ¬ y.1 = 2) => ?_); (conv => whnf)
        have q := Decidable.of_not_not q
        have eP : plI y = nI y.2.1 := if_neg (by have := ok.2.1 (by omega); omega)
        have hps := rl_ps_le v y.2.2 y.2.1
        rw [eP] at o1
        refine ⟨Nat.le_of_ble_eq_true rfl, rfl, ?_⟩; (conv => whnf)
        refine Or.inl ⟨_, _, o2, ?_⟩; (conv => whnf)
        refine ⟨Nat.le_of_ble_eq_true rfl, rfl, ?_⟩; (conv => whnf)
        refine Or.inl ⟨_, _, o1, ?_⟩; (conv => whnf)
        refine ⟨Nat.le_of_ble_eq_true rfl, rfl, ?_⟩; (conv => whnf)
        refine Or.inl ⟨_, _, hcn false y.2.2 y.2.1 hms hy4, ?_⟩; (conv => whnf)
        refine b1 (rl_ps v y.2.2 y.2.1) rfl (by omega) (fun (z : ¬ rl_ps v y.2.2 y.2.1 = 0) => g188 (by rw [nbf z, Bool.and_false]; rfl)) (fun (z : ¬ ¬ rl_ps v y.2.2 y.2.1 = 0) => ?_); (conv => whnf)
        refine hP _ _ _ _ ?_; (conv => whnf)
        exact f189 true (by rw [q, nbt (Decidable.of_not_not z)]; rfl)
  -- players
  have l3 : ∀ (n i : Nat) (x : Int32) (b : Bool), i + n = 3 → x = nI i → b = (anyN (brZ v) 9 || anyN (brK v) 3 || anyN (brP v) i) → P 91 [some (.ref 0), some (.int (bI b)), some (.int x)] [] ((rfM vT aS aH vM aN vS aX vL vP vW aR vR aD vF aW aI aQ (nA v) vB)) := by
    intro n
    induction n with
    | zero =>
      intro i x b hi hx hb
      have hi : i = 3 := hi
      subst hi
      refine hP _ _ _ _ ?_; (conv => whnf)
      refine b2 3 3 hx rfl (by omega) (by omega) (fun _ => ?_) (fun (q : ¬ 3 ≤ 3) => by omega)
      refine hP _ _ _ _ ?_; (conv => whnf)
      exact l4 cl.length 0 _ b (Nat.zero_add _) rfl (by rw [hb]; exact (Bool.or_false _).symm)
    | succ n ih =>
      intro i x b hi hx hb
      subst hx
      have hi3 : i < 3 := by omega
      have hps := rl_ps_le v 511 i
      have hon := rl_on_le v 511 i
      have hnx : (anyN (brZ v) 9 || anyN (brK v) 3 || anyN (brP v) (i + 1)) = (b || (!Nat.ble 2 (rl_ps v 511 i) || !Nat.ble (rl_on v 511 i) 2)) := by rw [anyN_s (brP v) i, ← Bool.or_assoc, ← hb, brP_eq]
      have f131 : ∀ b' : Bool, b' = (b || (!Nat.ble 2 (rl_ps v 511 i) || !Nat.ble (rl_on v 511 i) 2)) → P 131 [some (.ref 0), none, some (.int (nI i))] [.int (bI b')] ((rfM vT aS aH vM aN vS aX vL vP vW aR vR aD vF aW aI aQ (nA v) vB)) := by
        intro b' hb'
        refine hP _ _ _ _ ?_; (conv => whnf)
        exact ih (i + 1) _ b' (by omega) (nI_1 i) (by rw [hnx, hb'])
      have g126 : (b || (!Nat.ble 2 (rl_ps v 511 i) || !Nat.ble (rl_on v 511 i) 2)) = true → P 126 [some (.ref 0), none, some (.int (nI i))] [] ((rfM vT aS aH vM aN vS aX vL vP vW aR vR aD vF aW aI aQ (nA v) vB)) := by
        intro q
        refine hP _ _ _ _ ?_; (conv => whnf)
        exact f131 true q.symm
      refine hP _ _ _ _ ?_; (conv => whnf)
      refine b2 i 3 rfl rfl (by omega) (by omega) (fun (q : 3 ≤ i) => by omega) (fun _ => ?_); (conv => whnf)
      cases b with
      | true =>
        refine b1 1 rfl (by omega) (fun _ => ?_) (fun (q : ¬ ¬ 1 = 0) => by omega)
        exact g126 rfl
      | false =>
        refine b1 0 rfl (by omega) (fun (q : ¬ 0 = 0) => by omega) (fun _ => ?_); (conv => whnf)
        refine ⟨Nat.le_of_ble_eq_true rfl, rfl, ?_⟩; (conv => whnf)
        refine Or.inl ⟨_, _, hcn false 511 i (by decide) (by omega), ?_⟩; (conv => whnf)
        refine b2 (rl_ps v 511 i) 2 rfl rfl (by omega) (by omega) (fun (q : rl_ps v 511 i < 2) => g126 (by rw [ble_f (show rl_ps v 511 i < 2 from q)]; rfl)) (fun (q : ¬ rl_ps v 511 i < 2) => ?_); (conv => whnf)
        have q1 : Nat.ble 2 (rl_ps v 511 i) = true := Nat.ble_eq_true_of_le (by omega)
        refine ⟨Nat.le_of_ble_eq_true rfl, rfl, ?_⟩; (conv => whnf)
        refine Or.inl ⟨_, _, hcn true 511 i (by decide) (by omega), ?_⟩; (conv => whnf)
        refine b2 (rl_on v 511 i) 2 rfl rfl (by omega) (by omega) (fun (z : rl_on v 511 i ≤ 2) => ?_) (fun (z : ¬ rl_on v 511 i ≤ 2) => ?_)
        · refine hP _ _ _ _ ?_; (conv => whnf)
          exact f131 false (by rw [q1, Nat.ble_eq_true_of_le z]; rfl)
        · (conv => whnf)
          refine hP _ _ _ _ ?_; (conv => whnf)
          exact f131 true (by rw [ble_f (show 2 < rl_on v 511 i by omega), q1]; rfl)
  -- kinds
  have l2 : ∀ (n i : Nat) (x : Int32) (b : Bool), i + n = 3 → x = nI i → b = (anyN (brZ v) 9 || anyN (brK v) i) → P 37 [some (.ref 0), some (.int (bI b)), some (.int x)] [] ((rfM vT aS aH vM aN vS aX vL vP vW aR vR aD vF aW aI aQ (nA v) vB)) := by
    intro n
    induction n with
    | zero =>
      intro i x b hi hx hb
      have hi : i = 3 := hi
      subst hi
      refine hP _ _ _ _ ?_; (conv => whnf)
      refine b2 3 3 hx rfl (by omega) (by omega) (fun _ => ?_) (fun (q : ¬ 3 ≤ 3) => by omega)
      refine hP _ _ _ _ ?_; (conv => whnf)
      exact l3 3 0 _ b rfl rfl (by rw [hb]; exact (Bool.or_false _).symm)
    | succ n ih =>
      intro i x b hi hx hb
      subst hx
      have hi3 : i < 3 := by omega
      have hs := kd_lt hi3
      have e7 : nI 7 <<< ((nI 3 * nI i) &&& 31) = nI (rl_kd i) := by rw [pk_mul]; exact sh_7 hi3
      have hps := rl_ps_le v (rl_kd i) 3
      have hon := rl_on_le v (rl_kd i) 3
      have c0 := hcn false (rl_kd i) 3 hs (by decide)
      have c1 := hcn true (rl_kd i) 3 hs (by decide)
      rw [← e7] at c0 c1
      have hnx : (anyN (brZ v) 9 || anyN (brK v) (i + 1)) = (b || (Nat.beq (rl_ps v (rl_kd i) 3) 0 || !Nat.ble (rl_on v (rl_kd i) 3) 1)) := by rw [anyN_s (brK v) i, ← Bool.or_assoc, ← hb, brK_eq]
      have f82 : ∀ b' : Bool, b' = (b || (Nat.beq (rl_ps v (rl_kd i) 3) 0 || !Nat.ble (rl_on v (rl_kd i) 3) 1)) → P 82 [some (.ref 0), none, some (.int (nI i))] [.int (bI b')] ((rfM vT aS aH vM aN vS aX vL vP vW aR vR aD vF aW aI aQ (nA v) vB)) := by
        intro b' hb'
        refine hP _ _ _ _ ?_; (conv => whnf)
        exact ih (i + 1) _ b' (by omega) (nI_1 i) (by rw [hnx, hb'])
      have g77 : (b || (Nat.beq (rl_ps v (rl_kd i) 3) 0 || !Nat.ble (rl_on v (rl_kd i) 3) 1)) = true → P 77 [some (.ref 0), none, some (.int (nI i))] [] ((rfM vT aS aH vM aN vS aX vL vP vW aR vR aD vF aW aI aQ (nA v) vB)) := by
        intro q
        refine hP _ _ _ _ ?_; (conv => whnf)
        exact f82 true q.symm
      refine hP _ _ _ _ ?_; (conv => whnf)
      refine b2 i 3 rfl rfl (by omega) (by omega) (fun (q : 3 ≤ i) => by omega) (fun _ => ?_); (conv => whnf)
      cases b with
      | true =>
        refine b1 1 rfl (by omega) (fun _ => ?_) (fun (q : ¬ ¬ 1 = 0) => by omega)
        exact g77 rfl
      | false =>
        refine b1 0 rfl (by omega) (fun (q : ¬ 0 = 0) => by omega) (fun _ => ?_); (conv => whnf)
        refine ⟨Nat.le_of_ble_eq_true rfl, rfl, ?_⟩; (conv => whnf)
        refine Or.inl ⟨_, _, c0, ?_⟩; (conv => whnf)
        refine b1 (rl_ps v (rl_kd i) 3) rfl (by omega) (fun (q : rl_ps v (rl_kd i) 3 = 0) => g77 (by rw [nbt q]; rfl)) (fun (q : ¬ rl_ps v (rl_kd i) 3 = 0) => ?_); (conv => whnf)
        refine ⟨Nat.le_of_ble_eq_true rfl, rfl, ?_⟩; (conv => whnf)
        refine Or.inl ⟨_, _, c1, ?_⟩; (conv => whnf)
        refine b2 (rl_on v (rl_kd i) 3) 1 rfl rfl (by omega) (by omega) (fun (z : rl_on v (rl_kd i) 3 ≤ 1) => ?_) (fun (z : ¬ rl_on v (rl_kd i) 3 ≤ 1) => ?_)
        · refine hP _ _ _ _ ?_; (conv => whnf)
          exact f82 false (by rw [nbf q, Nat.ble_eq_true_of_le z]; rfl)
        · (conv => whnf)
          refine hP _ _ _ _ ?_; (conv => whnf)
          exact f82 true (by rw [ble_f (show 1 < rl_on v (rl_kd i) 3 by omega), nbf q]; rfl)
  -- cards
  have l1 : ∀ (n i : Nat) (x : Int32) (b : Bool), i + n = 9 → x = nI i → b = anyN (brZ v) i → P 4 [some (.ref 0), some (.int (bI b)), some (.int x)] [] ((rfM vT aS aH vM aN vS aX vL vP vW aR vR aD vF aW aI aQ (nA v) vB)) := by
    intro n
    induction n with
    | zero =>
      intro i x b hi hx hb
      have hi : i = 9 := hi
      subst hi
      refine hP _ _ _ _ ?_; (conv => whnf)
      refine b2 9 9 hx rfl (by omega) (by omega) (fun _ => ?_) (fun (q : ¬ 9 ≤ 9) => by omega)
      refine hP _ _ _ _ ?_; (conv => whnf)
      exact l2 3 0 _ b rfl rfl (by rw [hb]; exact (Bool.or_false _).symm)
    | succ n ih =>
      intro i x b hi hx hb
      subst hx
      have hi9 : i < 9 := by omega
      have hvi := hv i hi9
      have f28 : ∀ b' : Bool, b' = (b || brZ v i) → P 28 [some (.ref 0), none, some (.int (nI i))] [.int (bI b')] ((rfM vT aS aH vM aN vS aX vL vP vW aR vR aD vF aW aI aQ (nA v) vB)) := by
        intro b' hb'
        refine hP _ _ _ _ ?_; (conv => whnf)
        exact ih (i + 1) _ b' (by omega) (nI_1 i) (by rw [anyN_s, ← hb, hb'])
      refine hP _ _ _ _ ?_; (conv => whnf)
      refine b2 i 9 rfl rfl (by omega) (by omega) (fun (q : 9 ≤ i) => by omega) (fun _ => ?_); (conv => whnf)
      cases b with
      | true =>
        refine b1 1 rfl (by omega) (fun _ => ?_) (fun (q : ¬ ¬ 1 = 0) => by omega)
        refine hP _ _ _ _ ?_; (conv => whnf)
        exact f28 true rfl
      | false =>
        refine b1 0 rfl (by omega) (fun (q : ¬ 0 = 0) => by omega) (fun _ => ?_); (conv => whnf)
        refine ⟨vi rfl hi9 (by decide), ?_⟩; (conv => whnf)
        refine b1 (v i) (nA_c hi9) (by omega) (fun (q : ¬ v i = 0) => ?_) (fun (q : ¬ ¬ v i = 0) => ?_)
        · refine hP _ _ _ _ ?_; (conv => whnf)
          exact f28 false (by unfold brZ; rw [nbf q]; rfl)
        · (conv => whnf)
          refine hP _ _ _ _ ?_; (conv => whnf)
          exact f28 true (by unfold brZ; rw [nbt (Decidable.of_not_not q)]; rfl)
  exact l1 9 0 _ false rfl rfl rfl
end M12
