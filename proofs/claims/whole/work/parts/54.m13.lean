/-! the reference: all rules -/
def seqK : Nat → NA → NA
  | 0, v => v
  | k + 1, v => rl_pl k (rl_kdM k (seqK k v))
theorem rl_kdM_ok {k : Nat} {v : NA} (hv : rl_ok v) : rl_ok (rl_kdM k v) ∧ rl_le (rl_kdM k v) v := by
  have h1 := rl_cp_ok (rl_kd k) 3 hv
  have h2 := rl_kj_ok 1 (rl_kd k) 3 h1.1
  exact ⟨h2.1, rl_le_trans h2.2 h1.2⟩
theorem rl_pl_ok {p : Nat} {v : NA} (hv : rl_ok v) : rl_ok (rl_pl p v) ∧ rl_le (rl_pl p v) v := by
  have h1 := rl_cs_ok 2 511 p hv
  have h2 := rl_kj_ok 2 511 p h1.1
  exact ⟨h2.1, rl_le_trans h2.2 h1.2⟩
theorem seqK_ok {v : NA} (hv : rl_ok v) : ∀ k, rl_ok (seqK k v) ∧ rl_le (seqK k v) v := by
  intro k
  induction k with
  | zero => exact ⟨hv, rl_le_refl v⟩
  | succ k ih =>
    have h1 := rl_kdM_ok (k := k) ih.1
    have h2 := rl_pl_ok (p := k) h1.1
    exact ⟨h2.1, rl_le_trans h2.2 (rl_le_trans h1.2 ih.2)⟩
theorem cls_le : ∀ (cl : List rl_C) {v : NA}, rl_ok v → rl_le (rl_cls cl v) v := by
  intro cl
  induction cl with
  | nil => intro v _; exact rl_le_refl v
  | cons a r ih =>
    intro v hv
    have h1 := rl_cl_ok a hv
    exact rl_le_trans (ih h1.1) h1.2
theorem cls_s {cl : List rl_C} {i : Nat} {x : rl_C} (h : cl[i]? = some x) (v : NA) : rl_cls (cl.take (i + 1)) v = rl_cl x (rl_cls (cl.take i) v) := by
  unfold rl_cls
  rw [List.take_add_one, h, List.foldl_append]
  rfl
/-- where the rules end -/
def rlF (cl : List rl_C) (u : NA) : Prop := rl_ok u ∧ ∀ c, c < 9 → u c = shW cl c
theorem set9_i (x : Nat) (v : NA) : rl_ok (set9 x v) ↔ x < 16 := by
  constructor
  · intro h; have := h 0 (by decide); unfold set9 at this; rw [if_pos (by decide)] at this; exact this
  · intro h c hc; unfold set9; rw [if_pos hc]; exact h
def stn (n x : Nat) (v : NA) : NA := fun j => if j < n then x else v j
theorem stn_s (n x : Nat) (v : NA) : upd (nA (stn n x v)) n (nI x) = nA (stn (n + 1) x v) := by
  funext j
  unfold upd nA stn
  by_cases h : j = n
  · subst h; rw [if_pos rfl, if_pos (Nat.lt_succ_self _)]
  · rw [if_neg h]
    by_cases hl : j < n
    · rw [if_pos hl, if_pos (by omega)]
    · rw [if_neg hl, if_neg (by omega)]
theorem stn_0 (x : Nat) (v : NA) : stn 0 x v = v := by
  funext j; exact if_neg (Nat.not_lt_zero j)
section M13
variable {d : Nat} {vT vM vS vL vP vW vR vF vB : Int32} {aS aH aN aX aR aD aW aI aQ aL : IA} {cl : List rl_C} {v : NA}
theorem m_rules (hc : clS aS cl) : ∃ u, Cl (d + 5) kX6_rules [.ref 0] ((rfM vT aS aH vM aN vS aX vL vP vW aR vR aD vF aW aI aQ aL vB)) (.inl none) ((rfM vT aS aH vM aN vS aX vL vP vW aR vR aD vF aW aI aQ (nA u) (bI (shB cl)))) ∧ rlF cl u := by
  have hX := hc.2.2.1
  have hok : ∀ x ∈ cl, rl_cok x := fun x hx => (hX x hx).1.1
  have hl := hc.2.1
  suffices hh : ∃ r N, (r = (.inl none : Res) ∧ ∃ u, rlF cl u ∧ N = (rfM vT aS aH vM aN vS aX vL vP vW aR vR aD vF aW aI aQ (nA u) (bI (shB cl)))) ∧ Cl (d + 5) kX6_rules [.ref 0] ((rfM vT aS aH vM aN vS aX vL vP vW aR vR aD vF aW aI aQ aL vB)) r N by
    obtain ⟨r, N, ⟨rfl, u, hu, rfl⟩, h⟩ := hh
    exact ⟨u, h, hu⟩
  refine Cl_goQ e_X6_rules rfl (Nat.le_of_ble_eq_true rfl) (fun r M' q => by obtain ⟨-, u, -, rfl⟩ := q; rfl) (⟨_, _, rfl, shW cl, ⟨shW_ok hok, fun _ _ => rfl⟩, rfl⟩) ?_; intro P hP; refine hP _ _ _ _ ?_; (conv => whnf)
  -- behind the turns
  have f118 : ∀ (v : NA), rl_ok v → rlE cl v → P 118 [some (.ref 0), none, none] [] ((rfM vT aS aH vM aN vS aX vL vP vW aR vR aD vF aW aI aQ (nA v) vB)) := by
    intro v hv hE
    obtain ⟨q1, q2⟩ := rlE_same hok hE
    have hbd := m_breaksDown (d := d + 1) (vT := vT) (aS := aS) (aH := aH) (vM := vM) (aN := aN) (vS := vS) (aX := aX) (vL := vL) (vP := vP) (vW := vW) (aR := aR) (vR := vR) (aD := aD) (vF := vF) (aW := aW) (aI := aI) (aQ := aQ) (vB := vB) hc hv
    rw [q1] at hbd
    refine hP _ _ _ _ ?_; (conv => whnf)
    refine ⟨Nat.le_of_ble_eq_true rfl, rfl, ?_⟩; (conv => whnf)
    refine Or.inl ⟨_, _, hbd, ?_⟩; (conv => whnf)
    refine ⟨⟨by cases shB cl <;> rfl, by cases shB cl <;> rfl⟩, ?_⟩; (conv => whnf)
    rw [q1] at q2
    have lp : ∀ (n i : Nat) (x : Int32) (N : Mem), i + n = 9 → x = nI i → N = (rfM vT aS aH vM aN vS aX vL vP vW aR vR aD vF aW aI aQ (nA (stn (bif shB cl then i else 0) 0 v)) (bI (shB cl))) → P 128 [some (.ref 0), none, some (.int x)] [] N := by
      intro n
      induction n with
      | zero =>
        intro i x N hi hx hN
        have hi : i = 9 := hi
        subst hi
        subst hN
        refine hP _ _ _ _ ?_; (conv => whnf)
        refine b2 9 9 hx rfl (by omega) (by omega) (fun _ => ?_) (fun (q : ¬ 9 ≤ 9) => by omega)
        refine hP _ _ _ _ ?_; (conv => whnf)
        refine ⟨rfl, rfl, rfl, _, ⟨fun c hc => ?_, fun c hc => ?_⟩, rfl⟩
        · cases hb : shB cl with
          | true => show (if c < 9 then 0 else v c) < 16; rw [if_pos hc]; decide
          | false => show (if c < 0 then 0 else v c) < 16; rw [if_neg (Nat.not_lt_zero c)]; exact hv c hc
        · have q := q2 c hc
          cases hb : shB cl with
          | true => rw [hb] at q; exact q
          | false => rw [hb] at q; show (if c < 0 then 0 else v c) = _; rw [if_neg (Nat.not_lt_zero c)]; exact q
      | succ n ih =>
        intro i x N hi hx hN
        subst hN
        subst hx
        have hi9 : i < 9 := by omega
        refine hP _ _ _ _ ?_; (conv => whnf)
        refine b2 i 9 rfl rfl (by omega) (by omega) (fun (q : 9 ≤ i) => by omega) (fun _ => ?_); (conv => whnf)
        cases hb : shB cl with
        | false =>
          refine b1 0 rfl (by omega) (fun _ => ?_) (fun (q : ¬ 0 = 0) => by omega)
          refine hP _ _ _ _ ?_; (conv => whnf)
          refine ⟨rfl, rfl, rfl, v, ⟨hv, fun c hc => by have q := q2 c hc; rw [hb] at q; exact q⟩, ?_⟩
          rw [hb]
          show rfM _ _ _ _ _ _ _ _ _ _ _ _ _ _ _ _ _ (nA (stn 0 0 v)) _ = _
          rw [stn_0]
        | true =>
          refine b1 1 rfl (by omega) (fun (q : 1 = 0) => by omega) (fun _ => ?_); (conv => whnf)
          refine ⟨vi rfl hi9 (by decide), ?_⟩; (conv => whnf)
          refine ih (i + 1) _ _ (by omega) (nI_1 i) ?_
          rw [hb]
          have e9 : upd (nA (stn i 0 v)) (nI i).toNatClampNeg (nI 0) = nA (stn (i + 1) 0 v) := by rw [nI_clamp (by omega)]; exact stn_s i 0 v
          show _ = rfM _ _ _ _ _ _ _ _ _ _ _ _ _ _ _ _ _ (nA (stn (i + 1) 0 v)) _
          rw [← e9]
          rfl
    refine lp 9 0 _ _ rfl rfl ?_
    have e : nA (stn (bif shB cl then 0 else 0) 0 v) = nA v := by cases shB cl <;> (show nA (stn 0 0 v) = _; rw [stn_0])
    rw [e]
    rfl
  -- one turn
  have pass : ∀ (v : NA), rl_ok v → (∀ b' : Bool, b' = chgB v (rl_M1 cl v) → P 24 [some (.ref 0), some (.int (bI b')), none] [] ((rfM vT aS aH vM aN vS aX vL vP vW aR vR aD vF aW aI aQ (nA (rl_M1 cl v)) vB))) → P 24 [some (.ref 0), some (.int (bI true)), none] [] ((rfM vT aS aH vM aN vS aX vL vP vW aR vR aD vF aW aI aQ (nA v) vB)) := by
    intro v hv kk
    have lk : ∀ (n i : Nat) (x : Int32) (b : Bool) (w : NA), i + n = 3 → x = nI i → b = chgB v w → w = seqK i (rl_cls cl v) → rl_ok w ∧ rl_le w v → P 68 [some (.ref 0), some (.int (bI b)), some (.int x)] [] ((rfM vT aS aH vM aN vS aX vL vP vW aR vR aD vF aW aI aQ (nA w) vB)) := by
      intro n
      induction n with
      | zero =>
        intro i x b w hi hx hb hw hwo
        have hi : i = 3 := hi
        subst hi
        subst hw
        refine hP _ _ _ _ ?_; (conv => whnf)
        refine b2 3 3 hx rfl (by omega) (by omega) (fun _ => ?_) (fun (q : ¬ 3 ≤ 3) => by omega)
        refine hP _ _ _ _ ?_; (conv => whnf)
        exact kk b hb
      | succ n ih =>
        intro i x b w hi hx hb hw hwo
        subst hx
        have hi3 : i < 3 := by omega
        have h1 := rl_kdM_ok (k := i) hwo.1
        have h2 := rl_pl_ok (p := i) h1.1
        have t1 := chgB_trans h1.2 hwo.2
        have h1v := rl_le_trans h1.2 hwo.2
        have t2 := chgB_trans h2.2 h1v
        have u1 := m_usesKind (d := d) (vT := vT) (aS := aS) (aH := aH) (vM := vM) (aN := aN) (vS := vS) (aX := aX) (vL := vL) (vP := vP) (vW := vW) (aR := aR) (vR := vR) (aD := aD) (vF := vF) (aW := aW) (aI := aI) (aQ := aQ) (vB := vB) hi3 hwo.1
        have u2 := m_usesPlayer (d := d) (vT := vT) (aS := aS) (aH := aH) (vM := vM) (aN := aN) (vS := vS) (aX := aX) (vL := vL) (vP := vP) (vW := vW) (aR := aR) (vR := vR) (aD := aD) (vF := vF) (aW := aW) (aI := aI) (aQ := aQ) (vB := vB) hi3 h1.1
        have f108 : ∀ b' : Bool, b' = chgB v (rl_pl i (rl_kdM i w)) → P 108 [some (.ref 0), none, some (.int (nI i))] [.int (bI b')] ((rfM vT aS aH vM aN vS aX vL vP vW aR vR aD vF aW aI aQ (nA (rl_pl i (rl_kdM i w))) vB)) := by
          intro b' hb'
          refine hP _ _ _ _ ?_; (conv => whnf)
          refine ih (i + 1) _ b' _ (by omega) (nI_1 i) hb' ?_ ⟨h2.1, rl_le_trans h2.2 h1v⟩
          rw [hw]; rfl
        have f90 : ∀ b1' : Bool, b1' = chgB v (rl_kdM i w) → P 90 [some (.ref 0), none, some (.int (nI i))] [.int (bI b1')] ((rfM vT aS aH vM aN vS aX vL vP vW aR vR aD vF aW aI aQ (nA (rl_kdM i w)) vB)) := by
          intro b1' hb1
          refine hP _ _ _ _ ?_; (conv => whnf)
          refine ⟨Nat.le_of_ble_eq_true rfl, rfl, ?_⟩; (conv => whnf)
          refine Or.inl ⟨_, _, u2, ?_⟩; (conv => whnf)
          cases h5 : chgB (rl_kdM i w) (rl_pl i (rl_kdM i w)) with
          | true =>
            refine b1 1 rfl (by omega) (fun _ => ?_) (fun (q : ¬ ¬ 1 = 0) => by omega)
            refine hP _ _ _ _ ?_; (conv => whnf)
            exact f108 true (by rw [t2, h5]; rfl)
          | false =>
            refine b1 0 rfl (by omega) (fun (q : ¬ 0 = 0) => by omega) (fun _ => ?_); (conv => whnf)
            cases b1' with
            | true =>
              refine b1 1 rfl (by omega) (fun (q : 1 = 0) => by omega) (fun _ => ?_); (conv => whnf)
              refine hP _ _ _ _ ?_; (conv => whnf)
              exact f108 true (by rw [t2, ← hb1, Bool.or_true])
            | false =>
              refine b1 0 rfl (by omega) (fun _ => ?_) (fun (q : ¬ 0 = 0) => by omega)
              refine hP _ _ _ _ ?_; (conv => whnf)
              exact f108 false (by rw [t2, h5, ← hb1]; rfl)
        refine hP _ _ _ _ ?_; (conv => whnf)
        refine b2 i 3 rfl rfl (by omega) (by omega) (fun (q : 3 ≤ i) => by omega) (fun _ => ?_); (conv => whnf)
        refine ⟨Nat.le_of_ble_eq_true rfl, rfl, ?_⟩; (conv => whnf)
        refine Or.inl ⟨_, _, u1, ?_⟩; (conv => whnf)
        cases h5 : chgB w (rl_kdM i w) with
        | true =>
          refine b1 1 rfl (by omega) (fun _ => ?_) (fun (q : ¬ ¬ 1 = 0) => by omega)
          refine hP _ _ _ _ ?_; (conv => whnf)
          exact f90 true (by rw [t1, h5]; rfl)
        | false =>
          refine b1 0 rfl (by omega) (fun (q : ¬ 0 = 0) => by omega) (fun _ => ?_); (conv => whnf)
          cases b with
          | true =>
            refine b1 1 rfl (by omega) (fun (q : 1 = 0) => by omega) (fun _ => ?_); (conv => whnf)
            refine hP _ _ _ _ ?_; (conv => whnf)
            exact f90 true (by rw [t1, ← hb, Bool.or_true])
          | false =>
            refine b1 0 rfl (by omega) (fun _ => ?_) (fun (q : ¬ 0 = 0) => by omega)
            refine hP _ _ _ _ ?_; (conv => whnf)
            exact f90 false (by rw [t1, h5, ← hb]; rfl)
    have lc : ∀ (n i : Nat) (x : Int32) (b : Bool) (w : NA), i + n = cl.length → x = nI i → b = chgB v w → w = rl_cls (cl.take i) v → rl_ok w ∧ rl_le w v → P 32 [some (.ref 0), some (.int (bI b)), some (.int x)] [] ((rfM vT aS aH vM aN vS aX vL vP vW aR vR aD vF aW aI aQ (nA w) vB)) := by
      intro n
      induction n with
      | zero =>
        intro i x b w hi hx hb hw hwo
        have hi : i = cl.length := hi
        refine hP _ _ _ _ ?_; (conv => whnf)
        refine ⟨vi (n := 0) rfl (by decide) (by decide), ?_⟩; (conv => whnf)
        refine b2 i cl.length hx hc.1 (by omega) (by omega) (fun _ => ?_) (fun (q : ¬ cl.length ≤ i) => by omega)
        refine hP _ _ _ _ ?_; (conv => whnf)
        refine lk 3 0 _ b w rfl rfl hb ?_ hwo
        rw [hw, List.take_of_length_le (by omega)]; rfl
      | succ n ih =>
        intro i x b w hi hx hb hw hwo
        subst hx
        have hg : cl[i]? = some cl[i] := List.getElem?_eq_getElem (by omega)
        generalize cl[i] = y at hg
        have h1 := rl_cl_ok y hwo.1
        have t1 := chgB_trans h1.2 hwo.2
        have u1 := m_usesClue (d := d) (vT := vT) (aS := aS) (aH := aH) (vM := vM) (aN := aN) (vS := vS) (aX := aX) (vL := vL) (vP := vP) (vW := vW) (aR := aR) (vR := vR) (aD := aD) (vF := vF) (aW := aW) (aI := aI) (aQ := aQ) (vB := vB) hc hg hwo.1
        have f59 : ∀ b' : Bool, b' = chgB v (rl_cl y w) → P 59 [some (.ref 0), none, some (.int (nI i))] [.int (bI b')] ((rfM vT aS aH vM aN vS aX vL vP vW aR vR aD vF aW aI aQ (nA (rl_cl y w)) vB)) := by
          intro b' hb'
          refine hP _ _ _ _ ?_; (conv => whnf)
          refine ih (i + 1) _ b' _ (by omega) (nI_1 i) hb' ?_ ⟨h1.1, rl_le_trans h1.2 hwo.2⟩
          rw [cls_s hg, hw]
        refine hP _ _ _ _ ?_; (conv => whnf)
        refine ⟨vi (n := 0) rfl (by decide) (by decide), ?_⟩; (conv => whnf)
        refine b2 i cl.length rfl hc.1 (by omega) (by omega) (fun (q : cl.length ≤ i) => by omega) (fun _ => ?_); (conv => whnf)
        refine ⟨Nat.le_of_ble_eq_true rfl, rfl, ?_⟩; (conv => whnf)
        refine Or.inl ⟨_, _, u1, ?_⟩; (conv => whnf)
        cases h5 : chgB w (rl_cl y w) with
        | true =>
          refine b1 1 rfl (by omega) (fun _ => ?_) (fun (q : ¬ ¬ 1 = 0) => by omega)
          refine hP _ _ _ _ ?_; (conv => whnf)
          exact f59 true (by rw [t1, h5]; rfl)
        | false =>
          refine b1 0 rfl (by omega) (fun (q : ¬ 0 = 0) => by omega) (fun _ => ?_); (conv => whnf)
          cases b with
          | true =>
            refine b1 1 rfl (by omega) (fun (q : 1 = 0) => by omega) (fun _ => ?_); (conv => whnf)
            refine hP _ _ _ _ ?_; (conv => whnf)
            exact f59 true (by rw [t1, ← hb, Bool.or_true])
          | false =>
            refine b1 0 rfl (by omega) (fun _ => ?_) (fun (q : ¬ 0 = 0) => by omega)
            refine hP _ _ _ _ ?_; (conv => whnf)
            exact f59 false (by rw [t1, h5, ← hb]; rfl)
    refine hP _ _ _ _ ?_; (conv => whnf)
    refine b1 1 rfl (by omega) (fun (q : 1 = 0) => by omega) (fun _ => ?_); (conv => whnf)
    exact lc cl.length 0 _ false v (Nat.zero_add _) rfl (chgB_refl v).symm rfl ⟨hv, rl_le_refl v⟩
  -- the turns
  have head : ∀ (n : Nat) (v : NA) (b : Bool), rl_rch cl v → rl_sum 9 v ≤ n → (b = false → rl_fx cl v) → P 24 [some (.ref 0), some (.int (bI b)), none] [] ((rfM vT aS aH vM aN vS aX vL vP vW aR vR aD vF aW aI aQ (nA v) vB)) := by
    intro n
    have exi : ∀ (v : NA), rl_rch cl v → rl_fx cl v → P 24 [some (.ref 0), some (.int (bI false)), none] [] ((rfM vT aS aH vM aN vS aX vL vP vW aR vR aD vF aW aI aQ (nA v) vB)) := by
      intro v hr hf
      refine hP _ _ _ _ ?_; (conv => whnf)
      refine b1 0 rfl (by omega) (fun _ => ?_) (fun (q : ¬ 0 = 0) => by omega)
      exact f118 v hr.1 ⟨hr, hf⟩
    have stp : ∀ (v : NA) (k : Nat), rl_rch cl v → (∀ b' : Bool, b' = true → rl_rch cl (rl_M1 cl v) → rl_sum 9 (rl_M1 cl v) < rl_sum 9 v → P 24 [some (.ref 0), some (.int (bI b')), none] [] ((rfM vT aS aH vM aN vS aX vL vP vW aR vR aD vF aW aI aQ (nA (rl_M1 cl v)) vB))) → P 24 [some (.ref 0), some (.int (bI true)), none] [] ((rfM vT aS aH vM aN vS aX vL vP vW aR vR aD vF aW aI aQ (nA v) vB)) := by
      intro v k hr hk
      have hv := hr.1
      have hM := (M1_shr cl).2 v hv
      have hle := rl_sum_le hM.1 hv hM.2 9 (by decide)
      have hr2 := rl_rch_step (rl_M1_good hok) hr
      refine pass v hv (fun b' hb' => ?_)
      cases b' with
      | false =>
        have e := chgB_f.mp hb'.symm
        have f := M1_fx hv (rl_sum_congr 9 e)
        rw [f.2]
        exact exi v hr f.1
      | true =>
        refine hk true rfl hr2 (Nat.lt_of_le_of_ne hle.1 (fun z => ?_))
        have e := hle.2 z
        rw [chgB_f.mpr e] at hb'
        cases hb'
    induction n with
    | zero =>
      intro v b hr hn hb
      cases b with
      | false => exact exi v hr (hb rfl)
      | true => exact stp v 0 hr (fun b' _ _ hlt => by omega)
    | succ n ih =>
      intro v b hr hn hb
      cases b with
      | false => exact exi v hr (hb rfl)
      | true => exact stp v 0 hr (fun b' hbt hr2 hlt => ih _ b' hr2 (by omega) (fun z => by rw [hbt] at z; cases z))
  -- all places at first
  obtain ⟨g, hg⟩ := nA_any aL
  have l0 : ∀ (n i : Nat) (x : Int32) (N : Mem), i + n = 9 → x = nI i → N = (rfM vT aS aH vM aN vS aX vL vP vW aR vR aD vF aW aI aQ (nA (stn i 15 g)) vB) → P 4 [some (.ref 0), some (.int (bI true)), some (.int x)] [] N := by
    intro n
    induction n with
    | zero =>
      intro i x N hi hx hN
      have hi : i = 9 := hi
      subst hi
      subst hN
      refine hP _ _ _ _ ?_; (conv => whnf)
      refine b2 9 9 hx rfl (by omega) (by omega) (fun _ => ?_) (fun (q : ¬ 9 ≤ 9) => by omega)
      exact head (rl_sum 9 (stn 9 15 g)) (stn 9 15 g) true (rl_rch_top cl (fun c hc => if_pos hc)) (Nat.le_refl _) (fun z => by cases z)
    | succ n ih =>
      intro i x N hi hx hN
      subst hN
      subst hx
      have hi9 : i < 9 := by omega
      refine hP _ _ _ _ ?_; (conv => whnf)
      refine b2 i 9 rfl rfl (by omega) (by omega) (fun (q : 9 ≤ i) => by omega) (fun _ => ?_); (conv => whnf)
      refine ⟨vi rfl hi9 (by decide), ?_⟩; (conv => whnf)
      refine ih (i + 1) _ _ (by omega) (nI_1 i) ?_
      have e9 : upd (nA (stn i 15 g)) (nI i).toNatClampNeg (nI 15) = nA (stn (i + 1) 15 g) := by rw [nI_clamp (by omega)]; exact stn_s i 15 g
      rw [← e9]
      rfl
  exact l0 9 0 _ _ rfl rfl (by rw [stn_0, ← hg])
theorem pc_all : (List.range 16).all (fun x => Nat.beq (cntN (fun p => x.testBit p) 4) (rl_pc x)) = true := by decide +kernel
theorem pc_eq {x : Nat} (h : x < 16) : cntN (fun p => x.testBit p) 4 = rl_pc x := Nat.eq_of_beq_eq_true (List.all_eq_true.mp pc_all x (List.mem_range.mpr h))
theorem sub_nI (a b c : Nat) : nI a - nI b - nI c = nI a - nI (b + c) := by rw [← nI_add, Int32.sub_sub]
theorem m_crossedMany (hc : clS aS cl) : ∃ u, Cl (d + 6) kX6_crossedMany [.ref 0] ((rfM vT aS aH vM aN vS aX vL vP vW aR vR aD vF aW aI aQ aL vB)) (rV (nI 36 - nI (rl_sum 9 (shW cl)))) ((rfM vT aS aH vM aN vS aX vL vP vW aR vR aD vF aW aI aQ (nA u) (bI (shB cl)))) ∧ rlF cl u := by
  obtain ⟨u, hk, hu⟩ := m_rules (d := d) (vT := vT) (aS := aS) (aH := aH) (vM := vM) (aN := aN) (vS := vS) (aX := aX) (vL := vL) (vP := vP) (vW := vW) (aR := aR) (vR := vR) (aD := aD) (vF := vF) (aW := aW) (aI := aI) (aQ := aQ) (aL := aL) (vB := vB) hc
  refine ⟨u, ?_, hu⟩
  rw [← rl_sum_congr 9 hu.2]
  refine Cl_go e_X6_crossedMany (Nat.le_of_ble_eq_true rfl) rfl ?_; intro P hP; refine hP _ _ _ _ ?_; (conv => whnf)
  refine ⟨Nat.le_of_ble_eq_true rfl, rfl, ?_⟩; (conv => whnf)
  refine Or.inl ⟨_, _, hk, ?_⟩
  have lp : ∀ (n i : Nat) (x y : Int32), i + n = 9 → x = nI i → y = nI 36 - nI (rl_sum i u) → P 9 [some (.ref 0), some (.int y), some (.int x), none] [] ((rfM vT aS aH vM aN vS aX vL vP vW aR vR aD vF aW aI aQ (nA u) (bI (shB cl)))) := by
    intro n
    induction n with
    | zero =>
      intro i x y hi hx hy
      have hi : i = 9 := hi
      subst hi
      refine hP _ _ _ _ ?_; (conv => whnf)
      refine b2 9 9 hx rfl (by omega) (by omega) (fun _ => ?_) (fun (q : ¬ 9 ≤ 9) => by omega)
      refine hP _ _ _ _ ?_; (conv => whnf)
      exact ⟨rfl, ⟨.int, rfl, rfl⟩, rI (hy), rfl⟩
    | succ n ih =>
      intro i x y hi hx hy
      subst hx
      have hi9 : i < 9 := by omega
      have hui := hu.1 i hi9
      have inn : ∀ (k p : Nat) (z y2 : Int32), p + k = 4 → z = nI p → y2 = nI 36 - nI (rl_sum i u + cntN (fun p => (u i).testBit p) p) → P 17 [some (.ref 0), some (.int y2), some (.int (nI i)), some (.int z)] [] ((rfM vT aS aH vM aN vS aX vL vP vW aR vR aD vF aW aI aQ (nA u) (bI (shB cl)))) := by
        intro k
        induction k with
        | zero =>
          intro p z y2 hp hz hy2
          have hp : p = 4 := hp
          subst hp
          refine hP _ _ _ _ ?_; (conv => whnf)
          refine b2 4 4 hz rfl (by omega) (by omega) (fun _ => ?_) (fun (q : ¬ 4 ≤ 4) => by omega)
          refine hP _ _ _ _ ?_; (conv => whnf)
          rw [pc_eq hui] at hy2
          exact ih (i + 1) _ _ (by omega) (nI_1 i) hy2
        | succ k ih2 =>
          intro p z y2 hp hz hy2
          subst hz
          have hp4 : p < 4 := by omega
          have e : (nA u (nI i).toNatClampNeg >>> (nI p &&& 31)) &&& nI 1 = nI (bif (u i).testBit p then 1 else 0) := by rw [nA_c hi9, shr_bit (by omega) (by omega)]
          refine hP _ _ _ _ ?_; (conv => whnf)
          refine b2 p 4 rfl rfl (by omega) (by omega) (fun (q : 4 ≤ p) => by omega) (fun _ => ?_); (conv => whnf)
          refine ⟨vi rfl hi9 (by decide), ?_⟩; (conv => whnf)
          refine ih2 (p + 1) _ _ (by omega) (nI_1 p) ?_
          show y2 - ((nA u (nI i).toNatClampNeg >>> (nI p &&& 31)) &&& nI 1) = _
          rw [e, hy2, sub_nI, cntN_succ]
          cases (u i).testBit p <;> rfl
      refine hP _ _ _ _ ?_; (conv => whnf)
      refine b2 i 9 rfl rfl (by omega) (by omega) (fun (q : 9 ≤ i) => by omega) (fun _ => ?_); (conv => whnf)
      exact inn 4 0 _ y rfl rfl hy
  (conv => whnf)
  exact lp 9 0 _ _ rfl rfl (by show nI 36 = nI 36 - nI 0; decide)
theorem m_only {c : Nat} (hc : c < 9) (hv : rl_ok v) : Cl (d + 2) kX6_only [.ref 0, .int (nI c)] ((rfM vT aS aH vM aN vS aX vL vP vW aR vR aD vF aW aI aQ (nA v) vB)) (rV (oplG (v c) 4 0)) ((rfM vT aS aH vM aN vS aX vL vP vW aR vR aD vF aW aI aQ (nA v) vB)) := by
  rw [← last_opl (hv c hc)]
  refine Cl_go e_X6_only (Nat.le_of_ble_eq_true rfl) rfl ?_; intro P hP; refine hP _ _ _ _ ?_; (conv => whnf)
  have lp : ∀ (n i : Nat) (x y : Int32), i + n = 4 → x = nI i → y = lastG (v c) i → P 4 [some (.ref 0), some (.int (nI c)), some (.int y), some (.int x)] [] ((rfM vT aS aH vM aN vS aX vL vP vW aR vR aD vF aW aI aQ (nA v) vB)) := by
    intro n
    induction n with
    | zero =>
      intro i x y hi hx hy
      have hi : i = 4 := hi
      subst hi
      refine hP _ _ _ _ ?_; (conv => whnf)
      refine b2 4 4 hx rfl (by omega) (by omega) (fun _ => ?_) (fun (q : ¬ 4 ≤ 4) => by omega)
      refine hP _ _ _ _ ?_; (conv => whnf)
      exact ⟨rfl, ⟨.int, rfl, rfl⟩, rI (hy), rfl⟩
    | succ n ih =>
      intro i x y hi hx hy
      subst hx
      have hi4 : i < 4 := by omega
      refine hP _ _ _ _ ?_; (conv => whnf)
      refine b2 i 4 rfl rfl (by omega) (by omega) (fun (q : 4 ≤ i) => by omega) (fun _ => ?_); (conv => whnf)
      refine ⟨Nat.le_of_ble_eq_true rfl, rfl, ?_⟩; (conv => whnf)
      refine Or.inl ⟨_, _, m_isOnly (d := d) hc hv hi4, ?_⟩; (conv => whnf)
      cases hb : (v c == 2 ^ i) with
      | true =>
        refine b1 1 rfl (by omega) (fun (q : 1 = 0) => by omega) (fun _ => ?_); (conv => whnf)
        refine hP _ _ _ _ ?_; (conv => whnf)
        refine ih (i + 1) _ _ (by omega) (nI_1 i) ?_
        show nI i = if v c = 2 ^ i then nI i else lastG (v c) i
        rw [if_pos (eq_of_beq hb)]
      | false =>
        refine b1 0 rfl (by omega) (fun _ => ?_) (fun (q : ¬ 0 = 0) => by omega)
        refine hP _ _ _ _ ?_; (conv => whnf)
        refine hP _ _ _ _ ?_; (conv => whnf)
        refine ih (i + 1) _ _ (by omega) (nI_1 i) ?_
        show y = if v c = 2 ^ i then nI i else lastG (v c) i
        rw [if_neg (fun z => by rw [z, beq_self_eq_true] at hb; cases hb), hy]
  exact lp 4 0 _ _ rfl rfl rfl
end M13
