/-! the reference: exchanges, the buffer, undo, the snapshot -/
set_option maxRecDepth 100000 in
theorem exC_all : (List.range 27).all (fun t => (List.range 9).all (fun c => (List.range 9).all (fun o => itr (exN (dq_mask t) c o) 3 == !((dq_mask t).testBit c != (dq_mask t).testBit o && !Nat.beq (c / 3) (o / 3))))) = true := by decide +kernel
theorem exC {q : NA} (h : itr (hq q 3) 3 = true) {c o : Nat} (hc : c < 9) (ho : o < 9) : itr (hq (swp q c o) 3) 3 = !(Nat.beq (q c) 3 != Nat.beq (q o) 3 && !Nat.beq (c / 3) (o / 3)) := by
  obtain ⟨t, ht, e⟩ := itr_mask (hq_lt q 3) h
  have b : ∀ i, i < 9 → Nat.beq (q i) 3 = (dq_mask t).testBit i := fun i hi => by
    rw [← e]; unfold hq; rw [mkP_bit, decide_eq_true hi, Bool.true_and]
  rw [← exN_hq hc ho, e, b c hc, b o ho]
  exact eq_of_beq (List.all_eq_true.mp (List.all_eq_true.mp (List.all_eq_true.mp exC_all t (List.mem_range.mpr ht)) c (List.mem_range.mpr hc)) o (List.mem_range.mpr ho))
section M20
variable {d : Nat} {vT vM vS vL vP vW vR vF vB : Int32} {aS aH aN aX aR aD aW aI aQ aL : IA} {A : AS}
theorem m_exchange (h : rfR aS aH vM aN vS aX vL A) (x y : Int32) : RO tc01 kX6_exchange (d + 12) ((rfM vT aS aH vM aN vS aX vL vP vW aR vR aD vF aW aI aQ aL vB)) [.int x, .int y] (spExch A x y) := by
  rcases bad_or x y (n := 9) (k := 9) (by decide) (by decide) with hb | ⟨c, o, hc, ho, rfl, rfl⟩
  · have e : spExch A x y = (.inr 0, A) := by
      unfold spExch
      rcases hb with hb | hb
      · rw [decN_out hb]
      · rw [decN_out hb]; cases decN x 9 <;> rfl
    rw [e]
    refine RO_er (x := .int (nI 0)) (M' := (rfM (nI 1) aS aH vM aN vS aX vL vP vW aR vR aD vF aW aI aQ aL vB)) ?_ (RM_of (vT := nI 1) (aS := aS) (aH := aH) (vM := vM) (aN := aN) (vS := vS) (aX := aX) (vL := vL) (vP := vP) (vW := vW) (aR := aR) (vR := vR) (aD := aD) (vF := vF) (aW := aW) (aI := aI) (aQ := aQ) (aL := aL) (vB := vB) h)
    refine Cl_go e_X6_exchange (Nat.le_of_ble_eq_true rfl) rfl ?_; intro P hP; refine hP _ _ _ _ ?_; (conv => whnf)
    refine ⟨⟨rfl, rfl⟩, ?_⟩; (conv => whnf)
    have f19 : P 19 [some (.ref 0), none, none, none] [] ((rfM (nI 0) aS aH vM aN vS aX vL vP vW aR vR aD vF aW aI aQ aL vB)) := by
      refine hP _ _ _ _ ?_; (conv => whnf)
      refine ⟨Nat.le_of_ble_eq_true rfl, rfl, ?_⟩; (conv => whnf)
      refine Or.inl ⟨_, _, m_fails (d := d + 10) (vT := nI 0) (aS := aS) (aH := aH) (vM := vM) (aN := aN) (vS := vS) (aX := aX) (vL := vL) (vP := vP) (vW := vW) (aR := aR) (vR := vR) (aD := aD) (vF := vF) (aW := aW) (aI := aI) (aQ := aQ) (aL := aL) (vB := vB) (x := nI 1), ?_⟩; (conv => whnf)
      exact ⟨rfl, ⟨.int, rfl, rfl⟩, rfl, rfl⟩
    refine ⟨Nat.le_of_ble_eq_true rfl, rfl, ?_⟩; (conv => whnf)
    rcases in_out x (n := 9) (by decide) with hx | ⟨a, ha, rfl⟩
    · refine Or.inl ⟨_, _, Cl_s (m_isCard_f (d := d + 9) hx), ?_⟩; (conv => whnf)
      refine b1 0 rfl (by omega) (fun _ => f19) (fun (q : ¬ 0 = 0) => by omega)
    · have hy : out y 9 := hb.resolve_left (fun z => by
        rcases z with z | z
        · exact nI_pos (show a < 2 ^ 31 by omega) z
        · exact nI_ge ha (by decide) z)
      refine Or.inl ⟨_, _, Cl_s (m_isCard_t (d := d + 9) ha), ?_⟩; (conv => whnf)
      refine b1 1 rfl (by omega) (fun (q : 1 = 0) => by omega) (fun _ => ?_); (conv => whnf)
      refine ⟨Nat.le_of_ble_eq_true rfl, rfl, ?_⟩; (conv => whnf)
      refine Or.inl ⟨_, _, Cl_s (m_isCard_f (d := d + 9) hy), ?_⟩; (conv => whnf)
      refine b1 0 rfl (by omega) (fun (q : ¬ 0 = 0) => by omega) (fun _ => ?_); (conv => whnf)
      exact f19
  · have e : spExch A (nI c) (nI o) = if itr (hq (swp A.1.2.1 c o) 3) 3 = true then (rV (nI (ntr (hq (swp A.1.2.1 c o) 3) 9)), chg A (A.1.1, swp A.1.2.1 c o, A.1.2.2)) else (.inr 1, A) := by
      unfold spExch
      rw [decN_in hc (by decide), decN_in ho (by decide)]
    rw [e]
    have hex := exC (it_ok h.1) hc ho
    obtain ⟨vc, lc⟩ := h.1.2.1 c hc
    obtain ⟨vo, lo⟩ := h.1.2.1 o ho
    have xc : nI 3 + nI c = nI (3 + c) := nI_add _ _
    have xo : nI 3 + nI o = nI (3 + o) := nI_add _ _
    have ec : aS (nI 3 + nI c).toNatClampNeg = nI (A.1.2.1 c) := by rw [xc, nI_clamp (by omega)]; exact vc
    have eo : aS (nI 3 + nI o).toNatClampNeg = nI (A.1.2.1 o) := by rw [xo, nI_clamp (by omega)]; exact vo
    have dc : nI c / nI 3 = nI (c / 3) := pk_div (by omega) (by decide) (by decide)
    have do' : nI o / nI 3 = nI (o / 3) := pk_div (by omega) (by decide) (by decide)
    -- the two roads
    suffices hh : ∀ (r : Res) (N : Mem), (itr (hq (swp A.1.2.1 c o) 3) 3 = true → r = rV (nI (ntr (hq (swp A.1.2.1 c o) 3) 9)) ∧ N = (rfM (nI 0) (exF aS c o) (rcF2 A.2.2.1.length aS aH) (nI (svN A.2.2.1.length)) aN vS aX vL vP vW aR vR (hdM (swp A.1.2.1 c o) 9 aD) vF aW aI aQ aL vB)) →
        (itr (hq (swp A.1.2.1 c o) 3) 3 = false → r = rV (nI 0) ∧ N = (rfM (nI 2) aS aH vM aN vS aX vL vP vW aR vR aD vF aW aI aQ aL vB)) → Cl (d + 12) kX6_exchange [.ref 0, .int (nI c), .int (nI o)] ((rfM vT aS aH vM aN vS aX vL vP vW aR vR aD vF aW aI aQ aL vB)) r N by
      cases hi : itr (hq (swp A.1.2.1 c o) 3) 3 with
      | true =>
        rw [if_pos rfl]
        have hst := stM_ex h.1 hc ho ⟨fun i hi => by unfold swp; split; exact lo; split; exact lc; exact (h.1.2.1 i hi).2, hi⟩
        exact RO_ok (hh _ _ (fun _ => ⟨rfl, rfl⟩) (fun z => by rw [hi] at z; cases z)) (RM_of (vT := nI 0) (aS := exF aS c o) (aH := rcF2 A.2.2.1.length aS aH) (vM := nI (svN A.2.2.1.length)) (aN := aN) (vS := vS) (aX := aX) (vL := vL) (vP := vP) (vW := vW) (aR := aR) (vR := vR) (aD := hdM (swp A.1.2.1 c o) 9 aD) (vF := vF) (aW := aW) (aI := aI) (aQ := aQ) (aL := aL) (vB := vB) (rfR_chg h hst))
      | false =>
        rw [if_neg (by decide)]
        exact RO_er (hh _ _ (fun z => by rw [hi] at z; cases z) (fun _ => ⟨rfl, rfl⟩)) (RM_of (vT := nI 2) (aS := aS) (aH := aH) (vM := vM) (aN := aN) (vS := vS) (aX := aX) (vL := vL) (vP := vP) (vW := vW) (aR := aR) (vR := vR) (aD := aD) (vF := vF) (aW := aW) (aI := aI) (aQ := aQ) (aL := aL) (vB := vB) h)
    intro r N h1 h2
    have hL : N.length = 11 := by
      cases hi : itr (hq (swp A.1.2.1 c o) 3) 3 with
      | true => rw [(h1 hi).2]; rfl
      | false => rw [(h2 hi).2]; rfl
    refine Cl_go e_X6_exchange (Nat.le_of_ble_eq_true rfl) (hL) ?_; intro P hP; refine hP _ _ _ _ ?_; (conv => whnf)
    refine ⟨⟨rfl, rfl⟩, ?_⟩; (conv => whnf)
    refine ⟨Nat.le_of_ble_eq_true rfl, rfl, ?_⟩; (conv => whnf)
    refine Or.inl ⟨_, _, Cl_s (m_isCard_t (d := d + 9) hc), ?_⟩; (conv => whnf)
    refine b1 1 rfl (by omega) (fun (q : 1 = 0) => by omega) (fun _ => ?_); (conv => whnf)
    refine ⟨Nat.le_of_ble_eq_true rfl, rfl, ?_⟩; (conv => whnf)
    refine Or.inl ⟨_, _, Cl_s (m_isCard_t (d := d + 9) ho), ?_⟩; (conv => whnf)
    have f79 : itr (hq (swp A.1.2.1 c o) 3) 3 = true → P 79 [some (.ref 0), some (.int (nI c)), some (.int (nI o)), none] [] ((rfM (nI 0) aS aH vM aN vS aX vL vP vW aR vR aD vF aW aI aQ aL vB)) := by
      intro hi
      obtain ⟨rfl, rfl⟩ := h1 hi
      refine hP _ _ _ _ ?_; (conv => whnf)
      refine ⟨Nat.le_of_ble_eq_true rfl, rfl, ?_⟩; (conv => whnf)
      refine Or.inl ⟨_, _, m_records (d := d + 10) (vT := nI 0) (aS := aS) (aH := aH) (vM := vM) (aN := aN) (vS := vS) (aX := aX) (vL := vL) (vP := vP) (vW := vW) (aR := aR) (vR := vR) (aD := aD) (vF := vF) (aW := aW) (aI := aI) (aQ := aQ) (aL := aL) (vB := vB) h.2.1.1 h.2.2.1, ?_⟩; (conv => whnf)
      refine ⟨Nat.le_of_ble_eq_true rfl, rfl, ?_⟩; (conv => whnf)
      refine Or.inl ⟨_, _, m_changes (d := d + 10) (vT := nI 0) (aS := aS) (aH := rcF2 A.2.2.1.length aS aH) (vM := nI (svN A.2.2.1.length)) (aN := aN) (vS := vS) (aX := aX) (vL := vL) (vP := vP) (vW := vW) (aR := aR) (vR := vR) (aD := aD) (vF := vF) (aW := aW) (aI := aI) (aQ := aQ) (aL := aL) (vB := vB) hc ho, ?_⟩; (conv => whnf)
      refine ⟨Nat.le_of_ble_eq_true rfl, rfl, ?_⟩; (conv => whnf)
      refine Or.inl ⟨_, _, m_masterTriple (d := d + 9) (vT := nI 0) (aS := exF aS c o) (aH := rcF2 A.2.2.1.length aS aH) (vM := nI (svN A.2.2.1.length)) (aN := aN) (vS := vS) (aX := aX) (vL := vL) (vP := vP) (vW := vW) (aR := aR) (vR := vR) (aD := aD) (vF := vF) (aW := aW) (aI := aI) (aQ := aQ) (aL := aL) (vB := vB) (q := swp A.1.2.1 c o) (plS_ex h.1.2.1 hc ho) hi, ?_⟩; (conv => whnf)
      exact ⟨rfl, ⟨.int, rfl, rfl⟩, rfl, rfl⟩
    have f61 : ∀ p1 p2 : Bool, p1 = Nat.beq (A.1.2.1 c) 3 → p2 = Nat.beq (A.1.2.1 o) 3 → P 61 [some (.ref 0), some (.int (nI c)), some (.int (nI o)), none] [.int (bI p2), .int (bI p1)] ((rfM (nI 0) aS aH vM aN vS aX vL vP vW aR vR aD vF aW aI aQ aL vB)) := by
      intro p1 p2 e1 e2
      rw [← e1, ← e2] at hex
      cases p1 with
      | true =>
        cases p2 with
        | true =>
          refine hP _ _ _ _ ?_; (conv => whnf)
          refine b2 1 1 rfl rfl (by omega) (by omega) (fun _ => ?_) (fun (q : ¬ 1 = 1) => by omega)
          exact f79 (by rw [hex]; rfl)
        | false =>
          refine hP _ _ _ _ ?_; (conv => whnf)
          refine b2 1 0 rfl rfl (by omega) (by omega) (fun (q : 1 = 0) => by omega) (fun _ => ?_); (conv => whnf)
          refine ⟨by decide, ?_⟩; (conv => whnf)
          refine ⟨by decide, ?_⟩; (conv => whnf)
          refine b2 (c / 3) (o / 3) dc do' (by omega) (by omega) (fun (q : c / 3 = o / 3) => ?_) (fun (q : ¬ c / 3 = o / 3) => ?_)
          · exact f79 (by rw [hex, nbt q]; rfl)
          · obtain ⟨rfl, rfl⟩ := h2 (by rw [hex, nbf q]; rfl)
            (conv => whnf)
            refine ⟨Nat.le_of_ble_eq_true rfl, rfl, ?_⟩; (conv => whnf)
            refine Or.inl ⟨_, _, m_fails (d := d + 10) (vT := nI 0) (aS := aS) (aH := aH) (vM := vM) (aN := aN) (vS := vS) (aX := aX) (vL := vL) (vP := vP) (vW := vW) (aR := aR) (vR := vR) (aD := aD) (vF := vF) (aW := aW) (aI := aI) (aQ := aQ) (aL := aL) (vB := vB) (x := nI 2), ?_⟩; (conv => whnf)
            exact ⟨rfl, ⟨.int, rfl, rfl⟩, rfl, rfl⟩
      | false =>
        cases p2 with
        | true =>
          refine hP _ _ _ _ ?_; (conv => whnf)
          refine b2 0 1 rfl rfl (by omega) (by omega) (fun (q : 0 = 1) => by omega) (fun _ => ?_); (conv => whnf)
          refine ⟨by decide, ?_⟩; (conv => whnf)
          refine ⟨by decide, ?_⟩; (conv => whnf)
          refine b2 (c / 3) (o / 3) dc do' (by omega) (by omega) (fun (q : c / 3 = o / 3) => ?_) (fun (q : ¬ c / 3 = o / 3) => ?_)
          · exact f79 (by rw [hex, nbt q]; rfl)
          · obtain ⟨rfl, rfl⟩ := h2 (by rw [hex, nbf q]; rfl)
            (conv => whnf)
            refine ⟨Nat.le_of_ble_eq_true rfl, rfl, ?_⟩; (conv => whnf)
            refine Or.inl ⟨_, _, m_fails (d := d + 10) (vT := nI 0) (aS := aS) (aH := aH) (vM := vM) (aN := aN) (vS := vS) (aX := aX) (vL := vL) (vP := vP) (vW := vW) (aR := aR) (vR := vR) (aD := aD) (vF := vF) (aW := aW) (aI := aI) (aQ := aQ) (aL := aL) (vB := vB) (x := nI 2), ?_⟩; (conv => whnf)
            exact ⟨rfl, ⟨.int, rfl, rfl⟩, rfl, rfl⟩
        | false =>
          refine hP _ _ _ _ ?_; (conv => whnf)
          refine b2 0 0 rfl rfl (by omega) (by omega) (fun _ => ?_) (fun (q : ¬ 0 = 0) => by omega)
          exact f79 (by rw [hex]; rfl)
    have f42 : ∀ p1 : Bool, p1 = Nat.beq (A.1.2.1 c) 3 → P 42 [some (.ref 0), some (.int (nI c)), some (.int (nI o)), none] [.int (bI p1)] ((rfM (nI 0) aS aH vM aN vS aX vL vP vW aR vR aD vF aW aI aQ aL vB)) := by
      intro p1 e1
      refine hP _ _ _ _ ?_; (conv => whnf)
      refine ⟨vi (n := 3 + o) xo (by omega) (by decide), ?_⟩; (conv => whnf)
      refine b2 (A.1.2.1 o) 3 eo rfl (by omega) (by omega) (fun (q : ¬ A.1.2.1 o = 3) => ?_) (fun (q : ¬ ¬ A.1.2.1 o = 3) => ?_)
      · refine hP _ _ _ _ ?_; (conv => whnf)
        exact f61 p1 false e1 (nbf q).symm
      · (conv => whnf)
        exact f61 p1 true e1 (nbt (Decidable.of_not_not q)).symm
    refine b1 1 rfl (by omega) (fun _ => ?_) (fun (q : ¬ ¬ 1 = 0) => by omega)
    refine hP _ _ _ _ ?_; (conv => whnf)
    refine ⟨vi (n := 3 + c) xc (by omega) (by decide), ?_⟩; (conv => whnf)
    refine b2 (A.1.2.1 c) 3 ec rfl (by omega) (by omega) (fun (q : ¬ A.1.2.1 c = 3) => ?_) (fun (q : ¬ ¬ A.1.2.1 c = 3) => ?_)
    · refine hP _ _ _ _ ?_; (conv => whnf)
      exact f42 false (nbf q).symm
    · (conv => whnf)
      exact f42 true (nbt (Decidable.of_not_not q)).symm
theorem m_append (h : rfR aS aH vM aN vS aX vL A) (x : Int32) : RO tc21 kX6_append (d + 12) ((rfM vT aS aH vM aN vS aX vL vP vW aR vR aD vF aW aI aQ aL vB)) [.int x] (spAppend A x) := by
  unfold spAppend
  have h60 := h.2.2.2.2.2.1.1
  have hlen := h.2.2.2.2.2.2
  rcases in_out2 x 33 (b := 127) (by decide) (by decide) with hx | ⟨c, hc, rfl⟩
  · rw [dec2_out hx]
    refine RO_er (x := .int (nI 0)) (M' := (rfM (nI 1) aS aH vM aN vS aX vL vP vW aR vR aD vF aW aI aQ aL vB)) ?_ (RM_of (vT := nI 1) (aS := aS) (aH := aH) (vM := vM) (aN := aN) (vS := vS) (aX := aX) (vL := vL) (vP := vP) (vW := vW) (aR := aR) (vR := vR) (aD := aD) (vF := vF) (aW := aW) (aI := aI) (aQ := aQ) (aL := aL) (vB := vB) h)
    refine Cl_go e_X6_append (Nat.le_of_ble_eq_true rfl) rfl ?_; intro P hP; refine hP _ _ _ _ ?_; (conv => whnf)
    refine ⟨⟨rfl, rfl⟩, ?_⟩; (conv => whnf)
    refine ⟨Nat.le_of_ble_eq_true rfl, rfl, ?_⟩; (conv => whnf)
    refine Or.inl ⟨_, _, Cl_s (m_in_f (d := d + 10) (a := nI 33) (b := nI 126) (hx.imp (fun q => q) (lt_of_ge (n := 127) (by decide) (by decide)))), ?_⟩; (conv => whnf)
    refine b1 0 rfl (by omega) (fun (q : ¬ 0 = 0) => by omega) (fun _ => ?_); (conv => whnf)
    refine ⟨Nat.le_of_ble_eq_true rfl, rfl, ?_⟩; (conv => whnf)
    refine Or.inl ⟨_, _, m_fails (d := d + 10) (vT := nI 0) (aS := aS) (aH := aH) (vM := vM) (aN := aN) (vS := vS) (aX := aX) (vL := vL) (vP := vP) (vW := vW) (aR := aR) (vR := vR) (aD := aD) (vF := vF) (aW := aW) (aI := aI) (aQ := aQ) (aL := aL) (vB := vB) (x := nI 1), ?_⟩; (conv => whnf)
    exact ⟨rfl, ⟨.int, rfl, rfl⟩, rfl, rfl⟩
  · rw [dec2_in hc (by decide)]
    show RO tc21 _ _ _ _ (if A.2.2.2.length < 60 then (rV (nI (A.2.2.2.length + 1)), (A.1, A.2.1, A.2.2.1, A.2.2.2 ++ [c])) else (.inr 1, A))
    by_cases hn : A.2.2.2.length < 60
    · rw [if_pos hn]
      have ht := txR_add h.2.2.2.2.2.1 hn hc
      have hR : rfR aS aH vM aN vS (upd aX A.2.2.2.length (nI c)) (nI (A.2.2.2.length + 1)) (A.1, A.2.1, A.2.2.1, A.2.2.2 ++ [c]) := ⟨h.1, h.2.1, h.2.2.1, h.2.2.2.1, h.2.2.2.2.1, ht, by show _ = nI (A.2.2.2 ++ [c]).length; rw [List.length_append]; rfl⟩
      refine RO_ok (M' := (rfM (nI 0) aS aH vM aN vS (upd aX A.2.2.2.length (nI c)) (nI (A.2.2.2.length + 1)) vP vW aR vR aD vF aW aI aQ aL vB)) ?_ (RM_of (vT := nI 0) (aS := aS) (aH := aH) (vM := vM) (aN := aN) (vS := vS) (aX := upd aX A.2.2.2.length (nI c)) (vL := nI (A.2.2.2.length + 1)) (vP := vP) (vW := vW) (aR := aR) (vR := vR) (aD := aD) (vF := vF) (aW := aW) (aI := aI) (aQ := aQ) (aL := aL) (vB := vB) hR)
      have e1 : vL + nI 1 = nI (A.2.2.2.length + 1) := by rw [hlen, nI_add]
      have e2 : vL.toNatClampNeg = A.2.2.2.length := by rw [hlen, nI_clamp (by omega)]
      refine Cl_go e_X6_append (Nat.le_of_ble_eq_true rfl) rfl ?_; intro P hP; refine hP _ _ _ _ ?_; (conv => whnf)
      refine ⟨⟨rfl, rfl⟩, ?_⟩; (conv => whnf)
      refine ⟨Nat.le_of_ble_eq_true rfl, rfl, ?_⟩; (conv => whnf)
      refine Or.inl ⟨_, _, Cl_s (m_in_t (d := d + 10) (a := nI 33) (b := nI 126) (nI_nlt hc.1 (show c < 2 ^ 31 by omega)) (nI_nlt (show c ≤ 126 by omega) (by decide))), ?_⟩; (conv => whnf)
      refine b1 1 rfl (by omega) (fun _ => ?_) (fun (q : ¬ ¬ 1 = 0) => by omega)
      refine hP _ _ _ _ ?_; (conv => whnf)
      refine b2 A.2.2.2.length 60 hlen rfl (by omega) (by omega) (fun _ => ?_) (fun (q : ¬ ¬ A.2.2.2.length = 60) => by omega)
      refine hP _ _ _ _ ?_; (conv => whnf)
      refine ⟨vi hlen hn (by decide), ?_⟩; (conv => whnf)
      refine ⟨⟨rfl, rfl⟩, ?_⟩; (conv => whnf)
      refine ⟨rfl, ⟨.int, rfl, rfl⟩, rI e1, ?_⟩
      rw [← e1, ← e2]
      rfl
    · rw [if_neg hn]
      refine RO_er (x := .int (nI 0)) (M' := (rfM (nI 2) aS aH vM aN vS aX vL vP vW aR vR aD vF aW aI aQ aL vB)) ?_ (RM_of (vT := nI 2) (aS := aS) (aH := aH) (vM := vM) (aN := aN) (vS := vS) (aX := aX) (vL := vL) (vP := vP) (vW := vW) (aR := aR) (vR := vR) (aD := aD) (vF := vF) (aW := aW) (aI := aI) (aQ := aQ) (aL := aL) (vB := vB) h)
      refine Cl_go e_X6_append (Nat.le_of_ble_eq_true rfl) rfl ?_; intro P hP; refine hP _ _ _ _ ?_; (conv => whnf)
      refine ⟨⟨rfl, rfl⟩, ?_⟩; (conv => whnf)
      refine ⟨Nat.le_of_ble_eq_true rfl, rfl, ?_⟩; (conv => whnf)
      refine Or.inl ⟨_, _, Cl_s (m_in_t (d := d + 10) (a := nI 33) (b := nI 126) (nI_nlt hc.1 (show c < 2 ^ 31 by omega)) (nI_nlt (show c ≤ 126 by omega) (by decide))), ?_⟩; (conv => whnf)
      refine b1 1 rfl (by omega) (fun _ => ?_) (fun (q : ¬ ¬ 1 = 0) => by omega)
      refine hP _ _ _ _ ?_; (conv => whnf)
      refine b2 A.2.2.2.length 60 hlen rfl (by omega) (by omega) (fun (q : ¬ A.2.2.2.length = 60) => by omega) (fun _ => ?_); (conv => whnf)
      refine ⟨Nat.le_of_ble_eq_true rfl, rfl, ?_⟩; (conv => whnf)
      refine Or.inl ⟨_, _, m_fails (d := d + 10) (vT := nI 0) (aS := aS) (aH := aH) (vM := vM) (aN := aN) (vS := vS) (aX := aX) (vL := vL) (vP := vP) (vW := vW) (aR := aR) (vR := vR) (aD := aD) (vF := vF) (aW := aW) (aI := aI) (aQ := aQ) (aL := aL) (vB := vB) (x := nI 2), ?_⟩; (conv => whnf)
      exact ⟨rfl, ⟨.int, rfl, rfl⟩, rfl, rfl⟩
theorem txR_nil (f : IA) : txR f [] := ⟨Nat.zero_le _, fun j c h => (by cases h)⟩
theorem m_clearBuffer (h : rfR aS aH vM aN vS aX vL A) {tc : Nat → Nat} : RO tc kX6_clearBuffer (d + 12) ((rfM vT aS aH vM aN vS aX vL vP vW aR vR aD vF aW aI aQ aL vB)) [] (spClear A) := by
  have hR : rfR aS aH vM aN vS aX (nI 0) (A.1, A.2.1, A.2.2.1, []) := ⟨h.1, h.2.1, h.2.2.1, h.2.2.2.1, h.2.2.2.2.1, txR_nil _, rfl⟩
  refine RO_ok (M' := (rfM (nI 0) aS aH vM aN vS aX (nI 0) vP vW aR vR aD vF aW aI aQ aL vB)) ?_ (RM_of (vT := nI 0) (aS := aS) (aH := aH) (vM := vM) (aN := aN) (vS := vS) (aX := aX) (vL := nI 0) (vP := vP) (vW := vW) (aR := aR) (vR := vR) (aD := aD) (vF := vF) (aW := aW) (aI := aI) (aQ := aQ) (aL := aL) (vB := vB) hR)
  refine Cl_go e_X6_clearBuffer (Nat.le_of_ble_eq_true rfl) rfl ?_; intro P hP; refine hP _ _ _ _ ?_; (conv => whnf)
  refine ⟨⟨rfl, rfl⟩, ?_⟩; (conv => whnf)
  refine ⟨⟨rfl, rfl⟩, ?_⟩; (conv => whnf)
  exact ⟨rfl, ⟨.int, rfl, rfl⟩, rI (h.2.2.2.2.2.2), rfl⟩
theorem cp0 (f : IA) (H : IA) {i : Nat} (h : i < 72) : cpR 0 f 72 H i = f i := by
  unfold cpR
  rw [if_pos (by omega), Nat.sub_zero]
theorem m_undo (h : rfR aS aH vM aN vS aX vL A) : RO tc0 kX6_undo (d + 12) ((rfM vT aS aH vM aN vS aX vL vP vW aR vR aD vF aW aI aQ aL vB)) [] (spUndo A) := by
  unfold spUndo
  have h5 := h.2.1.1
  have hsm := h.2.2.1
  cases hg : A.2.2.1.getLast? with
  | none =>
    have h0 : A.2.2.1.length = 0 := by rw [List.getLast?_eq_none_iff.mp hg]; rfl
    refine RO_er (x := .int (nI 0)) (M' := (rfM (nI 1) aS aH vM aN vS aX vL vP vW aR vR aD vF aW aI aQ aL vB)) ?_ (RM_of (vT := nI 1) (aS := aS) (aH := aH) (vM := vM) (aN := aN) (vS := vS) (aX := aX) (vL := vL) (vP := vP) (vW := vW) (aR := aR) (vR := vR) (aD := aD) (vF := vF) (aW := aW) (aI := aI) (aQ := aQ) (aL := aL) (vB := vB) h)
    refine Cl_go e_X6_undo (Nat.le_of_ble_eq_true rfl) rfl ?_; intro P hP; refine hP _ _ _ _ ?_; (conv => whnf)
    refine ⟨⟨rfl, rfl⟩, ?_⟩; (conv => whnf)
    refine b1 A.2.2.1.length hsm (by omega) (fun (q : ¬ A.2.2.1.length = 0) => absurd h0 q) (fun _ => ?_); (conv => whnf)
    refine ⟨Nat.le_of_ble_eq_true rfl, rfl, ?_⟩; (conv => whnf)
    refine Or.inl ⟨_, _, m_fails (d := d + 10) (vT := nI 0) (aS := aS) (aH := aH) (vM := vM) (aN := aN) (vS := vS) (aX := aX) (vL := vL) (vP := vP) (vW := vW) (aR := aR) (vR := vR) (aD := aD) (vF := vF) (aW := aW) (aI := aI) (aQ := aQ) (aL := aL) (vB := vB) (x := nI 1), ?_⟩; (conv => whnf)
    exact ⟨rfl, ⟨.int, rfl, rfl⟩, rfl, rfl⟩
  | some a =>
    have hne : A.2.2.1 ≠ [] := fun z => by rw [z] at hg; cases hg
    have h0 : ¬ A.2.2.1.length = 0 := fun z => hne (List.eq_nil_of_length_eq_zero z)
    have hga : A.2.2.1[A.2.2.1.length - 1]? = some a := by rw [← List.getLast?_eq_getElem?]; exact hg
    have hsa := h.2.1.2 _ a hga
    have hn : A.2.2.1.length - 1 < 5 := by omega
    have e1 : vM - nI 1 = nI (A.2.2.1.length - 1) := by rw [hsm, pk_sub (by omega)]
    have hdl : A.2.2.1.dropLast.length = A.2.2.1.length - 1 := List.length_dropLast
    have hst : stM (cpR 0 (fun i => aH (72 * (A.2.2.1.length - 1) + i)) 72 aS) a := stM_congr hsa (fun i hi => (cp0 (fun i => aH (72 * (A.2.2.1.length - 1) + i)) aS hi).symm)
    have hR : rfR (cpR 0 (fun i => aH (72 * (A.2.2.1.length - 1) + i)) 72 aS) aH (nI (A.2.2.1.length - 1)) aN vS aX vL (a, A.2.1, A.2.2.1.dropLast, A.2.2.2) := by
      refine ⟨hst, ⟨by show A.2.2.1.dropLast.length ≤ 5; omega, fun j b hj => ?_⟩, by show _ = nI A.2.2.1.dropLast.length; rw [hdl], h.2.2.2.1, h.2.2.2.2.1, h.2.2.2.2.2⟩
      have hj : A.2.2.1.dropLast[j]? = some b := hj
      have hjl : j < A.2.2.1.dropLast.length := (List.getElem?_eq_some_iff.mp hj).1
      rw [List.getElem?_dropLast, if_pos (by omega)] at hj
      exact h.2.1.2 j b hj
    refine RO_ok (M' := (rfM (nI 0) (cpR 0 (fun i => aH (72 * (A.2.2.1.length - 1) + i)) 72 aS) aH (nI (A.2.2.1.length - 1)) aN vS aX vL vP vW aR vR aD vF aW aI aQ aL vB)) ?_ (RM_of (vT := nI 0) (aS := cpR 0 (fun i => aH (72 * (A.2.2.1.length - 1) + i)) 72 aS) (aH := aH) (vM := nI (A.2.2.1.length - 1)) (aN := aN) (vS := vS) (aX := aX) (vL := vL) (vP := vP) (vW := vW) (aR := aR) (vR := vR) (aD := aD) (vF := vF) (aW := aW) (aI := aI) (aQ := aQ) (aL := aL) (vB := vB) hR)
    generalize A.2.2.1.length - 1 = n at *
    refine Cl_go e_X6_undo (Nat.le_of_ble_eq_true rfl) rfl ?_; intro P hP; refine hP _ _ _ _ ?_; (conv => whnf)
    refine ⟨⟨rfl, rfl⟩, ?_⟩; (conv => whnf)
    refine b1 A.2.2.1.length hsm (by omega) (fun _ => ?_) (fun (q : ¬ ¬ A.2.2.1.length = 0) => absurd h0 q)
    refine hP _ _ _ _ ?_; (conv => whnf)
    refine ⟨⟨rfl, rfl⟩, ?_⟩; (conv => whnf)
    have lp : ∀ (z j : Nat) (x : Int32) (N : Mem), j + z = 72 → x = nI j → N = (rfM (nI 0) (cpR 0 (fun i => aH (72 * n + i)) j aS) aH (nI n) aN vS aX vL vP vW aR vR aD vF aW aI aQ aL vB) → P 30 [some (.ref 0), some (.int x)] [] N := by
      intro z
      induction z with
      | zero =>
        intro j x N hj hx hN
        have hj : j = 72 := hj
        subst hj
        subst hN
        refine hP _ _ _ _ ?_; (conv => whnf)
        refine b2 72 72 hx rfl (by omega) (by omega) (fun _ => ?_) (fun (q : ¬ 72 ≤ 72) => by omega)
        refine hP _ _ _ _ ?_; (conv => whnf)
        exact ⟨rfl, ⟨.int, rfl, rfl⟩, rfl, rfl⟩
      | succ z ih =>
        intro j x N hj hx hN
        subst hN
        subst hx
        have hj72 : j < 72 := by omega
        have ex : cst 72 * nI n + nI j = nI (72 * n + j) := by rw [show cst 72 = nI 72 from rfl, pk_mul, nI_add]
        refine hP _ _ _ _ ?_; (conv => whnf)
        refine b2 j 72 rfl rfl (by omega) (by omega) (fun (q : 72 ≤ j) => by omega) (fun _ => ?_); (conv => whnf)
        refine ⟨vi (n := 72 * n + j) ex (by omega) (by decide), ?_⟩; (conv => whnf)
        refine ⟨vi rfl hj72 (by decide), ?_⟩; (conv => whnf)
        refine ih (j + 1) _ _ (by omega) (nI_1 j) ?_
        have e9 : upd (cpR 0 (fun i => aH (72 * n + i)) j aS) (nI j).toNatClampNeg (aH (cst 72 * nI n + nI j).toNatClampNeg) = cpR 0 (fun i => aH (72 * n + i)) (j + 1) aS := by
          rw [ex, nI_clamp (by omega), nI_clamp (by omega)]
          have := cpR_s 0 (fun i => aH (72 * n + i)) j aS
          rwa [Nat.zero_add] at this
        rw [← e9]
        rfl
    refine lp 72 0 _ _ rfl rfl ?_
    rw [cpR_0, ← e1]
    rfl
theorem m_keep (h : rfR aS aH vM aN vS aX vL A) {tc : Nat → Nat} : RO tc kX6_keep (d + 12) ((rfM vT aS aH vM aN vS aX vL vP vW aR vR aD vF aW aI aQ aL vB)) [] (spKeep A) := by
  have hR : rfR aS aH vM (cpR 0 aS 72 aN) (nI 1) aX vL (A.1, some A.1, A.2.2) := by
    refine ⟨h.1, h.2.1, h.2.2.1, fun a ha => ?_, rfl, h.2.2.2.2.2⟩
    have ha : A.1 = a := Option.some.inj ha
    rw [← ha]
    exact stM_congr h.1 (fun i hi => (cp0 _ _ hi).symm)
  refine RO_ok (M' := (rfM (nI 0) aS aH vM (cpR 0 aS 72 aN) (nI 1) aX vL vP vW aR vR aD vF aW aI aQ aL vB)) ?_ (RM_of (vT := nI 0) (aS := aS) (aH := aH) (vM := vM) (aN := cpR 0 aS 72 aN) (vS := nI 1) (aX := aX) (vL := vL) (vP := vP) (vW := vW) (aR := aR) (vR := vR) (aD := aD) (vF := vF) (aW := aW) (aI := aI) (aQ := aQ) (aL := aL) (vB := vB) hR)
  refine Cl_go e_X6_keep (Nat.le_of_ble_eq_true rfl) rfl ?_; intro P hP; refine hP _ _ _ _ ?_; (conv => whnf)
  refine ⟨⟨rfl, rfl⟩, ?_⟩; (conv => whnf)
  have lp : ∀ (z j : Nat) (x : Int32) (N : Mem), j + z = 72 → x = nI j → N = (rfM (nI 0) aS aH vM (cpR 0 aS j aN) vS aX vL vP vW aR vR aD vF aW aI aQ aL vB) → P 7 [some (.ref 0), some (.int x)] [] N := by
    intro z
    induction z with
    | zero =>
      intro j x N hj hx hN
      have hj : j = 72 := hj
      subst hj
      subst hN
      refine hP _ _ _ _ ?_; (conv => whnf)
      refine b2 72 72 hx rfl (by omega) (by omega) (fun _ => ?_) (fun (q : ¬ 72 ≤ 72) => by omega)
      refine hP _ _ _ _ ?_; (conv => whnf)
      refine ⟨⟨rfl, rfl⟩, ?_⟩; (conv => whnf)
      refine ⟨vi (n := 0) rfl (by decide) (by decide), ?_⟩; (conv => whnf)
      exact ⟨rfl, ⟨.int, rfl, rfl⟩, rI (h.1.1.1), rfl⟩
    | succ z ih =>
      intro j x N hj hx hN
      subst hN
      subst hx
      have hj72 : j < 72 := by omega
      refine hP _ _ _ _ ?_; (conv => whnf)
      refine b2 j 72 rfl rfl (by omega) (by omega) (fun (q : 72 ≤ j) => by omega) (fun _ => ?_); (conv => whnf)
      refine ⟨vi rfl hj72 (by decide), ?_⟩; (conv => whnf)
      refine ⟨vi rfl hj72 (by decide), ?_⟩; (conv => whnf)
      refine ih (j + 1) _ _ (by omega) (nI_1 j) ?_
      have e9 : upd (cpR 0 aS j aN) (nI j).toNatClampNeg (aS (nI j).toNatClampNeg) = cpR 0 aS (j + 1) aN := by
        rw [nI_clamp (by omega)]
        have := cpR_s 0 aS j aN
        rwa [Nat.zero_add] at this
      rw [← e9]
      rfl
  exact lp 72 0 _ _ rfl rfl (by rw [cpR_0]; rfl)
theorem m_restore (h : rfR aS aH vM aN vS aX vL A) : RO tc0 kX6_restore (d + 12) ((rfM vT aS aH vM aN vS aX vL vP vW aR vR aD vF aW aI aQ aL vB)) [] (spRestore A) := by
  unfold spRestore
  have hhs := h.2.2.2.2.1
  cases hg : A.2.1 with
  | none =>
    rw [hg] at hhs
    refine RO_er (x := .int (nI 0)) (M' := (rfM (nI 1) aS aH vM aN vS aX vL vP vW aR vR aD vF aW aI aQ aL vB)) ?_ (RM_of (vT := nI 1) (aS := aS) (aH := aH) (vM := vM) (aN := aN) (vS := vS) (aX := aX) (vL := vL) (vP := vP) (vW := vW) (aR := aR) (vR := vR) (aD := aD) (vF := vF) (aW := aW) (aI := aI) (aQ := aQ) (aL := aL) (vB := vB) h)
    refine Cl_go e_X6_restore (Nat.le_of_ble_eq_true rfl) rfl ?_; intro P hP; refine hP _ _ _ _ ?_; (conv => whnf)
    refine ⟨⟨rfl, rfl⟩, ?_⟩; (conv => whnf)
    refine b1 0 hhs (by omega) (fun (q : ¬ 0 = 0) => by omega) (fun _ => ?_); (conv => whnf)
    refine ⟨Nat.le_of_ble_eq_true rfl, rfl, ?_⟩; (conv => whnf)
    refine Or.inl ⟨_, _, m_fails (d := d + 10) (vT := nI 0) (aS := aS) (aH := aH) (vM := vM) (aN := aN) (vS := vS) (aX := aX) (vL := vL) (vP := vP) (vW := vW) (aR := aR) (vR := vR) (aD := aD) (vF := vF) (aW := aW) (aI := aI) (aQ := aQ) (aL := aL) (vB := vB) (x := nI 1), ?_⟩; (conv => whnf)
    exact ⟨rfl, ⟨.int, rfl, rfl⟩, rfl, rfl⟩
  | some a =>
    rw [hg] at hhs
    have hst : stM (cpR 0 aN 72 aS) a := stM_congr (h.2.2.2.1 a hg) (fun i hi => (cp0 _ _ hi).symm)
    refine RO_ok (M' := (rfM (nI 0) (cpR 0 aN 72 aS) (rcF2 A.2.2.1.length aS aH) (nI (svN A.2.2.1.length)) aN vS aX vL vP vW aR vR aD vF aW aI aQ aL vB)) ?_ (RM_of (vT := nI 0) (aS := cpR 0 aN 72 aS) (aH := rcF2 A.2.2.1.length aS aH) (vM := nI (svN A.2.2.1.length)) (aN := aN) (vS := vS) (aX := aX) (vL := vL) (vP := vP) (vW := vW) (aR := aR) (vR := vR) (aD := aD) (vF := vF) (aW := aW) (aI := aI) (aQ := aQ) (aL := aL) (vB := vB) (rfR_chg h hst))
    refine Cl_go e_X6_restore (Nat.le_of_ble_eq_true rfl) rfl ?_; intro P hP; refine hP _ _ _ _ ?_; (conv => whnf)
    refine ⟨⟨rfl, rfl⟩, ?_⟩; (conv => whnf)
    refine b1 1 hhs (by omega) (fun _ => ?_) (fun (q : ¬ ¬ 1 = 0) => by omega)
    refine hP _ _ _ _ ?_; (conv => whnf)
    refine ⟨Nat.le_of_ble_eq_true rfl, rfl, ?_⟩; (conv => whnf)
    refine Or.inl ⟨_, _, m_records (d := d + 10) (vT := nI 0) (aS := aS) (aH := aH) (vM := vM) (aN := aN) (vS := vS) (aX := aX) (vL := vL) (vP := vP) (vW := vW) (aR := aR) (vR := vR) (aD := aD) (vF := vF) (aW := aW) (aI := aI) (aQ := aQ) (aL := aL) (vB := vB) h.2.1.1 h.2.2.1, ?_⟩; (conv => whnf)
    have lp : ∀ (z j : Nat) (x : Int32) (N : Mem), j + z = 72 → x = nI j → N = (rfM (nI 0) (cpR 0 aN j aS) (rcF2 A.2.2.1.length aS aH) (nI (svN A.2.2.1.length)) aN vS aX vL vP vW aR vR aD vF aW aI aQ aL vB) → P 24 [some (.ref 0), some (.int x)] [] N := by
      intro z
      induction z with
      | zero =>
        intro j x N hj hx hN
        have hj : j = 72 := hj
        subst hj
        subst hN
        refine hP _ _ _ _ ?_; (conv => whnf)
        refine b2 72 72 hx rfl (by omega) (by omega) (fun _ => ?_) (fun (q : ¬ 72 ≤ 72) => by omega)
        refine hP _ _ _ _ ?_; (conv => whnf)
        refine ⟨vi (n := 0) rfl (by decide) (by decide), ?_⟩; (conv => whnf)
        exact ⟨rfl, ⟨.int, rfl, rfl⟩, rI (hst.1.1), rfl⟩
      | succ z ih =>
        intro j x N hj hx hN
        subst hN
        subst hx
        have hj72 : j < 72 := by omega
        refine hP _ _ _ _ ?_; (conv => whnf)
        refine b2 j 72 rfl rfl (by omega) (by omega) (fun (q : 72 ≤ j) => by omega) (fun _ => ?_); (conv => whnf)
        refine ⟨vi rfl hj72 (by decide), ?_⟩; (conv => whnf)
        refine ⟨vi rfl hj72 (by decide), ?_⟩; (conv => whnf)
        refine ih (j + 1) _ _ (by omega) (nI_1 j) ?_
        have e9 : upd (cpR 0 aN j aS) (nI j).toNatClampNeg (aN (nI j).toNatClampNeg) = cpR 0 aN (j + 1) aS := by
          rw [nI_clamp (by omega)]
          have := cpR_s 0 aN j aS
          rwa [Nat.zero_add] at this
        rw [← e9]
        rfl
    exact lp 72 0 _ _ rfl rfl (by rw [cpR_0])
end M20
