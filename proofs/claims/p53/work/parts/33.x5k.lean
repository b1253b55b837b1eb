/-! the class: the calls that ask for counts, and for what follows by rules -/
def sp1 (A : AS) (x : Int32) (n : Nat) (f : Nat → Int32) : Res × AS := match decN x n with
  | some k => (rV (f k), A)
  | none => (.inr 0, A)
def sp2 (A : AS) (x y : Int32) (n m : Nat) (f : Nat → Nat → Int32) : Res × AS := match decN x n, decN y m with
  | some a, some b => (rV (f a b), A)
  | _, _ => (.inr 0, A)
def sp0 (A : AS) (v : Int32) : Res × AS := (rV v, A)
section X5K
variable {d : Nat} {M : Mem} {A : AS} {now snap : StR} {rows : Nat → StR} {r : Nat} {buf : IA} {rd : RS} {D D' : DC} {H H' : HC} {R R' : RC}
theorem CR_D (h : CRr A now snap rows r buf rd D H R) (f1 : D'.2.1 = nI 1) (f2 : dcOK A.1.1 D'.1) : CRr A now snap rows r buf rd D' H R := by
  obtain ⟨h1, h2, h3, h4, h5, h6, h7, h8, h9, h10⟩ := h
  exact ⟨h1, h2, h3, h4, h5, h6, h7, Or.inr ⟨f1, f2⟩, h9, h10⟩
theorem CR_H (h : CRr A now snap rows r buf rd D H R) (f1 : H'.2.1 = nI 1) (f2 : H'.1 = nI (dT A.1.1)) : CRr A now snap rows r buf rd D H' R := by
  obtain ⟨h1, h2, h3, h4, h5, h6, h7, h8, h9, h10⟩ := h
  exact ⟨h1, h2, h3, h4, h5, h6, h7, h8, Or.inr ⟨f1, f2⟩, h10⟩
theorem CR_R (h : CRr A now snap rows r buf rd D H R) (f1 : R'.2.1 = nI 1) (f2 : rcF A.1.1 R') : CRr A now snap rows r buf rd D H R' := by
  obtain ⟨h1, h2, h3, h4, h5, h6, h7, h8, h9, h10⟩ := h
  exact ⟨h1, h2, h3, h4, h5, h6, h7, h8, h9, Or.inr ⟨f1, f2⟩⟩
theorem CR_of (h : CRr A now snap rows r buf rd D H R) : CR (cMA A now snap rows r buf rd D H R) A := ⟨now, snap, rows, r, buf, rd, D, H, R, rfl, h⟩
theorem CR_cok (h : CRr A now snap rows r buf rd D H R) : ∀ x ∈ A.1.1, rl_cok x := fun x hx => (h.2.1.2.2.2.2.2.2.1 x hx).1
theorem g_deals (d : Nat) (h : CRr A now snap rows r buf rd D H R) : ∃ D' : DC, CRr A now snap rows r buf rd D' H R ∧ dcOK A.1.1 D'.1 ∧ Cl (d + 14) kX5_countedDeals [.ref 0] (cMA A now snap rows r buf rd D H R) (.inl (some (.ref 39))) (cMA A now snap rows r buf rd D' H R) := by
  obtain ⟨D', f1, f2, hk⟩ := s_countedDeals (d := d) (now := now) (snap := snap) (rows := rows) (sv := svF r) (buf := buf) (rd := rd) (D := D) (H := H) (R := R) (sc := nI A.2.2.1.length) (hs := bI A.2.1.isSome) (ln := nI A.2.2.2.length) (stR_C h.2.1) h.2.2.2.2.2.2.2.1
  exact ⟨D', CR_D h f1 f2, f2, hk⟩
theorem g_hands (d : Nat) (h : CRr A now snap rows r buf rd D H R) : ∃ H' : HC, CRr A now snap rows r buf rd D H' R ∧ H'.1 = nI (dT A.1.1) ∧ Cl (d + 7) kX5_countedHands [.ref 0] (cMA A now snap rows r buf rd D H R) (.inl (some (.ref 45))) (cMA A now snap rows r buf rd D H' R) := by
  obtain ⟨D', f1, f2, hk⟩ := s_countedHands (d := d) (now := now) (snap := snap) (rows := rows) (sv := svF r) (buf := buf) (rd := rd) (D := D) (H := H) (R := R) (sc := nI A.2.2.1.length) (hs := bI A.2.1.isSome) (ln := nI A.2.2.2.length) (stR_C h.2.1) h.2.2.2.2.2.2.2.2.1
  exact ⟨D', CR_H h f1 f2, f2, hk⟩
theorem g_sheet (d : Nat) (h : CRr A now snap rows r buf rd D H R) : ∃ R' : RC, CRr A now snap rows r buf rd D H R' ∧ rcW A.1.1 R' ∧ Cl (d + 6) kX5_filledSheet [.ref 0] (cMA A now snap rows r buf rd D H R) (.inl (some (.ref 47))) (cMA A now snap rows r buf rd D H R') := by
  obtain ⟨D', f1, f2, hk⟩ := s_filledSheet (d := d) (now := now) (snap := snap) (rows := rows) (sv := svF r) (buf := buf) (rd := rd) (D := D) (H := H) (R := R) (sc := nI A.2.2.1.length) (hs := bI A.2.1.isSome) (ln := nI A.2.2.2.length) (stR_C h.2.1) h.2.2.2.2.2.2.2.2.2
  exact ⟨D', CR_R h f1 f2, rcW_of (CR_cok h) f2, hk⟩
theorem c_dealsWith (hM : CR M A) (x : Int32) (y : Int32) : ∃ M', Cl (d + 15) kX5_dealsWith [.ref 0, .int x, .int y] M (sp2 A x y 9 4 (fun a b => nI (dCA A.1.1 a b))).1 M' ∧ CR M' (sp2 A x y 9 4 (fun a b => nI (dCA A.1.1 a b))).2 := by
  have hM0 := hM
  obtain ⟨now, snap, rows, r, buf, rd, D, H, R, rfl, h⟩ := hM
  unfold sp2
  rcases in_out x (n := 9) (by decide) with hx | ⟨a, ha, rfl⟩
  · rw [decN_out hx]
    refine ⟨_, ?_, hM0⟩
    refine Cl_go e_X5_dealsWith (Nat.le_of_ble_eq_true rfl) rfl ?_; intro P hP; refine hP _ _ _ _ ?_; (conv => whnf)
    refine ⟨Nat.le_of_ble_eq_true rfl, rfl, ?_⟩
    exact Or.inr ⟨0, _, Cl_s (x_checkCard hx), rfl, rfl⟩
  · rw [decN_in ha (by decide)]
    rcases in_out y (n := 4) (by decide) with hy | ⟨b, hb, rfl⟩
    · rw [decN_out hy]
      refine ⟨_, ?_, hM0⟩
      refine Cl_go e_X5_dealsWith (Nat.le_of_ble_eq_true rfl) rfl ?_; intro P hP; refine hP _ _ _ _ ?_; (conv => whnf)
      refine ⟨Nat.le_of_ble_eq_true rfl, rfl, ?_⟩; (conv => whnf)
      refine Or.inl ⟨_, _, Cl_s (s_checkCard ha), ?_⟩; (conv => whnf)
      refine ⟨Nat.le_of_ble_eq_true rfl, rfl, ?_⟩
      exact Or.inr ⟨0, _, Cl_s (x_checkPlace hy), rfl, rfl⟩
    · rw [decN_in hb (by decide)]
      obtain ⟨G, h', ok, hk⟩ := g_deals d h
      refine ⟨_, ?_, CR_of h'⟩
      refine Cl_go e_X5_dealsWith (Nat.le_of_ble_eq_true rfl) rfl ?_; intro P hP; refine hP _ _ _ _ ?_; (conv => whnf)
      refine ⟨Nat.le_of_ble_eq_true rfl, rfl, ?_⟩; (conv => whnf)
      refine Or.inl ⟨_, _, Cl_s (s_checkCard ha), ?_⟩; (conv => whnf)
      refine ⟨Nat.le_of_ble_eq_true rfl, rfl, ?_⟩; (conv => whnf)
      refine Or.inl ⟨_, _, Cl_s (s_checkPlace hb), ?_⟩; (conv => whnf)
      refine ⟨Nat.le_of_ble_eq_true rfl, rfl, ?_⟩; (conv => whnf)
      refine Or.inl ⟨_, _, hk, ?_⟩; (conv => whnf)
      refine ⟨Nat.le_of_ble_eq_true rfl, rfl, ?_⟩; (conv => whnf)
      refine Or.inl ⟨_, _, k_withCardAt (d := d + 13) ok ha hb, ?_⟩; (conv => whnf)
      exact ⟨rfl, ⟨.int, rfl, rfl⟩, rfl, rfl⟩
theorem c_certainPlace (hM : CR M A) (x : Int32) : ∃ M', Cl (d + 15) kX5_certainPlace [.ref 0, .int x] M (sp1 A x 9 (fun a => splG (dT A.1.1) (dCA A.1.1 a) 4 0)).1 M' ∧ CR M' (sp1 A x 9 (fun a => splG (dT A.1.1) (dCA A.1.1 a) 4 0)).2 := by
  have hM0 := hM
  obtain ⟨now, snap, rows, r, buf, rd, D, H, R, rfl, h⟩ := hM
  unfold sp1
  rcases in_out x (n := 9) (by decide) with hx | ⟨a, ha, rfl⟩
  · rw [decN_out hx]
    refine ⟨_, ?_, hM0⟩
    refine Cl_go e_X5_certainPlace (Nat.le_of_ble_eq_true rfl) rfl ?_; intro P hP; refine hP _ _ _ _ ?_; (conv => whnf)
    refine ⟨Nat.le_of_ble_eq_true rfl, rfl, ?_⟩
    exact Or.inr ⟨0, _, Cl_s (x_checkCard hx), rfl, rfl⟩
  · rw [decN_in ha (by decide)]
    obtain ⟨G, h', ok, hk⟩ := g_deals d h
    refine ⟨_, ?_, CR_of h'⟩
    refine Cl_go e_X5_certainPlace (Nat.le_of_ble_eq_true rfl) rfl ?_; intro P hP; refine hP _ _ _ _ ?_; (conv => whnf)
    refine ⟨Nat.le_of_ble_eq_true rfl, rfl, ?_⟩; (conv => whnf)
    refine Or.inl ⟨_, _, Cl_s (s_checkCard ha), ?_⟩; (conv => whnf)
    refine ⟨Nat.le_of_ble_eq_true rfl, rfl, ?_⟩; (conv => whnf)
    refine Or.inl ⟨_, _, hk, ?_⟩; (conv => whnf)
    refine ⟨Nat.le_of_ble_eq_true rfl, rfl, ?_⟩; (conv => whnf)
    refine Or.inl ⟨_, _, k_surePlace (d := d + 12) ok ha, ?_⟩; (conv => whnf)
    exact ⟨rfl, ⟨.int, rfl, rfl⟩, rfl, rfl⟩
theorem c_certainCards (hM : CR M A) : ∃ M', Cl (d + 15) kX5_certainCards [.ref 0] M (sp0 A (nI (cntN (fun c => spB (dT A.1.1) (dCA A.1.1 c)) 9))).1 M' ∧ CR M' (sp0 A (nI (cntN (fun c => spB (dT A.1.1) (dCA A.1.1 c)) 9))).2 := by
  have hM0 := hM
  obtain ⟨now, snap, rows, r, buf, rd, D, H, R, rfl, h⟩ := hM
  unfold sp0
  obtain ⟨G, h', ok, hk⟩ := g_deals d h
  refine ⟨_, ?_, CR_of h'⟩
  refine Cl_go e_X5_certainCards (Nat.le_of_ble_eq_true rfl) rfl ?_; intro P hP; refine hP _ _ _ _ ?_; (conv => whnf)
  refine ⟨Nat.le_of_ble_eq_true rfl, rfl, ?_⟩; (conv => whnf)
  refine Or.inl ⟨_, _, hk, ?_⟩; (conv => whnf)
  refine ⟨Nat.le_of_ble_eq_true rfl, rfl, ?_⟩; (conv => whnf)
  refine Or.inl ⟨_, _, k_sureCards (d := d + 11) ok, ?_⟩; (conv => whnf)
  exact ⟨rfl, ⟨.int, rfl, rfl⟩, rfl, rfl⟩
theorem c_placeByRules (hM : CR M A) (x : Int32) : ∃ M', Cl (d + 15) kX5_placeByRules [.ref 0, .int x] M (sp1 A x 9 (fun a => oplG (shW A.1.1 a) 4 0)).1 M' ∧ CR M' (sp1 A x 9 (fun a => oplG (shW A.1.1 a) 4 0)).2 := by
  have hM0 := hM
  obtain ⟨now, snap, rows, r, buf, rd, D, H, R, rfl, h⟩ := hM
  unfold sp1
  rcases in_out x (n := 9) (by decide) with hx | ⟨a, ha, rfl⟩
  · rw [decN_out hx]
    refine ⟨_, ?_, hM0⟩
    refine Cl_go e_X5_placeByRules (Nat.le_of_ble_eq_true rfl) rfl ?_; intro P hP; refine hP _ _ _ _ ?_; (conv => whnf)
    refine ⟨Nat.le_of_ble_eq_true rfl, rfl, ?_⟩
    exact Or.inr ⟨0, _, Cl_s (x_checkCard hx), rfl, rfl⟩
  · rw [decN_in ha (by decide)]
    obtain ⟨G, h', ok, hk⟩ := g_sheet (d + 8) h
    refine ⟨_, ?_, CR_of h'⟩
    refine Cl_go e_X5_placeByRules (Nat.le_of_ble_eq_true rfl) rfl ?_; intro P hP; refine hP _ _ _ _ ?_; (conv => whnf)
    refine ⟨Nat.le_of_ble_eq_true rfl, rfl, ?_⟩; (conv => whnf)
    refine Or.inl ⟨_, _, Cl_s (s_checkCard ha), ?_⟩; (conv => whnf)
    refine ⟨Nat.le_of_ble_eq_true rfl, rfl, ?_⟩; (conv => whnf)
    refine Or.inl ⟨_, _, hk, ?_⟩; (conv => whnf)
    refine ⟨Nat.le_of_ble_eq_true rfl, rfl, ?_⟩; (conv => whnf)
    refine Or.inl ⟨_, _, k_onlyPlace (d := d + 13) ok ha, ?_⟩; (conv => whnf)
    exact ⟨rfl, ⟨.int, rfl, rfl⟩, rfl, rfl⟩
theorem c_crossedOff (hM : CR M A) : ∃ M', Cl (d + 15) kX5_crossedOff [.ref 0] M (sp0 A (nI 36 - nI (rl_sum 9 (shW A.1.1)))).1 M' ∧ CR M' (sp0 A (nI 36 - nI (rl_sum 9 (shW A.1.1)))).2 := by
  have hM0 := hM
  obtain ⟨now, snap, rows, r, buf, rd, D, H, R, rfl, h⟩ := hM
  unfold sp0
  obtain ⟨G, h', ok, hk⟩ := g_sheet (d + 8) h
  refine ⟨_, ?_, CR_of h'⟩
  refine Cl_go e_X5_crossedOff (Nat.le_of_ble_eq_true rfl) rfl ?_; intro P hP; refine hP _ _ _ _ ?_; (conv => whnf)
  refine ⟨Nat.le_of_ble_eq_true rfl, rfl, ?_⟩; (conv => whnf)
  refine Or.inl ⟨_, _, hk, ?_⟩; (conv => whnf)
  refine ⟨Nat.le_of_ble_eq_true rfl, rfl, ?_⟩; (conv => whnf)
  refine Or.inl ⟨_, _, k_left2 (d := d + 12) ok, ?_⟩; (conv => whnf)
  exact ⟨rfl, ⟨.int, rfl, rfl⟩, rfl, rfl⟩
theorem c_envelopeDeals (hM : CR M A) (x : Int32) : ∃ M', Cl (d + 15) kX5_envelopeDeals [.ref 0, .int x] M (sp1 A x 27 (fun a => nI (dIE A.1.1 a))).1 M' ∧ CR M' (sp1 A x 27 (fun a => nI (dIE A.1.1 a))).2 := by
  have hM0 := hM
  obtain ⟨now, snap, rows, r, buf, rd, D, H, R, rfl, h⟩ := hM
  unfold sp1
  rcases in_out x (n := 27) (by decide) with hx | ⟨a, ha, rfl⟩
  · rw [decN_out hx]
    refine ⟨_, ?_, hM0⟩
    refine Cl_go e_X5_envelopeDeals (Nat.le_of_ble_eq_true rfl) rfl ?_; intro P hP; refine hP _ _ _ _ ?_; (conv => whnf)
    refine ⟨Nat.le_of_ble_eq_true rfl, rfl, ?_⟩
    exact Or.inr ⟨0, _, Cl_s (x_checkTriple hx), rfl, rfl⟩
  · rw [decN_in ha (by decide)]
    obtain ⟨G, h', ok, hk⟩ := g_deals d h
    refine ⟨_, ?_, CR_of h'⟩
    refine Cl_go e_X5_envelopeDeals (Nat.le_of_ble_eq_true rfl) rfl ?_; intro P hP; refine hP _ _ _ _ ?_; (conv => whnf)
    refine ⟨Nat.le_of_ble_eq_true rfl, rfl, ?_⟩; (conv => whnf)
    refine Or.inl ⟨_, _, Cl_s (s_checkTriple ha), ?_⟩; (conv => whnf)
    refine ⟨Nat.le_of_ble_eq_true rfl, rfl, ?_⟩; (conv => whnf)
    refine Or.inl ⟨_, _, hk, ?_⟩; (conv => whnf)
    refine ⟨Nat.le_of_ble_eq_true rfl, rfl, ?_⟩; (conv => whnf)
    refine Or.inl ⟨_, _, k_withEnvelope (d := d + 13) ok ha, ?_⟩; (conv => whnf)
    exact ⟨rfl, ⟨.int, rfl, rfl⟩, rfl, rfl⟩
theorem c_envelopes (hM : CR M A) : ∃ M', Cl (d + 15) kX5_envelopes [.ref 0] M (sp0 A (nI (cntN (fun t => Nat.blt 0 (dIE A.1.1 t)) 27))).1 M' ∧ CR M' (sp0 A (nI (cntN (fun t => Nat.blt 0 (dIE A.1.1 t)) 27))).2 := by
  have hM0 := hM
  obtain ⟨now, snap, rows, r, buf, rd, D, H, R, rfl, h⟩ := hM
  unfold sp0
  obtain ⟨G, h', ok, hk⟩ := g_deals d h
  refine ⟨_, ?_, CR_of h'⟩
  refine Cl_go e_X5_envelopes (Nat.le_of_ble_eq_true rfl) rfl ?_; intro P hP; refine hP _ _ _ _ ?_; (conv => whnf)
  refine ⟨Nat.le_of_ble_eq_true rfl, rfl, ?_⟩; (conv => whnf)
  refine Or.inl ⟨_, _, hk, ?_⟩; (conv => whnf)
  refine ⟨Nat.le_of_ble_eq_true rfl, rfl, ?_⟩; (conv => whnf)
  refine Or.inl ⟨_, _, k_envelopesLeft (d := d + 13) ok, ?_⟩; (conv => whnf)
  exact ⟨rfl, ⟨.int, rfl, rfl⟩, rfl, rfl⟩
theorem c_isSolved (hM : CR M A) : ∃ M', Cl (d + 15) kX5_isSolved [.ref 0] M (sp0 A (bI (Nat.beq (cntN (fun t => Nat.blt 0 (dIE A.1.1 t)) 27) 1))).1 M' ∧ CR M' (sp0 A (bI (Nat.beq (cntN (fun t => Nat.blt 0 (dIE A.1.1 t)) 27) 1))).2 := by
  have hM0 := hM
  obtain ⟨now, snap, rows, r, buf, rd, D, H, R, rfl, h⟩ := hM
  unfold sp0
  obtain ⟨G, h', ok, hk⟩ := g_deals d h
  refine ⟨_, ?_, CR_of h'⟩
  refine Cl_go e_X5_isSolved (Nat.le_of_ble_eq_true rfl) rfl ?_; intro P hP; refine hP _ _ _ _ ?_; (conv => whnf)
  refine ⟨Nat.le_of_ble_eq_true rfl, rfl, ?_⟩; (conv => whnf)
  refine Or.inl ⟨_, _, hk, ?_⟩; (conv => whnf)
  refine ⟨Nat.le_of_ble_eq_true rfl, rfl, ?_⟩; (conv => whnf)
  refine Or.inl ⟨_, _, k_envelopesLeft (d := d + 13) ok, ?_⟩; (conv => whnf)
  have hle := cntN_le (fun t => Nat.blt 0 (dIE A.1.1 t)) 27
  refine b2 (cntN (fun t => Nat.blt 0 (dIE A.1.1 t)) 27) 1 rfl rfl (by omega) (by omega) (fun (q : ¬ cntN (fun t => Nat.blt 0 (dIE A.1.1 t)) 27 = 1) => ?_) (fun (q : ¬ ¬ cntN (fun t => Nat.blt 0 (dIE A.1.1 t)) 27 = 1) => ?_)
  · refine hP _ _ _ _ ?_; (conv => whnf)
    refine hP _ _ _ _ ?_; (conv => whnf)
    exact ⟨rfl, ⟨.boolean, rfl, rfl⟩, rI (by rw [nbf q]; rfl), rfl⟩
  · (conv => whnf)
    refine hP _ _ _ _ ?_; (conv => whnf)
    exact ⟨rfl, ⟨.boolean, rfl, rfl⟩, rI (by rw [nbt (Decidable.of_not_not q)]; rfl), rfl⟩
theorem c_leftBy (hM : CR M A) (x : Int32) (y : Int32) : ∃ M', Cl (d + 15) kX5_leftBy [.ref 0, .int x, .int y] M (sp2 A x y 3 27 (fun a b => nI (lvs (dT A.1.1) (wnN A.1.1 a b)))).1 M' ∧ CR M' (sp2 A x y 3 27 (fun a b => nI (lvs (dT A.1.1) (wnN A.1.1 a b)))).2 := by
  have hM0 := hM
  obtain ⟨now, snap, rows, r, buf, rd, D, H, R, rfl, h⟩ := hM
  unfold sp2
  rcases in_out x (n := 3) (by decide) with hx | ⟨a, ha, rfl⟩
  · rw [decN_out hx]
    refine ⟨_, ?_, hM0⟩
    refine Cl_go e_X5_leftBy (Nat.le_of_ble_eq_true rfl) rfl ?_; intro P hP; refine hP _ _ _ _ ?_; (conv => whnf)
    refine ⟨Nat.le_of_ble_eq_true rfl, rfl, ?_⟩
    exact Or.inr ⟨0, _, Cl_s (x_checkPlayer hx), rfl, rfl⟩
  · rw [decN_in ha (by decide)]
    rcases in_out y (n := 27) (by decide) with hy | ⟨b, hb, rfl⟩
    · rw [decN_out hy]
      refine ⟨_, ?_, hM0⟩
      refine Cl_go e_X5_leftBy (Nat.le_of_ble_eq_true rfl) rfl ?_; intro P hP; refine hP _ _ _ _ ?_; (conv => whnf)
      refine ⟨Nat.le_of_ble_eq_true rfl, rfl, ?_⟩; (conv => whnf)
      refine Or.inl ⟨_, _, Cl_s (s_checkPlayer ha), ?_⟩; (conv => whnf)
      refine ⟨Nat.le_of_ble_eq_true rfl, rfl, ?_⟩
      exact Or.inr ⟨0, _, Cl_s (x_checkTriple hy), rfl, rfl⟩
    · rw [decN_in hb (by decide)]
      obtain ⟨G, h', ok, hk⟩ := g_deals d h
      refine ⟨_, ?_, CR_of h'⟩
      refine Cl_go e_X5_leftBy (Nat.le_of_ble_eq_true rfl) rfl ?_; intro P hP; refine hP _ _ _ _ ?_; (conv => whnf)
      refine ⟨Nat.le_of_ble_eq_true rfl, rfl, ?_⟩; (conv => whnf)
      refine Or.inl ⟨_, _, Cl_s (s_checkPlayer ha), ?_⟩; (conv => whnf)
      refine ⟨Nat.le_of_ble_eq_true rfl, rfl, ?_⟩; (conv => whnf)
      refine Or.inl ⟨_, _, Cl_s (s_checkTriple hb), ?_⟩; (conv => whnf)
      refine ⟨Nat.le_of_ble_eq_true rfl, rfl, ?_⟩; (conv => whnf)
      refine Or.inl ⟨_, _, hk, ?_⟩; (conv => whnf)
      refine ⟨Nat.le_of_ble_eq_true rfl, rfl, ?_⟩; (conv => whnf)
      refine Or.inl ⟨_, _, k_behindQuestion (d := d + 10) ok ha hb, ?_⟩; (conv => whnf)
      exact ⟨rfl, ⟨.int, rfl, rfl⟩, rfl, rfl⟩
theorem c_deals (hM : CR M A) : ∃ M', Cl (d + 15) kX5_deals [.ref 0] M (sp0 A (nI (dT A.1.1))).1 M' ∧ CR M' (sp0 A (nI (dT A.1.1))).2 := by
  obtain ⟨now, snap, rows, r, buf, rd, D, H, R, rfl, h⟩ := hM
  unfold sp0
  obtain ⟨G, h', ok, hk⟩ := g_deals d h
  refine ⟨_, ?_, CR_of h'⟩
  refine Cl_go e_X5_deals (Nat.le_of_ble_eq_true rfl) rfl ?_; intro P hP; refine hP _ _ _ _ ?_; (conv => whnf)
  refine ⟨Nat.le_of_ble_eq_true rfl, rfl, ?_⟩; (conv => whnf)
  refine Or.inl ⟨_, _, hk, ?_⟩; (conv => whnf)
  exact ⟨rfl, ⟨.int, rfl, rfl⟩, rI (congrArg nI ok.1), rfl⟩
theorem c_dealsByHands (hM : CR M A) : ∃ M', Cl (d + 8) kX5_dealsByHands [.ref 0] M (sp0 A (nI (dT A.1.1))).1 M' ∧ CR M' (sp0 A (nI (dT A.1.1))).2 := by
  obtain ⟨now, snap, rows, r, buf, rd, D, H, R, rfl, h⟩ := hM
  unfold sp0
  obtain ⟨G, h', ok, hk⟩ := g_hands d h
  refine ⟨_, ?_, CR_of h'⟩
  refine Cl_go e_X5_dealsByHands (Nat.le_of_ble_eq_true rfl) rfl ?_; intro P hP; refine hP _ _ _ _ ?_; (conv => whnf)
  refine ⟨Nat.le_of_ble_eq_true rfl, rfl, ?_⟩; (conv => whnf)
  refine Or.inl ⟨_, _, hk, ?_⟩; (conv => whnf)
  exact ⟨rfl, ⟨.int, rfl, rfl⟩, rI (ok), rfl⟩
theorem c_isBroken (hM : CR M A) : ∃ M', Cl (d + 15) kX5_isBroken [.ref 0] M (sp0 A (bI (shB A.1.1))).1 M' ∧ CR M' (sp0 A (bI (shB A.1.1))).2 := by
  obtain ⟨now, snap, rows, r, buf, rd, D, H, R, rfl, h⟩ := hM
  unfold sp0
  obtain ⟨G, h', ok, hk⟩ := g_sheet (d + 8) h
  refine ⟨_, ?_, CR_of h'⟩
  refine Cl_go e_X5_isBroken (Nat.le_of_ble_eq_true rfl) rfl ?_; intro P hP; refine hP _ _ _ _ ?_; (conv => whnf)
  refine ⟨Nat.le_of_ble_eq_true rfl, rfl, ?_⟩; (conv => whnf)
  refine Or.inl ⟨_, _, hk, ?_⟩; (conv => whnf)
  exact ⟨rfl, ⟨.boolean, rfl, by rw [ok.1]; exact b01⟩, rI ok.1, rfl⟩
theorem c_hiddenCrosses (hM : CR M A) : ∃ M', Cl (d + 15) kX5_hiddenCrosses [.ref 0] M (sp0 A (nI (rl_sum 9 (shW A.1.1)) - nI (cntN (fun j => Nat.blt 0 (dCA A.1.1 (j / 4) (j % 4))) 36))).1 M' ∧ CR M' (sp0 A (nI (rl_sum 9 (shW A.1.1)) - nI (cntN (fun j => Nat.blt 0 (dCA A.1.1 (j / 4) (j % 4))) 36))).2 := by
  obtain ⟨now, snap, rows, r, buf, rd, D, H, R, rfl, h⟩ := hM
  unfold sp0
  obtain ⟨R', h', ok, hk⟩ := g_sheet (d + 8) h
  obtain ⟨D', h'', ok2, hk2⟩ := g_deals d h'
  refine ⟨_, ?_, CR_of h''⟩
  refine Cl_go e_X5_hiddenCrosses (Nat.le_of_ble_eq_true rfl) rfl ?_; intro P hP; refine hP _ _ _ _ ?_; (conv => whnf)
  refine ⟨Nat.le_of_ble_eq_true rfl, rfl, ?_⟩; (conv => whnf)
  refine Or.inl ⟨_, _, hk, ?_⟩; (conv => whnf)
  refine ⟨Nat.le_of_ble_eq_true rfl, rfl, ?_⟩; (conv => whnf)
  refine Or.inl ⟨_, _, k_left2 (d := d + 12) ok, ?_⟩; (conv => whnf)
  refine ⟨Nat.le_of_ble_eq_true rfl, rfl, ?_⟩; (conv => whnf)
  refine Or.inl ⟨_, _, hk2, ?_⟩; (conv => whnf)
  refine ⟨Nat.le_of_ble_eq_true rfl, rfl, ?_⟩; (conv => whnf)
  refine Or.inl ⟨_, _, k_placesLeft (d := d + 13) ok2, ?_⟩; (conv => whnf)
  exact ⟨rfl, ⟨.int, rfl, rfl⟩, rfl, rfl⟩
def spBestA (A : AS) : Res × AS := if dT A.1.1 = 0 then (.inr 1, A) else (rV (nI (amx (dIE A.1.1) 26)), A)
theorem c_bestAccusation (hM : CR M A) : ∃ M', Cl (d + 15) kX5_bestAccusation [.ref 0] M (spBestA A).1 M' ∧ CR M' (spBestA A).2 := by
  obtain ⟨now, snap, rows, r, buf, rd, D, H, R, rfl, h⟩ := hM
  unfold spBestA
  obtain ⟨G, h', ok, hk⟩ := g_deals d h
  by_cases h0 : dT A.1.1 = 0
  · rw [if_pos h0]
    have e : G.1.1 = 0 := by rw [ok.1, h0]
    have hx : ∀ N : Mem, Cl (d + 14) kX5_checkSome [.int (nI G.1.1)] N (.inr 1) N := fun N => by rw [e]; exact Cl_s (x_checkSome (d := d + 13))
    refine ⟨_, ?_, CR_of h'⟩
    refine Cl_go e_X5_bestAccusation (Nat.le_of_ble_eq_true rfl) rfl ?_; intro P hP; refine hP _ _ _ _ ?_; (conv => whnf)
    refine ⟨Nat.le_of_ble_eq_true rfl, rfl, ?_⟩; (conv => whnf)
    refine Or.inl ⟨_, _, hk, ?_⟩; (conv => whnf)
    refine ⟨Nat.le_of_ble_eq_true rfl, rfl, ?_⟩
    exact Or.inr ⟨1, _, hx _, rfl, rfl⟩
  · rw [if_neg h0]
    have hT := dT31 A.1.1
    refine ⟨_, ?_, CR_of h'⟩
    refine Cl_go e_X5_bestAccusation (Nat.le_of_ble_eq_true rfl) rfl ?_; intro P hP; refine hP _ _ _ _ ?_; (conv => whnf)
    refine ⟨Nat.le_of_ble_eq_true rfl, rfl, ?_⟩; (conv => whnf)
    refine Or.inl ⟨_, _, hk, ?_⟩; (conv => whnf)
    refine ⟨Nat.le_of_ble_eq_true rfl, rfl, ?_⟩; (conv => whnf)
    refine Or.inl ⟨_, _, Cl_s (s_checkSome (d := d + 13) (T := G.1.1) (by rw [ok.1]; omega) (by rw [ok.1]; omega)), ?_⟩; (conv => whnf)
    refine ⟨Nat.le_of_ble_eq_true rfl, rfl, ?_⟩; (conv => whnf)
    refine Or.inl ⟨_, _, k_likeliestEnvelope (d := d + 12) ok, ?_⟩; (conv => whnf)
    exact ⟨rfl, ⟨.int, rfl, rfl⟩, rfl, rfl⟩
def spBestQ (A : AS) (x : Int32) : Res × AS := match decN x 3 with
  | some p => if dT A.1.1 = 0 then (.inr 1, A) else (rV (nI (amn (fun t => lvs (dT A.1.1) (wnN A.1.1 p t)) 26)), A)
  | none => (.inr 0, A)
theorem c_bestQuestion (hM : CR M A) (x : Int32) : ∃ M', Cl (d + 15) kX5_bestQuestion [.ref 0, .int x] M (spBestQ A x).1 M' ∧ CR M' (spBestQ A x).2 := by
  have hM0 := hM
  obtain ⟨now, snap, rows, r, buf, rd, D, H, R, rfl, h⟩ := hM
  unfold spBestQ
  rcases in_out x (n := 3) (by decide) with hx | ⟨a, ha, rfl⟩
  · rw [decN_out hx]
    refine ⟨_, ?_, hM0⟩
    refine Cl_go e_X5_bestQuestion (Nat.le_of_ble_eq_true rfl) rfl ?_; intro P hP; refine hP _ _ _ _ ?_; (conv => whnf)
    refine ⟨Nat.le_of_ble_eq_true rfl, rfl, ?_⟩
    exact Or.inr ⟨0, _, Cl_s (x_checkPlayer hx), rfl, rfl⟩
  · rw [decN_in ha (by decide)]
    obtain ⟨G, h', ok, hk⟩ := g_deals d h
    by_cases h0 : dT A.1.1 = 0
    · simp only [if_pos h0]
      have e : G.1.1 = 0 := by rw [ok.1, h0]
      have hx : ∀ N : Mem, Cl (d + 14) kX5_checkSome [.int (nI G.1.1)] N (.inr 1) N := fun N => by rw [e]; exact Cl_s (x_checkSome (d := d + 13))
      refine ⟨_, ?_, CR_of h'⟩
      refine Cl_go e_X5_bestQuestion (Nat.le_of_ble_eq_true rfl) rfl ?_; intro P hP; refine hP _ _ _ _ ?_; (conv => whnf)
      refine ⟨Nat.le_of_ble_eq_true rfl, rfl, ?_⟩; (conv => whnf)
      refine Or.inl ⟨_, _, Cl_s (s_checkPlayer ha), ?_⟩; (conv => whnf)
      refine ⟨Nat.le_of_ble_eq_true rfl, rfl, ?_⟩; (conv => whnf)
      refine Or.inl ⟨_, _, hk, ?_⟩; (conv => whnf)
      refine ⟨Nat.le_of_ble_eq_true rfl, rfl, ?_⟩
      exact Or.inr ⟨1, _, hx _, rfl, rfl⟩
    · simp only [if_neg h0]
      have hT := dT31 A.1.1
      refine ⟨_, ?_, CR_of h'⟩
      refine Cl_go e_X5_bestQuestion (Nat.le_of_ble_eq_true rfl) rfl ?_; intro P hP; refine hP _ _ _ _ ?_; (conv => whnf)
      refine ⟨Nat.le_of_ble_eq_true rfl, rfl, ?_⟩; (conv => whnf)
      refine Or.inl ⟨_, _, Cl_s (s_checkPlayer ha), ?_⟩; (conv => whnf)
      refine ⟨Nat.le_of_ble_eq_true rfl, rfl, ?_⟩; (conv => whnf)
      refine Or.inl ⟨_, _, hk, ?_⟩; (conv => whnf)
      refine ⟨Nat.le_of_ble_eq_true rfl, rfl, ?_⟩; (conv => whnf)
      refine Or.inl ⟨_, _, Cl_s (s_checkSome (d := d + 13) (T := G.1.1) (by rw [ok.1]; omega) (by rw [ok.1]; omega)), ?_⟩; (conv => whnf)
      refine ⟨Nat.le_of_ble_eq_true rfl, rfl, ?_⟩; (conv => whnf)
      refine Or.inl ⟨_, _, k_sharpestQuestion (d := d + 9) ok ha, ?_⟩; (conv => whnf)
      exact ⟨rfl, ⟨.int, rfl, rfl⟩, rfl, rfl⟩
theorem c_idleClues (hM : CR M A) : ∃ M', Cl (d + 15) kX5_idleClues [.ref 0] M (sp0 A (nI (cntN (fun k => Nat.beq (dT A.1.1 + dHB A.1.1 k) (dT A.1.1)) A.1.1.length))).1 M' ∧ CR M' (sp0 A (nI (cntN (fun k => Nat.beq (dT A.1.1 + dHB A.1.1 k) (dT A.1.1)) A.1.1.length))).2 := by
  obtain ⟨now, snap, rows, r, buf, rd, D, H, R, rfl, h⟩ := hM
  have hl := h.2.1.2.2.2.2.2.1
  have hc := h.2.1.2.1
  unfold sp0
  obtain ⟨G, h', ok, hk⟩ := g_deals d h
  refine ⟨_, ?_, CR_of h'⟩
  refine Cl_go e_X5_idleClues (Nat.le_of_ble_eq_true rfl) rfl ?_; intro P hP; refine hP _ _ _ _ ?_; (conv => whnf)
  refine ⟨Nat.le_of_ble_eq_true rfl, rfl, ?_⟩; (conv => whnf)
  refine Or.inl ⟨_, _, hk, ?_⟩; (conv => whnf)
  refine ⟨Nat.le_of_ble_eq_true rfl, rfl, ?_⟩; (conv => whnf)
  have hi := k_idleAmong (d := d + 12) (now := now) (snap := snap) (rows := rows) (sv := svF r) (buf := buf) (rd := rd) (H := H) (R := R) (sc := nI A.2.2.1.length) (hs := bI A.2.1.isSome) (ln := nI A.2.2.2.length) ok hl
  rw [← hc] at hi
  refine Or.inl ⟨_, _, hi, ?_⟩; (conv => whnf)
  exact ⟨rfl, ⟨.int, rfl, rfl⟩, rfl, rfl⟩
end X5K
