/-! the chance and the digest of the class -/
def spChance (A : AS) : Res × AS := (.inl (some (.double (shX A.1.1))), A)
/-- the digest, in the class's own order -/
def mxDig (A : AS) : Int64 :=
  mxAll (mx (mx (mxStop (upN (mxTri A.1.1) 0 27 (upN (mxCrd A.1.1 A.1) 0 9 (upN (mxClu A.1.1 A.1) 0 A.1.1.length (mxBest A.1.1 (mxAll (Int64.ofNat 4597) (mxCntL A)))))) A.1) (shX A.1.1).toInt64) (nI A.2.2.2.length).toInt64) (A.2.2.2.map fun c => (nI c).toInt64)
def spDig (A : AS) : Res × AS := (rJ (mxDig A), A)
section X5T
variable {d : Nat} {M : Mem} {A : AS}
theorem c_chance (hM : CR M A) : ∃ M', Cl (d + 15) kX5_chance [.ref 0] M (spChance A).1 M' ∧ CR M' (spChance A).2 := by
  obtain ⟨now, snap, rows, r, buf, rd, D, H, R, rfl, h⟩ := hM
  unfold spChance
  obtain ⟨G, h', ok, hk⟩ := g_deals d h
  refine ⟨_, ?_, CR_of h'⟩
  refine Cl_go e_X5_chance (Nat.le_of_ble_eq_true rfl) rfl ?_; intro P hP; refine hP _ _ _ _ ?_; (conv => whnf)
  refine ⟨Nat.le_of_ble_eq_true rfl, rfl, ?_⟩; (conv => whnf)
  refine Or.inl ⟨_, _, hk, ?_⟩; (conv => whnf)
  refine ⟨Nat.le_of_ble_eq_true rfl, rfl, ?_⟩; (conv => whnf)
  refine Or.inl ⟨_, _, k_share (d := d + 11) ok, ?_⟩; (conv => whnf)
  exact ⟨rfl, rfl, rfl, rfl⟩
theorem c_digest (hM : CR M A) : ∃ M', Cl (d + 15) kX5_digest [.ref 0] M (spDig A).1 M' ∧ CR M' (spDig A).2 := by
  obtain ⟨now, snap, rows, r, buf, rd, D, H, R, rfl, h⟩ := hM
  unfold spDig
  obtain ⟨D1, h1, ok, hk1⟩ := g_deals d h
  obtain ⟨R1, h2, okR, hk2⟩ := g_sheet (d + 8) h1
  obtain ⟨H1, h3, hk3⟩ := s_mixCounts (d := d + 6) h2 ok okR (Int64.ofNat 4597)
  refine ⟨_, ?_, CR_of h3⟩
  have hS := h3.2.1
  have hy : mxDig A = mxAll (mx (mx (mxStop (upN (mxTri A.1.1) 0 27 (upN (mxCrd A.1.1 A.1) 0 9 (upN (mxClu A.1.1 A.1) 0 A.1.1.length (mxBest A.1.1 (mxAll (Int64.ofNat 4597) (mxCntL A)))))) A.1) (shX A.1.1).toInt64) (nI A.2.2.2.length).toInt64) (A.2.2.2.map fun c => (nI c).toInt64) := rfl
  generalize mxDig A = E at hy
  generalize mxAll (Int64.ofNat 4597) (mxCntL A) = v1 at hk3 hy
  have hk4 := s_mixBest (d := d + 8) (now := now) (snap := snap) (rows := rows) (sv := svF r) (buf := buf) (rd := rd) (D := D1) (H := H1) (R := R1) (sc := nI A.2.2.1.length) (hs := bI A.2.1.isSome) (ln := nI A.2.2.2.length) ok v1
  generalize mxBest A.1.1 v1 = v2 at hk4 hy
  have hk5 := s_mixClues (d := d + 11) (now := now) (snap := snap) (rows := rows) (sv := svF r) (buf := buf) (rd := rd) (D := D1) (H := H1) (R := R1) (sc := nI A.2.2.1.length) (hs := bI A.2.1.isSome) (ln := nI A.2.2.2.length) hS ok v2
  generalize upN (mxClu A.1.1 A.1) 0 A.1.1.length v2 = v3 at hk5 hy
  have hk6 := s_mixCards (d := d + 10) (now := now) (snap := snap) (rows := rows) (sv := svF r) (buf := buf) (rd := rd) (D := D1) (H := H1) (R := R1) (sc := nI A.2.2.1.length) (hs := bI A.2.1.isSome) (ln := nI A.2.2.2.length) hS ok okR v3
  generalize upN (mxCrd A.1.1 A.1) 0 9 v3 = v4 at hk6 hy
  have hk7 := s_mixTriples (d := d + 9) (now := now) (snap := snap) (rows := rows) (sv := svF r) (buf := buf) (rd := rd) (D := D1) (H := H1) (R := R1) (sc := nI A.2.2.1.length) (hs := bI A.2.1.isSome) (ln := nI A.2.2.2.length) ok v4
  generalize upN (mxTri A.1.1) 0 27 v4 = v5 at hk7 hy
  have hk8 := s_mixStop (d := d + 11) (snap := snap) (rows := rows) (sv := svF r) (buf := buf) (rd := rd) (D := D1) (H := H1) (R := R1) (sc := nI A.2.2.1.length) (hs := bI A.2.1.isSome) (ln := nI A.2.2.2.length) hS v5
  generalize mxStop v5 A.1 = v6 at hk8 hy
  have hk9 := k_share (d := d + 11) (now := now) (snap := snap) (rows := rows) (sv := svF r) (buf := buf) (rd := rd) (D := D1) (H := H1) (R := R1) (sc := nI A.2.2.1.length) (hs := bI A.2.1.isSome) (ln := nI A.2.2.2.length) ok
  have hk10 := s_bits (d := d + 13) (M := cMA A now snap rows r buf rd D1 H1 R1) A.1.1
  generalize shX A.1.1 = w7 at hk9 hk10 hy
  generalize w7.toInt64 = w8 at hk10 hy
  have hk11 := s_mix (d := d + 13) (M := cMA A now snap rows r buf rd D1 H1 R1) v6 w8
  generalize mx v6 w8 = v9 at hk11 hy
  have hk12 := s_mixBuffer (d := d + 12) (now := now) (snap := snap) (rows := rows) (sv := svF r) (rd := rd) (D := D1) (H := H1) (R := R1) (sc := nI A.2.2.1.length) (hs := bI A.2.1.isSome) h3.2.2.2.2.2.1 v9
  rw [← hy] at hk12
  refine Cl_go e_X5_digest (Nat.le_of_ble_eq_true rfl) rfl ?_; intro P hP; refine hP _ _ _ _ ?_; (conv => whnf)
  refine ⟨Nat.le_of_ble_eq_true rfl, rfl, ?_⟩; (conv => whnf)
  refine Or.inl ⟨_, _, hk1, ?_⟩; (conv => whnf)
  refine ⟨Nat.le_of_ble_eq_true rfl, rfl, ?_⟩; (conv => whnf)
  refine Or.inl ⟨_, _, hk2, ?_⟩; (conv => whnf)
  refine ⟨Nat.le_of_ble_eq_true rfl, rfl, ?_⟩; (conv => whnf)
  refine Or.inl ⟨_, _, hk3, ?_⟩
  show wI (Cl (d + 14)) _ _ P (fnd pgX5_digest 19) [some (.ref 0), some (.ref 39), some (.ref 47), none, none] [.long v1] _
  (conv => whnf)
  refine ⟨Nat.le_of_ble_eq_true rfl, rfl, ?_⟩; (conv => whnf)
  refine Or.inl ⟨_, _, hk4, ?_⟩
  show wI (Cl (d + 14)) _ _ P (fnd pgX5_digest 25) [some (.ref 0), some (.ref 39), some (.ref 47), some (.long v1), none] [.long v2] _
  (conv => whnf)
  refine ⟨Nat.le_of_ble_eq_true rfl, rfl, ?_⟩; (conv => whnf)
  refine Or.inl ⟨_, _, hk5, ?_⟩
  show wI (Cl (d + 14)) _ _ P (fnd pgX5_digest 32) [some (.ref 0), some (.ref 39), some (.ref 47), some (.long v2), none] [.long v3] _
  (conv => whnf)
  refine ⟨Nat.le_of_ble_eq_true rfl, rfl, ?_⟩; (conv => whnf)
  refine Or.inl ⟨_, _, hk6, ?_⟩
  show wI (Cl (d + 14)) _ _ P (fnd pgX5_digest 40) [some (.ref 0), some (.ref 39), some (.ref 47), some (.long v3), none] [.long v4] _
  (conv => whnf)
  refine ⟨Nat.le_of_ble_eq_true rfl, rfl, ?_⟩; (conv => whnf)
  refine Or.inl ⟨_, _, hk7, ?_⟩
  show wI (Cl (d + 14)) _ _ P (fnd pgX5_digest 46) [some (.ref 0), some (.ref 39), some (.ref 47), some (.long v4), none] [.long v5] _
  (conv => whnf)
  refine ⟨Nat.le_of_ble_eq_true rfl, rfl, ?_⟩; (conv => whnf)
  refine Or.inl ⟨_, _, hk8, ?_⟩
  show wI (Cl (d + 14)) _ _ P (fnd pgX5_digest 52) [some (.ref 0), some (.ref 39), some (.ref 47), some (.long v5), none] [.long v6] _
  (conv => whnf)
  refine ⟨Nat.le_of_ble_eq_true rfl, rfl, ?_⟩; (conv => whnf)
  refine Or.inl ⟨_, _, hk9, ?_⟩; (conv => whnf)
  refine ⟨Nat.le_of_ble_eq_true rfl, rfl, ?_⟩; (conv => whnf)
  refine Or.inl ⟨_, _, hk10, ?_⟩; (conv => whnf)
  refine ⟨Nat.le_of_ble_eq_true rfl, rfl, ?_⟩; (conv => whnf)
  refine Or.inl ⟨_, _, hk11, ?_⟩
  show wI (Cl (d + 14)) _ _ P (fnd pgX5_digest 64) [some (.ref 0), some (.ref 39), some (.ref 47), some (.long v6), none] [.long v9] _
  (conv => whnf)
  refine ⟨Nat.le_of_ble_eq_true rfl, rfl, ?_⟩; (conv => whnf)
  refine Or.inl ⟨_, _, hk12, ?_⟩
  exact ⟨rfl, rfl, rfl, rfl⟩
end X5T
