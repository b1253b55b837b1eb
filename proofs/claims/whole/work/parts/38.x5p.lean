/-! the digest: triples, cards, clues mixed -/
/-- steps i, i + 1, .. : k of them -/
def upN (f : Nat → Int64 → Int64) : Nat → Nat → Int64 → Int64
  | _, 0, z => z
  | i, k + 1, z => upN f (i + 1) k (f i z)
abbrev lI (x : Int32) : Int64 := x.toInt64
def mxTri (cl : List rl_C) (t : Nat) (z : Int64) : Int64 := upN (fun p y => mx y (lI (nI (lvs (dT cl) (wnN cl p t))))) 0 3 (mx z (lI (nI (dIE cl t))))
section X5P
variable {d : Nat} {M : Mem} {A : AS} {now snap : StR} {rows : Nat → StR} {sv : Nat → Option Nat} {buf : IA} {rd : RS} {D : DC} {H : HC} {R : RC} {sc hs ln : Int32} {cl : List rl_C}
theorem s_mixTriples (h : dcOK cl D.1) (z : Int64) : Cl (d + 5) kX5_mixTriples [.long z, .ref 39] (cM now snap rows sv buf rd D H R sc hs ln) (rJ (upN (mxTri cl) 0 27 z)) (cM now snap rows sv buf rd D H R sc hs ln) := by
  generalize hE : upN (mxTri cl) 0 27 z = E
  refine Cl_go e_X5_mixTriples (Nat.le_of_ble_eq_true rfl) rfl ?_; intro P hP; refine hP _ _ _ _ ?_; (conv => whnf)
  have lp : ∀ (k i : Nat) (x : Int32) (y : Int64), x = nI i → i + k = 27 → upN (mxTri cl) i k y = E →
      P 5 [none, none, some (.ref 39), some (.long y), none, some (.int x), none] [] (cM now snap rows sv buf rd D H R sc hs ln) := by
    intro k
    induction k with
    | zero =>
      intro i x y hx hi hy
      have hy : y = E := hy
      refine hP _ _ _ _ ?_; (conv => whnf)
      refine b2 i 27 hx rfl (by omega) (by omega) (fun _ => ?_) (fun (q : ¬ 27 ≤ i) => by omega)
      refine hP _ _ _ _ ?_; (conv => whnf)
      exact ⟨rfl, rfl, rL hy, rfl⟩
    | succ k ih =>
      intro i x y hx hi hy
      subst hx
      have hi27 : i < 27 := by omega
      have hE1 := k_withEnvelope (d := d + 3) (now := now) (snap := snap) (rows := rows) (sv := sv) (buf := buf) (rd := rd) (H := H) (R := R) (sc := sc) (hs := hs) (ln := ln) h hi27
      have hm := s_mix (d := d + 3) (M := cM now snap rows sv buf rd D H R sc hs ln) y (lI (nI (dIE cl i)))
      generalize hv : mx y (lI (nI (dIE cl i))) = v at hm
      have hy2 : upN (mxTri cl) (i + 1) k (upN (fun p y => mx y (lI (nI (lvs (dT cl) (wnN cl p i))))) 0 3 v) = E := by rw [← hv]; exact hy
      generalize hw : upN (fun p y => mx y (lI (nI (lvs (dT cl) (wnN cl p i))))) 0 3 v = w at hy2
      have lp2 : ∀ (m j : Nat) (x2 : Int32) (y2 : Int64), x2 = nI j → j + m = 3 → upN (fun p y => mx y (lI (nI (lvs (dT cl) (wnN cl p i))))) j m y2 = w →
          P 27 [none, none, some (.ref 39), some (.long y2), none, some (.int (nI i)), some (.int x2)] [] (cM now snap rows sv buf rd D H R sc hs ln) := by
        intro m
        induction m with
        | zero =>
          intro j x2 y2 hx2 hj hy3
          have hy3 : y2 = w := hy3
          subst hy3
          refine hP _ _ _ _ ?_; (conv => whnf)
          refine b2 j 3 hx2 rfl (by omega) (by omega) (fun _ => ?_) (fun (q : ¬ 3 ≤ j) => by omega)
          refine hP _ _ _ _ ?_; (conv => whnf)
          exact ih (i + 1) _ _ (nI_1 i) (by omega) hy2
        | succ m ih2 =>
          intro j x2 y2 hx2 hj hy3
          subst hx2
          have hj3 : j < 3 := by omega
          have hq := k_behindQuestion (d := d) (now := now) (snap := snap) (rows := rows) (sv := sv) (buf := buf) (rd := rd) (H := H) (R := R) (sc := sc) (hs := hs) (ln := ln) h hj3 hi27
          have hm2 := s_mix (d := d + 3) (M := cM now snap rows sv buf rd D H R sc hs ln) y2 (lI (nI (lvs (dT cl) (wnN cl j i))))
          have hy4 : upN (fun p y => mx y (lI (nI (lvs (dT cl) (wnN cl p i))))) (j + 1) m (mx y2 (lI (nI (lvs (dT cl) (wnN cl j i))))) = w := hy3
          generalize mx y2 (lI (nI (lvs (dT cl) (wnN cl j i)))) = v2 at hm2 hy4
          refine hP _ _ _ _ ?_; (conv => whnf)
          refine b2 j 3 rfl rfl (by omega) (by omega) (fun (q : 3 ≤ j) => by omega) (fun _ => ?_); (conv => whnf)
          refine ⟨Nat.le_of_ble_eq_true rfl, rfl, ?_⟩; (conv => whnf)
          refine Or.inl ⟨_, _, hq, ?_⟩; (conv => whnf)
          refine ⟨Nat.le_of_ble_eq_true rfl, rfl, ?_⟩; (conv => whnf)
          refine Or.inl ⟨_, _, hm2, ?_⟩
          show P 27 [none, none, some (.ref 39), some (.long v2), none, some (.int (nI i)), some (.int (nI j + nI 1))] [] _
          exact ih2 (j + 1) _ _ (nI_1 j) (by omega) hy4
      refine hP _ _ _ _ ?_; (conv => whnf)
      refine b2 i 27 rfl rfl (by omega) (by omega) (fun (q : 27 ≤ i) => by omega) (fun _ => ?_); (conv => whnf)
      refine ⟨Nat.le_of_ble_eq_true rfl, rfl, ?_⟩; (conv => whnf)
      refine Or.inl ⟨_, _, hE1, ?_⟩; (conv => whnf)
      refine ⟨Nat.le_of_ble_eq_true rfl, rfl, ?_⟩; (conv => whnf)
      refine Or.inl ⟨_, _, hm, ?_⟩
      show P 27 [none, none, some (.ref 39), some (.long v), none, some (.int (nI i)), some (.int (nI 0))] [] _
      exact lp2 3 0 _ v rfl rfl hw
  exact lp 27 0 _ z rfl rfl hE
end X5P
