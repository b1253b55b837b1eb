/-! the digest: triples, cards, clues mixed -/
/-- steps i, i + 1, .. : k of them -/
def upN (f : Nat → Int64 → Int64) : Nat → Nat → Int64 → Int64
  | _, 0, z => z
  | i, k + 1, z => upN f (i + 1) k (f i z)
abbrev lI (x : Int32) : Int64 := x.toInt64
def mxTri (cl : List rl_C) (t : Nat) (z : Int64) : Int64 := upN (fun p y => mx y (lI (nI (lvs (dT cl) (wnN cl p t))))) 0 3 (mx z (lI (nI (dIE cl t))))
section X5P
variable {d : Nat} {M : Mem} {A : AS} {now snap : StR} {rows : Nat → StR} {sv : Nat → Option Nat} {buf : IA} {rd : RS} {D : DC} {H : HC} {R : RC} {sc hs ln : Int32} {cl : List rl_C}
theorem s_mixTriples (h : dcOK cl D.1) (z : Int64) : Cl (d + 5) kX5_mixTriples [.long z, .ref 39] (cM now snap rows sv buf rd D H R sc hs ln) (rJ (upN (mxTri cl) 0 27 z)) (cM now snap rows sv buf rd D H R sc hs ln) := by
  generalize hE : upN (mxTri cl) 0 27 z = E
  refine Cl_go e_X5_mixTriples (Nat.le_of_ble_eq_true rfl) rfl ?_; intro P hP; refine hP _ _ _ _ ?_; (conv => whnf)
  have lp : ∀ (k i : Nat) (x : Int32) (y : Int64), x = nI i → i + k = 27 → upN (mxTri cl) i k y = E →
      P 5 [none, none, some (.ref 39), some (.long y), none, some (.int x), none] [] (cM now snap rows sv buf rd D H R sc hs ln) := by
    intro k
    induction k with
    | zero =>
      intro i x y hx hi hy
      have hy : y = E := hy
      refine hP _ _ _ _ ?_; (conv => whnf)
      refine b2 i 27 hx rfl (by omega) (by omega) (fun _ => ?_) (fun (q : ¬ 27 ≤ i) => by omega)
      refine hP _ _ _ _ ?_; (conv => whnf)
      exact ⟨rfl, rfl, rL hy, rfl⟩
    | succ k ih =>
      intro i x y hx hi hy
      subst hx
      have hi27 : i < 27 := by omega
      have hE1 := k_withEnvelope (d := d + 3) (now := now) (snap := snap) (rows := rows) (sv := sv) (buf := buf) (rd := rd) (H := H) (R := R) (sc := sc) (hs := hs) (ln := ln) h hi27
      have hm := s_mix (d := d + 3) (M := cM now snap rows sv buf rd D H R sc hs ln) y (lI (nI (dIE cl i)))
      generalize hv : mx y (lI (nI (dIE cl i))) = v at hm
      have hy2 : upN (mxTri cl) (i + 1) k (upN (fun p y => mx y (lI (nI (lvs (dT cl) (wnN cl p i))))) 0 3 v) = E := by rw [← hv]; exact hy
      generalize hw : upN (fun p y => mx y (lI (nI (lvs (dT cl) (wnN cl p i))))) 0 3 v = w at hy2
      have lp2 : ∀ (m j : Nat) (x2 : Int32) (y2 : Int64), x2 = nI j → j + m = 3 → upN (fun p y => mx y (lI (nI (lvs (dT cl) (wnN cl p i))))) j m y2 = w →
          P 27 [none, none, some (.ref 39), some (.long y2), none, some (.int (nI i)), some (.int x2)] [] (cM now snap rows sv buf rd D H R sc hs ln) := by
        intro m
        induction m with
        | zero =>
          intro j x2 y2 hx2 hj hy3
          have hy3 : y2 = w := hy3
          subst hy3
          refine hP _ _ _ _ ?_; (conv => whnf)
          refine b2 j 3 hx2 rfl (by omega) (by omega) (fun _ => ?_) (fun (q : ¬ 3 ≤ j) => by omega)
          refine hP _ _ _ _ ?_; (conv => whnf)
          exact ih (i + 1) _ _ (nI_1 i) (by omega) hy2
        | succ m ih2 =>
          intro j x2 y2 hx2 hj hy3
          subst hx2
          have hj3 : j < 3 := by omega
          have hq := k_behindQuestion (d := d) (now := now) (snap := snap) (rows := rows) (sv := sv) (buf := buf) (rd := rd) (H := H) (R := R) (sc := sc) (hs := hs) (ln := ln) h hj3 hi27
          have hm2 := s_mix (d := d + 3) (M := cM now snap rows sv buf rd D H R sc hs ln) y2 (lI (nI (lvs (dT cl) (wnN cl j i))))
          have hy4 : upN (fun p y => mx y (lI (nI (lvs (dT cl) (wnN cl p i))))) (j + 1) m (mx y2 (lI (nI (lvs (dT cl) (wnN cl j i))))) = w := hy3
          generalize mx y2 (lI (nI (lvs (dT cl) (wnN cl j i)))) = v2 at hm2 hy4
          refine hP _ _ _ _ ?_; (conv => whnf)
          refine b2 j 3 rfl rfl (by omega) (by omega) (fun (q : 3 ≤ j) => by omega) (fun _ => ?_); (conv => whnf)
          refine ⟨Nat.le_of_ble_eq_true rfl, rfl, ?_⟩; (conv => whnf)
          refine Or.inl ⟨_, _, hq, ?_⟩; (conv => whnf)
          refine ⟨Nat.le_of_ble_eq_true rfl, rfl, ?_⟩; (conv => whnf)
          refine Or.inl ⟨_, _, hm2, ?_⟩
          show P 27 [none, none, some (.ref 39), some (.long v2), none, some (.int (nI i)), some (.int (nI j + nI 1))] [] _
          exact ih2 (j + 1) _ _ (nI_1 j) (by omega) hy4
      refine hP _ _ _ _ ?_; (conv => whnf)
      refine b2 i 27 rfl rfl (by omega) (by omega) (fun (q : 27 ≤ i) => by omega) (fun _ => ?_); (conv => whnf)
      refine ⟨Nat.le_of_ble_eq_true rfl, rfl, ?_⟩; (conv => whnf)
      refine Or.inl ⟨_, _, hE1, ?_⟩; (conv => whnf)
      refine ⟨Nat.le_of_ble_eq_true rfl, rfl, ?_⟩; (conv => whnf)
      refine Or.inl ⟨_, _, hm, ?_⟩
      show P 27 [none, none, some (.ref 39), some (.long v), none, some (.int (nI i)), some (.int (nI 0))] [] _
      exact lp2 3 0 _ v rfl rfl hw
  exact lp 27 0 _ z rfl rfl hE
/-- a card's part: its places -/
def mxCd (cl : List rl_C) (c : Nat) (j : Nat) (y : Int64) : Int64 := mx (mx y (lI (nI (dCA cl c j)))) (bJ ((shW cl c).testBit j))
def mxCrd (cl : List rl_C) (a : SA) (c : Nat) (z : Int64) : Int64 := upN (mxCd cl c) 0 4 (mx (mx (mx z (lI (nI (a.2.1 c)))) (lI (splG (dT cl) (dCA cl c) 4 0))) (lI (oplG (shW cl c) 4 0)))
theorem s_mixCards {a : SA} (hA : stR now a) (h : dcOK cl D.1) (hR : rcW cl R) (z : Int64) : Cl (d + 4) kX5_mixCards [.ref 0, .long z, .ref 39, .ref 47] (cM now snap rows sv buf rd D H R sc hs ln) (rJ (upN (mxCrd cl a) 0 9 z)) (cM now snap rows sv buf rd D H R sc hs ln) := by
  generalize hE : upN (mxCrd cl a) 0 9 z = E
  refine Cl_go e_X5_mixCards (Nat.le_of_ble_eq_true rfl) rfl ?_; intro P hP; refine hP _ _ _ _ ?_; (conv => whnf)
  have lp : ∀ (k i : Nat) (x : Int32) (y : Int64), x = nI i → i + k = 9 → upN (mxCrd cl a) i k y = E →
      P 6 [some (.ref 0), none, none, some (.ref 39), some (.ref 47), some (.long y), none, some (.int x), none] [] (cM now snap rows sv buf rd D H R sc hs ln) := by
    intro k
    induction k with
    | zero =>
      intro i x y hx hi hy
      have hy : y = E := hy
      refine hP _ _ _ _ ?_; (conv => whnf)
      refine b2 i 9 hx rfl (by omega) (by omega) (fun _ => ?_) (fun (q : ¬ 9 ≤ i) => by omega)
      refine hP _ _ _ _ ?_; (conv => whnf)
      exact ⟨rfl, rfl, rL hy, rfl⟩
    | succ k ih =>
      intro i x y hx hi hy
      subst hx
      have hi9 : i < 9 := by omega
      have hk1 := s_truePlace (d := d + 1) (snap := snap) (rows := rows) (sv := sv) (buf := buf) (rd := rd) (D := D) (H := H) (R := R) (sc := sc) (hs := hs) (ln := ln) hA hi9
      have hk2 := k_surePlace (d := d + 1) (now := now) (snap := snap) (rows := rows) (sv := sv) (buf := buf) (rd := rd) (H := H) (R := R) (sc := sc) (hs := hs) (ln := ln) h hi9
      have hk3 := k_onlyPlace (d := d + 2) (now := now) (snap := snap) (rows := rows) (sv := sv) (buf := buf) (rd := rd) (D := D) (H := H) (sc := sc) (hs := hs) (ln := ln) hR hi9
      have hy2 : upN (mxCrd cl a) (i + 1) k (upN (mxCd cl i) 0 4 (mx (mx (mx y (lI (nI (a.2.1 i)))) (lI (splG (dT cl) (dCA cl i) 4 0))) (lI (oplG (shW cl i) 4 0)))) = E := hy
      generalize nI (a.2.1 i) = p1 at hk1 hy2
      generalize splG (dT cl) (dCA cl i) 4 0 = p2 at hk2 hy2
      generalize oplG (shW cl i) 4 0 = p3 at hk3 hy2
      have hm1 := s_mix (d := d + 2) (M := (cM now snap rows sv buf rd D H R sc hs ln)) y (lI (p1))
      generalize mx y (lI (p1)) = v1 at hm1 hy2
      have hm2 := s_mix (d := d + 2) (M := (cM now snap rows sv buf rd D H R sc hs ln)) v1 (lI (p2))
      generalize mx v1 (lI (p2)) = v2 at hm2 hy2
      have hm3 := s_mix (d := d + 2) (M := (cM now snap rows sv buf rd D H R sc hs ln)) v2 (lI (p3))
      generalize mx v2 (lI (p3)) = v3 at hm3 hy2
      generalize hw : upN (mxCd cl i) 0 4 v3 = w at hy2
      have lp2 : ∀ (m j : Nat) (x2 : Int32) (y2 : Int64), x2 = nI j → j + m = 4 → upN (mxCd cl i) j m y2 = w →
          P 59 [some (.ref 0), none, none, some (.ref 39), some (.ref 47), some (.long y2), none, some (.int (nI i)), some (.int x2)] [] (cM now snap rows sv buf rd D H R sc hs ln) := by
        intro m
        induction m with
        | zero =>
          intro j x2 y2 hx2 hj hy3
          have hy3 : y2 = w := hy3
          subst hy3
          refine hP _ _ _ _ ?_; (conv => whnf)
          refine b2 j 4 hx2 rfl (by omega) (by omega) (fun _ => ?_) (fun (q : ¬ 4 ≤ j) => by omega)
          refine hP _ _ _ _ ?_; (conv => whnf)
          exact ih (i + 1) _ _ (nI_1 i) (by omega) hy2
        | succ m ih2 =>
          intro j x2 y2 hx2 hj hy3
          subst hx2
          have hj4 : j < 4 := by omega
          have hq := k_withCardAt (d := d + 2) (now := now) (snap := snap) (rows := rows) (sv := sv) (buf := buf) (rd := rd) (H := H) (R := R) (sc := sc) (hs := hs) (ln := ln) h hi9 hj4
          have hr := k_has (d := d + 2) (now := now) (snap := snap) (rows := rows) (sv := sv) (buf := buf) (rd := rd) (D := D) (H := H) (sc := sc) (hs := hs) (ln := ln) hR hi9 hj4
          have hy4 : upN (mxCd cl i) (j + 1) m (mx (mx y2 (lI (nI (dCA cl i j)))) (bJ ((shW cl i).testBit j))) = w := hy3
          have hn1 := s_mix (d := d + 2) (M := (cM now snap rows sv buf rd D H R sc hs ln)) y2 (lI (nI (dCA cl i j)))
          generalize mx y2 (lI (nI (dCA cl i j))) = u1 at hn1 hy4
          have hn2 := s_mixFlag (d := d + 1) (M := (cM now snap rows sv buf rd D H R sc hs ln)) u1 ((shW cl i).testBit j)
          generalize mx u1 (bJ ((shW cl i).testBit j)) = u2 at hn2 hy4
          refine hP _ _ _ _ ?_; (conv => whnf)
          refine b2 j 4 rfl rfl (by omega) (by omega) (fun (q : 4 ≤ j) => by omega) (fun _ => ?_); (conv => whnf)
          refine ⟨Nat.le_of_ble_eq_true rfl, rfl, ?_⟩; (conv => whnf)
          refine Or.inl ⟨_, _, hq, ?_⟩; (conv => whnf)
          refine ⟨Nat.le_of_ble_eq_true rfl, rfl, ?_⟩; (conv => whnf)
          refine Or.inl ⟨_, _, hn1, ?_⟩; (conv => whnf)
          refine ⟨Nat.le_of_ble_eq_true rfl, rfl, ?_⟩; (conv => whnf)
          refine Or.inl ⟨_, _, hr, ?_⟩; (conv => whnf)
          refine ⟨Nat.le_of_ble_eq_true rfl, rfl, ?_⟩; (conv => whnf)
          refine Or.inl ⟨_, _, hn2, ?_⟩
          show P 59 [some (.ref 0), none, none, some (.ref 39), some (.ref 47), some (.long u2), none, some (.int (nI i)), some (.int (nI j + nI 1))] [] _
          exact ih2 (j + 1) _ _ (nI_1 j) (by omega) hy4
      refine hP _ _ _ _ ?_; (conv => whnf)
      refine b2 i 9 rfl rfl (by omega) (by omega) (fun (q : 9 ≤ i) => by omega) (fun _ => ?_); (conv => whnf)
      refine ⟨Nat.le_of_ble_eq_true rfl, rfl, ?_⟩; (conv => whnf)
      refine Or.inl ⟨_, _, hk1, ?_⟩; (conv => whnf)
      refine ⟨Nat.le_of_ble_eq_true rfl, rfl, ?_⟩; (conv => whnf)
      refine Or.inl ⟨_, _, hm1, ?_⟩; (conv => whnf)
      refine ⟨Nat.le_of_ble_eq_true rfl, rfl, ?_⟩; (conv => whnf)
      refine Or.inl ⟨_, _, hk2, ?_⟩; (conv => whnf)
      refine ⟨Nat.le_of_ble_eq_true rfl, rfl, ?_⟩; (conv => whnf)
      refine Or.inl ⟨_, _, hm2, ?_⟩
      show wI (Cl (d + 3)) _ _ P (fnd pgX5_mixCards 39) [some (.ref 0), none, none, some (.ref 39), some (.ref 47), some (.long v1), none, some (.int (nI i)), none] [.long v2] _
      (conv => whnf)
      refine ⟨Nat.le_of_ble_eq_true rfl, rfl, ?_⟩; (conv => whnf)
      refine Or.inl ⟨_, _, hk3, ?_⟩; (conv => whnf)
      refine ⟨Nat.le_of_ble_eq_true rfl, rfl, ?_⟩; (conv => whnf)
      refine Or.inl ⟨_, _, hm3, ?_⟩
      show P 59 [some (.ref 0), none, none, some (.ref 39), some (.ref 47), some (.long v3), none, some (.int (nI i)), some (.int (nI 0))] [] _
      exact lp2 4 0 _ v3 rfl rfl hw
  exact lp 9 0 _ z rfl rfl hE
end X5P
