/-! the digest: clues mixed -/
def mxClu (cl : List rl_C) (a : SA) (k : Nat) (z : Int64) : Int64 := mx (mx (mx (mx (mx z (lI (nI (clG a k).1))) (lI (plI (clG a k)))) (lI (nI (clG a k).2.2))) (bJ (agG a k))) (lI (nI (dT cl + dHB cl k)))
section X5Q
variable {d : Nat} {M : Mem} {A : AS} {now snap : StR} {rows : Nat → StR} {sv : Nat → Option Nat} {buf : IA} {rd : RS} {D : DC} {H : HC} {R : RC} {sc hs ln : Int32} {cl : List rl_C}
theorem s_mixClues {a : SA} (hA : stR now a) (h : dcOK cl D.1) (z : Int64) : Cl (d + 3) kX5_mixClues [.ref 0, .long z, .ref 39] (cM now snap rows sv buf rd D H R sc hs ln) (rJ (upN (mxClu cl a) 0 a.1.length z)) (cM now snap rows sv buf rd D H R sc hs ln) := by
  have h20 : a.1.length ≤ 20 := hA.2.2.2.2.2.1
  have hcnt := hA.2.1
  generalize hE : upN (mxClu cl a) 0 a.1.length z = E
  refine Cl_go e_X5_mixClues (Nat.le_of_ble_eq_true rfl) rfl ?_; intro P hP; refine hP _ _ _ _ ?_; (conv => whnf)
  have lp : ∀ (k i : Nat) (x : Int32) (y : Int64), x = nI i → i + k = a.1.length → upN (mxClu cl a) i k y = E →
      P 6 [some (.ref 0), none, none, some (.ref 39), some (.long y), none, some (.int x)] [] (cM now snap rows sv buf rd D H R sc hs ln) := by
    intro k
    induction k with
    | zero =>
      intro i x y hx hi hy
      have hy : y = E := hy
      refine hP _ _ _ _ ?_; (conv => whnf)
      refine b2 i a.1.length hx hcnt (by omega) (by omega) (fun _ => ?_) (fun (q : ¬ a.1.length ≤ i) => by omega)
      refine hP _ _ _ _ ?_; (conv => whnf)
      exact ⟨rfl, rfl, rL hy, rfl⟩
    | succ k ih =>
      intro i x y hx hi hy
      subst hx
      have hil : i < a.1.length := by omega
      have hk1 := s_kindOf (d := d) (snap := snap) (rows := rows) (sv := sv) (buf := buf) (rd := rd) (D := D) (H := H) (R := R) (sc := sc) (hs := hs) (ln := ln) hA hil
      have hk2 := s_playerOf (d := d) (snap := snap) (rows := rows) (sv := sv) (buf := buf) (rd := rd) (D := D) (H := H) (R := R) (sc := sc) (hs := hs) (ln := ln) hA hil
      have hk3 := s_cardsOf (d := d) (snap := snap) (rows := rows) (sv := sv) (buf := buf) (rd := rd) (D := D) (H := H) (R := R) (sc := sc) (hs := hs) (ln := ln) hA hil
      have hk4 := s_isTrue (d := d) (snap := snap) (rows := rows) (sv := sv) (buf := buf) (rd := rd) (D := D) (H := H) (R := R) (sc := sc) (hs := hs) (ln := ln) hA hil
      have hk5 := k_withoutClue (d := d + 1) (now := now) (snap := snap) (rows := rows) (sv := sv) (buf := buf) (rd := rd) (H := H) (R := R) (sc := sc) (hs := hs) (ln := ln) h (show i < 20 by omega)
      have hy2 : upN (mxClu cl a) (i + 1) k (mx (mx (mx (mx (mx y (lI (nI (clG a i).1))) (lI (plI (clG a i)))) (lI (nI (clG a i).2.2))) (bJ (agG a i))) (lI (nI (dT cl + dHB cl i)))) = E := hy
      have hm1 := s_mix (d := d + 1) (M := (cM now snap rows sv buf rd D H R sc hs ln)) y (lI (nI (clG a i).1))
      generalize mx y (lI (nI (clG a i).1)) = v1 at hm1 hy2
      have hm2 := s_mix (d := d + 1) (M := (cM now snap rows sv buf rd D H R sc hs ln)) v1 (lI (plI (clG a i)))
      generalize mx v1 (lI (plI (clG a i))) = v2 at hm2 hy2
      have hm3 := s_mix (d := d + 1) (M := (cM now snap rows sv buf rd D H R sc hs ln)) v2 (lI (nI (clG a i).2.2))
      generalize mx v2 (lI (nI (clG a i).2.2)) = v3 at hm3 hy2
      have hm4 := s_mixFlag (d := d) (M := (cM now snap rows sv buf rd D H R sc hs ln)) v3 (agG a i)
      generalize mx v3 (bJ (agG a i)) = v4 at hm4 hy2
      have hm5 := s_mix (d := d + 1) (M := (cM now snap rows sv buf rd D H R sc hs ln)) v4 (lI (nI (dT cl + dHB cl i)))
      generalize mx v4 (lI (nI (dT cl + dHB cl i))) = v5 at hm5 hy2
      refine hP _ _ _ _ ?_; (conv => whnf)
      refine b2 i a.1.length rfl hcnt (by omega) (by omega) (fun (q : a.1.length ≤ i) => by omega) (fun _ => ?_); (conv => whnf)
      refine ⟨Nat.le_of_ble_eq_true rfl, rfl, ?_⟩; (conv => whnf)
      refine Or.inl ⟨_, _, hk1, ?_⟩; (conv => whnf)
      refine ⟨Nat.le_of_ble_eq_true rfl, rfl, ?_⟩; (conv => whnf)
      refine Or.inl ⟨_, _, hm1, ?_⟩
      show wI (Cl (d + 2)) _ _ P (fnd pgX5_mixClues 30) [some (.ref 0), none, none, some (.ref 39), some (.long y), none, some (.int (nI i))] [.long v1] _
      (conv => whnf)
      refine ⟨Nat.le_of_ble_eq_true rfl, rfl, ?_⟩; (conv => whnf)
      refine Or.inl ⟨_, _, hk2, ?_⟩; (conv => whnf)
      refine ⟨Nat.le_of_ble_eq_true rfl, rfl, ?_⟩; (conv => whnf)
      refine Or.inl ⟨_, _, hm2, ?_⟩
      show wI (Cl (d + 2)) _ _ P (fnd pgX5_mixClues 44) [some (.ref 0), none, none, some (.ref 39), some (.long v1), none, some (.int (nI i))] [.long v2] _
      (conv => whnf)
      refine ⟨Nat.le_of_ble_eq_true rfl, rfl, ?_⟩; (conv => whnf)
      refine Or.inl ⟨_, _, hk3, ?_⟩; (conv => whnf)
      refine ⟨Nat.le_of_ble_eq_true rfl, rfl, ?_⟩; (conv => whnf)
      refine Or.inl ⟨_, _, hm3, ?_⟩
      show wI (Cl (d + 2)) _ _ P (fnd pgX5_mixClues 58) [some (.ref 0), none, none, some (.ref 39), some (.long v2), none, some (.int (nI i))] [.long v3] _
      (conv => whnf)
      refine ⟨Nat.le_of_ble_eq_true rfl, rfl, ?_⟩; (conv => whnf)
      refine Or.inl ⟨_, _, hk4, ?_⟩; (conv => whnf)
      refine ⟨Nat.le_of_ble_eq_true rfl, rfl, ?_⟩; (conv => whnf)
      refine Or.inl ⟨_, _, hm4, ?_⟩
      show wI (Cl (d + 2)) _ _ P (fnd pgX5_mixClues 71) [some (.ref 0), none, none, some (.ref 39), some (.long v3), none, some (.int (nI i))] [.long v4] _
      (conv => whnf)
      refine ⟨Nat.le_of_ble_eq_true rfl, rfl, ?_⟩; (conv => whnf)
      refine Or.inl ⟨_, _, hk5, ?_⟩; (conv => whnf)
      refine ⟨Nat.le_of_ble_eq_true rfl, rfl, ?_⟩; (conv => whnf)
      refine Or.inl ⟨_, _, hm5, ?_⟩
      show P 6 [some (.ref 0), none, none, some (.ref 39), some (.long v5), none, some (.int (nI i + nI 1))] [] _
      exact ih (i + 1) _ _ (nI_1 i) (by omega) hy2
  exact lp a.1.length 0 _ z rfl (Nat.zero_add _) hE
def mxBest (cl : List rl_C) (z : Int64) : Int64 := if 0 < dT cl then upN (fun p y => mx y (lI (nI (amn (fun t => lvs (dT cl) (wnN cl p t)) 26)))) 0 3 (mx z (lI (nI (amx (dIE cl) 26)))) else z
theorem s_mixBest (h : dcOK cl D.1) (z : Int64) : Cl (d + 6) kX5_mixBest [.long z, .ref 39] (cM now snap rows sv buf rd D H R sc hs ln) (rJ (mxBest cl z)) (cM now snap rows sv buf rd D H R sc hs ln) := by
  have hle := dT_le cl
  unfold mxBest
  by_cases h0 : 0 < dT cl
  · rw [if_pos h0]
    have hk := k_likeliestEnvelope (d := d + 3) (now := now) (snap := snap) (rows := rows) (sv := sv) (buf := buf) (rd := rd) (H := H) (R := R) (sc := sc) (hs := hs) (ln := ln) h
    have hm := s_mix (d := d + 4) (M := (cM now snap rows sv buf rd D H R sc hs ln)) z (lI (nI (amx (dIE cl) 26)))
    generalize mx z (lI (nI (amx (dIE cl) 26))) = v at hm ⊢
    generalize hE : upN (fun p y => mx y (lI (nI (amn (fun t => lvs (dT cl) (wnN cl p t)) 26)))) 0 3 v = E
    refine Cl_go e_X5_mixBest (Nat.le_of_ble_eq_true rfl) rfl ?_; intro P hP; refine hP _ _ _ _ ?_; (conv => whnf)
    have lp : ∀ (k i : Nat) (x : Int32) (y : Int64), x = nI i → i + k = 3 → upN (fun p y => mx y (lI (nI (amn (fun t => lvs (dT cl) (wnN cl p t)) 26)))) i k y = E →
        P 22 [none, none, some (.ref 39), some (.long y), none, some (.int x)] [] (cM now snap rows sv buf rd D H R sc hs ln) := by
      intro k
      induction k with
      | zero =>
        intro i x y hx hi hy
        have hy : y = E := hy
        refine hP _ _ _ _ ?_; (conv => whnf)
        refine b2 i 3 hx rfl (by omega) (by omega) (fun _ => ?_) (fun (q : ¬ 3 ≤ i) => by omega)
        refine hP _ _ _ _ ?_; (conv => whnf)
        exact ⟨rfl, rfl, rL hy, rfl⟩
      | succ k ih =>
        intro i x y hx hi hy
        subst hx
        have hi3 : i < 3 := by omega
        have hq := k_sharpestQuestion (d := d) (now := now) (snap := snap) (rows := rows) (sv := sv) (buf := buf) (rd := rd) (H := H) (R := R) (sc := sc) (hs := hs) (ln := ln) h hi3
        have hm2 := s_mix (d := d + 4) (M := (cM now snap rows sv buf rd D H R sc hs ln)) y (lI (nI (amn (fun t => lvs (dT cl) (wnN cl i t)) 26)))
        have hy2 : upN (fun p y => mx y (lI (nI (amn (fun t => lvs (dT cl) (wnN cl p t)) 26)))) (i + 1) k (mx y (lI (nI (amn (fun t => lvs (dT cl) (wnN cl i t)) 26)))) = E := hy
        generalize mx y (lI (nI (amn (fun t => lvs (dT cl) (wnN cl i t)) 26))) = v2 at hm2 hy2
        refine hP _ _ _ _ ?_; (conv => whnf)
        refine b2 i 3 rfl rfl (by omega) (by omega) (fun (q : 3 ≤ i) => by omega) (fun _ => ?_); (conv => whnf)
        refine ⟨Nat.le_of_ble_eq_true rfl, rfl, ?_⟩; (conv => whnf)
        refine Or.inl ⟨_, _, hq, ?_⟩; (conv => whnf)
        refine ⟨Nat.le_of_ble_eq_true rfl, rfl, ?_⟩; (conv => whnf)
        refine Or.inl ⟨_, _, hm2, ?_⟩
        show P 22 [none, none, some (.ref 39), some (.long v2), none, some (.int (nI i + nI 1))] [] _
        exact ih (i + 1) _ _ (nI_1 i) (by omega) hy2
    refine b1 (dT cl) (congrArg nI h.1) (by omega) (fun _ => ?_) (fun q => absurd h0 q)
    refine hP _ _ _ _ ?_; (conv => whnf)
    refine ⟨Nat.le_of_ble_eq_true rfl, rfl, ?_⟩; (conv => whnf)
    refine Or.inl ⟨_, _, hk, ?_⟩; (conv => whnf)
    refine ⟨Nat.le_of_ble_eq_true rfl, rfl, ?_⟩; (conv => whnf)
    refine Or.inl ⟨_, _, hm, ?_⟩
    show P 22 [none, none, some (.ref 39), some (.long v), none, some (.int (nI 0))] [] _
    exact lp 3 0 _ v rfl rfl hE
  · rw [if_neg h0]
    refine Cl_go e_X5_mixBest (Nat.le_of_ble_eq_true rfl) rfl ?_; intro P hP; refine hP _ _ _ _ ?_; (conv => whnf)
    refine b1 (dT cl) (congrArg nI h.1) (by omega) (fun q => absurd q h0) (fun _ => ?_); (conv => whnf)
    exact ⟨rfl, rfl, rfl, rfl⟩
end X5Q
