/-! the digest: counts mixed -/
def mxCntL (A : AS) : List Int64 := [lI (nI (ntr (hq A.1.2.1 3) 9)), lI (nI A.1.1.length), lI (nI (cntN (fun k => !agG A.1 k) A.1.1.length)), lI (nI (dT A.1.1)), lI (nI (dT A.1.1)), lI (nI (cntN (fun c => spB (dT A.1.1) (dCA A.1.1 c)) 9)), bJ (shB A.1.1), lI (nI 36 - nI (rl_sum 9 (shW A.1.1))), lI (nI (rl_sum 9 (shW A.1.1)) - nI (cntN (fun j => Nat.blt 0 (dCA A.1.1 (j / 4) (j % 4))) 36)), lI (nI (cntN (fun t => Nat.blt 0 (dIE A.1.1 t)) 27)), bJ (Nat.beq (cntN (fun t => Nat.blt 0 (dIE A.1.1 t)) 27) 1), lI (nI (cntN (fun k => Nat.beq (dT A.1.1 + dHB A.1.1 k) (dT A.1.1)) A.1.1.length)), lI (nI A.2.2.1.length)]
section X5R
variable {d : Nat} {M : Mem} {A : AS} {now snap : StR} {rows : Nat → StR} {r : Nat} {buf : IA} {rd : RS} {D D' : DC} {H H' : HC} {R R' : RC}
theorem s_mixCounts (h : CRr A now snap rows r buf rd D H R) (ok : dcOK A.1.1 D.1) (hR : rcW A.1.1 R) (z : Int64) : ∃ H' : HC, CRr A now snap rows r buf rd D H' R ∧ Cl (d + 8) kX5_mixCounts [.ref 0, .long z, .ref 39, .ref 47] (cMA A now snap rows r buf rd D H R) (rJ (mxAll z (mxCntL A))) (cMA A now snap rows r buf rd D H' R) := by
  have hT := ok.1
  have hl := h.2.1.2.2.2.2.2.1
  have hc := h.2.1.2.1
  obtain ⟨H', h', okH, hkH⟩ := g_hands d h
  refine ⟨H', h', ?_⟩
  have a1 := s_trueEnvelope (d := d + 5) (snap := snap) (rows := rows) (sv := svF r) (buf := buf) (rd := rd) (D := D) (H := H) (R := R) (sc := nI A.2.2.1.length) (hs := bI A.2.1.isSome) (ln := nI A.2.2.2.length) h.2.1
  have a2 : Cl (d + 7) kX5_clues [.ref 0] (cMA A now snap rows r buf rd D H R) (rV (nI A.1.1.length)) (cMA A now snap rows r buf rd D H R) := by
    refine Cl_go e_X5_clues (Nat.le_of_ble_eq_true rfl) rfl ?_; intro P hP; refine hP _ _ _ _ ?_; (conv => whnf)
    exact ⟨rfl, ⟨.int, rfl, rfl⟩, rI (hc), rfl⟩
  have a3 := s_untrue (d := d + 5) (snap := snap) (rows := rows) (sv := svF r) (buf := buf) (rd := rd) (D := D) (H := H) (R := R) (sc := nI A.2.2.1.length) (hs := bI A.2.1.isSome) (ln := nI A.2.2.2.length) h.2.1
  have a6 := k_sureCards (d := d + 4) (now := now) (snap := snap) (rows := rows) (sv := svF r) (buf := buf) (rd := rd) (H := H') (R := R) (sc := nI A.2.2.1.length) (hs := bI A.2.1.isSome) (ln := nI A.2.2.2.length) ok
  have a8 := k_left2 (d := d + 5) (now := now) (snap := snap) (rows := rows) (sv := svF r) (buf := buf) (rd := rd) (D := D) (H := H') (sc := nI A.2.2.1.length) (hs := bI A.2.1.isSome) (ln := nI A.2.2.2.length) hR
  have a9 := k_placesLeft (d := d + 6) (now := now) (snap := snap) (rows := rows) (sv := svF r) (buf := buf) (rd := rd) (H := H') (R := R) (sc := nI A.2.2.1.length) (hs := bI A.2.1.isSome) (ln := nI A.2.2.2.length) ok
  have a10 := k_envelopesLeft (d := d + 6) (now := now) (snap := snap) (rows := rows) (sv := svF r) (buf := buf) (rd := rd) (H := H') (R := R) (sc := nI A.2.2.1.length) (hs := bI A.2.1.isSome) (ln := nI A.2.2.2.length) ok
  have a12 := k_idleAmong (d := d + 5) (now := now) (snap := snap) (rows := rows) (sv := svF r) (buf := buf) (rd := rd) (H := H') (R := R) (sc := nI A.2.2.1.length) (hs := bI A.2.1.isSome) (ln := nI A.2.2.2.length) ok hl
  rw [← hc] at a12
  have a13 : Cl (d + 7) kX5_savedStates [.ref 0] (cMA A now snap rows r buf rd D H' R) (rV (nI A.2.2.1.length)) (cMA A now snap rows r buf rd D H' R) := by
    refine Cl_go e_X5_savedStates (Nat.le_of_ble_eq_true rfl) rfl ?_; intro P hP; refine hP _ _ _ _ ?_; (conv => whnf)
    exact ⟨rfl, ⟨.int, rfl, rfl⟩, rfl, rfl⟩
  have hle := cntN_le (fun t => Nat.blt 0 (dIE A.1.1 t)) 27
  have f1 : D.1.1 = dT A.1.1 := hT
  have f2 : H'.1 = nI (dT A.1.1) := okH
  have f3 : R.1 = bI (shB A.1.1) := hR.1
  have hE : mxAll z (mxCntL A) = mxAll z (mxCntL A) := rfl
  generalize hw : mxAll z (mxCntL A) = E
  have hy : mx (mx (mx (mx (mx (mx (mx (mx (mx (mx (mx (mx (mx (z) (lI (nI (ntr (hq A.1.2.1 3) 9)))) (lI (nI A.1.1.length))) (lI (nI (cntN (fun k => !agG A.1 k) A.1.1.length)))) (lI (nI (dT A.1.1)))) (lI (nI (dT A.1.1)))) (lI (nI (cntN (fun c => spB (dT A.1.1) (dCA A.1.1 c)) 9)))) (bJ (shB A.1.1))) (lI (nI 36 - nI (rl_sum 9 (shW A.1.1))))) (lI (nI (rl_sum 9 (shW A.1.1)) - nI (cntN (fun j => Nat.blt 0 (dCA A.1.1 (j / 4) (j % 4))) 36)))) (lI (nI (cntN (fun t => Nat.blt 0 (dIE A.1.1 t)) 27)))) (bJ (Nat.beq (cntN (fun t => Nat.blt 0 (dIE A.1.1 t)) 27) 1))) (lI (nI (cntN (fun k => Nat.beq (dT A.1.1 + dHB A.1.1 k) (dT A.1.1)) A.1.1.length)))) (lI (nI A.2.2.1.length)) = E := hw
  clear hw hE
  have m1 := s_mix (d := d + 6) (M := (cMA A now snap rows r buf rd D H R)) z (lI (nI (ntr (hq A.1.2.1 3) 9)))
  generalize mx z (lI (nI (ntr (hq A.1.2.1 3) 9))) = w1 at m1 hy
  have m2 := s_mix (d := d + 6) (M := (cMA A now snap rows r buf rd D H R)) w1 (lI (nI A.1.1.length))
  generalize mx w1 (lI (nI A.1.1.length)) = w2 at m2 hy
  have m3 := s_mix (d := d + 6) (M := (cMA A now snap rows r buf rd D H R)) w2 (lI (nI (cntN (fun k => !agG A.1 k) A.1.1.length)))
  generalize mx w2 (lI (nI (cntN (fun k => !agG A.1 k) A.1.1.length))) = w3 at m3 hy
  have m4 := s_mix (d := d + 6) (M := (cMA A now snap rows r buf rd D H R)) w3 (lI (nI (dT A.1.1)))
  generalize mx w3 (lI (nI (dT A.1.1))) = w4 at m4 hy
  have m5 := s_mix (d := d + 6) (M := (cMA A now snap rows r buf rd D H' R)) w4 (lI (nI (dT A.1.1)))
  generalize mx w4 (lI (nI (dT A.1.1))) = w5 at m5 hy
  have m6 := s_mix (d := d + 6) (M := (cMA A now snap rows r buf rd D H' R)) w5 (lI (nI (cntN (fun c => spB (dT A.1.1) (dCA A.1.1 c)) 9)))
  generalize mx w5 (lI (nI (cntN (fun c => spB (dT A.1.1) (dCA A.1.1 c)) 9))) = w6 at m6 hy
  have m7 := s_mixFlag (d := d + 5) (M := (cMA A now snap rows r buf rd D H' R)) w6 ((shB A.1.1))
  generalize mx w6 (bJ (shB A.1.1)) = w7 at m7 hy
  have m8 := s_mix (d := d + 6) (M := (cMA A now snap rows r buf rd D H' R)) w7 (lI (nI 36 - nI (rl_sum 9 (shW A.1.1))))
  generalize mx w7 (lI (nI 36 - nI (rl_sum 9 (shW A.1.1)))) = w8 at m8 hy
  have m9 := s_mix (d := d + 6) (M := (cMA A now snap rows r buf rd D H' R)) w8 (lI (nI (rl_sum 9 (shW A.1.1)) - nI (cntN (fun j => Nat.blt 0 (dCA A.1.1 (j / 4) (j % 4))) 36)))
  generalize mx w8 (lI (nI (rl_sum 9 (shW A.1.1)) - nI (cntN (fun j => Nat.blt 0 (dCA A.1.1 (j / 4) (j % 4))) 36))) = w9 at m9 hy
  have m10 := s_mix (d := d + 6) (M := (cMA A now snap rows r buf rd D H' R)) w9 (lI (nI (cntN (fun t => Nat.blt 0 (dIE A.1.1 t)) 27)))
  generalize mx w9 (lI (nI (cntN (fun t => Nat.blt 0 (dIE A.1.1 t)) 27))) = w10 at m10 hy
  have m11 := s_mixFlag (d := d + 5) (M := (cMA A now snap rows r buf rd D H' R)) w10 ((Nat.beq (cntN (fun t => Nat.blt 0 (dIE A.1.1 t)) 27) 1))
  generalize mx w10 (bJ (Nat.beq (cntN (fun t => Nat.blt 0 (dIE A.1.1 t)) 27) 1)) = w11 at m11 hy
  have m12 := s_mix (d := d + 6) (M := (cMA A now snap rows r buf rd D H' R)) w11 (lI (nI (cntN (fun k => Nat.beq (dT A.1.1 + dHB A.1.1 k) (dT A.1.1)) A.1.1.length)))
  generalize mx w11 (lI (nI (cntN (fun k => Nat.beq (dT A.1.1 + dHB A.1.1 k) (dT A.1.1)) A.1.1.length))) = w12 at m12 hy
  have m13 := s_mix (d := d + 6) (M := (cMA A now snap rows r buf rd D H' R)) w12 (lI (nI A.2.2.1.length))
  generalize mx w12 (lI (nI A.2.2.1.length)) = w13 at m13 hy
  refine Cl_go e_X5_mixCounts (Nat.le_of_ble_eq_true rfl) rfl ?_; intro P hP; refine hP _ _ _ _ ?_; (conv => whnf)
  refine ⟨Nat.le_of_ble_eq_true rfl, rfl, ?_⟩; (conv => whnf)
  refine Or.inl ⟨_, _, a1, ?_⟩; (conv => whnf)
  refine ⟨Nat.le_of_ble_eq_true rfl, rfl, ?_⟩; (conv => whnf)
  refine Or.inl ⟨_, _, m1, ?_⟩
  show wI (Cl (d + 7)) _ _ P (fnd pgX5_mixCounts 9) [some (.ref 0), some (.long z), none, some (.ref 39), some (.ref 47), none, none] [.long w1] _
  (conv => whnf)
  refine ⟨Nat.le_of_ble_eq_true rfl, rfl, ?_⟩; (conv => whnf)
  refine Or.inl ⟨_, _, a2, ?_⟩; (conv => whnf)
  refine ⟨Nat.le_of_ble_eq_true rfl, rfl, ?_⟩; (conv => whnf)
  refine Or.inl ⟨_, _, m2, ?_⟩
  show wI (Cl (d + 7)) _ _ P (fnd pgX5_mixCounts 21) [some (.ref 0), some (.long z), none, some (.ref 39), some (.ref 47), some (.long w1), none] [.long w2] _
  (conv => whnf)
  refine ⟨Nat.le_of_ble_eq_true rfl, rfl, ?_⟩; (conv => whnf)
  refine Or.inl ⟨_, _, a3, ?_⟩; (conv => whnf)
  refine ⟨Nat.le_of_ble_eq_true rfl, rfl, ?_⟩; (conv => whnf)
  refine Or.inl ⟨_, _, m3, ?_⟩
  show wI (Cl (d + 7)) _ _ P (fnd pgX5_mixCounts 33) [some (.ref 0), some (.long z), none, some (.ref 39), some (.ref 47), some (.long w2), none] [.long w3] _
  (conv => whnf)
  rw [← f1] at m4
  refine ⟨Nat.le_of_ble_eq_true rfl, rfl, ?_⟩; (conv => whnf)
  refine Or.inl ⟨_, _, m4, ?_⟩
  show wI (Cl (d + 7)) _ _ P (fnd pgX5_mixCounts 45) [some (.ref 0), some (.long z), none, some (.ref 39), some (.ref 47), some (.long w3), none] [.long w4] _
  (conv => whnf)
  rw [← f2] at m5
  refine ⟨Nat.le_of_ble_eq_true rfl, rfl, ?_⟩; (conv => whnf)
  refine Or.inl ⟨_, _, hkH, ?_⟩; (conv => whnf)
  refine ⟨Nat.le_of_ble_eq_true rfl, rfl, ?_⟩; (conv => whnf)
  refine Or.inl ⟨_, _, m5, ?_⟩
  show wI (Cl (d + 7)) _ _ P (fnd pgX5_mixCounts 60) [some (.ref 0), some (.long z), none, some (.ref 39), some (.ref 47), some (.long w4), none] [.long w5] _
  (conv => whnf)
  refine ⟨Nat.le_of_ble_eq_true rfl, rfl, ?_⟩; (conv => whnf)
  refine Or.inl ⟨_, _, a6, ?_⟩; (conv => whnf)
  refine ⟨Nat.le_of_ble_eq_true rfl, rfl, ?_⟩; (conv => whnf)
  refine Or.inl ⟨_, _, m6, ?_⟩
  show wI (Cl (d + 7)) _ _ P (fnd pgX5_mixCounts 72) [some (.ref 0), some (.long z), none, some (.ref 39), some (.ref 47), some (.long w5), none] [.long w6] _
  (conv => whnf)
  rw [← f3] at m7
  refine ⟨Nat.le_of_ble_eq_true rfl, rfl, ?_⟩; (conv => whnf)
  refine Or.inl ⟨_, _, m7, ?_⟩
  show wI (Cl (d + 7)) _ _ P (fnd pgX5_mixCounts 84) [some (.ref 0), some (.long z), none, some (.ref 39), some (.ref 47), some (.long w6), none] [.long w7] _
  (conv => whnf)
  refine ⟨Nat.le_of_ble_eq_true rfl, rfl, ?_⟩; (conv => whnf)
  refine Or.inl ⟨_, _, a8, ?_⟩; (conv => whnf)
  refine ⟨Nat.le_of_ble_eq_true rfl, rfl, ?_⟩; (conv => whnf)
  refine Or.inl ⟨_, _, m8, ?_⟩
  show wI (Cl (d + 7)) _ _ P (fnd pgX5_mixCounts 100) [some (.ref 0), some (.long z), none, some (.ref 39), some (.ref 47), some (.long w7), none] [.long w8] _
  (conv => whnf)
  refine ⟨Nat.le_of_ble_eq_true rfl, rfl, ?_⟩; (conv => whnf)
  refine Or.inl ⟨_, _, a8, ?_⟩; (conv => whnf)
  refine ⟨Nat.le_of_ble_eq_true rfl, rfl, ?_⟩; (conv => whnf)
  refine Or.inl ⟨_, _, a9, ?_⟩; (conv => whnf)
  refine ⟨Nat.le_of_ble_eq_true rfl, rfl, ?_⟩; (conv => whnf)
  refine Or.inl ⟨_, _, m9, ?_⟩
  show wI (Cl (d + 7)) _ _ P (fnd pgX5_mixCounts 118) [some (.ref 0), some (.long z), none, some (.ref 39), some (.ref 47), some (.long w8), none] [.long w9] _
  (conv => whnf)
  refine ⟨Nat.le_of_ble_eq_true rfl, rfl, ?_⟩; (conv => whnf)
  refine Or.inl ⟨_, _, a10, ?_⟩; (conv => whnf)
  refine ⟨Nat.le_of_ble_eq_true rfl, rfl, ?_⟩; (conv => whnf)
  refine Or.inl ⟨_, _, m10, ?_⟩
  show wI (Cl (d + 7)) _ _ P (fnd pgX5_mixCounts 130) [some (.ref 0), some (.long z), none, some (.ref 39), some (.ref 47), some (.long w9), none] [.long w10] _
  (conv => whnf)
  refine ⟨Nat.le_of_ble_eq_true rfl, rfl, ?_⟩; (conv => whnf)
  refine Or.inl ⟨_, _, a10, ?_⟩; (conv => whnf)
  have lp : ∀ b : Bool, b = Nat.beq (cntN (fun t => Nat.blt 0 (dIE A.1.1 t)) 27) 1 → P 147 [some (.ref 0), none, none, some (.ref 39), none, none, none] [.int (bI b), .long w10] (cMA A now snap rows r buf rd D H' R) := by
    intro b hb
    subst hb
    refine hP _ _ _ _ ?_; (conv => whnf)
    refine ⟨Nat.le_of_ble_eq_true rfl, rfl, ?_⟩; (conv => whnf)
    refine Or.inl ⟨_, _, m11, ?_⟩
    show wI (Cl (d + 7)) _ _ P (fnd pgX5_mixCounts 150) [some (.ref 0), none, none, some (.ref 39), none, none, none] [.long w11] _
    (conv => whnf)
    refine ⟨Nat.le_of_ble_eq_true rfl, rfl, ?_⟩; (conv => whnf)
    refine Or.inl ⟨_, _, a12, ?_⟩; (conv => whnf)
    refine ⟨Nat.le_of_ble_eq_true rfl, rfl, ?_⟩; (conv => whnf)
    refine Or.inl ⟨_, _, m12, ?_⟩
    show wI (Cl (d + 7)) _ _ P (fnd pgX5_mixCounts 169) [some (.ref 0), none, none, some (.ref 39), none, some (.long w11), none] [.long w12] _
    (conv => whnf)
    refine ⟨Nat.le_of_ble_eq_true rfl, rfl, ?_⟩; (conv => whnf)
    refine Or.inl ⟨_, _, a13, ?_⟩; (conv => whnf)
    refine ⟨Nat.le_of_ble_eq_true rfl, rfl, ?_⟩; (conv => whnf)
    refine Or.inl ⟨_, _, m13, ?_⟩
    exact ⟨rfl, rfl, rL hy, rfl⟩
  refine b2 (cntN (fun t => Nat.blt 0 (dIE A.1.1 t)) 27) 1 rfl rfl (by omega) (by omega) (fun (q : ¬ cntN (fun t => Nat.blt 0 (dIE A.1.1 t)) 27 = 1) => ?_) (fun (q : ¬ ¬ cntN (fun t => Nat.blt 0 (dIE A.1.1 t)) 27 = 1) => ?_)
  · refine hP _ _ _ _ ?_; (conv => whnf)
    exact lp false (nbf q).symm
  · (conv => whnf)
    exact lp true (nbt (Decidable.of_not_not q)).symm
end X5R
