/-! the reader of texts: digits; a sign taken -/
section X4B
variable {d : Nat} {s : RS} {c : Nat}
theorem ble_f {a b : Nat} (h : b < a) : Nat.ble a b = false := by
  cases hb : Nat.ble a b with
  | false => rfl
  | true => have := Nat.le_of_ble_eq_true hb; omega
theorem s_takeFirstDigit (h0 : s.2.2.2 = 3) (hc : c < 2 ^ 30) (hs : s.1 < 2 ^ 31) : ∃ r N, tkR s c r N ∧ Cl (d + 2) kX4_takeFirstDigit [.ref 0, .int (nI c)] (mX4 s) r N := by
  have hl := lim_le s.1
  refine Cl_goQ e_X4_takeFirstDigit rfl (Nat.le_of_ble_eq_true rfl) (fun r N q => tkR_len s c r N q) (tkR_ne s hs c) ?_; intro P hP; refine hP _ _ _ _ ?_; (conv => whnf)
  refine ⟨⟨rfl, rfl⟩, ?_⟩; (conv => whnf)
  refine ⟨⟨rfl, rfl⟩, ?_⟩; (conv => whnf)
  refine ⟨Nat.le_of_ble_eq_true rfl, rfl, ?_⟩; (conv => whnf)
  refine Or.inl ⟨_, _, Cl_s (s_isDigit (show c < 2 ^ 31 by omega)), ?_⟩; (conv => whnf)
  have bad : ¬ ((48 ≤ c ∧ c ≤ 57) ∧ c - 48 < lim s.1) → P 38 [none, none] [] (mset (mset (mX4 s) 0 (eO 4 [.int (nI s.1), .int (nI s.2.1), .int (nI c - cst 48), .int (nI s.2.2.2)])) 0 (eO 4 [.int (nI s.1), .int (nI s.2.1), .int (nI c - cst 48), .int (cst 4)])) := by
    intro q
    refine hP _ _ _ _ ?_; (conv => whnf)
    refine hP _ _ _ _ ?_; (conv => whnf)
    refine ⟨rfl, ⟨.boolean, rfl, rfl⟩, ?_⟩
    have e : rdS s c = none := by unfold rdS; rw [if_neg (by omega), if_neg (by omega), if_neg (by omega), if_pos h0, if_neg q]
    unfold tkR; rw [e]
    obtain ⟨k, hk⟩ := nI_sub_any c 48
    refine ⟨rfl, (s.1, s.2.1, k, 4), hs, ?_⟩
    show _ = [eO 4 [.int (nI s.1), .int (nI s.2.1), .int (nI k), .int (nI 4)]]
    rw [← hk]; rfl
  by_cases hd : 48 ≤ c ∧ c ≤ 57
  · have e1 : nI c - cst 48 = nI (c - 48) := show nI c - nI 48 = nI (c - 48) from pk_sub hd.1
    have hb : (Nat.ble 48 c && Nat.ble c 57) = true := by rw [Nat.ble_eq_true_of_le hd.1, Nat.ble_eq_true_of_le hd.2]; rfl
    refine b1 1 (by rw [hb]; rfl) (by omega) (fun (q : 1 = 0) => by omega) (fun _ => ?_); (conv => whnf)
    refine ⟨Nat.le_of_ble_eq_true rfl, rfl, ?_⟩; (conv => whnf)
    refine Or.inl ⟨_, _, Cl_s (s_limitOf hs), ?_⟩; (conv => whnf)
    refine b2 (c - 48) (lim s.1) e1 rfl (by omega) (by omega) (fun (q : lim s.1 ≤ c - 48) => ?_) (fun (q : ¬ lim s.1 ≤ c - 48) => ?_)
    · exact bad (fun z => by omega)
    · (conv => whnf)
      refine hP _ _ _ _ ?_; (conv => whnf)
      refine ⟨rfl, ⟨.boolean, rfl, rfl⟩, ?_⟩
      have e : rdS s c = some (s.1, s.2.1, c - 48, 4) := by unfold rdS; rw [if_neg (by omega), if_neg (by omega), if_neg (by omega), if_pos h0, if_pos ⟨hd, by omega⟩]
      unfold tkR; rw [e]
      refine ⟨rfl, ?_⟩
      show _ = [eO 4 [.int (nI s.1), .int (nI s.2.1), .int (nI (c - 48)), .int (nI 4)]]
      rw [← e1]; rfl
  · have hb : (Nat.ble 48 c && Nat.ble c 57) = false := by
      by_cases h1 : 48 ≤ c
      · rw [ble_f (show 57 < c by omega), Bool.and_false]
      · rw [ble_f (show c < 48 by omega)]; rfl
    refine b1 0 (by rw [hb]; rfl) (by omega) (fun _ => ?_) (fun (q : ¬ 0 = 0) => by omega)
    exact bad (fun z => hd z.1)
theorem s_takeMore (h0 : s.2.2.2 = 4) (hn : s.2.2.1 < 27) (hc : c < 2 ^ 30) (hs : s.1 < 2 ^ 31) : ∃ r N, tkR s c r N ∧ Cl (d + 2) kX4_takeMore [.ref 0, .int (nI c)] (mX4 s) r N := by
  have hl := lim_le s.1
  have e0 : rdS s c = (if c = 59 then some (s.1, s.2.1, s.2.2.1, 0) else if (48 ≤ c ∧ c ≤ 57) ∧ s.2.2.1 ≠ 0 ∧ 10 * s.2.2.1 + (c - 48) < lim s.1 then some (s.1, s.2.1, 10 * s.2.2.1 + (c - 48), 4) else none) := by
    unfold rdS; rw [if_neg (by omega), if_neg (by omega), if_neg (by omega), if_neg (by omega)]
  refine Cl_goQ e_X4_takeMore rfl (Nat.le_of_ble_eq_true rfl) (fun r N q => tkR_len s c r N q) (tkR_ne s hs c) ?_; intro P hP; refine hP _ _ _ _ ?_; (conv => whnf)
  refine b2 c 59 rfl rfl (by omega) (by omega) (fun (q : ¬ c = 59) => ?_) (fun (q : ¬ ¬ c = 59) => ?_)
  · rw [if_neg q] at e0
    refine hP _ _ _ _ ?_; (conv => whnf)
    refine ⟨Nat.le_of_ble_eq_true rfl, rfl, ?_⟩; (conv => whnf)
    refine Or.inl ⟨_, _, Cl_s (s_isDigit (show c < 2 ^ 31 by omega)), ?_⟩; (conv => whnf)
    have bad : ¬ ((48 ≤ c ∧ c ≤ 57) ∧ s.2.2.1 ≠ 0) → P 27 [none, none] [] (mX4 s) := by
      intro z
      refine hP _ _ _ _ ?_; (conv => whnf)
      refine ⟨rfl, ⟨.boolean, rfl, rfl⟩, ?_⟩
      rw [if_neg (fun y => z ⟨y.1, y.2.1⟩)] at e0
      unfold tkR; rw [e0]
      exact ⟨rfl, s, hs, rfl⟩
    by_cases hd : 48 ≤ c ∧ c ≤ 57
    · have hb : (Nat.ble 48 c && Nat.ble c 57) = true := by rw [Nat.ble_eq_true_of_le hd.1, Nat.ble_eq_true_of_le hd.2]; rfl
      refine b1 1 (by rw [hb]; rfl) (by omega) (fun (q : 1 = 0) => by omega) (fun _ => ?_); (conv => whnf)
      refine b1 s.2.2.1 rfl (by omega) (fun (z : ¬ s.2.2.1 = 0) => ?_) (fun (z : ¬ ¬ s.2.2.1 = 0) => ?_)
      · have e1 : cst 10 * nI s.2.2.1 + nI c - cst 48 = nI (10 * s.2.2.1 + (c - 48)) := by
          rw [show cst 10 = nI 10 from rfl, show cst 48 = nI 48 from rfl, pk_mul, nI_add, pk_sub (by omega)]
          congr 1; omega
        refine hP _ _ _ _ ?_; (conv => whnf)
        refine ⟨⟨rfl, rfl⟩, ?_⟩; (conv => whnf)
        refine ⟨Nat.le_of_ble_eq_true rfl, rfl, ?_⟩; (conv => whnf)
        refine Or.inl ⟨_, _, Cl_s (s_limitOf hs), ?_⟩; (conv => whnf)
        refine b2 (10 * s.2.2.1 + (c - 48)) (lim s.1) e1 rfl (by omega) (by omega) (fun (y : lim s.1 ≤ 10 * s.2.2.1 + (c - 48)) => ?_) (fun (y : ¬ lim s.1 ≤ 10 * s.2.2.1 + (c - 48)) => ?_)
        · refine hP _ _ _ _ ?_; (conv => whnf)
          refine hP _ _ _ _ ?_; (conv => whnf)
          refine ⟨rfl, ⟨.boolean, rfl, rfl⟩, ?_⟩
          rw [if_neg (fun z => by omega)] at e0
          unfold tkR; rw [e0]
          refine ⟨rfl, (s.1, s.2.1, 10 * s.2.2.1 + (c - 48), s.2.2.2), hs, ?_⟩
          show _ = [eO 4 [.int (nI s.1), .int (nI s.2.1), .int (nI (10 * s.2.2.1 + (c - 48))), .int (nI s.2.2.2)]]
          rw [← e1]; rfl
        · (conv => whnf)
          refine hP _ _ _ _ ?_; (conv => whnf)
          refine ⟨rfl, ⟨.boolean, rfl, rfl⟩, ?_⟩
          rw [if_pos ⟨hd, z, by omega⟩] at e0
          unfold tkR; rw [e0]
          refine ⟨rfl, ?_⟩
          show _ = [eO 4 [.int (nI s.1), .int (nI s.2.1), .int (nI (10 * s.2.2.1 + (c - 48))), .int (nI 4)]]
          rw [← e1, ← h0]; rfl
      · show P 27 _ _ _
        exact bad (fun y => y.2 (Decidable.of_not_not z))
    · have hb : (Nat.ble 48 c && Nat.ble c 57) = false := by
        by_cases h1 : 48 ≤ c
        · rw [ble_f (show 57 < c by omega), Bool.and_false]
        · rw [ble_f (show c < 48 by omega)]; rfl
      refine b1 0 (by rw [hb]; rfl) (by omega) (fun _ => ?_) (fun (q : ¬ 0 = 0) => by omega)
      exact bad (fun z => hd z.1)
  · have q := Decidable.of_not_not q
    rw [if_pos q] at e0
    (conv => whnf)
    refine ⟨⟨rfl, rfl⟩, ?_⟩; (conv => whnf)
    refine ⟨rfl, ⟨.boolean, rfl, rfl⟩, ?_⟩
    unfold tkR; rw [e0]
    exact ⟨rfl, rfl⟩
theorem s_take (hv : rdV s) (hc : c < 2 ^ 30) : ∃ r N, tkR s c r N ∧ Cl (d + 3) kX4_take [.ref 0, .int (nI c)] (mX4 s) r N := by
  obtain ⟨hs, h5, h4⟩ := hv
  have ez : (nI s.2.2.2).toInt = (s.2.2.2 : Int) := nI_toInt (by omega)
  have h31 : c < 2 ^ 31 := by omega
  have hcs : s.2.2.2 = 0 ∨ s.2.2.2 = 1 ∨ s.2.2.2 = 2 ∨ s.2.2.2 = 3 ∨ s.2.2.2 = 4 := by omega
  have fin : ∀ (r : Res) (N : Mem), tkR s c r N → ∃ b, r = .inl (some (.int (bI b))) ∧ N.length = 1 := by
    intro r N h
    refine (fun z => ?_) (tkR_len s c r N h)
    unfold tkR at h
    split at h
    · exact ⟨true, h.1, z⟩
    · exact ⟨false, h.1, z⟩
  rcases hcs with h | h | h | h | h
  · obtain ⟨r, N, q, hk⟩ := s_takeLetter (d := d) (c := c) h h31 hs
    obtain ⟨b, hb, hl⟩ := fin r N q
    subst hb
    refine ⟨_, N, q, ?_⟩
    refine Cl_go e_X4_take (Nat.le_of_ble_eq_true rfl) (hl) ?_; intro P hP; refine hP _ _ _ _ ?_; (conv => whnf)
    have go36 : P 36 [some (.ref 0), some (.int (nI c))] [] (mX4 s) := by
      refine hP _ _ _ _ ?_; (conv => whnf)
      refine ⟨Nat.le_of_ble_eq_true rfl, rfl, ?_⟩; (conv => whnf)
      refine Or.inl ⟨_, _, hk, ?_⟩; (conv => whnf)
      exact ⟨rfl, ⟨.boolean, rfl, b01⟩, rfl, rfl⟩
    refine ⟨fun z => ?_, fun z => ?_, fun z => ?_, fun z => ?_, fun z => ?_, trivial⟩
    · have z : (s.2.2.2 : Int) < 0 ∨ (3 : Int) < s.2.2.2 := by rw [← ez]; exact z
      omega
    · exact go36
    · have z : (s.2.2.2 : Int) = 0 + 1 := by rw [← ez]; exact z
      omega
    · have z : (s.2.2.2 : Int) = 0 + 1 + 1 := by rw [← ez]; exact z
      omega
    · have z : (s.2.2.2 : Int) = 0 + 1 + 1 + 1 := by rw [← ez]; exact z
      omega
  · obtain ⟨r, N, q, hk⟩ := s_takePlayer (d := d + 1) (c := c) h hc hs
    obtain ⟨b, hb, hl⟩ := fin r N q
    subst hb
    refine ⟨_, N, q, ?_⟩
    refine Cl_go e_X4_take (Nat.le_of_ble_eq_true rfl) (hl) ?_; intro P hP; refine hP _ _ _ _ ?_; (conv => whnf)
    have go36 : P 42 [some (.ref 0), some (.int (nI c))] [] (mX4 s) := by
      refine hP _ _ _ _ ?_; (conv => whnf)
      refine ⟨Nat.le_of_ble_eq_true rfl, rfl, ?_⟩; (conv => whnf)
      refine Or.inl ⟨_, _, hk, ?_⟩; (conv => whnf)
      exact ⟨rfl, ⟨.boolean, rfl, b01⟩, rfl, rfl⟩
    refine ⟨fun z => ?_, fun z => ?_, fun z => ?_, fun z => ?_, fun z => ?_, trivial⟩
    · have z : (s.2.2.2 : Int) < 0 ∨ (3 : Int) < s.2.2.2 := by rw [← ez]; exact z
      omega
    · have z : (s.2.2.2 : Int) = 0 := by rw [← ez]; exact z
      omega
    · exact go36
    · have z : (s.2.2.2 : Int) = 0 + 1 + 1 := by rw [← ez]; exact z
      omega
    · have z : (s.2.2.2 : Int) = 0 + 1 + 1 + 1 := by rw [← ez]; exact z
      omega
  · refine Cl_goQ e_X4_take rfl (Nat.le_of_ble_eq_true rfl) (fun r N q => tkR_len s c r N q) (tkR_ne s hs c) ?_; intro P hP; refine hP _ _ _ _ ?_; (conv => whnf)
    have go36 : P 48 [some (.ref 0), some (.int (nI c))] [] (mX4 s) := by
      refine hP _ _ _ _ ?_; (conv => whnf)
      refine ⟨⟨rfl, rfl⟩, ?_⟩; (conv => whnf)
      refine b2 c 58 rfl rfl h31 (by omega) (fun (q : ¬ c = 58) => ?_) (fun (q : ¬ ¬ c = 58) => ?_)
      · refine hP _ _ _ _ ?_; (conv => whnf)
        refine hP _ _ _ _ ?_; (conv => whnf)
        refine ⟨rfl, ⟨.boolean, rfl, rfl⟩, ?_⟩
        have e : rdS s c = none := by unfold rdS; rw [if_neg (by omega), if_neg (by omega), if_pos h, if_neg q]
        unfold tkR; rw [e]
        exact ⟨rfl, (s.1, s.2.1, s.2.2.1, 3), hs, rfl⟩
      · (conv => whnf)
        refine hP _ _ _ _ ?_; (conv => whnf)
        refine ⟨rfl, ⟨.boolean, rfl, rfl⟩, ?_⟩
        have e : rdS s c = some (s.1, s.2.1, s.2.2.1, 3) := by unfold rdS; rw [if_neg (by omega), if_neg (by omega), if_pos h, if_pos (Decidable.of_not_not q)]
        unfold tkR; rw [e]
        exact ⟨rfl, rfl⟩
    refine ⟨fun z => ?_, fun z => ?_, fun z => ?_, fun z => ?_, fun z => ?_, trivial⟩
    · have z : (s.2.2.2 : Int) < 0 ∨ (3 : Int) < s.2.2.2 := by rw [← ez]; exact z
      omega
    · have z : (s.2.2.2 : Int) = 0 := by rw [← ez]; exact z
      omega
    · have z : (s.2.2.2 : Int) = 0 + 1 := by rw [← ez]; exact z
      omega
    · exact go36
    · have z : (s.2.2.2 : Int) = 0 + 1 + 1 + 1 := by rw [← ez]; exact z
      omega
  · obtain ⟨r, N, q, hk⟩ := s_takeFirstDigit (d := d) (c := c) h hc hs
    obtain ⟨b, hb, hl⟩ := fin r N q
    subst hb
    refine ⟨_, N, q, ?_⟩
    refine Cl_go e_X4_take (Nat.le_of_ble_eq_true rfl) (hl) ?_; intro P hP; refine hP _ _ _ _ ?_; (conv => whnf)
    have go36 : P 65 [some (.ref 0), some (.int (nI c))] [] (mX4 s) := by
      refine hP _ _ _ _ ?_; (conv => whnf)
      refine ⟨Nat.le_of_ble_eq_true rfl, rfl, ?_⟩; (conv => whnf)
      refine Or.inl ⟨_, _, hk, ?_⟩; (conv => whnf)
      exact ⟨rfl, ⟨.boolean, rfl, b01⟩, rfl, rfl⟩
    refine ⟨fun z => ?_, fun z => ?_, fun z => ?_, fun z => ?_, fun z => ?_, trivial⟩
    · have z : (s.2.2.2 : Int) < 0 ∨ (3 : Int) < s.2.2.2 := by rw [← ez]; exact z
      omega
    · have z : (s.2.2.2 : Int) = 0 := by rw [← ez]; exact z
      omega
    · have z : (s.2.2.2 : Int) = 0 + 1 := by rw [← ez]; exact z
      omega
    · have z : (s.2.2.2 : Int) = 0 + 1 + 1 := by rw [← ez]; exact z
      omega
    · exact go36
  · obtain ⟨r, N, q, hk⟩ := s_takeMore (d := d) (c := c) h (h4 h) hc hs
    obtain ⟨b, hb, hl⟩ := fin r N q
    subst hb
    refine ⟨_, N, q, ?_⟩
    refine Cl_go e_X4_take (Nat.le_of_ble_eq_true rfl) (hl) ?_; intro P hP; refine hP _ _ _ _ ?_; (conv => whnf)
    have go36 : P 71 [some (.ref 0), some (.int (nI c))] [] (mX4 s) := by
      refine hP _ _ _ _ ?_; (conv => whnf)
      refine ⟨Nat.le_of_ble_eq_true rfl, rfl, ?_⟩; (conv => whnf)
      refine Or.inl ⟨_, _, hk, ?_⟩; (conv => whnf)
      exact ⟨rfl, ⟨.boolean, rfl, b01⟩, rfl, rfl⟩
    refine ⟨fun z => ?_, fun z => ?_, fun z => ?_, fun z => ?_, fun z => ?_, trivial⟩
    · exact go36
    · have z : (s.2.2.2 : Int) = 0 := by rw [← ez]; exact z
      omega
    · have z : (s.2.2.2 : Int) = 0 + 1 := by rw [← ez]; exact z
      omega
    · have z : (s.2.2.2 : Int) = 0 + 1 + 1 := by rw [← ez]; exact z
      omega
    · have z : (s.2.2.2 : Int) = 0 + 1 + 1 + 1 := by rw [← ez]; exact z
      omega
end X4B
