/-! the reader of texts -/
def lim (c : Nat) : Nat :=
  if c = 33 then 27 else if c = 97 then 27 else if c = 104 then 9 else if c = 105 then 27 else if c = 108 then 9 else if c = 110 then 27 else if c = 112 then 27 else if c = 115 then 27 else if c = 118 then 27 else if c = 120 then 20 else 0
theorem lim_le (c : Nat) : lim c ≤ 27 := by
  unfold lim
  repeat' split
  all_goals omega
def npl (c : Nat) : Bool := Nat.beq c 104 || (Nat.beq c 108 || (Nat.beq c 115 || (Nat.beq c 112 || (Nat.beq c 97 || Nat.beq c 118))))
abbrev RS : Type := Nat × (Nat × (Nat × Nat))
def rdS (s : RS) (c : Nat) : Option RS :=
  if s.2.2.2 = 0 then (if 0 < lim c then some (c, s.2.1, s.2.2.1, bif npl c then 1 else 3) else none)
  else if s.2.2.2 = 1 then (if 48 ≤ c ∧ c ≤ 50 then some (s.1, c - 48, s.2.2.1, 2) else none)
  else if s.2.2.2 = 2 then (if c = 58 then some (s.1, s.2.1, s.2.2.1, 3) else none)
  else if s.2.2.2 = 3 then (if (48 ≤ c ∧ c ≤ 57) ∧ c - 48 < lim s.1 then some (s.1, s.2.1, c - 48, 4) else none)
  else (if c = 59 then some (s.1, s.2.1, s.2.2.1, 0) else if (48 ≤ c ∧ c ≤ 57) ∧ s.2.2.1 ≠ 0 ∧ 10 * s.2.2.1 + (c - 48) < lim s.1 then some (s.1, s.2.1, 10 * s.2.2.1 + (c - 48), 4) else none)
/-- the state is one that can be: the letter's a sign, in a number the number is small -/
def rdV (s : RS) : Prop := s.1 < 2 ^ 31 ∧ s.2.2.2 < 5 ∧ (s.2.2.2 = 4 → s.2.2.1 < 27)
def mX4 (s : RS) : Mem := [eO 4 [.int (nI s.1), .int (nI s.2.1), .int (nI s.2.2.1), .int (nI s.2.2.2)]]
theorem nI_sub_any (a b : Nat) : ∃ k, nI a - nI b = nI k := by
  refine ⟨(nI a - nI b).toBitVec.toNat, ?_⟩
  obtain ⟨g, hg⟩ := nA_any (fun _ => nI a - nI b)
  have h1 := congrFun hg 0
  unfold nI
  apply Int32.toBitVec_inj.mp
  show (nI a - nI b).toBitVec = BitVec.ofNat 32 (nI a - nI b).toBitVec.toNat
  rw [BitVec.ofNat_toNat, BitVec.setWidth_eq]
theorem nI_any (x : Int32) : ∃ k, x = nI k := by
  refine ⟨x.toBitVec.toNat, ?_⟩
  unfold nI
  apply Int32.toBitVec_inj.mp
  show x.toBitVec = BitVec.ofNat 32 x.toBitVec.toNat
  rw [BitVec.ofNat_toNat, BitVec.setWidth_eq]
section X4
variable {d : Nat} {s : RS} {c : Nat}
theorem s_limitOf (hc : c < 2 ^ 31) : Cl (d + 1) kX4_limitOf [.int (nI c)] [] (.inl (some (.int (nI (lim c))))) [] := by
  have ez : (nI c).toInt = (c : Int) := nI_toInt hc
  have key : ∀ k : Nat, (nI c).toInt = (k : Int) → c = k := fun k h => by rw [ez] at h; omega
  have nkey : ∀ k : Nat, ¬ (nI c).toInt = (k : Int) → ¬ c = k := fun k h e => h (by rw [ez, e])
  refine Cl_go e_X4_limitOf (Nat.le_of_ble_eq_true rfl) rfl ?_; intro P hP; refine hP _ _ _ _ ?_; (conv => whnf)
  refine ⟨fun q => ?_, fun q1 => ⟨fun q => ?_, fun q2 => ⟨fun q => ?_, fun q3 => ⟨fun q => ?_, fun q4 => ⟨fun q => ?_, fun q5 => ⟨fun q => ?_, fun q6 => ⟨fun q => ?_, fun q7 => ⟨fun q => ?_, fun q8 => ⟨fun q => ?_, fun q9 => ⟨fun q => ?_, fun q10 => ?_⟩⟩⟩⟩⟩⟩⟩⟩⟩⟩
  · have e := key 33 q; subst e; refine hP _ _ _ _ ?_; (conv => whnf); exact ⟨rfl, ⟨.int, rfl, rfl⟩, rfl, rfl⟩
  · have e := key 97 q; subst e; refine hP _ _ _ _ ?_; (conv => whnf); exact ⟨rfl, ⟨.int, rfl, rfl⟩, rfl, rfl⟩
  · have e := key 104 q; subst e; refine hP _ _ _ _ ?_; (conv => whnf); exact ⟨rfl, ⟨.int, rfl, rfl⟩, rfl, rfl⟩
  · have e := key 105 q; subst e; refine hP _ _ _ _ ?_; (conv => whnf); exact ⟨rfl, ⟨.int, rfl, rfl⟩, rfl, rfl⟩
  · have e := key 108 q; subst e; refine hP _ _ _ _ ?_; (conv => whnf); exact ⟨rfl, ⟨.int, rfl, rfl⟩, rfl, rfl⟩
  · have e := key 110 q; subst e; refine hP _ _ _ _ ?_; (conv => whnf); exact ⟨rfl, ⟨.int, rfl, rfl⟩, rfl, rfl⟩
  · have e := key 112 q; subst e; refine hP _ _ _ _ ?_; (conv => whnf); exact ⟨rfl, ⟨.int, rfl, rfl⟩, rfl, rfl⟩
  · have e := key 115 q; subst e; refine hP _ _ _ _ ?_; (conv => whnf); exact ⟨rfl, ⟨.int, rfl, rfl⟩, rfl, rfl⟩
  · have e := key 118 q; subst e; refine hP _ _ _ _ ?_; (conv => whnf); exact ⟨rfl, ⟨.int, rfl, rfl⟩, rfl, rfl⟩
  · have e := key 120 q; subst e; refine hP _ _ _ _ ?_; (conv => whnf); exact ⟨rfl, ⟨.int, rfl, rfl⟩, rfl, rfl⟩
  · have e : lim c = 0 := by
      unfold lim
      rw [if_neg (nkey 33 q1), if_neg (nkey 97 q2), if_neg (nkey 104 q3), if_neg (nkey 105 q4), if_neg (nkey 108 q5), if_neg (nkey 110 q6), if_neg (nkey 112 q7), if_neg (nkey 115 q8), if_neg (nkey 118 q9), if_neg (nkey 120 q10)]
    refine hP _ _ _ _ ?_; (conv => whnf)
    exact ⟨rfl, ⟨.int, rfl, rfl⟩, rI (by rw [e]; rfl), rfl⟩
theorem s_isDigit (hc : c < 2 ^ 31) : Cl (d + 1) kX4_isDigit [.int (nI c)] [] (.inl (some (.int (bI (Nat.ble 48 c && Nat.ble c 57))))) [] := by
  have ble_f : ∀ {a b : Nat}, b < a → Nat.ble a b = false := fun {a b} h => by
    cases hb : Nat.ble a b with
    | false => rfl
    | true => have := Nat.le_of_ble_eq_true hb; omega
  refine Cl_go e_X4_isDigit (Nat.le_of_ble_eq_true rfl) rfl ?_; intro P hP; refine hP _ _ _ _ ?_; (conv => whnf)
  refine b2 c 48 rfl rfl hc (by omega) (fun (q : c < 48) => ?_) (fun (q : ¬ c < 48) => ?_)
  · refine hP _ _ _ _ ?_; (conv => whnf)
    refine hP _ _ _ _ ?_; (conv => whnf)
    exact ⟨rfl, ⟨.boolean, rfl, rfl⟩, rI (by rw [ble_f q]; rfl), rfl⟩
  · (conv => whnf)
    refine b2 c 57 rfl rfl hc (by omega) (fun (q2 : 57 < c) => ?_) (fun (q2 : ¬ 57 < c) => ?_)
    · refine hP _ _ _ _ ?_; (conv => whnf)
      refine hP _ _ _ _ ?_; (conv => whnf)
      exact ⟨rfl, ⟨.boolean, rfl, rfl⟩, rI (by rw [ble_f q2, Bool.and_false]; rfl), rfl⟩
    · (conv => whnf)
      refine hP _ _ _ _ ?_; (conv => whnf)
      exact ⟨rfl, ⟨.boolean, rfl, rfl⟩, rI (by rw [Nat.ble_eq_true_of_le (show 48 ≤ c by omega), Nat.ble_eq_true_of_le (show c ≤ 57 by omega)]; rfl), rfl⟩
theorem s_namesPlayer (hc : c < 2 ^ 31) : Cl (d + 1) kX4_namesPlayer [.int (nI c)] [] (.inl (some (.int (bI (npl c))))) [] := by
  refine Cl_go e_X4_namesPlayer (Nat.le_of_ble_eq_true rfl) rfl ?_; intro P hP; refine hP _ _ _ _ ?_; (conv => whnf)
  have f36 : npl c = true → P 36 [none] [] [] := by
    intro h
    refine hP _ _ _ _ ?_; (conv => whnf)
    refine hP _ _ _ _ ?_; (conv => whnf)
    exact ⟨rfl, ⟨.boolean, rfl, rfl⟩, rI (by rw [h]; rfl), rfl⟩
  refine b2 c 104 rfl rfl hc (by omega) (fun (q : c = 104) => f36 (by rw [q]; rfl)) (fun (q1 : ¬ c = 104) => ?_); (conv => whnf)
  refine b2 c 108 rfl rfl hc (by omega) (fun (q : c = 108) => f36 (by rw [q]; rfl)) (fun (q2 : ¬ c = 108) => ?_); (conv => whnf)
  refine b2 c 115 rfl rfl hc (by omega) (fun (q : c = 115) => f36 (by rw [q]; rfl)) (fun (q3 : ¬ c = 115) => ?_); (conv => whnf)
  refine b2 c 112 rfl rfl hc (by omega) (fun (q : c = 112) => f36 (by rw [q]; rfl)) (fun (q4 : ¬ c = 112) => ?_); (conv => whnf)
  refine b2 c 97 rfl rfl hc (by omega) (fun (q : c = 97) => f36 (by rw [q]; rfl)) (fun (q5 : ¬ c = 97) => ?_); (conv => whnf)
  refine b2 c 118 rfl rfl hc (by omega) (fun (q6 : ¬ c = 118) => ?_) (fun (q : ¬ ¬ c = 118) => f36 (by rw [Decidable.of_not_not q]; rfl))
  refine hP _ _ _ _ ?_; (conv => whnf)
  refine hP _ _ _ _ ?_; (conv => whnf)
  exact ⟨rfl, ⟨.boolean, rfl, rfl⟩, rI (by unfold npl; rw [nbf q1, nbf q2, nbf q3, nbf q4, nbf q5, nbf q6]; rfl), rfl⟩
theorem s_begin : Cl (d + 1) kX4_begin [.ref 0] (mX4 s) (.inl none) (mX4 (s.1, s.2.1, s.2.2.1, 0)) := by
  refine Cl_go e_X4_begin (Nat.le_of_ble_eq_true rfl) rfl ?_; intro P hP; refine hP _ _ _ _ ?_; (conv => whnf)
  refine ⟨⟨rfl, rfl⟩, ?_⟩; (conv => whnf)
  exact ⟨rfl, rfl, rfl, rfl⟩
theorem s_mayEnd (hs : s.2.2.2 < 5) : Cl (d + 1) kX4_mayEnd [.ref 0] (mX4 s) (.inl (some (.int (bI (Nat.beq s.2.2.2 4))))) (mX4 s) := by
  refine Cl_go e_X4_mayEnd (Nat.le_of_ble_eq_true rfl) rfl ?_; intro P hP; refine hP _ _ _ _ ?_; (conv => whnf)
  refine b2 s.2.2.2 4 rfl rfl (by omega) (by omega) (fun (q : ¬ s.2.2.2 = 4) => ?_) (fun (q : ¬ ¬ s.2.2.2 = 4) => ?_)
  · refine hP _ _ _ _ ?_; (conv => whnf)
    refine hP _ _ _ _ ?_; (conv => whnf)
    exact ⟨rfl, ⟨.boolean, rfl, rfl⟩, rI (by rw [nbf q]; rfl), rfl⟩
  · (conv => whnf)
    refine hP _ _ _ _ ?_; (conv => whnf)
    exact ⟨rfl, ⟨.boolean, rfl, rfl⟩, rI (by rw [nbt (Decidable.of_not_not q)]; rfl), rfl⟩
/-- what a sign's reading does: the next state, or a refusal with whatever is left -/
def tkR (s : RS) (c : Nat) (r : Res) (N : Mem) : Prop := match rdS s c with
  | some s' => r = .inl (some (.int (nI 1))) ∧ N = mX4 s'
  | none => r = .inl (some (.int (nI 0))) ∧ ∃ s', s'.1 < 2 ^ 31 ∧ N = mX4 s'
theorem tkR_len (s : RS) (c : Nat) (r : Res) (N : Mem) (h : tkR s c r N) : N.length = 1 := by
  unfold tkR at h
  split at h
  · rw [h.2]; rfl
  · obtain ⟨-, s', -, rfl⟩ := h; rfl
theorem tkR_ne (s : RS) (hs : s.1 < 2 ^ 31) (c : Nat) : ∃ r N, tkR s c r N := by
  unfold tkR
  cases rdS s c with
  | some s' => exact ⟨_, _, rfl, rfl⟩
  | none => exact ⟨_, _, rfl, s, hs, rfl⟩
theorem s_takeLetter (h0 : s.2.2.2 = 0) (hc : c < 2 ^ 31) (hs : s.1 < 2 ^ 31) : ∃ r N, tkR s c r N ∧ Cl (d + 2) kX4_takeLetter [.ref 0, .int (nI c)] (mX4 s) r N := by
  refine Cl_goQ e_X4_takeLetter rfl (Nat.le_of_ble_eq_true rfl) (fun r N q => tkR_len s c r N q) (tkR_ne s hs c) ?_; intro P hP; refine hP _ _ _ _ ?_; (conv => whnf)
  refine ⟨⟨rfl, rfl⟩, ?_⟩; (conv => whnf)
  refine ⟨Nat.le_of_ble_eq_true rfl, rfl, ?_⟩; (conv => whnf)
  refine Or.inl ⟨_, _, Cl_s (s_namesPlayer hc), ?_⟩; (conv => whnf)
  have hl := lim_le c
  have f18 : ∀ k : Nat, (k = bif npl c then 1 else 3) → P 18 [none, some (.int (nI c))] [.int (nI k), .ref 0] (mX4 (c, s.2.1, s.2.2.1, s.2.2.2)) := by
    intro k hk
    refine hP _ _ _ _ ?_; (conv => whnf)
    refine ⟨⟨rfl, rfl⟩, ?_⟩; (conv => whnf)
    refine ⟨Nat.le_of_ble_eq_true rfl, rfl, ?_⟩; (conv => whnf)
    refine Or.inl ⟨_, _, Cl_s (s_limitOf hc), ?_⟩; (conv => whnf)
    refine b1 (lim c) rfl (by omega) (fun (q : lim c ≤ 0) => ?_) (fun (q : ¬ lim c ≤ 0) => ?_)
    · refine hP _ _ _ _ ?_; (conv => whnf)
      refine hP _ _ _ _ ?_; (conv => whnf)
      refine ⟨rfl, ⟨.boolean, rfl, rfl⟩, ?_⟩
      have e : rdS s c = none := by unfold rdS; rw [if_pos h0, if_neg (by omega)]
      unfold tkR; rw [e]
      exact ⟨rfl, (c, s.2.1, s.2.2.1, k), hc, rfl⟩
    · (conv => whnf)
      refine hP _ _ _ _ ?_; (conv => whnf)
      refine ⟨rfl, ⟨.boolean, rfl, rfl⟩, ?_⟩
      have e : rdS s c = some (c, s.2.1, s.2.2.1, bif npl c then 1 else 3) := by unfold rdS; rw [if_pos h0, if_pos (by omega)]
      unfold tkR; rw [e, ← hk]
      exact ⟨rfl, rfl⟩
  cases hn : npl c with
  | true =>
    refine b1 1 rfl (by omega) (fun (q : 1 = 0) => by omega) (fun _ => ?_); (conv => whnf)
    exact f18 1 (by rw [hn]; rfl)
  | false =>
    refine b1 0 rfl (by omega) (fun _ => ?_) (fun (q : ¬ 0 = 0) => by omega)
    refine hP _ _ _ _ ?_; (conv => whnf)
    exact f18 3 (by rw [hn]; rfl)
theorem s_takePlayer (h0 : s.2.2.2 = 1) (hc : c < 2 ^ 30) (hs : s.1 < 2 ^ 31) : ∃ r N, tkR s c r N ∧ Cl (d + 1) kX4_takePlayer [.ref 0, .int (nI c)] (mX4 s) r N := by
  refine Cl_goQ e_X4_takePlayer rfl (Nat.le_of_ble_eq_true rfl) (fun r N q => tkR_len s c r N q) (tkR_ne s hs c) ?_; intro P hP; refine hP _ _ _ _ ?_; (conv => whnf)
  refine ⟨⟨rfl, rfl⟩, ?_⟩; (conv => whnf)
  refine ⟨⟨rfl, rfl⟩, ?_⟩; (conv => whnf)
  have bad : ¬ (48 ≤ c ∧ c ≤ 50) → P 32 [none, none] [] (mset (mset (mX4 s) 0 (eO 4 [.int (nI s.1), .int (nI c - cst 48), .int (nI s.2.2.1), .int (nI s.2.2.2)])) 0 (eO 4 [.int (nI s.1), .int (nI c - cst 48), .int (nI s.2.2.1), .int (cst 2)])) := by
    intro q
    refine hP _ _ _ _ ?_; (conv => whnf)
    refine hP _ _ _ _ ?_; (conv => whnf)
    refine ⟨rfl, ⟨.boolean, rfl, rfl⟩, ?_⟩
    have e : rdS s c = none := by unfold rdS; rw [if_neg (by omega), if_pos h0, if_neg q]
    unfold tkR; rw [e]
    obtain ⟨k, hk⟩ := nI_sub_any c 48
    refine ⟨rfl, (s.1, k, s.2.2.1, 2), hs, ?_⟩
    show _ = [eO 4 [.int (nI s.1), .int (nI k), .int (nI s.2.2.1), .int (nI 2)]]
    rw [← hk]; rfl
  by_cases h48 : 48 ≤ c
  · have e1 : nI c - cst 48 = nI (c - 48) := show nI c - nI 48 = nI (c - 48) from pk_sub h48
    refine b1 (c - 48) e1 (by omega) (fun (q : c - 48 < 0) => by omega) (fun _ => ?_); (conv => whnf)
    refine b2 (c - 48) 3 e1 rfl (by omega) (by omega) (fun (q : 3 ≤ c - 48) => ?_) (fun (q : ¬ 3 ≤ c - 48) => ?_)
    · exact bad (by omega)
    · (conv => whnf)
      refine hP _ _ _ _ ?_; (conv => whnf)
      refine ⟨rfl, ⟨.boolean, rfl, rfl⟩, ?_⟩
      have e : rdS s c = some (s.1, c - 48, s.2.2.1, 2) := by unfold rdS; rw [if_neg (by omega), if_pos h0, if_pos (by omega)]
      unfold tkR; rw [e]
      refine ⟨rfl, ?_⟩
      show _ = [eO 4 [.int (nI s.1), .int (nI (c - 48)), .int (nI s.2.2.1), .int (nI 2)]]
      rw [← e1]; rfl
  · have hneg : cnd .lt (nI c - cst 48) := show nI c - nI 48 < 0 from pk_sneg (by omega) (by omega)
    refine ⟨fun _ => ?_, fun q => absurd hneg q⟩
    exact bad (by omega)
end X4
