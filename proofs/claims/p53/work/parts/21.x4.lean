/-! the reader of texts -/
def lim (c : Nat) : Nat :=
  if c = 33 then 27 else if c = 97 then 27 else if c = 104 then 9 else if c = 105 then 27 else if c = 108 then 9 else if c = 110 then 27 else if c = 112 then 27 else if c = 115 then 27 else if c = 118 then 27 else if c = 120 then 20 else 0
theorem lim_le (c : Nat) : lim c ≤ 27 := by
  unfold lim
  repeat' split
  all_goals omega
def npl (c : Nat) : Bool := Nat.beq c 104 || (Nat.beq c 108 || (Nat.beq c 115 || (Nat.beq c 112 || (Nat.beq c 97 || Nat.beq c 118))))
abbrev RS : Type := Nat × (Nat × (Nat × Nat))
def rdS (s : RS) (c : Nat) : Option RS :=
  if s.2.2.2 = 0 then (if 0 < lim c then some (c, s.2.1, s.2.2.1, bif npl c then 1 else 3) else none)
  else if s.2.2.2 = 1 then (if 48 ≤ c ∧ c ≤ 50 then some (s.1, c - 48, s.2.2.1, 2) else none)
  else if s.2.2.2 = 2 then (if c = 58 then some (s.1, s.2.1, s.2.2.1, 3) else none)
  else if s.2.2.2 = 3 then (if (48 ≤ c ∧ c ≤ 57) ∧ c - 48 < lim s.1 then some (s.1, s.2.1, c - 48, 4) else none)
  else (if c = 59 then some (s.1, s.2.1, s.2.2.1, 0) else if (48 ≤ c ∧ c ≤ 57) ∧ s.2.2.1 ≠ 0 ∧ 10 * s.2.2.1 + (c - 48) < lim s.1 then some (s.1, s.2.1, 10 * s.2.2.1 + (c - 48), 4) else none)
/-- the state is one that can be: the letter's a sign, in a number the number is small -/
def rdV (s : RS) : Prop := s.1 < 2 ^ 31 ∧ s.2.2.2 < 5 ∧ (s.2.2.2 = 4 → s.2.2.1 < 27)
def mX4 (s : RS) : Mem := [eO 4 [.int (nI s.1), .int (nI s.2.1), .int (nI s.2.2.1), .int (nI s.2.2.2)]]
theorem nI_sub_any (a b : Nat) : ∃ k, nI a - nI b = nI k := by
  refine ⟨(nI a - nI b).toBitVec.toNat, ?_⟩
  obtain ⟨g, hg⟩ := nA_any (fun _ => nI a - nI b)
  have h1 := congrFun hg 0
  unfold nI
  apply Int32.toBitVec_inj.mp
  show (nI a - nI b).toBitVec = BitVec.ofNat 32 (nI a - nI b).toBitVec.toNat
  rw [BitVec.ofNat_toNat, BitVec.setWidth_eq]
theorem nI_any (x : Int32) : ∃ k, x = nI k := by
  refine ⟨x.toBitVec.toNat, ?_⟩
  unfold nI
  apply Int32.toBitVec_inj.mp
  show x.toBitVec = BitVec.ofNat 32 x.toBitVec.toNat
  rw [BitVec.ofNat_toNat, BitVec.setWidth_eq]
section X4
variable {d : Nat} {s : RS} {c : Nat}
/-- what a sign's reading does: the next state, or a refusal with whatever is left -/
def tkR (s : RS) (c : Nat) (r : Res) (N : Mem) : Prop := match rdS s c with
  | some s' => r = .inl (some (.int (nI 1))) ∧ N = mX4 s'
  | none => r = .inl (some (.int (nI 0))) ∧ ∃ s', s'.1 < 2 ^ 31 ∧ N = mX4 s'
theorem tkR_len (s : RS) (c : Nat) (r : Res) (N : Mem) (h : tkR s c r N) : N.length = 1 := by
  unfold tkR at h
  split at h
  · rw [h.2]; rfl
  · obtain ⟨-, s', -, rfl⟩ := h; rfl
theorem tkR_ne (s : RS) (hs : s.1 < 2 ^ 31) (c : Nat) : ∃ r N, tkR s c r N := by
  unfold tkR
  cases rdS s c with
  | some s' => exact ⟨_, _, rfl, rfl⟩
  | none => exact ⟨_, _, rfl, s, hs, rfl⟩
end X4
