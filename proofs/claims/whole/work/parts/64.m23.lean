/-! the reference's reader: a part scanned -/
def scanR : RS → List Nat → Bool × (Nat × RS)
  | s, [] => (Nat.beq s.2.2.2 4, 0, s)
  | s, c :: r => if s.2.2.2 = 4 ∧ c = 59 then (true, 0, s) else match rdS s c with
    | some s' => ((scanR s' r).1, (scanR s' r).2.1 + 1, (scanR s' r).2.2)
    | none => (Nat.beq s.2.2.2 4, 0, s)
def okS (s : RS) (r : List Nat) : Bool := match runR s r with | some e => Nat.beq e.2.2.2 4 | none => false
theorem rdS_59 {s s' : RS} {c : Nat} (h5 : s.2.2.2 < 5) (h : rdS s c = some s') (h59 : c = 59) : s.2.2.2 = 4 := by
  rcases rdS_cases h h5 with ⟨h0, hl, -⟩ | ⟨h1, hl, -⟩ | ⟨h2, hl, -⟩ | ⟨h3, hl, -⟩ | ⟨h4, -, -⟩ | ⟨h4, -, -⟩
  · subst h59; exact absurd hl (by decide)
  · omega
  · omega
  · omega
  · exact h4
  · exact h4
theorem rdS_lt5 {s s' : RS} {c : Nat} (h5 : s.2.2.2 < 5) (h : rdS s c = some s') : s'.2.2.2 < 5 := by
  rcases rdS_cases h h5 with ⟨-, -, e⟩ | ⟨-, -, e⟩ | ⟨-, -, e⟩ | ⟨-, -, e⟩ | ⟨-, -, e⟩ | ⟨-, -, -, e⟩ <;> subst e
  · show (bif npl c then 1 else 3) < 5; cases npl c <;> decide
  · show 2 < 5; decide
  · show 3 < 5; decide
  · show 4 < 5; decide
  · show 0 < 5; decide
  · show 4 < 5; decide
theorem scan_ok : ∀ (r : List Nat) (s : RS), s.2.2.2 < 5 → (scanR s r).2.1 ≤ r.length ∧
    ((scanR s r).1 = false → errP s r = (scanR s r).2.1 ∧ okS s r = false) ∧
    ((scanR s r).1 = true → (scanR s r).2.2.2.2.2 = 4 ∧ errP s r = (scanR s r).2.1 + errP (scanR s r).2.2 (r.drop (scanR s r).2.1) ∧ runR s r = runR (scanR s r).2.2 (r.drop (scanR s r).2.1) ∧ ptsS s r = ptsS (scanR s r).2.2 (r.drop (scanR s r).2.1) ∧
      ∀ c r', r.drop (scanR s r).2.1 = c :: r' → ¬ c = 59 → rdS (scanR s r).2.2 c = none) := by
  intro r
  induction r with
  | nil =>
    intro s h5
    refine ⟨Nat.le_refl _, fun h => ⟨rfl, h⟩, fun h => ⟨Nat.eq_of_beq_eq_true h, rfl, rfl, rfl, fun c r' hc => by cases hc⟩⟩
  | cons c r ih =>
    intro s h5
    have e : scanR s (c :: r) = if s.2.2.2 = 4 ∧ c = 59 then (true, 0, s) else match rdS s c with
      | some s' => ((scanR s' r).1, (scanR s' r).2.1 + 1, (scanR s' r).2.2)
      | none => (Nat.beq s.2.2.2 4, 0, s) := rfl
    by_cases h4 : s.2.2.2 = 4 ∧ c = 59
    · rw [if_pos h4] at e
      rw [e]
      refine ⟨Nat.zero_le _, fun h => (by cases h), fun _ => ⟨h4.1, (Nat.zero_add _).symm, rfl, rfl, fun c' r' hc hn => ?_⟩⟩
      have hc : c :: r = c' :: r' := hc
      injection hc with q1 q2
      exact absurd (q1 ▸ h4.2) hn
    · rw [if_neg h4] at e
      cases hr : rdS s c with
      | none =>
        rw [hr] at e
        rw [e]
        have f1 : errP s (c :: r) = 0 := by show (match rdS s c with | some s' => errP s' r + 1 | none => 0) = 0; rw [hr]
        have f2 : runR s (c :: r) = none := by show (match rdS s c with | some s' => runR s' r | none => none) = none; rw [hr]
        refine ⟨Nat.zero_le _, fun _ => ⟨f1, by unfold okS; rw [f2]⟩, fun h => ⟨Nat.eq_of_beq_eq_true h, (Nat.zero_add _).symm, rfl, rfl, fun c' r' hc hn => ?_⟩⟩
        have hc : c :: r = c' :: r' := hc
        injection hc with q1 q2
        rw [← q1]; exact hr
      | some s' =>
        rw [hr] at e
        rw [e]
        have f1 : errP s (c :: r) = errP s' r + 1 := by show (match rdS s c with | some s' => errP s' r + 1 | none => 0) = _; rw [hr]
        have f2 : runR s (c :: r) = runR s' r := by show (match rdS s c with | some s' => runR s' r | none => none) = _; rw [hr]
        have hne : ¬ c = 59 := fun z => h4 ⟨rdS_59 h5 hr z, z⟩
        have f3 : ptsS s (c :: r) = ptsS s' r := by
          show (match rdS s c with | some s' => if c = 59 then ptS s :: ptsS s' r else ptsS s' r | none => []) = _
          rw [hr]
          exact if_neg hne
        obtain ⟨i1, i2, i3⟩ := ih s' (rdS_lt5 h5 hr)
        refine ⟨Nat.succ_le_succ i1, fun h => ?_, fun h => ?_⟩
        · obtain ⟨j1, j2⟩ := i2 h
          refine ⟨by rw [f1, j1], ?_⟩
          unfold okS at j2 ⊢
          rw [f2]; exact j2
        · obtain ⟨j1, j2, j3, j4, j5⟩ := i3 h
          refine ⟨j1, ?_, ?_, ?_, ?_⟩
          · show errP s (c :: r) = (scanR s' r).2.1 + 1 + errP (scanR s' r).2.2 (r.drop (scanR s' r).2.1)
            rw [f1]
            omega
          · rw [f2]; exact j3
          · rw [f3]; exact j4
          · exact j5
/-- one sign scanned -/
theorem scan_s {s s' : RS} {c : Nat} {r : List Nat} (h : rdS s c = some s') (hn : ¬ (s.2.2.2 = 4 ∧ c = 59)) : scanR s (c :: r) = ((scanR s' r).1, (scanR s' r).2.1 + 1, (scanR s' r).2.2) := by
  show (if s.2.2.2 = 4 ∧ c = 59 then (true, 0, s) else match rdS s c with
    | some s' => ((scanR s' r).1, (scanR s' r).2.1 + 1, (scanR s' r).2.2)
    | none => (Nat.beq s.2.2.2 4, 0, s)) = _
  rw [if_neg hn, h]
theorem scan_n {s : RS} {c : Nat} {r : List Nat} (h : rdS s c = none) : scanR s (c :: r) = (Nat.beq s.2.2.2 4, 0, s) := by
  show (if s.2.2.2 = 4 ∧ c = 59 then (true, 0, s) else match rdS s c with
    | some s' => ((scanR s' r).1, (scanR s' r).2.1 + 1, (scanR s' r).2.2)
    | none => (Nat.beq s.2.2.2 4, 0, s)) = _
  by_cases q : s.2.2.2 = 4 ∧ c = 59
  · rw [if_pos q, nbt q.1]
  · rw [if_neg q, h]
/-- the sign that is looked at -/
def sgn (r : List Nat) : Nat := match r with | [] => 0 | c :: _ => c
/-- a sign that doesn't fit stops a scan that is not in a number -/
theorem scan_no {s : RS} {r : List Nat} (h4 : ¬ s.2.2.2 = 4) (h : ∀ c r', r = c :: r' → rdS s c = none) : scanR s r = (false, 0, s) := by
  cases r with
  | nil => show (Nat.beq s.2.2.2 4, 0, s) = _; rw [nbf h4]
  | cons c r => rw [scan_n (h c r rfl), nbf h4]
