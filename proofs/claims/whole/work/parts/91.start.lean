/-! the parlour as it begins -/
def q0 : NA := fun c => if c % 3 = 0 then 3 else c / 3
def A0 : AS := (([], q0, 0, 0), none, [], [])
theorem q0_lt : ∀ c, c < 9 → q0 c < 4 := by
  intro c hc
  unfold q0
  split
  · decide
  · omega
theorem q0_hq : hq q0 0 = 6 ∧ hq q0 1 = 48 ∧ hq q0 2 = 384 ∧ hq q0 3 = 73 := by decide +kernel
theorem A0_ok : okA A0.1 := by
  refine ⟨by decide, fun x hx => (by cases hx), ⟨q0_lt, ?_⟩, by decide, by decide⟩
  show itr (hq q0 3) 3 = true
  rw [q0_hq.2.2.2]
  decide +kernel
theorem CR_0 : CR mN_X5 A0 := by
  refine ⟨nS, zS, fun _ => zS, 0, fun _ => 0, (0, 0, 0, 0), ((0, fun _ => 0, fun _ => 0, fun _ => 0, fun _ => 0), 0, fun _ => 0), (0, 0, fun _ => 0), (0, 0, fun _ => 0), ?_, ?_⟩
  · rfl
  · refine ⟨by decide, ⟨fun i x hx => (by simp [A0] at hx), rfl, ?_, rfl, rfl, A0_ok⟩, fun a ha => (by cases ha), by decide, fun j a ha => (by simp [A0] at ha), ⟨by decide, fun j c hc => (by simp [A0] at hc)⟩, by decide, Or.inl rfl, Or.inl rfl, Or.inl rfl⟩
    intro p hp
    show nS.1 p = nI (hq q0 p)
    obtain ⟨h0, h1, h2, h3⟩ := q0_hq
    match p, hp with
    | 0, _ => rw [h0]; rfl
    | 1, _ => rw [h1]; rfl
    | 2, _ => rw [h2]; rfl
    | 3, _ => rw [h3]; rfl
    | p + 4, hp => exact absurd hp (by omega)
theorem RM_0 : RM 0 mN_X6 A0 := by
  refine ⟨sI0 9, fun _ => 0, 0, fun _ => 0, 0, fun _ => 0, 0, 0, 0, fun _ => 0, 0, fun _ => 0, 0, fun _ => 0, fun _ => 0, fun _ => 0, fun _ => 0, 0, rfl, ?_⟩
  refine ⟨⟨⟨rfl, by decide, fun x hx => (by cases hx), fun i x hx => (by simp [A0] at hx)⟩, ?_, rfl, rfl, A0_ok⟩, ⟨by decide, fun j a ha => (by simp [A0] at ha)⟩, rfl, fun a ha => (by cases ha), rfl, ⟨by decide, fun j c hc => (by simp [A0] at hc)⟩, rfl⟩
  intro c hc
  refine ⟨?_, q0_lt c hc⟩
  have h : ∀ c : Nat, c < 9 → sI0 9 (3 + c) = nI (q0 c) := by decide +kernel
  exact h c hc
theorem LJ_st : LJ (LMm mN_X5 mN_X6 (fun _ => 0)) A0 A0 := ⟨mN_X5, 0, mN_X6, fun _ => 0, CR_0, RM_0, rfl⟩
