/-! the chance and the digest of the class -/
def spChance (A : AS) : Res × AS := (.inl (some (.double (shX A.1.1))), A)
section X5T
variable {d : Nat} {M : Mem} {A : AS}
theorem c_chance (hM : CR M A) : ∃ M', Cl (d + 15) kX5_chance [.ref 0] M (spChance A).1 M' ∧ CR M' (spChance A).2 := by
  obtain ⟨now, snap, rows, r, buf, rd, D, H, R, rfl, h⟩ := hM
  unfold spChance
  obtain ⟨G, h', ok, hk⟩ := g_deals d h
  refine ⟨_, ?_, CR_of h'⟩
  refine Cl_go e_X5_chance (Nat.le_of_ble_eq_true rfl) rfl ?_; intro P hP; refine hP _ _ _ _ ?_; (conv => whnf)
  refine ⟨Nat.le_of_ble_eq_true rfl, rfl, ?_⟩; (conv => whnf)
  refine Or.inl ⟨_, _, hk, ?_⟩; (conv => whnf)
  refine ⟨Nat.le_of_ble_eq_true rfl, rfl, ?_⟩; (conv => whnf)
  refine Or.inl ⟨_, _, k_share (d := d + 11) ok, ?_⟩; (conv => whnf)
  exact ⟨rfl, rfl, rfl, rfl⟩
end X5T
