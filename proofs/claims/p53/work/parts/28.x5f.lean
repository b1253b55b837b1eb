/-! the class: questions, accusations -/
section X5F
variable {d : Nat} {M : Mem} {A : AS}
theorem clOK_see {A : AS} {p t : Nat} (hp : p < 3) (ht : t < 27) : clOK (spSee A p t).2 := by
  unfold spSee
  have hl : hq A.1.2.1 p &&& dq_mask t < 512 := Nat.lt_of_le_of_lt Nat.and_le_left (hq_lt _ _)
  by_cases h0 : hq A.1.2.1 p &&& dq_mask t = 0
  · rw [nbt h0]; exact clOK_t (Or.inr rfl) hp ht
  · rw [nbf h0]; exact clOK_0 (Or.inl rfl) hp (lowC_ok hl h0).1
theorem clOK_ask {A : AS} {p t : Nat} (hp : p < 3) (ht : t < 27) : clOK (bif Nat.beq (hq A.1.2.1 p &&& dq_mask t) 0 then 3 else 2, p, dq_mask t) := by
  by_cases h0 : hq A.1.2.1 p &&& dq_mask t = 0
  · rw [nbt h0]; exact clOK_t (Or.inr rfl) hp ht
  · rw [nbf h0]; exact clOK_t (Or.inl rfl) hp ht
theorem clOK_acc {A : AS} {t : Nat} (ht : t < 27) : clOK (bif Nat.beq (hq A.1.2.1 3) (dq_mask t) then 5 else 4, 3, dq_mask t) := by
  by_cases h0 : hq A.1.2.1 3 = dq_mask t
  · rw [nbt h0]; exact clOK_e (Or.inr rfl) ht
  · rw [nbf h0]; exact clOK_e (Or.inl rfl) ht
theorem c_noteShows (hM : CR M A) (x s t r : Int32) : ∃ M', Cl (d + 3) kX5_noteShows [.ref 0, .int x, .int s, .int t, .int r] M (spShows A x s t r).1 M' ∧ CR M' (spShows A x s t r).2 := by
  have hM0 := hM
  obtain ⟨⟨dl, kd, pl, cd, cnt, prt, why⟩, snap, rows, rr, buf, rd, D, H, R, rfl, h⟩ := hM
  obtain rfl : cnt = nI A.1.1.length := h.2.1.2.1
  have h20 := h.2.1.2.2.2.2.2.1
  unfold spShows spQ
  rcases in_out x (n := 3) (by decide) with hx | ⟨p, hp, rfl⟩
  · rw [decN_out hx]
    refine ⟨_, ?_, hM0⟩
    refine Cl_go e_X5_noteShows (Nat.le_of_ble_eq_true rfl) rfl ?_; intro P hP; refine hP _ _ _ _ ?_; (conv => whnf)
    refine ⟨Nat.le_of_ble_eq_true rfl, rfl, ?_⟩
    exact Or.inr ⟨0, _, Cl_s (x_checkPlayer hx), rfl, rfl⟩
  · rw [decN_in hp (by decide)]
    rcases badC_or s t r with hb | ⟨a, b, c, ha, hb, hc, rfl, rfl, rfl⟩
    · rw [decT_bad hb]
      refine ⟨_, ?_, hM0⟩
      refine Cl_go e_X5_noteShows (Nat.le_of_ble_eq_true rfl) rfl ?_; intro P hP; refine hP _ _ _ _ ?_; (conv => whnf)
      refine ⟨Nat.le_of_ble_eq_true rfl, rfl, ?_⟩; (conv => whnf)
      refine Or.inl ⟨_, _, Cl_s (s_checkPlayer hp), ?_⟩; (conv => whnf)
      refine ⟨Nat.le_of_ble_eq_true rfl, rfl, ?_⟩
      exact Or.inr ⟨0, _, Cl_s (x_checkCards hb), rfl, rfl⟩
    · rw [decT_in ha hb hc]
      have hmask : ∀ N : Mem, Cl (d + 2) kX5_mask [.int (nI a), .int (nI b), .int (nI c)] N (.inl (some (.int (nI (dq_mask (9 * a + 3 * (b - 3) + (c - 6))))))) N := fun N => by
        rw [← mask3 ha hb hc]; exact Cl_s (s_mask (by omega) (by omega) (by omega))
      have ht : 9 * a + 3 * (b - 3) + (c - 6) < 27 := by omega
      generalize 9 * a + 3 * (b - 3) + (c - 6) = T at hmask ht ⊢
      by_cases h2 : A.1.1.length < 20
      · simp only [if_pos h2]
        refine ⟨_, ?_, CR_chg h (stR_add h.2.1 h2 (clOK_t (Or.inl rfl) hp ht))⟩
        refine Cl_go e_X5_noteShows (Nat.le_of_ble_eq_true rfl) rfl ?_; intro P hP; refine hP _ _ _ _ ?_; (conv => whnf)
        refine ⟨Nat.le_of_ble_eq_true rfl, rfl, ?_⟩; (conv => whnf)
        refine Or.inl ⟨_, _, Cl_s (s_checkPlayer hp), ?_⟩; (conv => whnf)
        refine ⟨Nat.le_of_ble_eq_true rfl, rfl, ?_⟩; (conv => whnf)
        refine Or.inl ⟨_, _, Cl_s (s_checkCards ha hb hc), ?_⟩; (conv => whnf)
        refine ⟨Nat.le_of_ble_eq_true rfl, rfl, ?_⟩; (conv => whnf)
        refine Or.inl ⟨_, _, s_checkRoom (d := d + 1) (n := A.1.1.length) rfl h2, ?_⟩; (conv => whnf)
        refine ⟨Nat.le_of_ble_eq_true rfl, rfl, ?_⟩; (conv => whnf)
        refine Or.inl ⟨_, _, s_remember h.1 h.2.2.2.1, ?_⟩; (conv => whnf)
        refine ⟨Nat.le_of_ble_eq_true rfl, rfl, ?_⟩; (conv => whnf)
        refine Or.inl ⟨_, _, hmask _, ?_⟩; (conv => whnf)
        refine ⟨Nat.le_of_ble_eq_true rfl, rfl, ?_⟩; (conv => whnf)
        refine Or.inl ⟨_, _, a_add (d := d + 1) h2, ?_⟩; (conv => whnf)
        exact ⟨rfl, ⟨.int, rfl, rfl⟩, rfl, rfl⟩
      · simp only [if_neg h2]
        refine ⟨_, ?_, hM0⟩
        refine Cl_go e_X5_noteShows (Nat.le_of_ble_eq_true rfl) rfl ?_; intro P hP; refine hP _ _ _ _ ?_; (conv => whnf)
        refine ⟨Nat.le_of_ble_eq_true rfl, rfl, ?_⟩; (conv => whnf)
        refine Or.inl ⟨_, _, Cl_s (s_checkPlayer hp), ?_⟩; (conv => whnf)
        refine ⟨Nat.le_of_ble_eq_true rfl, rfl, ?_⟩; (conv => whnf)
        refine Or.inl ⟨_, _, Cl_s (s_checkCards ha hb hc), ?_⟩; (conv => whnf)
        refine ⟨Nat.le_of_ble_eq_true rfl, rfl, ?_⟩; (conv => whnf)
        exact Or.inr ⟨1, _, x_checkRoom (d := d + 1) (n := A.1.1.length) rfl (by omega), rfl, rfl⟩
theorem c_ask (hM : CR M A) (x s t r : Int32) : ∃ M', Cl (d + 3) kX5_ask [.ref 0, .int x, .int s, .int t, .int r] M (spAsk A x s t r).1 M' ∧ CR M' (spAsk A x s t r).2 := by
  have hM0 := hM
  obtain ⟨⟨dl, kd, pl, cd, cnt, prt, why⟩, snap, rows, rr, buf, rd, D, H, R, rfl, h⟩ := hM
  obtain rfl : cnt = nI A.1.1.length := h.2.1.2.1
  have h20 := h.2.1.2.2.2.2.2.1
  unfold spAsk spQ
  rcases in_out x (n := 3) (by decide) with hx | ⟨p, hp, rfl⟩
  · rw [decN_out hx]
    refine ⟨_, ?_, hM0⟩
    refine Cl_go e_X5_ask (Nat.le_of_ble_eq_true rfl) rfl ?_; intro P hP; refine hP _ _ _ _ ?_; (conv => whnf)
    refine ⟨Nat.le_of_ble_eq_true rfl, rfl, ?_⟩
    exact Or.inr ⟨0, _, Cl_s (x_checkPlayer hx), rfl, rfl⟩
  · rw [decN_in hp (by decide)]
    rcases badC_or s t r with hb | ⟨a, b, c, ha, hb, hc, rfl, rfl, rfl⟩
    · rw [decT_bad hb]
      refine ⟨_, ?_, hM0⟩
      refine Cl_go e_X5_ask (Nat.le_of_ble_eq_true rfl) rfl ?_; intro P hP; refine hP _ _ _ _ ?_; (conv => whnf)
      refine ⟨Nat.le_of_ble_eq_true rfl, rfl, ?_⟩; (conv => whnf)
      refine Or.inl ⟨_, _, Cl_s (s_checkPlayer hp), ?_⟩; (conv => whnf)
      refine ⟨Nat.le_of_ble_eq_true rfl, rfl, ?_⟩
      exact Or.inr ⟨0, _, Cl_s (x_checkCards hb), rfl, rfl⟩
    · rw [decT_in ha hb hc]
      have hmask : ∀ N : Mem, Cl (d + 2) kX5_mask [.int (nI a), .int (nI b), .int (nI c)] N (.inl (some (.int (nI (dq_mask (9 * a + 3 * (b - 3) + (c - 6))))))) N := fun N => by
        rw [← mask3 ha hb hc]; exact Cl_s (s_mask (by omega) (by omega) (by omega))
      have ht : 9 * a + 3 * (b - 3) + (c - 6) < 27 := by omega
      generalize 9 * a + 3 * (b - 3) + (c - 6) = T at hmask ht ⊢
      by_cases h2 : A.1.1.length < 20
      · simp only [if_pos h2]
        refine ⟨_, ?_, CR_chg h (stR_add h.2.1 h2 (clOK_ask hp ht))⟩
        refine Cl_go e_X5_ask (Nat.le_of_ble_eq_true rfl) rfl ?_; intro P hP; refine hP _ _ _ _ ?_; (conv => whnf)
        refine ⟨Nat.le_of_ble_eq_true rfl, rfl, ?_⟩; (conv => whnf)
        refine Or.inl ⟨_, _, Cl_s (s_checkPlayer hp), ?_⟩; (conv => whnf)
        refine ⟨Nat.le_of_ble_eq_true rfl, rfl, ?_⟩; (conv => whnf)
        refine Or.inl ⟨_, _, Cl_s (s_checkCards ha hb hc), ?_⟩; (conv => whnf)
        refine ⟨Nat.le_of_ble_eq_true rfl, rfl, ?_⟩; (conv => whnf)
        refine Or.inl ⟨_, _, s_checkRoom (d := d + 1) (n := A.1.1.length) rfl h2, ?_⟩; (conv => whnf)
        refine ⟨Nat.le_of_ble_eq_true rfl, rfl, ?_⟩; (conv => whnf)
        refine Or.inl ⟨_, _, s_remember h.1 h.2.2.2.1, ?_⟩; (conv => whnf)
        refine ⟨Nat.le_of_ble_eq_true rfl, rfl, ?_⟩; (conv => whnf)
        refine Or.inl ⟨_, _, hmask _, ?_⟩; (conv => whnf)
        refine ⟨Nat.le_of_ble_eq_true rfl, rfl, ?_⟩; (conv => whnf)
        refine Or.inl ⟨_, _, a_addAnswer (d := d) hp (h.2.1.2.2.1 p (by omega)) (hq_lt _ _) h2, ?_⟩; (conv => whnf)
        exact ⟨rfl, ⟨.boolean, rfl, b01⟩, rfl, rfl⟩
      · simp only [if_neg h2]
        refine ⟨_, ?_, hM0⟩
        refine Cl_go e_X5_ask (Nat.le_of_ble_eq_true rfl) rfl ?_; intro P hP; refine hP _ _ _ _ ?_; (conv => whnf)
        refine ⟨Nat.le_of_ble_eq_true rfl, rfl, ?_⟩; (conv => whnf)
        refine Or.inl ⟨_, _, Cl_s (s_checkPlayer hp), ?_⟩; (conv => whnf)
        refine ⟨Nat.le_of_ble_eq_true rfl, rfl, ?_⟩; (conv => whnf)
        refine Or.inl ⟨_, _, Cl_s (s_checkCards ha hb hc), ?_⟩; (conv => whnf)
        refine ⟨Nat.le_of_ble_eq_true rfl, rfl, ?_⟩; (conv => whnf)
        exact Or.inr ⟨1, _, x_checkRoom (d := d + 1) (n := A.1.1.length) rfl (by omega), rfl, rfl⟩
theorem c_look (hM : CR M A) (x s t r : Int32) : ∃ M', Cl (d + 3) kX5_look [.ref 0, .int x, .int s, .int t, .int r] M (spLook A x s t r).1 M' ∧ CR M' (spLook A x s t r).2 := by
  have hM0 := hM
  obtain ⟨⟨dl, kd, pl, cd, cnt, prt, why⟩, snap, rows, rr, buf, rd, D, H, R, rfl, h⟩ := hM
  obtain rfl : cnt = nI A.1.1.length := h.2.1.2.1
  have h20 := h.2.1.2.2.2.2.2.1
  unfold spLook spQ
  rcases in_out x (n := 3) (by decide) with hx | ⟨p, hp, rfl⟩
  · rw [decN_out hx]
    refine ⟨_, ?_, hM0⟩
    refine Cl_go e_X5_look (Nat.le_of_ble_eq_true rfl) rfl ?_; intro P hP; refine hP _ _ _ _ ?_; (conv => whnf)
    refine ⟨Nat.le_of_ble_eq_true rfl, rfl, ?_⟩
    exact Or.inr ⟨0, _, Cl_s (x_checkPlayer hx), rfl, rfl⟩
  · rw [decN_in hp (by decide)]
    rcases badC_or s t r with hb | ⟨a, b, c, ha, hb, hc, rfl, rfl, rfl⟩
    · rw [decT_bad hb]
      refine ⟨_, ?_, hM0⟩
      refine Cl_go e_X5_look (Nat.le_of_ble_eq_true rfl) rfl ?_; intro P hP; refine hP _ _ _ _ ?_; (conv => whnf)
      refine ⟨Nat.le_of_ble_eq_true rfl, rfl, ?_⟩; (conv => whnf)
      refine Or.inl ⟨_, _, Cl_s (s_checkPlayer hp), ?_⟩; (conv => whnf)
      refine ⟨Nat.le_of_ble_eq_true rfl, rfl, ?_⟩
      exact Or.inr ⟨0, _, Cl_s (x_checkCards hb), rfl, rfl⟩
    · rw [decT_in ha hb hc]
      have hmask : ∀ N : Mem, Cl (d + 2) kX5_mask [.int (nI a), .int (nI b), .int (nI c)] N (.inl (some (.int (nI (dq_mask (9 * a + 3 * (b - 3) + (c - 6))))))) N := fun N => by
        rw [← mask3 ha hb hc]; exact Cl_s (s_mask (by omega) (by omega) (by omega))
      have ht : 9 * a + 3 * (b - 3) + (c - 6) < 27 := by omega
      generalize 9 * a + 3 * (b - 3) + (c - 6) = T at hmask ht ⊢
      by_cases h2 : A.1.1.length < 20
      · simp only [if_pos h2]
        refine ⟨_, ?_, CR_chg h (stR_add h.2.1 h2 (clOK_see hp ht))⟩
        refine Cl_go e_X5_look (Nat.le_of_ble_eq_true rfl) rfl ?_; intro P hP; refine hP _ _ _ _ ?_; (conv => whnf)
        refine ⟨Nat.le_of_ble_eq_true rfl, rfl, ?_⟩; (conv => whnf)
        refine Or.inl ⟨_, _, Cl_s (s_checkPlayer hp), ?_⟩; (conv => whnf)
        refine ⟨Nat.le_of_ble_eq_true rfl, rfl, ?_⟩; (conv => whnf)
        refine Or.inl ⟨_, _, Cl_s (s_checkCards ha hb hc), ?_⟩; (conv => whnf)
        refine ⟨Nat.le_of_ble_eq_true rfl, rfl, ?_⟩; (conv => whnf)
        refine Or.inl ⟨_, _, s_checkRoom (d := d + 1) (n := A.1.1.length) rfl h2, ?_⟩; (conv => whnf)
        refine ⟨Nat.le_of_ble_eq_true rfl, rfl, ?_⟩; (conv => whnf)
        refine Or.inl ⟨_, _, s_remember h.1 h.2.2.2.1, ?_⟩; (conv => whnf)
        refine ⟨Nat.le_of_ble_eq_true rfl, rfl, ?_⟩; (conv => whnf)
        refine Or.inl ⟨_, _, hmask _, ?_⟩; (conv => whnf)
        refine ⟨Nat.le_of_ble_eq_true rfl, rfl, ?_⟩; (conv => whnf)
        refine Or.inl ⟨_, _, a_addSight (d := d) (v := (spSee A p T).1) (x := (spSee A p T).2) hp (h.2.1.2.2.1 p (by omega)) (hq_lt _ _) h2 rfl, ?_⟩; (conv => whnf)
        exact ⟨rfl, ⟨.int, rfl, rfl⟩, rfl, rfl⟩
      · simp only [if_neg h2]
        refine ⟨_, ?_, hM0⟩
        refine Cl_go e_X5_look (Nat.le_of_ble_eq_true rfl) rfl ?_; intro P hP; refine hP _ _ _ _ ?_; (conv => whnf)
        refine ⟨Nat.le_of_ble_eq_true rfl, rfl, ?_⟩; (conv => whnf)
        refine Or.inl ⟨_, _, Cl_s (s_checkPlayer hp), ?_⟩; (conv => whnf)
        refine ⟨Nat.le_of_ble_eq_true rfl, rfl, ?_⟩; (conv => whnf)
        refine Or.inl ⟨_, _, Cl_s (s_checkCards ha hb hc), ?_⟩; (conv => whnf)
        refine ⟨Nat.le_of_ble_eq_true rfl, rfl, ?_⟩; (conv => whnf)
        exact Or.inr ⟨1, _, x_checkRoom (d := d + 1) (n := A.1.1.length) rfl (by omega), rfl, rfl⟩
theorem c_accuse (hM : CR M A) (s t r : Int32) : ∃ M', Cl (d + 3) kX5_accuse [.ref 0, .int s, .int t, .int r] M (spAccuse A s t r).1 M' ∧ CR M' (spAccuse A s t r).2 := by
  have hM0 := hM
  obtain ⟨⟨dl, kd, pl, cd, cnt, prt, why⟩, snap, rows, rr, buf, rd, D, H, R, rfl, h⟩ := hM
  obtain rfl : cnt = nI A.1.1.length := h.2.1.2.1
  have h20 := h.2.1.2.2.2.2.2.1
  unfold spAccuse
  rcases badC_or s t r with hb | ⟨a, b, c, ha, hb, hc, rfl, rfl, rfl⟩
  · rw [decT_bad hb]
    refine ⟨_, ?_, hM0⟩
    refine Cl_go e_X5_accuse (Nat.le_of_ble_eq_true rfl) rfl ?_; intro P hP; refine hP _ _ _ _ ?_; (conv => whnf)
    refine ⟨Nat.le_of_ble_eq_true rfl, rfl, ?_⟩
    exact Or.inr ⟨0, _, Cl_s (x_checkCards hb), rfl, rfl⟩
  · rw [decT_in ha hb hc]
    have hmask : ∀ N : Mem, Cl (d + 2) kX5_mask [.int (nI a), .int (nI b), .int (nI c)] N (.inl (some (.int (nI (dq_mask (9 * a + 3 * (b - 3) + (c - 6))))))) N := fun N => by
      rw [← mask3 ha hb hc]; exact Cl_s (s_mask (by omega) (by omega) (by omega))
    have ht : 9 * a + 3 * (b - 3) + (c - 6) < 27 := by omega
    generalize 9 * a + 3 * (b - 3) + (c - 6) = T at hmask ht ⊢
    by_cases h2 : A.1.1.length < 20
    · simp only [if_pos h2]
      refine ⟨_, ?_, CR_chg h (stR_add h.2.1 h2 (clOK_acc ht))⟩
      refine Cl_go e_X5_accuse (Nat.le_of_ble_eq_true rfl) rfl ?_; intro P hP; refine hP _ _ _ _ ?_; (conv => whnf)
      refine ⟨Nat.le_of_ble_eq_true rfl, rfl, ?_⟩; (conv => whnf)
      refine Or.inl ⟨_, _, Cl_s (s_checkCards ha hb hc), ?_⟩; (conv => whnf)
      refine ⟨Nat.le_of_ble_eq_true rfl, rfl, ?_⟩; (conv => whnf)
      refine Or.inl ⟨_, _, s_checkRoom (d := d + 1) (n := A.1.1.length) rfl h2, ?_⟩; (conv => whnf)
      refine ⟨Nat.le_of_ble_eq_true rfl, rfl, ?_⟩; (conv => whnf)
      refine Or.inl ⟨_, _, s_remember h.1 h.2.2.2.1, ?_⟩; (conv => whnf)
      refine ⟨Nat.le_of_ble_eq_true rfl, rfl, ?_⟩; (conv => whnf)
      refine Or.inl ⟨_, _, hmask _, ?_⟩; (conv => whnf)
      refine ⟨Nat.le_of_ble_eq_true rfl, rfl, ?_⟩; (conv => whnf)
      refine Or.inl ⟨_, _, a_addVerdict (d := d) (h.2.1.2.2.1 3 (by omega)) (hq_lt _ _) (mask_lt ht) h2, ?_⟩; (conv => whnf)
      exact ⟨rfl, ⟨.boolean, rfl, b01⟩, rfl, rfl⟩
    · simp only [if_neg h2]
      refine ⟨_, ?_, hM0⟩
      refine Cl_go e_X5_accuse (Nat.le_of_ble_eq_true rfl) rfl ?_; intro P hP; refine hP _ _ _ _ ?_; (conv => whnf)
      refine ⟨Nat.le_of_ble_eq_true rfl, rfl, ?_⟩; (conv => whnf)
      refine Or.inl ⟨_, _, Cl_s (s_checkCards ha hb hc), ?_⟩; (conv => whnf)
      refine ⟨Nat.le_of_ble_eq_true rfl, rfl, ?_⟩; (conv => whnf)
      exact Or.inr ⟨1, _, x_checkRoom (d := d + 1) (n := A.1.1.length) rfl (by omega), rfl, rfl⟩
end X5F
