/-! the class: exchanges, the buffer -/
section X5H
variable {d : Nat} {M : Mem} {A : AS}
theorem dec2_out {x : Int32} {a b : Nat} (h : x < nI a ∨ nI b ≤ x) : dec2 x a b = none := by
  unfold dec2
  rcases h with h | h
  · rw [if_pos h]
  · by_cases h0 : x < nI a
    · rw [if_pos h0]
    · rw [if_neg h0, if_pos h]
theorem c_exchange (hM : CR M A) (x y : Int32) : ∃ M', Cl (d + 3) kX5_exchange [.ref 0, .int x, .int y] M (spExch A x y).1 M' ∧ CR M' (spExch A x y).2 := by
  have hM0 := hM
  obtain ⟨⟨dl, kd, pl, cd, cnt, prt, why⟩, snap, rows, rr, buf, rd, D, H, R, rfl, h⟩ := hM
  have hst := h.2.1
  have h20 := hst.2.2.2.2.2.1
  unfold spExch
  rcases in_out x (n := 9) (by decide) with hx | ⟨c, hc, rfl⟩
  · rw [decN_out hx]
    refine ⟨_, ?_, hM0⟩
    refine Cl_go e_X5_exchange (Nat.le_of_ble_eq_true rfl) rfl ?_; intro P hP; refine hP _ _ _ _ ?_; (conv => whnf)
    refine ⟨Nat.le_of_ble_eq_true rfl, rfl, ?_⟩
    exact Or.inr ⟨0, _, Cl_s (x_checkCard hx), rfl, rfl⟩
  · rw [decN_in hc (by decide)]
    rcases in_out y (n := 9) (by decide) with hy | ⟨o, ho, rfl⟩
    · rw [decN_out hy]
      refine ⟨_, ?_, hM0⟩
      refine Cl_go e_X5_exchange (Nat.le_of_ble_eq_true rfl) rfl ?_; intro P hP; refine hP _ _ _ _ ?_; (conv => whnf)
      refine ⟨Nat.le_of_ble_eq_true rfl, rfl, ?_⟩; (conv => whnf)
      refine Or.inl ⟨_, _, Cl_s (s_checkCard hc), ?_⟩; (conv => whnf)
      refine ⟨Nat.le_of_ble_eq_true rfl, rfl, ?_⟩
      exact Or.inr ⟨0, _, Cl_s (x_checkCard hy), rfl, rfl⟩
    · rw [decN_in ho (by decide)]
      have hdl : ∀ p, p < 4 → dl p = nI (hq A.1.2.1 p) := hst.2.2.1
      have hex : ∀ (d : Nat) (p : Nat) (N : Mem), p < 4 → Cl (d + 1) kX5_exchanged [.int (dl p), .int (nI c), .int (nI o)] N (.inl (some (.int (nI (hq (swp A.1.2.1 c o) p))))) N := fun d p N hp => by
        rw [hdl p hp, ← exN_hq hc ho]; exact Cl_s (s_exchanged (hq_lt _ _) hc ho)
      by_cases h2 : itr (hq (swp A.1.2.1 c o) 3) 3 = true
      · simp only [if_pos h2]
        have hq' : okQ (swp A.1.2.1 c o) := by
          refine ⟨fun j hj => ?_, h2⟩
          have h4 := hst.2.2.2.2.2.2.2.1.1
          unfold swp
          split
          · exact h4 o ho
          · split
            · exact h4 c hc
            · exact h4 j hj
        have hst' : stR (cpy 4 dl (fun j => nI (hq (swp A.1.2.1 c o) j)), kd, pl, cd, cnt, prt, why) (A.1.1, swp A.1.2.1 c o, A.1.2.2) := by
          obtain ⟨s1, s2, s3, s4, s5, s6⟩ := hst
          exact ⟨s1, s2, fun p hp => if_pos hp, s4, s5, s6.1, s6.2.1, hq', s6.2.2.2⟩
        refine ⟨_, ?_, CR_chg h hst'⟩
        refine Cl_go e_X5_exchange (Nat.le_of_ble_eq_true rfl) rfl ?_; intro P hP; refine hP _ _ _ _ ?_; (conv => whnf)
        refine ⟨Nat.le_of_ble_eq_true rfl, rfl, ?_⟩; (conv => whnf)
        refine Or.inl ⟨_, _, Cl_s (s_checkCard hc), ?_⟩; (conv => whnf)
        refine ⟨Nat.le_of_ble_eq_true rfl, rfl, ?_⟩; (conv => whnf)
        refine Or.inl ⟨_, _, Cl_s (s_checkCard ho), ?_⟩; (conv => whnf)
        refine ⟨vi (n := 3) rfl (by decide) (by decide), ?_⟩; (conv => whnf)
        refine ⟨Nat.le_of_ble_eq_true rfl, rfl, ?_⟩; (conv => whnf)
        refine Or.inl ⟨_, _, hex (d + 1) 3 _ (by decide), ?_⟩; (conv => whnf)
        refine ⟨Nat.le_of_ble_eq_true rfl, rfl, ?_⟩; (conv => whnf)
        refine Or.inl ⟨_, _, Cl_s (s_isTriple (d := d) (hq_lt _ _)), ?_⟩; (conv => whnf)
        refine b1 1 (by rw [h2]; rfl) (by omega) (fun _ => ?_) (fun (q : ¬ ¬ 1 = 0) => by omega)
        refine hP _ _ _ _ ?_; (conv => whnf)
        refine ⟨Nat.le_of_ble_eq_true rfl, rfl, ?_⟩; (conv => whnf)
        refine Or.inl ⟨_, _, s_remember h.1 h.2.2.2.1, ?_⟩; (conv => whnf)
        generalize hrw : rowsU rows (svI A.2.2.1.length rr) (cpyS (rows (svI A.2.2.1.length rr)) (dl, kd, pl, cd, cnt, prt, why)) = rows' at hP ⊢
        have lp : ∀ (j i : Nat) (y : Int32) (N : Mem), y = nI i → i + j = 4 → N = cM (cpy i dl (fun j => nI (hq (swp A.1.2.1 c o) j)), kd, pl, cd, cnt, prt, why) snap rows' (svF (svR A.2.2.1.length rr)) buf rd (D0 D) (H0c H) (R0c R) (nI (svN A.2.2.1.length)) (bI A.2.1.isSome) (nI A.2.2.2.length) →
            P 44 [some (.ref 0), some (.int (nI c)), some (.int (nI o)), some (.int y)] [] N := by
          intro j
          induction j with
          | zero =>
            intro i y N hy hi hN
            subst hN
            have hi : i = 4 := hi
            subst hi
            refine hP _ _ _ _ ?_; (conv => whnf)
            refine b2 4 4 hy rfl (by omega) (by omega) (fun _ => ?_) (fun (q : ¬ 4 ≤ 4) => by omega)
            refine hP _ _ _ _ ?_; (conv => whnf)
            refine ⟨vi (n := 3) rfl (by decide) (by decide), ?_⟩; (conv => whnf)
            refine ⟨Nat.le_of_ble_eq_true rfl, rfl, ?_⟩; (conv => whnf)
            refine Or.inl ⟨_, _, Cl_s (s_numberOfTriple (d := d + 1) (hq_lt (swp A.1.2.1 c o) 3)), ?_⟩; (conv => whnf)
            exact ⟨rfl, ⟨.int, rfl, rfl⟩, rfl, rfl⟩
          | succ j ih =>
            intro i y N hy hi hN
            subst hN
            subst hy
            have e0 : (nI i).toNatClampNeg = i := nI_clamp (by omega)
            have ei : cpy i dl (fun j => nI (hq (swp A.1.2.1 c o) j)) (nI i).toNatClampNeg = dl i := by rw [e0]; exact if_neg (Nat.lt_irrefl i)
            refine hP _ _ _ _ ?_; (conv => whnf)
            refine b2 i 4 rfl rfl (by omega) (by omega) (fun (q : 4 ≤ i) => by omega) (fun _ => ?_); (conv => whnf)
            refine ⟨vi rfl (show i < 4 by omega) (by decide), ?_⟩; (conv => whnf)
            refine ⟨Nat.le_of_ble_eq_true rfl, rfl, ?_⟩; (conv => whnf)
            have hk : ∀ N : Mem, Cl (d + 2) kX5_exchanged [.int (cpy i dl (fun j => nI (hq (swp A.1.2.1 c o) j)) (nI i).toNatClampNeg), .int (nI c), .int (nI o)] N (.inl (some (.int (nI (hq (swp A.1.2.1 c o) i))))) N := fun N => by
              rw [ei]; exact hex (d + 1) i N (by omega)
            refine Or.inl ⟨_, _, hk _, ?_⟩; (conv => whnf)
            refine ⟨vi rfl (show i < 4 by omega) (by decide), ?_⟩; (conv => whnf)
            refine ih (i + 1) _ _ (nI_1 i) (by omega) ?_
            have e : upd (cpy i dl (fun j => nI (hq (swp A.1.2.1 c o) j))) (nI i).toNatClampNeg (nI (hq (swp A.1.2.1 c o) i)) = cpy (i + 1) dl (fun j => nI (hq (swp A.1.2.1 c o) j)) := by
              rw [e0]; exact cpy_s i dl (fun j => nI (hq (swp A.1.2.1 c o) j))
            rw [← e]
            rfl
        refine lp 4 0 _ _ rfl rfl ?_
        rw [cpy_0]
      · have h2 : itr (hq (swp A.1.2.1 c o) 3) 3 = false := by
          cases hb : itr (hq (swp A.1.2.1 c o) 3) 3 with
          | false => rfl
          | true => exact absurd hb h2
        simp only [h2, Bool.false_eq_true, if_false]
        refine ⟨_, ?_, hM0⟩
        refine Cl_go e_X5_exchange (Nat.le_of_ble_eq_true rfl) rfl ?_; intro P hP; refine hP _ _ _ _ ?_; (conv => whnf)
        refine ⟨Nat.le_of_ble_eq_true rfl, rfl, ?_⟩; (conv => whnf)
        refine Or.inl ⟨_, _, Cl_s (s_checkCard hc), ?_⟩; (conv => whnf)
        refine ⟨Nat.le_of_ble_eq_true rfl, rfl, ?_⟩; (conv => whnf)
        refine Or.inl ⟨_, _, Cl_s (s_checkCard ho), ?_⟩; (conv => whnf)
        refine ⟨vi (n := 3) rfl (by decide) (by decide), ?_⟩; (conv => whnf)
        refine ⟨Nat.le_of_ble_eq_true rfl, rfl, ?_⟩; (conv => whnf)
        refine Or.inl ⟨_, _, hex (d + 1) 3 _ (by decide), ?_⟩; (conv => whnf)
        refine ⟨Nat.le_of_ble_eq_true rfl, rfl, ?_⟩; (conv => whnf)
        refine Or.inl ⟨_, _, Cl_s (s_isTriple (d := d) (hq_lt _ _)), ?_⟩; (conv => whnf)
        refine b1 0 (by rw [h2]; rfl) (by omega) (fun (q : ¬ 0 = 0) => by omega) (fun _ => ?_); (conv => whnf)
        exact ⟨rfl, rfl⟩
theorem txR_add {buf : IA} {t : List Nat} (h : txR buf t) (hl : t.length < 60) {c : Nat} (hc : 33 ≤ c ∧ c < 127) : txR (upd buf t.length (nI c)) (t ++ [c]) := by
  refine ⟨by rw [List.length_append]; show t.length + 1 ≤ 60; omega, fun j b hj => ?_⟩
  by_cases hjl : j < t.length
  · rw [List.getElem?_append_left hjl] at hj
    rw [upd_ne _ _ (by omega)]
    exact h.2 j b hj
  · rw [List.getElem?_append_right (by omega)] at hj
    by_cases h0 : j - t.length = 0
    · rw [h0] at hj
      have hb : c = b := Option.some.inj hj
      have hjn : j = t.length := by omega
      rw [hjn, upd_eq, ← hb]
      exact ⟨rfl, by omega, by omega⟩
    · obtain ⟨k, hk⟩ : ∃ k, j - t.length = k + 1 := ⟨j - t.length - 1, by omega⟩
      rw [hk] at hj; cases hj
end X5H
