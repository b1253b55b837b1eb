/-! the class: a part of a text done -/
theorem tsw_mk {P : Nat → Prop} {pc : Nat} {x : Int} : ∀ (l : List Int) (v : Int) (j : Nat) (o : Int), l[j]? = some o → x = v + j → P ((pc : Int) + o).toNat → tsw P pc x l v := by
  intro l
  induction l with
  | nil => intro v j o h _ _; cases h
  | cons a r ih =>
    intro v j o h hx hp
    cases j with
    | zero =>
      have h1 : a = o := Option.some.inj h
      subst h1
      refine ⟨fun _ => hp, tsw_none r (v + 1) (by omega)⟩
    | succ j => exact ⟨fun e => absurd e (by omega), ih (v + 1) j o h (by omega) hp⟩
/-- the clue that a part adds: l: its letter, p: its player, v: its number -/
def addP (a : SA) (l p v : Nat) : rl_C :=
  if l = 104 then (0, p, 2 ^ v) else if l = 108 then (1, p, 2 ^ v) else if l = 115 then (2, p, dq_mask v) else if l = 112 then (3, p, dq_mask v)
  else if l = 110 then (4, 3, dq_mask v) else if l = 105 then (5, 3, dq_mask v)
  else if l = 97 then (bif Nat.beq (hq a.2.1 p &&& dq_mask v) 0 then 3 else 2, p, dq_mask v)
  else if l = 118 then (bif Nat.beq (hq a.2.1 p &&& dq_mask v) 0 then (3, p, dq_mask v) else (0, p, 2 ^ lowC (hq a.2.1 p &&& dq_mask v)))
  else (bif Nat.beq (hq a.2.1 3) (dq_mask v) then 5 else 4, 3, dq_mask v)
def doP (a : SA) (x : rl_C) : Nat × SA :=
  if x.1 = 120 then (if x.2.2 < a.1.length then (0, a.1.eraseIdx x.2.2, a.2) else (2, a))
  else if a.1.length < 20 then (0, a.1 ++ [addP a x.1 x.2.1 x.2.2], a.2) else (1, a)
/-- a part as it can be read -/
def ptOK (x : rl_C) : Prop := 0 < lim x.1 ∧ x.2.2 < lim x.1 ∧ (npl x.1 = true → x.2.1 < 3)
theorem lim_cases {l : Nat} (h : 0 < lim l) : (l = 104 ∨ l = 108) ∨ (l = 33 ∨ l = 97 ∨ l = 105 ∨ l = 110 ∨ l = 112 ∨ l = 115 ∨ l = 118) ∨ l = 120 := by
  unfold lim at h
  by_cases h1 : l = 33
  · omega
  rw [if_neg h1] at h
  by_cases h2 : l = 97
  · omega
  rw [if_neg h2] at h
  by_cases h3 : l = 104
  · omega
  rw [if_neg h3] at h
  by_cases h4 : l = 105
  · omega
  rw [if_neg h4] at h
  by_cases h5 : l = 108
  · omega
  rw [if_neg h5] at h
  by_cases h6 : l = 110
  · omega
  rw [if_neg h6] at h
  by_cases h7 : l = 112
  · omega
  rw [if_neg h7] at h
  by_cases h8 : l = 115
  · omega
  rw [if_neg h8] at h
  by_cases h9 : l = 118
  · omega
  rw [if_neg h9] at h
  by_cases h10 : l = 120
  · omega
  rw [if_neg h10] at h
  omega
section X5L
variable {d : Nat} {snap : StR} {rows : Nat → StR} {sv : Nat → Option Nat} {buf : IA} {rd : RS} {D : DC} {H : HC} {R : RC} {sc hs ln : Int32}
theorem s_addPart {now : StR} {a : SA} (h : stR now a) (hn : a.1.length < 20) {l p v : Nat} (hx : l ≠ 120) (hl : 0 < lim l) (hv : v < lim l) (hp : npl l = true → p < 3) :
    ∃ now' : StR, stR now' (a.1 ++ [addP a l p v], a.2) ∧ now'.2.2.2.2.2 = now.2.2.2.2.2 ∧ Cl (d + 3) kX5_addPart [.ref 0, .int (nI l), .int (nI p), .int (nI v)] (cM now snap rows sv buf rd D H R sc hs ln) (.inl none) (cM now' snap rows sv buf rd D H R sc hs ln) := by
  have hst := h
  obtain ⟨dl, kd, pl, cd, cnt, prt, why⟩ := now
  obtain rfl : cnt = nI a.1.length := h.2.1
  have hdl : ∀ p, p < 4 → dl p = nI (hq a.2.1 p) := h.2.2.1
  rcases lim_cases hl with (rfl | rfl) | (rfl | rfl | rfl | rfl | rfl | rfl | rfl) | h120
  · have hv : v < 9 := hv
    have hp : p < 3 := hp rfl
    refine ⟨_, stR_add hst hn (x := addP a 104 p v) (clOK_0 (Or.inl rfl) hp hv), rfl, ?_⟩
    refine Cl_go e_X5_addPart (Nat.le_of_ble_eq_true rfl) rfl ?_; intro P hP; refine hP _ _ _ _ ?_; (conv => whnf)
    refine ⟨fun q => absurd q (by decide), tsw_mk _ _ 7 _ rfl (by decide) ?_⟩
    refine hP _ _ _ _ ?_; (conv => whnf)
    refine ⟨Nat.le_of_ble_eq_true rfl, rfl, ?_⟩; (conv => whnf)
    refine Or.inl ⟨_, _, a_add1 (d := d + 1) hv hn, ?_⟩; (conv => whnf)
    refine hP _ _ _ _ ?_; (conv => whnf)
    exact ⟨rfl, rfl, rfl, rfl⟩
  · have hv : v < 9 := hv
    have hp : p < 3 := hp rfl
    refine ⟨_, stR_add hst hn (x := addP a 108 p v) (clOK_0 (Or.inr rfl) hp hv), rfl, ?_⟩
    refine Cl_go e_X5_addPart (Nat.le_of_ble_eq_true rfl) rfl ?_; intro P hP; refine hP _ _ _ _ ?_; (conv => whnf)
    refine ⟨fun q => absurd q (by decide), tsw_mk _ _ 11 _ rfl (by decide) ?_⟩
    refine hP _ _ _ _ ?_; (conv => whnf)
    refine ⟨Nat.le_of_ble_eq_true rfl, rfl, ?_⟩; (conv => whnf)
    refine Or.inl ⟨_, _, a_add1 (d := d + 1) hv hn, ?_⟩; (conv => whnf)
    refine hP _ _ _ _ ?_; (conv => whnf)
    exact ⟨rfl, rfl, rfl, rfl⟩
  · have hv : v < 27 := hv
    refine ⟨_, stR_add hst hn (x := addP a 33 p v) (clOK_acc (A := (a, none, [], [])) hv), rfl, ?_⟩
    refine Cl_go e_X5_addPart (Nat.le_of_ble_eq_true rfl) rfl ?_; intro P hP; refine hP _ _ _ _ ?_; (conv => whnf)
    refine ⟨fun _ => ?_, tsw_none _ _ (by decide)⟩
    refine hP _ _ _ _ ?_; (conv => whnf)
    refine ⟨Nat.le_of_ble_eq_true rfl, rfl, ?_⟩; (conv => whnf)
    refine Or.inl ⟨_, _, Cl_s (s_cardsOfTriple (d := d) hv), ?_⟩; (conv => whnf)
    refine ⟨Nat.le_of_ble_eq_true rfl, rfl, ?_⟩; (conv => whnf)
    refine Or.inl ⟨_, _, a_addVerdict (d := d) (hdl 3 (by decide)) (hq_lt _ _) (mask_lt hv) hn, ?_⟩; (conv => whnf)
    refine hP _ _ _ _ ?_; (conv => whnf)
    exact ⟨rfl, rfl, rfl, rfl⟩
  · have hv : v < 27 := hv
    have hp : p < 3 := hp rfl
    refine ⟨_, stR_add hst hn (x := addP a 97 p v) (clOK_ask (A := (a, none, [], [])) hp hv), rfl, ?_⟩
    refine Cl_go e_X5_addPart (Nat.le_of_ble_eq_true rfl) rfl ?_; intro P hP; refine hP _ _ _ _ ?_; (conv => whnf)
    refine ⟨fun q => absurd q (by decide), tsw_mk _ _ 0 _ rfl (by decide) ?_⟩
    refine hP _ _ _ _ ?_; (conv => whnf)
    refine ⟨Nat.le_of_ble_eq_true rfl, rfl, ?_⟩; (conv => whnf)
    refine Or.inl ⟨_, _, Cl_s (s_cardsOfTriple (d := d) hv), ?_⟩; (conv => whnf)
    refine ⟨Nat.le_of_ble_eq_true rfl, rfl, ?_⟩; (conv => whnf)
    refine Or.inl ⟨_, _, a_addAnswer (d := d) hp (hdl p (by omega)) (hq_lt _ _) hn, ?_⟩; (conv => whnf)
    refine hP _ _ _ _ ?_; (conv => whnf)
    exact ⟨rfl, rfl, rfl, rfl⟩
  · have hv : v < 27 := hv
    refine ⟨_, stR_add hst hn (x := addP a 105 p v) (clOK_e (Or.inr rfl) hv), rfl, ?_⟩
    refine Cl_go e_X5_addPart (Nat.le_of_ble_eq_true rfl) rfl ?_; intro P hP; refine hP _ _ _ _ ?_; (conv => whnf)
    refine ⟨fun q => absurd q (by decide), tsw_mk _ _ 8 _ rfl (by decide) ?_⟩
    refine hP _ _ _ _ ?_; (conv => whnf)
    refine ⟨Nat.le_of_ble_eq_true rfl, rfl, ?_⟩; (conv => whnf)
    refine Or.inl ⟨_, _, Cl_s (s_cardsOfTriple (d := d) hv), ?_⟩; (conv => whnf)
    refine ⟨Nat.le_of_ble_eq_true rfl, rfl, ?_⟩; (conv => whnf)
    refine Or.inl ⟨_, _, a_add (d := d + 1) hn, ?_⟩; (conv => whnf)
    refine hP _ _ _ _ ?_; (conv => whnf)
    exact ⟨rfl, rfl, rfl, rfl⟩
  · have hv : v < 27 := hv
    refine ⟨_, stR_add hst hn (x := addP a 110 p v) (clOK_e (Or.inl rfl) hv), rfl, ?_⟩
    refine Cl_go e_X5_addPart (Nat.le_of_ble_eq_true rfl) rfl ?_; intro P hP; refine hP _ _ _ _ ?_; (conv => whnf)
    refine ⟨fun q => absurd q (by decide), tsw_mk _ _ 13 _ rfl (by decide) ?_⟩
    refine hP _ _ _ _ ?_; (conv => whnf)
    refine ⟨Nat.le_of_ble_eq_true rfl, rfl, ?_⟩; (conv => whnf)
    refine Or.inl ⟨_, _, Cl_s (s_cardsOfTriple (d := d) hv), ?_⟩; (conv => whnf)
    refine ⟨Nat.le_of_ble_eq_true rfl, rfl, ?_⟩; (conv => whnf)
    refine Or.inl ⟨_, _, a_add (d := d + 1) hn, ?_⟩; (conv => whnf)
    refine hP _ _ _ _ ?_; (conv => whnf)
    exact ⟨rfl, rfl, rfl, rfl⟩
  · have hv : v < 27 := hv
    have hp : p < 3 := hp rfl
    refine ⟨_, stR_add hst hn (x := addP a 112 p v) (clOK_t (Or.inr rfl) hp hv), rfl, ?_⟩
    refine Cl_go e_X5_addPart (Nat.le_of_ble_eq_true rfl) rfl ?_; intro P hP; refine hP _ _ _ _ ?_; (conv => whnf)
    refine ⟨fun q => absurd q (by decide), tsw_mk _ _ 15 _ rfl (by decide) ?_⟩
    refine hP _ _ _ _ ?_; (conv => whnf)
    refine ⟨Nat.le_of_ble_eq_true rfl, rfl, ?_⟩; (conv => whnf)
    refine Or.inl ⟨_, _, Cl_s (s_cardsOfTriple (d := d) hv), ?_⟩; (conv => whnf)
    refine ⟨Nat.le_of_ble_eq_true rfl, rfl, ?_⟩; (conv => whnf)
    refine Or.inl ⟨_, _, a_add (d := d + 1) hn, ?_⟩; (conv => whnf)
    refine hP _ _ _ _ ?_; (conv => whnf)
    exact ⟨rfl, rfl, rfl, rfl⟩
  · have hv : v < 27 := hv
    have hp : p < 3 := hp rfl
    refine ⟨_, stR_add hst hn (x := addP a 115 p v) (clOK_t (Or.inl rfl) hp hv), rfl, ?_⟩
    refine Cl_go e_X5_addPart (Nat.le_of_ble_eq_true rfl) rfl ?_; intro P hP; refine hP _ _ _ _ ?_; (conv => whnf)
    refine ⟨fun q => absurd q (by decide), tsw_mk _ _ 18 _ rfl (by decide) ?_⟩
    refine hP _ _ _ _ ?_; (conv => whnf)
    refine ⟨Nat.le_of_ble_eq_true rfl, rfl, ?_⟩; (conv => whnf)
    refine Or.inl ⟨_, _, Cl_s (s_cardsOfTriple (d := d) hv), ?_⟩; (conv => whnf)
    refine ⟨Nat.le_of_ble_eq_true rfl, rfl, ?_⟩; (conv => whnf)
    refine Or.inl ⟨_, _, a_add (d := d + 1) hn, ?_⟩; (conv => whnf)
    refine hP _ _ _ _ ?_; (conv => whnf)
    exact ⟨rfl, rfl, rfl, rfl⟩
  · have hv : v < 27 := hv
    have hp : p < 3 := hp rfl
    have hsee : addP a 118 p v = (spSee (a, none, [], []) p v).2 := by
      unfold spSee addP
      show (bif Nat.beq (hq a.2.1 p &&& dq_mask v) 0 then _ else _) = (bif Nat.beq (hq a.2.1 p &&& dq_mask v) 0 then _ else _ : Int32 × rl_C).2
      cases Nat.beq (hq a.2.1 p &&& dq_mask v) 0 <;> rfl
    refine ⟨_, stR_add hst hn (x := addP a 118 p v) (by rw [hsee]; exact clOK_see (A := (a, none, [], [])) hp hv), rfl, ?_⟩
    refine Cl_go e_X5_addPart (Nat.le_of_ble_eq_true rfl) rfl ?_; intro P hP; refine hP _ _ _ _ ?_; (conv => whnf)
    refine ⟨fun q => absurd q (by decide), tsw_mk _ _ 21 _ rfl (by decide) ?_⟩
    refine hP _ _ _ _ ?_; (conv => whnf)
    refine ⟨Nat.le_of_ble_eq_true rfl, rfl, ?_⟩; (conv => whnf)
    refine Or.inl ⟨_, _, Cl_s (s_cardsOfTriple (d := d) hv), ?_⟩; (conv => whnf)
    refine ⟨Nat.le_of_ble_eq_true rfl, rfl, ?_⟩; (conv => whnf)
    refine Or.inl ⟨_, _, a_addSight (d := d) (v := (spSee (a, none, [], []) p v).1) (x := addP a 118 p v) hp (hdl p (by omega)) (hq_lt _ _) hn (by rw [hsee]; rfl), ?_⟩; (conv => whnf)
    refine hP _ _ _ _ ?_; (conv => whnf)
    exact ⟨rfl, rfl, rfl, rfl⟩
  · exact absurd h120 hx
theorem s_doPart {now : StR} {a : SA} (h : stR now a) {x : rl_C} (hx : ptOK x) :
    ∃ now' : StR, stR now' (doP a x).2 ∧ (doP a x).1 < 3 ∧ Cl (d + 4) kX5_doPart [.ref 0, .int (nI x.1), .int (nI x.2.1), .int (nI x.2.2)] (cM now snap rows sv buf rd D H R sc hs ln) (rV (nI (doP a x).1)) (cM now' snap rows sv buf rd D H R sc hs ln) := by
  obtain ⟨hl, hv, hp⟩ := hx
  have h20 := h.2.2.2.2.2.1
  have hl31 : x.1 < 2 ^ 31 := by
    rcases lim_cases hl with (e | e) | (e | e | e | e | e | e | e) | e <;> rw [e] <;> decide
  have hle := lim_le x.1
  unfold doP
  by_cases h1 : x.1 = 120
  · rw [if_pos h1]
    by_cases h2 : x.2.2 < a.1.length
    · rw [if_pos h2]
      obtain ⟨dl, kd, pl, cd, cnt, prt, why⟩ := now
      obtain rfl : cnt = nI a.1.length := h.2.1
      refine ⟨_, stR_rmv h h2, Nat.le_of_ble_eq_true rfl, ?_⟩
      refine Cl_go e_X5_doPart (Nat.le_of_ble_eq_true rfl) rfl ?_; intro P hP; refine hP _ _ _ _ ?_; (conv => whnf)
      refine b2 x.1 120 rfl rfl hl31 (by omega) (fun (q : ¬ x.1 = 120) => absurd h1 q) (fun _ => ?_); (conv => whnf)
      refine b1 x.2.2 rfl (by omega) (fun (q : x.2.2 < 0) => by omega) (fun _ => ?_); (conv => whnf)
      refine b2 x.2.2 a.1.length rfl rfl (by omega) (by omega) (fun _ => ?_) (fun (q : ¬ x.2.2 < a.1.length) => absurd h2 q)
      refine hP _ _ _ _ ?_; (conv => whnf)
      refine ⟨Nat.le_of_ble_eq_true rfl, rfl, ?_⟩; (conv => whnf)
      refine Or.inl ⟨_, _, a_remove (d := d + 2) h2 h20, ?_⟩; (conv => whnf)
      exact ⟨rfl, ⟨.int, rfl, rfl⟩, rfl, rfl⟩
    · rw [if_neg h2]
      refine ⟨now, h, Nat.le_of_ble_eq_true rfl, ?_⟩
      refine Cl_go e_X5_doPart (Nat.le_of_ble_eq_true rfl) rfl ?_; intro P hP; refine hP _ _ _ _ ?_; (conv => whnf)
      refine b2 x.1 120 rfl rfl hl31 (by omega) (fun (q : ¬ x.1 = 120) => absurd h1 q) (fun _ => ?_); (conv => whnf)
      refine b1 x.2.2 rfl (by omega) (fun (q : x.2.2 < 0) => by omega) (fun _ => ?_); (conv => whnf)
      refine b2 x.2.2 a.1.length rfl h.2.1 (by omega) (by omega) (fun (q : x.2.2 < a.1.length) => absurd q h2) (fun _ => ?_)
      show P 21 _ _ _
      refine hP _ _ _ _ ?_; (conv => whnf)
      exact ⟨rfl, ⟨.int, rfl, rfl⟩, rfl, rfl⟩
  · rw [if_neg h1]
    by_cases h2 : a.1.length < 20
    · rw [if_pos h2]
      obtain ⟨now', s1, -, hk⟩ := s_addPart (d := d) (snap := snap) (rows := rows) (sv := sv) (buf := buf) (rd := rd) (D := D) (H := H) (R := R) (sc := sc) (hs := hs) (ln := ln) h h2 h1 hl hv hp
      refine ⟨now', s1, Nat.le_of_ble_eq_true rfl, ?_⟩
      refine Cl_go e_X5_doPart (Nat.le_of_ble_eq_true rfl) rfl ?_; intro P hP; refine hP _ _ _ _ ?_; (conv => whnf)
      refine b2 x.1 120 rfl rfl hl31 (by omega) (fun _ => ?_) (fun (q : ¬ ¬ x.1 = 120) => absurd h1 q)
      refine hP _ _ _ _ ?_; (conv => whnf)
      refine b2 a.1.length 20 h.2.1 rfl (by omega) (by omega) (fun _ => ?_) (fun (q : ¬ a.1.length < 20) => absurd h2 q)
      refine hP _ _ _ _ ?_; (conv => whnf)
      refine ⟨Nat.le_of_ble_eq_true rfl, rfl, ?_⟩; (conv => whnf)
      refine Or.inl ⟨_, _, hk, ?_⟩; (conv => whnf)
      exact ⟨rfl, ⟨.int, rfl, rfl⟩, rfl, rfl⟩
    · rw [if_neg h2]
      refine ⟨now, h, Nat.le_of_ble_eq_true rfl, ?_⟩
      refine Cl_go e_X5_doPart (Nat.le_of_ble_eq_true rfl) rfl ?_; intro P hP; refine hP _ _ _ _ ?_; (conv => whnf)
      refine b2 x.1 120 rfl rfl hl31 (by omega) (fun _ => ?_) (fun (q : ¬ ¬ x.1 = 120) => absurd h1 q)
      refine hP _ _ _ _ ?_; (conv => whnf)
      refine b2 a.1.length 20 h.2.1 rfl (by omega) (by omega) (fun (q : a.1.length < 20) => absurd q h2) (fun _ => ?_); (conv => whnf)
      exact ⟨rfl, ⟨.int, rfl, rfl⟩, rfl, rfl⟩
end X5L
