/-! the class: saved states -/
def rowsU (rows : Nat → StR) (i : Nat) (s : StR) : Nat → StR := fun j => if j = i then s else rows j
def cpyS (a b : StR) : StR := (cpy 4 a.1 b.1, cpy 20 a.2.1 b.2.1, cpy 20 a.2.2.1 b.2.2.1, cpy 20 a.2.2.2.1 b.2.2.2.1, b.2.2.2.2)
section SV
variable {d : Nat} {now snap : StR} {rows : Nat → StR} {sv : Nat → Option Nat} {buf : IA} {rd : RS} {D : DC} {H : HC} {R : RC} {sc hs ln : Int32}
set_option maxHeartbeats 4000000 in
theorem s_dropOldest {r : Nat} (hr : r < 5) : Cl (d + 1) kX5_dropOldest [.ref 0] (cM now snap rows (svF r) buf rd D H R sc hs ln) (.inl none) (cM now snap rows (svF ((r + 1) % 5)) buf rd D H R (nI 4) hs ln) := by
  have h5 : r = 0 ∨ r = 1 ∨ r = 2 ∨ r = 3 ∨ r = 4 := by omega
  rcases h5 with rfl | rfl | rfl | rfl | rfl
  all_goals
    refine Cl_go e_X5_dropOldest (Nat.le_of_ble_eq_true rfl) rfl ?_; intro P hP; refine hP _ _ _ _ ?_; (conv => whnf)
    refine ⟨vi (n := 0) rfl (by decide) (by decide), ?_⟩; (conv => whnf)
    refine hP _ _ _ _ ?_; (conv => whnf)
    refine b2 1 5 rfl rfl (by omega) (by omega) (fun (q : 5 ≤ 1) => by omega) (fun _ => ?_); (conv => whnf)
    refine ⟨vi (n := 1) rfl (by decide) (by decide), ?_⟩; (conv => whnf)
    refine ⟨vi (n := 0) (by decide) (by decide) (by decide), ?_⟩; (conv => whnf)
    refine hP _ _ _ _ ?_; (conv => whnf)
    refine b2 2 5 (by decide) rfl (by omega) (by omega) (fun (q : 5 ≤ 2) => by omega) (fun _ => ?_); (conv => whnf)
    refine ⟨vi (n := 2) (by decide) (by decide) (by decide), ?_⟩; (conv => whnf)
    refine ⟨vi (n := 1) (by decide) (by decide) (by decide), ?_⟩; (conv => whnf)
    refine hP _ _ _ _ ?_; (conv => whnf)
    refine b2 3 5 (by decide) rfl (by omega) (by omega) (fun (q : 5 ≤ 3) => by omega) (fun _ => ?_); (conv => whnf)
    refine ⟨vi (n := 3) (by decide) (by decide) (by decide), ?_⟩; (conv => whnf)
    refine ⟨vi (n := 2) (by decide) (by decide) (by decide), ?_⟩; (conv => whnf)
    refine hP _ _ _ _ ?_; (conv => whnf)
    refine b2 4 5 (by decide) rfl (by omega) (by omega) (fun (q : 5 ≤ 4) => by omega) (fun _ => ?_); (conv => whnf)
    refine ⟨vi (n := 4) (by decide) (by decide) (by decide), ?_⟩; (conv => whnf)
    refine ⟨vi (n := 3) (by decide) (by decide) (by decide), ?_⟩; (conv => whnf)
    refine hP _ _ _ _ ?_; (conv => whnf)
    refine b2 5 5 (by decide) rfl (by omega) (by omega) (fun _ => ?_) (fun (q : ¬ 5 ≤ 5) => by omega)
    refine hP _ _ _ _ ?_; (conv => whnf)
    refine ⟨vi (n := 4) (by decide) (by decide) (by decide), ?_⟩; (conv => whnf)
    refine ⟨⟨rfl, rfl⟩, ?_⟩; (conv => whnf)
    refine ⟨rfl, rfl, rfl, ?_⟩
    refine congrArg (fun g => cM now snap rows g buf rd D H R (nI 4) hs ln) ?_
    funext j
    rcases j with _ | _ | _ | _ | _ | j
    all_goals rfl
theorem svF_at {r n : Nat} (hn : n < 5) : svF r (nI n).toNatClampNeg = some (12 + 5 * ((n + r) % 5)) := by
  rw [nI_clamp (by omega)]
  exact if_pos hn
abbrev D0 (D : DC) : DC := (D.1, nI 0, D.2.2)
abbrev H0c (H : HC) : HC := (H.1, nI 0, H.2.2)
abbrev R0c (R : RC) : RC := (R.1, nI 0, R.2.2)
/-- which row a state is saved in, and what stands in the row of rows then -/
def svN (n : Nat) : Nat := if n < 5 then n + 1 else 5
def svR (n r : Nat) : Nat := if n < 5 then r else (r + 1) % 5
def svI (n r : Nat) : Nat := if n < 5 then (n + r) % 5 else r
theorem s_remember {r n : Nat} (hr : r < 5) (hn : n ≤ 5) : Cl (d + 2) kX5_remember [.ref 0] (cM now snap rows (svF r) buf rd D H R (nI n) hs ln) (.inl none)
    (cM now snap (rowsU rows (svI n r) (cpyS (rows (svI n r)) now)) (svF (svR n r)) buf rd (D0 D) (H0c H) (R0c R) (nI (svN n)) hs ln) := by
  refine Cl_go e_X5_remember (Nat.le_of_ble_eq_true rfl) rfl ?_; intro P hP; refine hP _ _ _ _ ?_; (conv => whnf)
  have core : ∀ r n i : Nat, i = (n + r) % 5 → n < 5 → (∀ N, N = cM now snap (rowsU rows i (cpyS (rows i) now)) (svF r) buf rd D H R (nI (n + 1)) hs ln → P 59 [some (.ref 0), none] [] N) →
      P 12 [some (.ref 0), none] [] (cM now snap rows (svF r) buf rd D H R (nI n) hs ln) := by
    intro r n i hi hn k
    have hi5 : i < 5 := by omega
    have hsv := svF_at (r := r) hn
    rw [← hi] at hsv
    refine hP _ _ _ _ ?_; (conv => whnf)
    refine b1 n rfl (by omega) (fun (q : n < 0) => by omega) (fun _ => ?_); (conv => whnf)
    refine b2 n 5 rfl rfl (by omega) (by omega) (fun (q : 5 ≤ n) => by omega) (fun _ => ?_); (conv => whnf)
    refine ⟨vi rfl hn (by decide), ?_⟩
    rw [hsv]
    have h5 : i = 0 ∨ i = 1 ∨ i = 2 ∨ i = 3 ∨ i = 4 := by omega
    clear hi hsv
    rcases h5 with rfl | rfl | rfl | rfl | rfl
    · (conv => whnf)
      refine ⟨Nat.le_of_ble_eq_true rfl, rfl, ?_⟩; (conv => whnf)
      refine Or.inl ⟨_, _, Cl_wr [12, 13, 14, 15, 16, 1, 2, 3, 4, 5] (s_copyFrom (d := d) (dl := (rows 0).1) (kd := (rows 0).2.1) (pl := (rows 0).2.2.1) (cd := (rows 0).2.2.2.1) (cnt := (rows 0).2.2.2.2.1) (prt := (rows 0).2.2.2.2.2.1) (why := (rows 0).2.2.2.2.2.2) (dl2 := now.1) (kd2 := now.2.1) (pl2 := now.2.2.1) (cd2 := now.2.2.2.1) (cnt2 := now.2.2.2.2.1) (prt2 := now.2.2.2.2.2.1) (why2 := now.2.2.2.2.2.2)) 10 rfl rfl ⟨rfl, rfl, rfl, rfl, rfl, rfl, rfl, rfl, rfl, rfl, trivial⟩ (cM now snap (rowsU rows 0 (cpyS (rows 0) now)) (svF r) buf rd D H R (nI n) hs ln) rfl, ?_⟩; (conv => whnf)
      refine ⟨⟨rfl, rfl⟩, ?_⟩; (conv => whnf)
      refine k _ ?_
      rw [← nI_1 n]
      rfl
    · (conv => whnf)
      refine ⟨Nat.le_of_ble_eq_true rfl, rfl, ?_⟩; (conv => whnf)
      refine Or.inl ⟨_, _, Cl_wr [17, 18, 19, 20, 21, 1, 2, 3, 4, 5] (s_copyFrom (d := d) (dl := (rows 1).1) (kd := (rows 1).2.1) (pl := (rows 1).2.2.1) (cd := (rows 1).2.2.2.1) (cnt := (rows 1).2.2.2.2.1) (prt := (rows 1).2.2.2.2.2.1) (why := (rows 1).2.2.2.2.2.2) (dl2 := now.1) (kd2 := now.2.1) (pl2 := now.2.2.1) (cd2 := now.2.2.2.1) (cnt2 := now.2.2.2.2.1) (prt2 := now.2.2.2.2.2.1) (why2 := now.2.2.2.2.2.2)) 10 rfl rfl ⟨rfl, rfl, rfl, rfl, rfl, rfl, rfl, rfl, rfl, rfl, trivial⟩ (cM now snap (rowsU rows 1 (cpyS (rows 1) now)) (svF r) buf rd D H R (nI n) hs ln) rfl, ?_⟩; (conv => whnf)
      refine ⟨⟨rfl, rfl⟩, ?_⟩; (conv => whnf)
      refine k _ ?_
      rw [← nI_1 n]
      rfl
    · (conv => whnf)
      refine ⟨Nat.le_of_ble_eq_true rfl, rfl, ?_⟩; (conv => whnf)
      refine Or.inl ⟨_, _, Cl_wr [22, 23, 24, 25, 26, 1, 2, 3, 4, 5] (s_copyFrom (d := d) (dl := (rows 2).1) (kd := (rows 2).2.1) (pl := (rows 2).2.2.1) (cd := (rows 2).2.2.2.1) (cnt := (rows 2).2.2.2.2.1) (prt := (rows 2).2.2.2.2.2.1) (why := (rows 2).2.2.2.2.2.2) (dl2 := now.1) (kd2 := now.2.1) (pl2 := now.2.2.1) (cd2 := now.2.2.2.1) (cnt2 := now.2.2.2.2.1) (prt2 := now.2.2.2.2.2.1) (why2 := now.2.2.2.2.2.2)) 10 rfl rfl ⟨rfl, rfl, rfl, rfl, rfl, rfl, rfl, rfl, rfl, rfl, trivial⟩ (cM now snap (rowsU rows 2 (cpyS (rows 2) now)) (svF r) buf rd D H R (nI n) hs ln) rfl, ?_⟩; (conv => whnf)
      refine ⟨⟨rfl, rfl⟩, ?_⟩; (conv => whnf)
      refine k _ ?_
      rw [← nI_1 n]
      rfl
    · (conv => whnf)
      refine ⟨Nat.le_of_ble_eq_true rfl, rfl, ?_⟩; (conv => whnf)
      refine Or.inl ⟨_, _, Cl_wr [27, 28, 29, 30, 31, 1, 2, 3, 4, 5] (s_copyFrom (d := d) (dl := (rows 3).1) (kd := (rows 3).2.1) (pl := (rows 3).2.2.1) (cd := (rows 3).2.2.2.1) (cnt := (rows 3).2.2.2.2.1) (prt := (rows 3).2.2.2.2.2.1) (why := (rows 3).2.2.2.2.2.2) (dl2 := now.1) (kd2 := now.2.1) (pl2 := now.2.2.1) (cd2 := now.2.2.2.1) (cnt2 := now.2.2.2.2.1) (prt2 := now.2.2.2.2.2.1) (why2 := now.2.2.2.2.2.2)) 10 rfl rfl ⟨rfl, rfl, rfl, rfl, rfl, rfl, rfl, rfl, rfl, rfl, trivial⟩ (cM now snap (rowsU rows 3 (cpyS (rows 3) now)) (svF r) buf rd D H R (nI n) hs ln) rfl, ?_⟩; (conv => whnf)
      refine ⟨⟨rfl, rfl⟩, ?_⟩; (conv => whnf)
      refine k _ ?_
      rw [← nI_1 n]
      rfl
    · (conv => whnf)
      refine ⟨Nat.le_of_ble_eq_true rfl, rfl, ?_⟩; (conv => whnf)
      refine Or.inl ⟨_, _, Cl_wr [32, 33, 34, 35, 36, 1, 2, 3, 4, 5] (s_copyFrom (d := d) (dl := (rows 4).1) (kd := (rows 4).2.1) (pl := (rows 4).2.2.1) (cd := (rows 4).2.2.2.1) (cnt := (rows 4).2.2.2.2.1) (prt := (rows 4).2.2.2.2.2.1) (why := (rows 4).2.2.2.2.2.2) (dl2 := now.1) (kd2 := now.2.1) (pl2 := now.2.2.1) (cd2 := now.2.2.2.1) (cnt2 := now.2.2.2.2.1) (prt2 := now.2.2.2.2.2.1) (why2 := now.2.2.2.2.2.2)) 10 rfl rfl ⟨rfl, rfl, rfl, rfl, rfl, rfl, rfl, rfl, rfl, rfl, trivial⟩ (cM now snap (rowsU rows 4 (cpyS (rows 4) now)) (svF r) buf rd D H R (nI n) hs ln) rfl, ?_⟩; (conv => whnf)
      refine ⟨⟨rfl, rfl⟩, ?_⟩; (conv => whnf)
      refine k _ ?_
      rw [← nI_1 n]
      rfl
  have fin : ∀ N, N = cM now snap (rowsU rows (svI n r) (cpyS (rows (svI n r)) now)) (svF (svR n r)) buf rd D H R (nI (svN n)) hs ln → P 59 [some (.ref 0), none] [] N := by
    intro N hN
    subst hN
    refine hP _ _ _ _ ?_; (conv => whnf)
    refine ⟨Nat.le_of_ble_eq_true rfl, rfl, ?_⟩; (conv => whnf)
    refine Or.inl ⟨_, _, s_forgetCounts, ?_⟩; (conv => whnf)
    exact ⟨rfl, rfl, rfl, rfl⟩
  refine b2 n 5 rfl rfl (by omega) (by omega) (fun (q : n < 5) => ?_) (fun (q : ¬ n < 5) => ?_)
  · refine core r n (svI n r) (if_pos q) q (fun N hN => fin N ?_)
    rw [hN, show svR n r = r from if_pos q, show svN n = n + 1 from if_pos q]
  · have hn5 : n = 5 := by omega
    subst hn5
    (conv => whnf)
    refine ⟨Nat.le_of_ble_eq_true rfl, rfl, ?_⟩; (conv => whnf)
    refine Or.inl ⟨_, _, s_dropOldest hr, ?_⟩; (conv => whnf)
    show P 12 _ _ _
    refine core ((r + 1) % 5) 4 r (by omega) (by omega) (fun N hN => fin N ?_)
    rw [hN]
    rfl
theorem x_undo : Cl (d + 1) kX5_undo [.ref 0] (cM now snap rows sv buf rd D H R (nI 0) hs ln) (.inr 1) (cM now snap rows sv buf rd D H R (nI 0) hs ln) := by
  refine Cl_go e_X5_undo (Nat.le_of_ble_eq_true rfl) rfl ?_; intro P hP; refine hP _ _ _ _ ?_; (conv => whnf)
  refine b1 0 rfl (by omega) (fun _ => ?_) (fun (q : ¬ 0 ≤ 0) => by omega)
  refine hP _ _ _ _ ?_; (conv => whnf)
  exact ⟨rfl, rfl⟩
theorem s_undoX {r n : Nat} (hn : n < 5) : Cl (d + 2) kX5_undo [.ref 0] (cM now snap rows (svF r) buf rd D H R (nI (n + 1)) hs ln) (.inl (some (.int (nI n))))
    (cM (cpyS now (rows ((n + r) % 5))) snap rows (svF r) buf rd (D0 D) (H0c H) (R0c R) (nI n) hs ln) := by
  have hsv := svF_at (r := r) hn
  have e1 : nI (n + 1) - cst 1 = nI n := show nI (n + 1) - nI 1 = nI n from pk_sub (by omega)
  generalize hi : (n + r) % 5 = i at hsv ⊢
  have hi5 : i < 5 := by omega
  refine Cl_go e_X5_undo (Nat.le_of_ble_eq_true rfl) rfl ?_; intro P hP; refine hP _ _ _ _ ?_; (conv => whnf)
  refine b1 (n + 1) rfl (by omega) (fun (q : n + 1 ≤ 0) => by omega) (fun _ => ?_); (conv => whnf)
  refine b2 (n + 1) 5 rfl rfl (by omega) (by omega) (fun _ => ?_) (fun (q : ¬ n + 1 ≤ 5) => by omega)
  refine hP _ _ _ _ ?_; (conv => whnf)
  refine ⟨⟨rfl, rfl⟩, ?_⟩; (conv => whnf)
  refine ⟨vi e1 hn (by decide), ?_⟩
  dsimp only
  rw [e1, hsv]
  have h5 : i = 0 ∨ i = 1 ∨ i = 2 ∨ i = 3 ∨ i = 4 := by omega
  clear hi hsv
  rcases h5 with rfl | rfl | rfl | rfl | rfl
  · (conv => whnf)
    refine ⟨Nat.le_of_ble_eq_true rfl, rfl, ?_⟩; (conv => whnf)
    refine Or.inl ⟨_, _, Cl_wr [1, 2, 3, 4, 5, 12, 13, 14, 15, 16] (s_copyFrom (d := d) (dl := now.1) (kd := now.2.1) (pl := now.2.2.1) (cd := now.2.2.2.1) (cnt := now.2.2.2.2.1) (prt := now.2.2.2.2.2.1) (why := now.2.2.2.2.2.2) (dl2 := (rows 0).1) (kd2 := (rows 0).2.1) (pl2 := (rows 0).2.2.1) (cd2 := (rows 0).2.2.2.1) (cnt2 := (rows 0).2.2.2.2.1) (prt2 := (rows 0).2.2.2.2.2.1) (why2 := (rows 0).2.2.2.2.2.2)) 10 rfl rfl ⟨rfl, rfl, rfl, rfl, rfl, rfl, rfl, rfl, rfl, rfl, trivial⟩ (cM (cpyS now (rows 0)) snap rows (svF r) buf rd D H R (nI n) hs ln) rfl, ?_⟩; (conv => whnf)
    refine ⟨Nat.le_of_ble_eq_true rfl, rfl, ?_⟩; (conv => whnf)
    refine Or.inl ⟨_, _, s_forgetCounts, ?_⟩; (conv => whnf)
    exact ⟨rfl, ⟨.int, rfl, rfl⟩, rfl, rfl⟩
  · (conv => whnf)
    refine ⟨Nat.le_of_ble_eq_true rfl, rfl, ?_⟩; (conv => whnf)
    refine Or.inl ⟨_, _, Cl_wr [1, 2, 3, 4, 5, 17, 18, 19, 20, 21] (s_copyFrom (d := d) (dl := now.1) (kd := now.2.1) (pl := now.2.2.1) (cd := now.2.2.2.1) (cnt := now.2.2.2.2.1) (prt := now.2.2.2.2.2.1) (why := now.2.2.2.2.2.2) (dl2 := (rows 1).1) (kd2 := (rows 1).2.1) (pl2 := (rows 1).2.2.1) (cd2 := (rows 1).2.2.2.1) (cnt2 := (rows 1).2.2.2.2.1) (prt2 := (rows 1).2.2.2.2.2.1) (why2 := (rows 1).2.2.2.2.2.2)) 10 rfl rfl ⟨rfl, rfl, rfl, rfl, rfl, rfl, rfl, rfl, rfl, rfl, trivial⟩ (cM (cpyS now (rows 1)) snap rows (svF r) buf rd D H R (nI n) hs ln) rfl, ?_⟩; (conv => whnf)
    refine ⟨Nat.le_of_ble_eq_true rfl, rfl, ?_⟩; (conv => whnf)
    refine Or.inl ⟨_, _, s_forgetCounts, ?_⟩; (conv => whnf)
    exact ⟨rfl, ⟨.int, rfl, rfl⟩, rfl, rfl⟩
  · (conv => whnf)
    refine ⟨Nat.le_of_ble_eq_true rfl, rfl, ?_⟩; (conv => whnf)
    refine Or.inl ⟨_, _, Cl_wr [1, 2, 3, 4, 5, 22, 23, 24, 25, 26] (s_copyFrom (d := d) (dl := now.1) (kd := now.2.1) (pl := now.2.2.1) (cd := now.2.2.2.1) (cnt := now.2.2.2.2.1) (prt := now.2.2.2.2.2.1) (why := now.2.2.2.2.2.2) (dl2 := (rows 2).1) (kd2 := (rows 2).2.1) (pl2 := (rows 2).2.2.1) (cd2 := (rows 2).2.2.2.1) (cnt2 := (rows 2).2.2.2.2.1) (prt2 := (rows 2).2.2.2.2.2.1) (why2 := (rows 2).2.2.2.2.2.2)) 10 rfl rfl ⟨rfl, rfl, rfl, rfl, rfl, rfl, rfl, rfl, rfl, rfl, trivial⟩ (cM (cpyS now (rows 2)) snap rows (svF r) buf rd D H R (nI n) hs ln) rfl, ?_⟩; (conv => whnf)
    refine ⟨Nat.le_of_ble_eq_true rfl, rfl, ?_⟩; (conv => whnf)
    refine Or.inl ⟨_, _, s_forgetCounts, ?_⟩; (conv => whnf)
    exact ⟨rfl, ⟨.int, rfl, rfl⟩, rfl, rfl⟩
  · (conv => whnf)
    refine ⟨Nat.le_of_ble_eq_true rfl, rfl, ?_⟩; (conv => whnf)
    refine Or.inl ⟨_, _, Cl_wr [1, 2, 3, 4, 5, 27, 28, 29, 30, 31] (s_copyFrom (d := d) (dl := now.1) (kd := now.2.1) (pl := now.2.2.1) (cd := now.2.2.2.1) (cnt := now.2.2.2.2.1) (prt := now.2.2.2.2.2.1) (why := now.2.2.2.2.2.2) (dl2 := (rows 3).1) (kd2 := (rows 3).2.1) (pl2 := (rows 3).2.2.1) (cd2 := (rows 3).2.2.2.1) (cnt2 := (rows 3).2.2.2.2.1) (prt2 := (rows 3).2.2.2.2.2.1) (why2 := (rows 3).2.2.2.2.2.2)) 10 rfl rfl ⟨rfl, rfl, rfl, rfl, rfl, rfl, rfl, rfl, rfl, rfl, trivial⟩ (cM (cpyS now (rows 3)) snap rows (svF r) buf rd D H R (nI n) hs ln) rfl, ?_⟩; (conv => whnf)
    refine ⟨Nat.le_of_ble_eq_true rfl, rfl, ?_⟩; (conv => whnf)
    refine Or.inl ⟨_, _, s_forgetCounts, ?_⟩; (conv => whnf)
    exact ⟨rfl, ⟨.int, rfl, rfl⟩, rfl, rfl⟩
  · (conv => whnf)
    refine ⟨Nat.le_of_ble_eq_true rfl, rfl, ?_⟩; (conv => whnf)
    refine Or.inl ⟨_, _, Cl_wr [1, 2, 3, 4, 5, 32, 33, 34, 35, 36] (s_copyFrom (d := d) (dl := now.1) (kd := now.2.1) (pl := now.2.2.1) (cd := now.2.2.2.1) (cnt := now.2.2.2.2.1) (prt := now.2.2.2.2.2.1) (why := now.2.2.2.2.2.2) (dl2 := (rows 4).1) (kd2 := (rows 4).2.1) (pl2 := (rows 4).2.2.1) (cd2 := (rows 4).2.2.2.1) (cnt2 := (rows 4).2.2.2.2.1) (prt2 := (rows 4).2.2.2.2.2.1) (why2 := (rows 4).2.2.2.2.2.2)) 10 rfl rfl ⟨rfl, rfl, rfl, rfl, rfl, rfl, rfl, rfl, rfl, rfl, trivial⟩ (cM (cpyS now (rows 4)) snap rows (svF r) buf rd D H R (nI n) hs ln) rfl, ?_⟩; (conv => whnf)
    refine ⟨Nat.le_of_ble_eq_true rfl, rfl, ?_⟩; (conv => whnf)
    refine Or.inl ⟨_, _, s_forgetCounts, ?_⟩; (conv => whnf)
    exact ⟨rfl, ⟨.int, rfl, rfl⟩, rfl, rfl⟩
end SV
