/-! the class: saved states -/
def rowsU (rows : Nat → StR) (i : Nat) (s : StR) : Nat → StR := fun j => if j = i then s else rows j
def cpyS (a b : StR) : StR := (cpy 4 a.1 b.1, cpy 20 a.2.1 b.2.1, cpy 20 a.2.2.1 b.2.2.1, cpy 20 a.2.2.2.1 b.2.2.2.1, b.2.2.2.2)
section SV
variable {d : Nat} {now snap : StR} {rows : Nat → StR} {sv : Nat → Option Nat} {buf : IA} {rd : RS} {D : DC} {H : HC} {R : RC} {sc hs ln : Int32}
set_option maxHeartbeats 4000000 in
theorem s_dropOldest {r : Nat} (hr : r < 5) : Cl (d + 1) kX5_dropOldest [.ref 0] (cM now snap rows (svF r) buf rd D H R sc hs ln) (.inl none) (cM now snap rows (svF ((r + 1) % 5)) buf rd D H R (nI 4) hs ln) := by
  have h5 : r = 0 ∨ r = 1 ∨ r = 2 ∨ r = 3 ∨ r = 4 := by omega
  rcases h5 with rfl | rfl | rfl | rfl | rfl
  all_goals
    refine Cl_go e_X5_dropOldest (Nat.le_of_ble_eq_true rfl) rfl ?_; intro P hP; refine hP _ _ _ _ ?_; (conv => whnf)
    refine ⟨vi (n := 0) rfl (by decide) (by decide), ?_⟩; (conv => whnf)
    refine hP _ _ _ _ ?_; (conv => whnf)
    refine b2 1 5 rfl rfl (by omega) (by omega) (fun (q : 5 ≤ 1) => by omega) (fun _ => ?_); (conv => whnf)
    refine ⟨vi (n := 1) rfl (by decide) (by decide), ?_⟩; (conv => whnf)
    refine ⟨vi (n := 0) (by decide) (by decide) (by decide), ?_⟩; (conv => whnf)
    refine hP _ _ _ _ ?_; (conv => whnf)
    refine b2 2 5 (by decide) rfl (by omega) (by omega) (fun (q : 5 ≤ 2) => by omega) (fun _ => ?_); (conv => whnf)
    refine ⟨vi (n := 2) (by decide) (by decide) (by decide), ?_⟩; (conv => whnf)
    refine ⟨vi (n := 1) (by decide) (by decide) (by decide), ?_⟩; (conv => whnf)
    refine hP _ _ _ _ ?_; (conv => whnf)
    refine b2 3 5 (by decide) rfl (by omega) (by omega) (fun (q : 5 ≤ 3) => by omega) (fun _ => ?_); (conv => whnf)
    refine ⟨vi (n := 3) (by decide) (by decide) (by decide), ?_⟩; (conv => whnf)
    refine ⟨vi (n := 2) (by decide) (by decide) (by decide), ?_⟩; (conv => whnf)
    refine hP _ _ _ _ ?_; (conv => whnf)
    refine b2 4 5 (by decide) rfl (by omega) (by omega) (fun (q : 5 ≤ 4) => by omega) (fun _ => ?_); (conv => whnf)
    refine ⟨vi (n := 4) (by decide) (by decide) (by decide), ?_⟩; (conv => whnf)
    refine ⟨vi (n := 3) (by decide) (by decide) (by decide), ?_⟩; (conv => whnf)
    refine hP _ _ _ _ ?_; (conv => whnf)
    refine b2 5 5 (by decide) rfl (by omega) (by omega) (fun _ => ?_) (fun (q : ¬ 5 ≤ 5) => by omega)
    refine hP _ _ _ _ ?_; (conv => whnf)
    refine ⟨vi (n := 4) (by decide) (by decide) (by decide), ?_⟩; (conv => whnf)
    refine ⟨⟨rfl, rfl⟩, ?_⟩; (conv => whnf)
    refine ⟨rfl, rfl, rfl, ?_⟩
    refine congrArg (fun g => cM now snap rows g buf rd D H R (nI 4) hs ln) ?_
    funext j
    rcases j with _ | _ | _ | _ | _ | j
    all_goals rfl
end SV
