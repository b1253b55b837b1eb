/-! the counter of deals: what it tells -/
abbrev IA : Type := Nat → Int32
def mX0 (tot fr : Int32) (ca ie wh hb so pc : IA) : Mem := [eO 0 [.int tot, .int fr, .ref 1, .ref 2, .ref 3, .ref 4, .ref 5, .ref 6], eI 36 ca, eI 27 ie, eI 1536 wh, eI 20 hb, eI 4 so, eI 9 pc]
section X0
variable {d : Nat} {tot fr : Int32} {ca ie wh hb so pc : IA}
theorem s_withCardAt {c p : Nat} (hc : c < 9) (hp : p < 4) : Cl (d + 1) kX0_withCardAt [.ref 0, .int (nI c), .int (nI p)] (mX0 tot fr ca ie wh hb so pc) (.inl (some (.int (ca (4 * c + p))))) (mX0 tot fr ca ie wh hb so pc) := by
  refine Cl_go e_X0_withCardAt (Nat.le_of_ble_eq_true rfl) rfl ?_; intro P hP; refine hP _ _ _ _ ?_; conv => whnf
  refine b1 c rfl (by omega) (fun (h : c < 0) => by omega) (fun _ => ?_); conv => whnf
  refine b2 c 9 rfl rfl (by omega) (by omega) (fun (h : 9 ≤ c) => by omega) (fun _ => ?_); conv => whnf
  refine b1 p rfl (by omega) (fun (h : p < 0) => by omega) (fun _ => ?_); conv => whnf
  refine b2 p 4 rfl rfl (by omega) (by omega) (fun (h : 4 ≤ p) => by omega) (fun _ => ?_); conv => whnf
  refine hP _ _ _ _ ?_; conv => whnf
  refine b1 1 rfl (by omega) (fun (h : 1 = 0) => by omega) (fun _ => ?_); conv => whnf
  have e : nI c * cst 4 + nI p = nI (4 * c + p) := by rw [show cst 4 = nI 4 from rfl, pk_mul, nI_add, Nat.mul_comm]
  refine ⟨vi e (show 4 * c + p < 36 by omega) (by decide), ?_⟩; conv => whnf
  refine hP _ _ _ _ ?_; conv => whnf
  exact ⟨rfl, ⟨.int, rfl, rfl⟩, rI (congrArg ca (pk_cl _ e (by omega))), rfl⟩
theorem s_placesLeft {V : Nat → Nat} (hV : ∀ j, j < 36 → ca j = nI (V j) ∧ V j < 2 ^ 31) : Cl (d + 1) kX0_placesLeft [.ref 0] (mX0 tot fr ca ie wh hb so pc) (.inl (some (.int (nI (cntN (fun j => Nat.blt 0 (V j)) 36))))) (mX0 tot fr ca ie wh hb so pc) := by
  refine Cl_go e_X0_placesLeft (Nat.le_of_ble_eq_true rfl) rfl ?_; intro P hP; refine hP _ _ _ _ ?_; conv => whnf
  have lp : ∀ (n i : Nat) (a x : Int32), i + n = 36 → a = nI (cntN (fun j => Nat.blt 0 (V j)) i) → x = nI i → P 4 [some (.ref 0), some (.int a), some (.int x)] [] (mX0 tot fr ca ie wh hb so pc) := by
    intro n
    induction n with
    | zero =>
      intro i a x hi ha hx
      refine hP _ _ _ _ ?_; conv => whnf
      refine b2 i 36 hx rfl (by omega) (by omega) (fun _ => ?_) (fun (h : ¬ 36 ≤ i) => by omega)
      refine hP _ _ _ _ ?_; conv => whnf
      have hi : i = 36 := hi
      exact ⟨rfl, ⟨.int, rfl, rfl⟩, rI (by rw [ha, hi]), rfl⟩
    | succ n ih =>
      intro i a x hi ha hx
      refine hP _ _ _ _ ?_; conv => whnf
      refine b2 i 36 hx rfl (by omega) (by omega) (fun (h : 36 ≤ i) => by omega) (fun _ => ?_); conv => whnf
      refine ⟨vi hx (show i < 36 by omega) (by decide), ?_⟩; conv => whnf
      have hq : ca (x.toNatClampNeg) = nI (V i) := by rw [hx, nI_clamp (by omega)]; exact (hV i (by omega)).1
      refine b1 (V i) hq (hV i (by omega)).2 (fun (h : V i ≤ 0) => ?_) (fun (h : ¬ V i ≤ 0) => ?_)
      · refine hP _ _ _ _ ?_; conv => whnf
        refine hP _ _ _ _ ?_; conv => whnf
        refine ih (i + 1) _ _ (by omega) ?_ ?_
        · rw [ha]; exact cntN_f (by show Nat.blt 0 (V i) = false; rw [Nat.le_zero.mp h]; rfl)
        · rw [hx]; exact nI_1 i
      · conv => whnf
        refine hP _ _ _ _ ?_; conv => whnf
        refine ih (i + 1) _ _ (by omega) ?_ ?_
        · rw [ha]; exact cntN_t (Nat.ble_eq_true_of_le (Nat.lt_of_not_le h))
        · rw [hx]; exact nI_1 i
  exact lp 36 0 _ _ rfl rfl rfl
end X0
