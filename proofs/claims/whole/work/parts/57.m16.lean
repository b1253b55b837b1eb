/-! the reference: a look; the relation to the parlour -/
def seeA (a : SA) (p t : Nat) : Int32 × rl_C := bif Nat.beq (hq a.2.1 p &&& dq_mask t) 0 then (cst (-1), (3, p, dq_mask t)) else (nI (lowC (hq a.2.1 p &&& dq_mask t)), (0, p, 2 ^ lowC (hq a.2.1 p &&& dq_mask t)))
section M16
variable {d : Nat} {vT vM vS vL vP vW vR vF vB : Int32} {aS aH aN aX aR aD aW aI aQ aL : IA} {A : AS} {a : SA}
theorem m_looksAt {p t : Nat} (hs : stM aS a) (hn : a.1.length < 20) (hp : p < 3) (ht : t < 27) : Cl (d + 2) kX6_looksAt [.ref 0, .int (nI p), .int (nI (dq_mask t))] ((rfM vT aS aH vM aN vS aX vL vP vW aR vR aD vF aW aI aQ aL vB)) (rV (seeA a p t).1)
    ((rfM vT (adF aS a.1.length (nI (seeA a p t).2.1) (nI p) (nI (seeA a p t).2.2.2)) aH vM aN vS aX vL vP vW aR vR (hdM a.2.1 9 aD) vF aW aI aQ aL vB)) := by
  have hl := Nat.lt_of_le_of_lt (Nat.and_le_left (n := hq a.2.1 p) (m := dq_mask t)) (hq_lt a.2.1 p)
  have hv := hdM_v a.2.1 aD p (by omega)
  have eh : hdM a.2.1 9 aD (nI p).toNatClampNeg &&& nI (dq_mask t) = nI (hq a.2.1 p &&& dq_mask t) := by rw [nI_clamp (by omega), hv.1, nI_and]
  have hsee : seeA a p t = bif Nat.beq (hq a.2.1 p &&& dq_mask t) 0 then (cst (-1), (3, p, dq_mask t)) else (nI (lowC (hq a.2.1 p &&& dq_mask t)), (0, p, 2 ^ lowC (hq a.2.1 p &&& dq_mask t))) := rfl
  generalize seeA a p t = Z at hsee
  generalize hq a.2.1 p &&& dq_mask t = h at *
  refine Cl_go e_X6_looksAt (Nat.le_of_ble_eq_true rfl) rfl ?_; intro P hP; refine hP _ _ _ _ ?_; (conv => whnf)
  refine ⟨Nat.le_of_ble_eq_true rfl, rfl, ?_⟩; (conv => whnf)
  refine Or.inl ⟨_, _, m_looksAtMaster (d := d) hs.2.1, ?_⟩; (conv => whnf)
  refine ⟨vi rfl (show p < 4 by omega) (by decide), ?_⟩; (conv => whnf)
  show P 16 [some (.ref 0), some (.int (nI p)), some (.int (nI (dq_mask t))), some (.int (hdM a.2.1 9 aD (nI p).toNatClampNeg &&& nI (dq_mask t))), some (.int (nI 0))] [] ((rfM vT aS aH vM aN vS aX vL vP vW aR vR (hdM a.2.1 9 aD) vF aW aI aQ aL vB))
  rw [eh]
  by_cases h0 : h = 0
  · rw [nbt h0] at hsee
    have hsee : Z = (cst (-1), (3, p, dq_mask t)) := hsee
    subst hsee
    subst h0
    have f58 : P 58 [none, none, none, some (.int (nI 0)), some (.int (nI 0))] [.int (nI (dq_mask t)), .int (nI p), .int (nI 3), .ref 0] ((rfM vT aS aH vM aN vS aX vL vP vW aR vR (hdM a.2.1 9 aD) vF aW aI aQ aL vB)) := by
      refine hP _ _ _ _ ?_; (conv => whnf)
      refine ⟨Nat.le_of_ble_eq_true rfl, rfl, ?_⟩; (conv => whnf)
      refine Or.inl ⟨_, _, m_adds (d := d) (vT := vT) (aS := aS) (aH := aH) (vM := vM) (aN := aN) (vS := vS) (aX := aX) (vL := vL) (vP := vP) (vW := vW) (aR := aR) (vR := vR) (aD := hdM a.2.1 9 aD) (vF := vF) (aW := aW) (aI := aI) (aQ := aQ) (aL := aL) (vB := vB) (n := a.1.length) (K := nI 3) (p := nI p) (c := nI (dq_mask t)) hn hs.1.1, ?_⟩; (conv => whnf)
      refine b1 0 rfl (by omega) (fun (q : ¬ 0 = 0) => by omega) (fun _ => ?_); (conv => whnf)
      refine hP _ _ _ _ ?_; (conv => whnf)
      exact ⟨rfl, ⟨.int, rfl, rfl⟩, rfl, rfl⟩
    have f45 : P 45 [none, some (.int (nI p)), some (.int (nI (dq_mask t))), some (.int (nI 0)), some (.int (nI 0))] [.int (nI 3), .ref 0] ((rfM vT aS aH vM aN vS aX vL vP vW aR vR (hdM a.2.1 9 aD) vF aW aI aQ aL vB)) := by
      refine hP _ _ _ _ ?_; (conv => whnf)
      refine b1 0 rfl (by omega) (fun (q : ¬ 0 = 0) => by omega) (fun _ => ?_); (conv => whnf)
      exact f58
    refine hP _ _ _ _ ?_; (conv => whnf)
    refine b1 0 rfl (by omega) (fun _ => ?_) (fun (q : ¬ 0 = 0) => by omega)
    refine hP _ _ _ _ ?_; (conv => whnf)
    refine b1 0 rfl (by omega) (fun (q : ¬ 0 = 0) => by omega) (fun _ => ?_); (conv => whnf)
    exact f45
  · rw [nbf h0] at hsee
    have hsee : Z = (nI (lowC h), (0, p, 2 ^ lowC h)) := hsee
    subst hsee
    obtain ⟨l1, l2, l3⟩ := lowC_ok hl h0
    have e58 : nI 1 <<< (nI (lowC h) &&& 31) = nI (2 ^ lowC h) := sh_1 (by omega)
    have f72 : P 72 [none, none, none, none, none] [.int (nI (lowC h))] ((rfM vT (adF aS a.1.length (nI 0) (nI p) (nI (2 ^ lowC h))) aH vM aN vS aX vL vP vW aR vR (hdM a.2.1 9 aD) vF aW aI aQ aL vB)) := by
      refine hP _ _ _ _ ?_; (conv => whnf)
      exact ⟨rfl, ⟨.int, rfl, rfl⟩, rfl, rfl⟩
    have f58 : P 58 [none, none, none, some (.int (nI h)), some (.int (nI (lowC h)))] [.int (nI (2 ^ lowC h)), .int (nI p), .int (nI 0), .ref 0] ((rfM vT aS aH vM aN vS aX vL vP vW aR vR (hdM a.2.1 9 aD) vF aW aI aQ aL vB)) := by
      refine hP _ _ _ _ ?_; (conv => whnf)
      refine ⟨Nat.le_of_ble_eq_true rfl, rfl, ?_⟩; (conv => whnf)
      refine Or.inl ⟨_, _, m_adds (d := d) (vT := vT) (aS := aS) (aH := aH) (vM := vM) (aN := aN) (vS := vS) (aX := aX) (vL := vL) (vP := vP) (vW := vW) (aR := aR) (vR := vR) (aD := hdM a.2.1 9 aD) (vF := vF) (aW := aW) (aI := aI) (aQ := aQ) (aL := aL) (vB := vB) (n := a.1.length) (K := nI 0) (p := nI p) (c := nI (2 ^ lowC h)) hn hs.1.1, ?_⟩; (conv => whnf)
      refine b1 h rfl (by omega) (fun _ => ?_) (fun (q : ¬ ¬ h = 0) => absurd h0 q)
      refine hP _ _ _ _ ?_; (conv => whnf)
      exact f72
    rw [← e58] at f58
    have f45 : P 45 [none, some (.int (nI p)), some (.int (nI (dq_mask t))), some (.int (nI h)), some (.int (nI (lowC h)))] [.int (nI 0), .ref 0] ((rfM vT aS aH vM aN vS aX vL vP vW aR vR (hdM a.2.1 9 aD) vF aW aI aQ aL vB)) := by
      refine hP _ _ _ _ ?_; (conv => whnf)
      refine b1 h rfl (by omega) (fun _ => ?_) (fun (q : ¬ ¬ h = 0) => absurd h0 q)
      refine hP _ _ _ _ ?_; (conv => whnf)
      exact f58
    have f35 : P 35 [some (.ref 0), some (.int (nI p)), some (.int (nI (dq_mask t))), some (.int (nI h)), some (.int (nI (lowC h)))] [] ((rfM vT aS aH vM aN vS aX vL vP vW aR vR (hdM a.2.1 9 aD) vF aW aI aQ aL vB)) := by
      refine hP _ _ _ _ ?_; (conv => whnf)
      refine b1 h rfl (by omega) (fun _ => ?_) (fun (q : ¬ ¬ h = 0) => absurd h0 q)
      refine hP _ _ _ _ ?_; (conv => whnf)
      exact f45
    have lp : ∀ (n i : Nat) (x : Int32), i + n = lowC h → x = nI i → P 16 [some (.ref 0), some (.int (nI p)), some (.int (nI (dq_mask t))), some (.int (nI h)), some (.int x)] [] ((rfM vT aS aH vM aN vS aX vL vP vW aR vR (hdM a.2.1 9 aD) vF aW aI aQ aL vB)) := by
      intro n
      induction n with
      | zero =>
        intro i x hi hx
        have hi : i = lowC h := hi
        subst hx
        have e : (nI h >>> (nI i &&& 31)) &&& nI 1 = nI 1 := by rw [shr_bit hl (by omega), hi, l2]; rfl
        refine hP _ _ _ _ ?_; (conv => whnf)
        refine b1 h rfl (by omega) (fun (q : h = 0) => absurd q h0) (fun _ => ?_); (conv => whnf)
        refine b1 1 e (by omega) (fun _ => ?_) (fun (q : ¬ ¬ 1 = 0) => by omega)
        rw [hi]
        exact f35
      | succ n ih =>
        intro i x hi hx
        subst hx
        have e : (nI h >>> (nI i &&& 31)) &&& nI 1 = nI 0 := by rw [shr_bit hl (by omega), l3 i (by omega)]; rfl
        refine hP _ _ _ _ ?_; (conv => whnf)
        refine b1 h rfl (by omega) (fun (q : h = 0) => absurd q h0) (fun _ => ?_); (conv => whnf)
        refine b1 0 e (by omega) (fun (q : ¬ 0 = 0) => by omega) (fun _ => ?_); (conv => whnf)
        exact ih (i + 1) _ (by omega) (nI_1 i)
    exact lp (lowC h) 0 _ (Nat.zero_add _) rfl
end M16
/-- the reference's cells hold the parlour A -/
def rfR (aS aH : IA) (vM : Int32) (aN : IA) (vS : Int32) (aX : IA) (vL : Int32) (A : AS) : Prop :=
  stM aS A.1 ∧ hiR aH A.2.2.1 ∧ vM = nI A.2.2.1.length ∧ (∀ a, A.2.1 = some a → stM aN a) ∧ vS = bI A.2.1.isSome ∧ txR aX A.2.2.2 ∧ vL = nI A.2.2.2.length
def RM (t : Int32) (M : Mem) (A : AS) : Prop := ∃ (aS aH : IA) (vM : Int32) (aN : IA) (vS : Int32) (aX : IA) (vL vP vW : Int32) (aR : IA) (vR : Int32) (aD : IA) (vF : Int32) (aW aI aQ aL : IA) (vB : Int32), M = rfM t aS aH vM aN vS aX vL vP vW aR vR aD vF aW aI aQ aL vB ∧ rfR aS aH vM aN vS aX vL A
/-- the reference's answer against the right one -/
def agR (tc : Nat → Nat) (r : Res) (v : Value) (t : Int32) : Prop := match r with
  | .inl (some w) => v = w ∧ t = nI 0
  | .inl none => False
  | .inr e => t = nI (tc e)
/-- what each call of the reference does -/
def RO (tc : Nat → Nat) (k : Nat) (d : Nat) (M : Mem) (av : List Value) (Z : Res × AS) : Prop := ∃ (v : Value) (t : Int32) (M' : Mem), Cl d k (.ref 0 :: av) M (.inl (some v)) M' ∧ RM t M' Z.2 ∧ agR tc Z.1 v t
