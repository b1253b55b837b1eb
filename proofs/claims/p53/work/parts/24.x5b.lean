/-! the class: its cells (49), its counts, its saved states -/
theorem in_out2 (x : Int32) (a : Nat) {b : Nat} (hb : b < 2 ^ 31) (hab : a ≤ b) : (x < nI a ∨ nI b ≤ x) ∨ ∃ j : Nat, (a ≤ j ∧ j < b) ∧ x = nI j := by
  rcases pk_ix x hb with h | h | ⟨j, h1, h2⟩
  · left; left
    have h0 : (0 : Int32) ≤ nI a := nI_pos' (by omega)
    exact Int32.lt_of_lt_of_le h h0
  · exact Or.inl (Or.inr h)
  · by_cases hj : j < a
    · left; left
      rw [h2]; exact nI_lt hj (by omega)
    · exact Or.inr ⟨j, ⟨by omega, h1⟩, h2⟩
theorem s_checkCards {d s t r : Nat} (hs : s < 3) (ht : 3 ≤ t ∧ t < 6) (hr : 6 ≤ r ∧ r < 9) : Cl (d + 1) kX5_checkCards [.int (nI s), .int (nI t), .int (nI r)] [] (.inl none) [] := by
  refine Cl_go e_X5_checkCards (Nat.le_of_ble_eq_true rfl) rfl ?_; intro P hP; refine hP _ _ _ _ ?_; (conv => whnf)
  refine b1 s rfl (by omega) (fun (q : s < 0) => by omega) (fun _ => ?_); (conv => whnf)
  refine b2 s 3 rfl rfl (by omega) (by omega) (fun _ => ?_) (fun (q : ¬ s < 3) => by omega)
  refine hP _ _ _ _ ?_; (conv => whnf)
  refine b2 t 3 rfl rfl (by omega) (by omega) (fun (q : t < 3) => by omega) (fun _ => ?_); (conv => whnf)
  refine b2 t 6 rfl rfl (by omega) (by omega) (fun _ => ?_) (fun (q : ¬ t < 6) => by omega)
  refine hP _ _ _ _ ?_; (conv => whnf)
  refine b2 r 6 rfl rfl (by omega) (by omega) (fun (q : r < 6) => by omega) (fun _ => ?_); (conv => whnf)
  refine b2 r 9 rfl rfl (by omega) (by omega) (fun _ => ?_) (fun (q : ¬ r < 9) => by omega)
  refine hP _ _ _ _ ?_; (conv => whnf)
  exact ⟨rfl, rfl, rfl, rfl⟩
/-- the three cards are not one of each kind -/
def badC (s t r : Int32) : Prop := out s 3 ∨ (t < nI 3 ∨ nI 6 ≤ t) ∨ (r < nI 6 ∨ nI 9 ≤ r)
theorem badC_or (s t r : Int32) : badC s t r ∨ ∃ a b c : Nat, a < 3 ∧ (3 ≤ b ∧ b < 6) ∧ (6 ≤ c ∧ c < 9) ∧ s = nI a ∧ t = nI b ∧ r = nI c := by
  rcases in_out s (n := 3) (by decide) with h | ⟨a, ha, h1⟩
  · exact Or.inl (Or.inl h)
  · rcases in_out2 t 3 (b := 6) (by decide) (by decide) with h | ⟨b, hb, h2⟩
    · exact Or.inl (Or.inr (Or.inl h))
    · rcases in_out2 r 6 (b := 9) (by decide) (by decide) with h | ⟨c, hc, h3⟩
      · exact Or.inl (Or.inr (Or.inr h))
      · exact Or.inr ⟨a, b, c, ha, hb, hc, h1, h2, h3⟩
theorem x_checkCards {d : Nat} {s t r : Int32} (h : badC s t r) : Cl (d + 1) kX5_checkCards [.int s, .int t, .int r] [] (.inr 0) [] := by
  refine Cl_go e_X5_checkCards (Nat.le_of_ble_eq_true rfl) rfl ?_; intro P hP; refine hP _ _ _ _ ?_; (conv => whnf)
  have f9 : P 9 [none, none, none] [] [] := by
    refine hP _ _ _ _ ?_; (conv => whnf)
    exact ⟨rfl, rfl⟩
  have f31 : P 31 [none, none, none] [] [] := by
    refine hP _ _ _ _ ?_; (conv => whnf)
    exact ⟨rfl, rfl⟩
  have f54 : P 54 [none, none, none] [] [] := by
    refine hP _ _ _ _ ?_; (conv => whnf)
    exact ⟨rfl, rfl⟩
  have f9b : P 9 [none, some (.int t), some (.int r)] [] [] := by
    refine hP _ _ _ _ ?_; (conv => whnf)
    exact ⟨rfl, rfl⟩
  rcases in_out s (n := 3) (by decide) with hs | ⟨a, ha, hs⟩
  · refine out_lt hs (fun _ => ?_) (fun _ q => ?_)
    · exact f9
    · (conv => whnf)
      refine ⟨fun z => absurd z (Int32.not_lt.mpr q), fun _ => ?_⟩
      show P 9 _ _ _
      exact f9
  · subst hs
    have h := Or.resolve_left h (fun z => by
      rcases z with z | z
      · exact nI_pos (show a < 2 ^ 31 by omega) z
      · exact nI_ge ha (by decide) z)
    refine b1 a rfl (by omega) (fun (q : a < 0) => by omega) (fun _ => ?_); (conv => whnf)
    refine b2 a 3 rfl rfl (by omega) (by omega) (fun _ => ?_) (fun (q : ¬ a < 3) => by omega)
    refine hP _ _ _ _ ?_; (conv => whnf)
    rcases in_out2 t 3 (b := 6) (by decide) (by decide) with (ht | ht) | ⟨b, hb, ht⟩
    · exact ⟨fun _ => f31, fun z => absurd ht z⟩
    · refine ⟨fun _ => f31, fun _ => ?_⟩; (conv => whnf)
      refine ⟨fun z => absurd z (Int32.not_lt.mpr ht), fun _ => ?_⟩
      show P 31 _ _ _
      refine hP _ _ _ _ ?_; (conv => whnf)
      exact ⟨rfl, rfl⟩
    · subst ht
      have h := Or.resolve_left h (fun z => by
        rcases z with z | z
        · exact nI_nlt hb.1 (by omega) z
        · exact nI_ge hb.2 (by decide) z)
      refine b2 b 3 rfl rfl (by omega) (by omega) (fun (q : b < 3) => by omega) (fun _ => ?_); (conv => whnf)
      refine b2 b 6 rfl rfl (by omega) (by omega) (fun _ => ?_) (fun (q : ¬ b < 6) => by omega)
      refine hP _ _ _ _ ?_; (conv => whnf)
      rcases h with hr | hr
      · exact ⟨fun _ => f54, fun z => absurd hr z⟩
      · refine ⟨fun _ => f54, fun _ => ?_⟩; (conv => whnf)
        refine ⟨fun z => absurd z (Int32.not_lt.mpr hr), fun _ => ?_⟩
        show P 54 _ _ _
        refine hP _ _ _ _ ?_; (conv => whnf)
        exact ⟨rfl, rfl⟩
theorem s_checkSome {d T : Nat} (h0 : 0 < T) (hT : T < 2 ^ 31) : Cl (d + 1) kX5_checkSome [.int (nI T)] [] (.inl none) [] := by
  refine Cl_go e_X5_checkSome (Nat.le_of_ble_eq_true rfl) rfl ?_; intro P hP; refine hP _ _ _ _ ?_; (conv => whnf)
  refine b1 T rfl (by omega) (fun _ => ?_) (fun (q : ¬ 0 < T) => by omega)
  refine hP _ _ _ _ ?_; (conv => whnf)
  exact ⟨rfl, rfl, rfl, rfl⟩
theorem x_checkSome {d : Nat} : Cl (d + 1) kX5_checkSome [.int (nI 0)] [] (.inr 1) [] := by
  refine Cl_go e_X5_checkSome (Nat.le_of_ble_eq_true rfl) rfl ?_; intro P hP; refine hP _ _ _ _ ?_; (conv => whnf)
  refine b1 0 rfl (by omega) (fun (q : 0 < 0) => by omega) (fun _ => ?_); (conv => whnf)
  exact ⟨rfl, rfl⟩
abbrev StR : Type := IA × (IA × (IA × (IA × (Int32 × (Int32 × Int32)))))
abbrev DC : Type := CT × (Int32 × IA)
abbrev HC : Type := Int32 × (Int32 × IA)
abbrev RC : Type := Int32 × (Int32 × NA)
/-- the row of saved states, r of them used up -/
def svF (r : Nat) : Nat → Option Nat := fun j => if j < 5 then some (12 + 5 * ((j + r) % 5)) else none
def cM (now snap : StR) (rows : Nat → StR) (sv : Nat → Option Nat) (buf : IA) (rd : RS) (D : DC) (H : HC) (R : RC) (sc hs ln : Int32) : Mem :=
  [eO 5 [.ref 1, .ref 6, .ref 11, .ref 37, .ref 38, .ref 39, .ref 45, .ref 47, .int sc, .int hs, .int ln],
   eO 3 [.ref 2, .ref 3, .ref 4, .ref 5, .int now.2.2.2.2.1, .int now.2.2.2.2.2.1, .int now.2.2.2.2.2.2], eI 4 now.1, eI 20 now.2.1, eI 20 now.2.2.1, eI 20 now.2.2.2.1,
   eO 3 [.ref 7, .ref 8, .ref 9, .ref 10, .int snap.2.2.2.2.1, .int snap.2.2.2.2.2.1, .int snap.2.2.2.2.2.2], eI 4 snap.1, eI 20 snap.2.1, eI 20 snap.2.2.1, eI 20 snap.2.2.2.1,
   eR 5 sv,
   eO 3 [.ref 13, .ref 14, .ref 15, .ref 16, .int (rows 0).2.2.2.2.1, .int (rows 0).2.2.2.2.2.1, .int (rows 0).2.2.2.2.2.2], eI 4 (rows 0).1, eI 20 (rows 0).2.1, eI 20 (rows 0).2.2.1, eI 20 (rows 0).2.2.2.1,
   eO 3 [.ref 18, .ref 19, .ref 20, .ref 21, .int (rows 1).2.2.2.2.1, .int (rows 1).2.2.2.2.2.1, .int (rows 1).2.2.2.2.2.2], eI 4 (rows 1).1, eI 20 (rows 1).2.1, eI 20 (rows 1).2.2.1, eI 20 (rows 1).2.2.2.1,
   eO 3 [.ref 23, .ref 24, .ref 25, .ref 26, .int (rows 2).2.2.2.2.1, .int (rows 2).2.2.2.2.2.1, .int (rows 2).2.2.2.2.2.2], eI 4 (rows 2).1, eI 20 (rows 2).2.1, eI 20 (rows 2).2.2.1, eI 20 (rows 2).2.2.2.1,
   eO 3 [.ref 28, .ref 29, .ref 30, .ref 31, .int (rows 3).2.2.2.2.1, .int (rows 3).2.2.2.2.2.1, .int (rows 3).2.2.2.2.2.2], eI 4 (rows 3).1, eI 20 (rows 3).2.1, eI 20 (rows 3).2.2.1, eI 20 (rows 3).2.2.2.1,
   eO 3 [.ref 33, .ref 34, .ref 35, .ref 36, .int (rows 4).2.2.2.2.1, .int (rows 4).2.2.2.2.2.1, .int (rows 4).2.2.2.2.2.2], eI 4 (rows 4).1, eI 20 (rows 4).2.1, eI 20 (rows 4).2.2.1, eI 20 (rows 4).2.2.2.1,
   eI 60 buf,
   eO 4 [.int (nI rd.1), .int (nI rd.2.1), .int (nI rd.2.2.1), .int (nI rd.2.2.2)],
   eO 0 [.int (nI D.1.1), .int D.2.1, .ref 40, .ref 41, .ref 42, .ref 43, .ref 44], eI 36 (nA D.1.2.1), eI 27 (nA D.1.2.2.1), eI 1536 (nA D.1.2.2.2.1), eI 20 (nA D.1.2.2.2.2), eI 4 D.2.2,
   eO 1 [.int H.1, .int H.2.1, .ref 46], eI 4 H.2.2,
   eO 2 [.int R.1, .int R.2.1, .ref 48], eI 9 (nA R.2.2)]
section CM
variable {d : Nat} {now snap : StR} {rows : Nat → StR} {sv : Nat → Option Nat} {buf : IA} {rd : RS} {D : DC} {H : HC} {R : RC} {sc hs ln : Int32}
theorem s_forgetCounts : Cl (d + 1) kX5_forgetCounts [.ref 0] (cM now snap rows sv buf rd D H R sc hs ln) (.inl none) (cM now snap rows sv buf rd (D.1, nI 0, D.2.2) (H.1, nI 0, H.2.2) (R.1, nI 0, R.2.2) sc hs ln) := by
  refine Cl_go e_X5_forgetCounts (Nat.le_of_ble_eq_true rfl) rfl ?_; intro P hP; refine hP _ _ _ _ ?_; (conv => whnf)
  refine ⟨⟨rfl, rfl⟩, ?_⟩; (conv => whnf)
  refine ⟨⟨rfl, rfl⟩, ?_⟩; (conv => whnf)
  refine ⟨⟨rfl, rfl⟩, ?_⟩; (conv => whnf)
  exact ⟨rfl, rfl, rfl, rfl⟩
/-- what a state of the class holds: its clues, in rows -/
def stC (s : StR) (cl : List rl_C) : Prop := clM cl s.2.1 s.2.2.1 s.2.2.2.1 ∧ s.2.2.2.2.1 = nI cl.length ∧ cl.length ≤ 20 ∧ ∀ x ∈ cl, rl_cok x
theorem stC_ok {s : StR} {cl : List rl_C} (h : stC s cl) : okC cl := fun x hx => ⟨(h.2.2.2 x hx).1, (h.2.2.2 x hx).2.1, (h.2.2.2 x hx).2.2.1⟩
def dcV (cl : List rl_C) (D : DC) : Prop := D.2.1 = nI 0 ∨ (D.2.1 = nI 1 ∧ dcOK cl D.1)
def hcV (cl : List rl_C) (H : HC) : Prop := H.2.1 = nI 0 ∨ (H.2.1 = nI 1 ∧ H.1 = nI (dT cl))
def rcF (cl : List rl_C) (R : RC) : Prop := ∃ v, rlE cl v ∧ R.1 = bI (brk cl v) ∧ R.2.2 = (bif brk cl v then set9 0 v else v)
def rcV (cl : List rl_C) (R : RC) : Prop := R.2.1 = nI 0 ∨ (R.2.1 = nI 1 ∧ rcF cl R)
theorem s_countedDeals {cl : List rl_C} (hst : stC now cl) (hD : dcV cl D) : ∃ D' : DC, D'.2.1 = nI 1 ∧ dcOK cl D'.1 ∧ Cl (d + 14) kX5_countedDeals [.ref 0] (cM now snap rows sv buf rd D H R sc hs ln) (.inl (some (.ref 39))) (cM now snap rows sv buf rd D' H R sc hs ln) := by
  rcases hD with h0 | ⟨h1, hok⟩
  · obtain ⟨hcl, hcn, hn, hrok⟩ := hst
    have hok := dc_ok cl D.1.2.1 D.1.2.2.1 D.1.2.2.2.1 D.1.2.2.2.2
    generalize hf : fdC cl dq_1 (0, clrF 36 D.1.2.1, clrF 27 D.1.2.2.1, clrF 1536 D.1.2.2.2.1, clrF 20 D.1.2.2.2.2) = ctf at hok
    have hcall := s_count (d := d) (tot := nI D.1.1) (fr := D.2.1) (so := D.2.2) (kd := now.2.1) (pl := now.2.2.1) (cd := now.2.2.2.1) (prt := now.2.2.2.2.2.1) (why := now.2.2.2.2.2.2) hf hcl hn (fun x hx => ⟨(hrok x hx).1, (hrok x hx).2.1, (hrok x hx).2.2.1⟩)
    rw [← hcn] at hcall
    generalize clrN 4 D.2.2 = so' at hcall
    refine ⟨(ctf, nI 1, so'), rfl, hok, ?_⟩
    refine Cl_go e_X5_countedDeals (Nat.le_of_ble_eq_true rfl) rfl ?_; intro P hP; refine hP _ _ _ _ ?_; (conv => whnf)
    refine b1 0 h0 (by omega) (fun (q : ¬ 0 = 0) => by omega) (fun _ => ?_); (conv => whnf)
    refine ⟨Nat.le_of_ble_eq_true rfl, rfl, ?_⟩; (conv => whnf)
    refine Or.inl ⟨_, _, Cl_wr [39, 40, 41, 42, 43, 44, 1, 3, 4, 5, 2] hcall 10 rfl rfl ⟨rfl, rfl, rfl, rfl, rfl, rfl, rfl, rfl, rfl, rfl, trivial⟩ (cM now snap rows sv buf rd (ctf, nI 1, so') H R sc hs ln) rfl, ?_⟩; (conv => whnf)
    refine hP _ _ _ _ ?_; (conv => whnf)
    exact ⟨rfl, ⟨_, rfl⟩, rfl, rfl⟩
  · refine ⟨D, h1, hok, ?_⟩
    refine Cl_go e_X5_countedDeals (Nat.le_of_ble_eq_true rfl) rfl ?_; intro P hP; refine hP _ _ _ _ ?_; (conv => whnf)
    refine b1 1 h1 (by omega) (fun _ => ?_) (fun (q : ¬ ¬ 1 = 0) => by omega)
    refine hP _ _ _ _ ?_; (conv => whnf)
    exact ⟨rfl, ⟨_, rfl⟩, rfl, rfl⟩
theorem s_countedHands {cl : List rl_C} (hst : stC now cl) (hD : hcV cl H) : ∃ H' : HC, H'.2.1 = nI 1 ∧ H'.1 = nI (dT cl) ∧ Cl (d + 7) kX5_countedHands [.ref 0] (cM now snap rows sv buf rd D H R sc hs ln) (.inl (some (.ref 45))) (cM now snap rows sv buf rd D H' R sc hs ln) := by
  rcases hD with h0 | ⟨h1, hok⟩
  · obtain ⟨hcl, hcn, hn, hrok⟩ := hst
    obtain ⟨so', hcall⟩ := s_count1 (d := d) (tot := H.1) (fr := H.2.1) (so := H.2.2) (kd := now.2.1) (pl := now.2.2.1) (cd := now.2.2.2.1) (prt := now.2.2.2.2.2.1) (why := now.2.2.2.2.2.2) hcl hn (fun x hx => ⟨(hrok x hx).1, (hrok x hx).2.1, (hrok x hx).2.2.1⟩)
    rw [← hcn] at hcall
    refine ⟨(nI (dT cl), nI 1, so'), rfl, rfl, ?_⟩
    generalize dT cl = T at hcall ⊢
    refine Cl_go e_X5_countedHands (Nat.le_of_ble_eq_true rfl) rfl ?_; intro P hP; refine hP _ _ _ _ ?_; (conv => whnf)
    refine b1 0 h0 (by omega) (fun (q : ¬ 0 = 0) => by omega) (fun _ => ?_); (conv => whnf)
    refine ⟨Nat.le_of_ble_eq_true rfl, rfl, ?_⟩; (conv => whnf)
    refine Or.inl ⟨_, _, Cl_wr [45, 46, 1, 3, 4, 5, 2] hcall 6 rfl rfl ⟨rfl, rfl, rfl, rfl, rfl, rfl, trivial⟩ (cM now snap rows sv buf rd D (nI T, nI 1, so') R sc hs ln) rfl, ?_⟩; (conv => whnf)
    refine hP _ _ _ _ ?_; (conv => whnf)
    exact ⟨rfl, ⟨_, rfl⟩, rfl, rfl⟩
  · refine ⟨H, h1, hok, ?_⟩
    refine Cl_go e_X5_countedHands (Nat.le_of_ble_eq_true rfl) rfl ?_; intro P hP; refine hP _ _ _ _ ?_; (conv => whnf)
    refine b1 1 h1 (by omega) (fun _ => ?_) (fun (q : ¬ ¬ 1 = 0) => by omega)
    refine hP _ _ _ _ ?_; (conv => whnf)
    exact ⟨rfl, ⟨_, rfl⟩, rfl, rfl⟩
theorem s_filledSheet {cl : List rl_C} (hst : stC now cl) (hD : rcV cl R) : ∃ R' : RC, R'.2.1 = nI 1 ∧ rcF cl R' ∧ Cl (d + 6) kX5_filledSheet [.ref 0] (cM now snap rows sv buf rd D H R sc hs ln) (.inl (some (.ref 47))) (cM now snap rows sv buf rd D H R' sc hs ln) := by
  rcases hD with h0 | ⟨h1, hok⟩
  · obtain ⟨hcl, hcn, hn, hrok⟩ := hst
    obtain ⟨v, hv, hcall⟩ := s_fill (d := d) (br := R.1) (fr := R.2.1) (v0 := R.2.2) (kd := now.2.1) (pc := now.2.2.1) (cd := now.2.2.2.1) (prt := now.2.2.2.2.2.1) (why := now.2.2.2.2.2.2) hcl hn hrok
    rw [← hcn] at hcall
    refine ⟨(bI (brk cl v), nI 1, bif brk cl v then set9 0 v else v), rfl, ⟨v, hv, rfl, rfl⟩, ?_⟩
    generalize (bif brk cl v then set9 0 v else v) = w at hcall ⊢
    generalize bI (brk cl v) = bb at hcall ⊢
    refine Cl_go e_X5_filledSheet (Nat.le_of_ble_eq_true rfl) rfl ?_; intro P hP; refine hP _ _ _ _ ?_; (conv => whnf)
    refine b1 0 h0 (by omega) (fun (q : ¬ 0 = 0) => by omega) (fun _ => ?_); (conv => whnf)
    refine ⟨Nat.le_of_ble_eq_true rfl, rfl, ?_⟩; (conv => whnf)
    refine Or.inl ⟨_, _, Cl_wr [47, 48, 1, 3, 4, 5, 2] hcall 6 rfl rfl ⟨rfl, rfl, rfl, rfl, rfl, rfl, trivial⟩ (cM now snap rows sv buf rd D H (bb, nI 1, w) sc hs ln) rfl, ?_⟩; (conv => whnf)
    refine hP _ _ _ _ ?_; (conv => whnf)
    exact ⟨rfl, ⟨_, rfl⟩, rfl, rfl⟩
  · refine ⟨R, h1, hok, ?_⟩
    refine Cl_go e_X5_filledSheet (Nat.le_of_ble_eq_true rfl) rfl ?_; intro P hP; refine hP _ _ _ _ ?_; (conv => whnf)
    refine b1 1 h1 (by omega) (fun _ => ?_) (fun (q : ¬ ¬ 1 = 0) => by omega)
    refine hP _ _ _ _ ?_; (conv => whnf)
    exact ⟨rfl, ⟨_, rfl⟩, rfl, rfl⟩
end CM
