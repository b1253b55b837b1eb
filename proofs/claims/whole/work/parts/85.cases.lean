/-! the fifty cases of the law -/
def LCl (sn : Nat) (sx : Nat → Int32) (P : Nat → LK) : Prop := ∀ pc t L S N, lW (fun a av N v N1 => Cl 20 a av N (.inl v) N1) (fun _ _ _ => False) SCw (fun S _ => S = [.int 1]) wn sn sx P (fndC lawR pc) t L S N → P pc t L S N
abbrev LHd (i : Nat) (l5 l6 l7 l8 : Option Value) : Lcs := [some (.ref 99), some (.ref 0), some (.ref 49), some (.ref 60), some (.int (nI i)), l5, l6, l7, l8]
def LNx (P : Nat → LK) (i t : Nat) : Prop := ∀ (l5 l6 l7 l8 : Option Value) (t' : Nat) (M' : Mem) (A' : AS), t' ≤ t + 1 → LJ M' A' A' → P 2412 t' (LHd i l5 l6 l7 l8) [] M'
theorem lcmp_self (x : Int64) : lg_cmp x x = 0 := by
  unfold lg_cmp
  simp
theorem rm_to {k6 : Nat} {tc : Nat → Nat} {av : List Value} {Z : Res × AS} {A : AS} (h : ∀ {vT : Int32} {aS aH : IA} {vM : Int32} {aN : IA} {vS : Int32} {aX : IA} {vL vP vW : Int32} {aR : IA} {vR : Int32} {aD : IA} {vF : Int32} {aW aI aQ aL : IA} {vB : Int32}, rfR aS aH vM aN vS aX vL A → RO tc k6 20 (rfM vT aS aH vM aN vS aX vL vP vW aR vR aD vF aW aI aQ aL vB) av Z) : ∀ t mm, RM t mm A → RO tc k6 20 mm av Z := by
  intro t mm hR
  obtain ⟨_, _, _, _, _, _, _, _, _, _, _, _, _, _, _, _, _, _, rfl, hr⟩ := hR
  exact h hr
def gvI (v : Int32) (w : Int64) : Prop := w = v.toInt64
def gvB (v : Int32) (w : Int64) : Prop := (v = 0 → w = 0) ∧ (¬ v = 0 → w = 1)
theorem gvI_ex (v : Int32) : ∃ w, gvI v w := ⟨_, rfl⟩
theorem gvB_ex (v : Int32) : ∃ w, gvB v w := by
  by_cases h : v = 0
  · exact ⟨0, fun _ => rfl, fun z => absurd h z⟩
  · exact ⟨1, fun z => absurd z h, fun _ => rfl⟩
section LC
variable {sn : Nat} {sx : Nat → Int32} {P : Nat → LK} {i t : Nat} {M : Mem} {A : AS} {l5 l6 l7 l8 : Option Value}
theorem z_exchange {A : AS} {x y : Int32} : (∃ v, (spExch A x y).1 = .inl (some (.int v))) ∨ ∃ e, (spExch A x y).1 = .inr e ∧ cdL_exchange e = some (nI (tc01 e)) ∧ ¬ nI (tc01 e) = 0 := by
  unfold spExch
  (repeat' split) <;> first | exact Or.inl ⟨_, rfl⟩ | exact Or.inr ⟨0, rfl, rfl, by decide⟩ | exact Or.inr ⟨1, rfl, rfl, by decide⟩ | exact Or.inr ⟨2, rfl, rfl, by decide⟩
theorem k_exchange (hP : LCl sn sx P) (hI : LJ M A A) (ht : t < 600) (h1 : vp_in (nI i + cst 1) sn) (h2 : vp_in (nI i + cst 2) sn) (h3 : vp_in (nI i + cst 3) sn) (h4 : vp_in (nI i + cst 4) sn) (hn : LNx P i t) : P 252 t (LHd i l5 l6 l7 l8) [] M := by
  obtain ⟨a, e1⟩ : ∃ y, y = sx (nI i + cst 1).toNatClampNeg := ⟨_, rfl⟩
  obtain ⟨b, e2⟩ : ∃ y, y = sx (nI i + cst 2).toNatClampNeg := ⟨_, rfl⟩
  obtain ⟨x, M1, u, M2, f2, g1, g2, ⟨fs1, g3⟩, g4, ⟨fs2, g5⟩, g6, g7, g8, g9⟩ := o_thr (k := kX5_exchange) (k6 := kX6_exchange) (ml := 5) (cd := cdL_exchange) (rows := rwL_exchange) (av := [.int a, .int b]) (gv := gvI) (tc := tc01) hI (fun MX h => c_exchange h a b) (rm_to fun h => m_exchange (d := 8) h a b) (fun _ => rfl)
    (fun _ _ _ _ _ _ hcl ho hf hw => by rw [hw]; exact wv_exchange hcl ho hf) (fun _ _ _ _ _ hcl ho hc => wt_exchange hcl ho hc) gvI_ex z_exchange (Or.inl rfl) rfl (by decide)
  refine hP _ _ _ _ _ ?_; (conv => whnf)
  refine ⟨rfl, h1, ?_⟩; rw [← e1]; (conv => whnf)
  refine ⟨rfl, h2, ?_⟩; rw [← e2]; (conv => whnf)
  refine ⟨ht, Nat.le_of_ble_eq_true rfl, rfl, x, M1, ⟨_, rfl, g1, Nat.le_of_ble_eq_true rfl, g2⟩, ?_⟩; (conv => whnf)
  refine ⟨rfl, h1, ?_⟩; rw [← e1]; (conv => whnf)
  refine ⟨rfl, h2, ?_⟩; rw [← e2]; (conv => whnf)
  rw [g3]; (conv => whnf)
  refine ⟨Nat.succ_lt_succ ht, Nat.le_of_ble_eq_true rfl, rfl, Or.inl ⟨_, _, g4, ?_⟩⟩; (conv => whnf)
  rw [g5]; (conv => whnf)
  refine ⟨Nat.succ_lt_succ ht, Nat.le_of_ble_eq_true rfl, rfl, Or.inl ⟨_, _, g6, ?_⟩⟩; (conv => whnf)
  refine ⟨fun _ => ?_, fun z => absurd rfl z⟩
  refine hP _ _ _ _ _ ?_; (conv => whnf)
  refine ⟨fun _ => ?_, fun z => ?_⟩
  · refine hP _ _ _ _ _ ?_; (conv => whnf)
    exact hn _ _ _ _ _ _ _ (Nat.le_refl _) g8
  · have z : x = 0 := Classical.byContradiction fun q => z q
    have g9 := g9 z
    (conv => whnf)
    rw [g7]; (conv => whnf)
    refine ⟨vi (n := 0) rfl (by decide) (by decide), ?_⟩; (conv => whnf)
    have g9 : f2 0 = u.toInt64 := g9
    rw [show f2 ((cst 0).toNatClampNeg) = u.toInt64 from g9, lcmp_self]
    refine ⟨fun _ => ?_, fun q => absurd rfl q⟩
    refine hP _ _ _ _ _ ?_; (conv => whnf)
    exact hn _ _ _ _ _ _ _ (Nat.le_refl _) g8
theorem z_noteHas {A : AS} {x y : Int32} : (∃ v, (spNote 0 A x y).1 = .inl (some (.int v))) ∨ ∃ e, (spNote 0 A x y).1 = .inr e ∧ cdL_noteHas e = some (nI (tc01 e)) ∧ ¬ nI (tc01 e) = 0 := by
  unfold spNote
  (repeat' split) <;> first | exact Or.inl ⟨_, rfl⟩ | exact Or.inr ⟨0, rfl, rfl, by decide⟩ | exact Or.inr ⟨1, rfl, rfl, by decide⟩ | exact Or.inr ⟨2, rfl, rfl, by decide⟩
theorem k_noteHas (hP : LCl sn sx P) (hI : LJ M A A) (ht : t < 600) (h1 : vp_in (nI i + cst 1) sn) (h2 : vp_in (nI i + cst 2) sn) (h3 : vp_in (nI i + cst 3) sn) (h4 : vp_in (nI i + cst 4) sn) (hn : LNx P i t) : P 320 t (LHd i l5 l6 l7 l8) [] M := by
  obtain ⟨a, e1⟩ : ∃ y, y = sx (nI i + cst 1).toNatClampNeg := ⟨_, rfl⟩
  obtain ⟨b, e2⟩ : ∃ y, y = sx (nI i + cst 2).toNatClampNeg := ⟨_, rfl⟩
  obtain ⟨x, M1, u, M2, f2, g1, g2, ⟨fs1, g3⟩, g4, ⟨fs2, g5⟩, g6, g7, g8, g9⟩ := o_thr (k := kX5_noteHas) (k6 := kX6_noteHas) (ml := 5) (cd := cdL_noteHas) (rows := rwL_noteHas) (av := [.int a, .int b]) (gv := gvI) (tc := tc01) hI (fun MX h => c_noteHas h a b) (rm_to fun h => m_noteHas (d := 8) h a b) (fun _ => rfl)
    (fun _ _ _ _ _ _ hcl ho hf hw => by rw [hw]; exact wv_noteHas hcl ho hf) (fun _ _ _ _ _ hcl ho hc => wt_noteHas hcl ho hc) gvI_ex z_noteHas (Or.inl rfl) rfl (by decide)
  refine hP _ _ _ _ _ ?_; (conv => whnf)
  refine ⟨rfl, h1, ?_⟩; rw [← e1]; (conv => whnf)
  refine ⟨rfl, h2, ?_⟩; rw [← e2]; (conv => whnf)
  refine ⟨ht, Nat.le_of_ble_eq_true rfl, rfl, x, M1, ⟨_, rfl, g1, Nat.le_of_ble_eq_true rfl, g2⟩, ?_⟩; (conv => whnf)
  refine ⟨rfl, h1, ?_⟩; rw [← e1]; (conv => whnf)
  refine ⟨rfl, h2, ?_⟩; rw [← e2]; (conv => whnf)
  rw [g3]; (conv => whnf)
  refine ⟨Nat.succ_lt_succ ht, Nat.le_of_ble_eq_true rfl, rfl, Or.inl ⟨_, _, g4, ?_⟩⟩; (conv => whnf)
  rw [g5]; (conv => whnf)
  refine ⟨Nat.succ_lt_succ ht, Nat.le_of_ble_eq_true rfl, rfl, Or.inl ⟨_, _, g6, ?_⟩⟩; (conv => whnf)
  refine ⟨fun _ => ?_, fun z => absurd rfl z⟩
  refine hP _ _ _ _ _ ?_; (conv => whnf)
  refine ⟨fun _ => ?_, fun z => ?_⟩
  · refine hP _ _ _ _ _ ?_; (conv => whnf)
    exact hn _ _ _ _ _ _ _ (Nat.le_refl _) g8
  · have z : x = 0 := Classical.byContradiction fun q => z q
    have g9 := g9 z
    (conv => whnf)
    rw [g7]; (conv => whnf)
    refine ⟨vi (n := 0) rfl (by decide) (by decide), ?_⟩; (conv => whnf)
    have g9 : f2 0 = u.toInt64 := g9
    rw [show f2 ((cst 0).toNatClampNeg) = u.toInt64 from g9, lcmp_self]
    refine ⟨fun _ => ?_, fun q => absurd rfl q⟩
    refine hP _ _ _ _ _ ?_; (conv => whnf)
    exact hn _ _ _ _ _ _ _ (Nat.le_refl _) g8
theorem z_noteLacks {A : AS} {x y : Int32} : (∃ v, (spNote 1 A x y).1 = .inl (some (.int v))) ∨ ∃ e, (spNote 1 A x y).1 = .inr e ∧ cdL_noteLacks e = some (nI (tc01 e)) ∧ ¬ nI (tc01 e) = 0 := by
  unfold spNote
  (repeat' split) <;> first | exact Or.inl ⟨_, rfl⟩ | exact Or.inr ⟨0, rfl, rfl, by decide⟩ | exact Or.inr ⟨1, rfl, rfl, by decide⟩ | exact Or.inr ⟨2, rfl, rfl, by decide⟩
theorem k_noteLacks (hP : LCl sn sx P) (hI : LJ M A A) (ht : t < 600) (h1 : vp_in (nI i + cst 1) sn) (h2 : vp_in (nI i + cst 2) sn) (h3 : vp_in (nI i + cst 3) sn) (h4 : vp_in (nI i + cst 4) sn) (hn : LNx P i t) : P 388 t (LHd i l5 l6 l7 l8) [] M := by
  obtain ⟨a, e1⟩ : ∃ y, y = sx (nI i + cst 1).toNatClampNeg := ⟨_, rfl⟩
  obtain ⟨b, e2⟩ : ∃ y, y = sx (nI i + cst 2).toNatClampNeg := ⟨_, rfl⟩
  obtain ⟨x, M1, u, M2, f2, g1, g2, ⟨fs1, g3⟩, g4, ⟨fs2, g5⟩, g6, g7, g8, g9⟩ := o_thr (k := kX5_noteLacks) (k6 := kX6_noteLacks) (ml := 5) (cd := cdL_noteLacks) (rows := rwL_noteLacks) (av := [.int a, .int b]) (gv := gvI) (tc := tc01) hI (fun MX h => c_noteLacks h a b) (rm_to fun h => m_noteLacks (d := 8) h a b) (fun _ => rfl)
    (fun _ _ _ _ _ _ hcl ho hf hw => by rw [hw]; exact wv_noteLacks hcl ho hf) (fun _ _ _ _ _ hcl ho hc => wt_noteLacks hcl ho hc) gvI_ex z_noteLacks (Or.inl rfl) rfl (by decide)
  refine hP _ _ _ _ _ ?_; (conv => whnf)
  refine ⟨rfl, h1, ?_⟩; rw [← e1]; (conv => whnf)
  refine ⟨rfl, h2, ?_⟩; rw [← e2]; (conv => whnf)
  refine ⟨ht, Nat.le_of_ble_eq_true rfl, rfl, x, M1, ⟨_, rfl, g1, Nat.le_of_ble_eq_true rfl, g2⟩, ?_⟩; (conv => whnf)
  refine ⟨rfl, h1, ?_⟩; rw [← e1]; (conv => whnf)
  refine ⟨rfl, h2, ?_⟩; rw [← e2]; (conv => whnf)
  rw [g3]; (conv => whnf)
  refine ⟨Nat.succ_lt_succ ht, Nat.le_of_ble_eq_true rfl, rfl, Or.inl ⟨_, _, g4, ?_⟩⟩; (conv => whnf)
  rw [g5]; (conv => whnf)
  refine ⟨Nat.succ_lt_succ ht, Nat.le_of_ble_eq_true rfl, rfl, Or.inl ⟨_, _, g6, ?_⟩⟩; (conv => whnf)
  refine ⟨fun _ => ?_, fun z => absurd rfl z⟩
  refine hP _ _ _ _ _ ?_; (conv => whnf)
  refine ⟨fun _ => ?_, fun z => ?_⟩
  · refine hP _ _ _ _ _ ?_; (conv => whnf)
    exact hn _ _ _ _ _ _ _ (Nat.le_refl _) g8
  · have z : x = 0 := Classical.byContradiction fun q => z q
    have g9 := g9 z
    (conv => whnf)
    rw [g7]; (conv => whnf)
    refine ⟨vi (n := 0) rfl (by decide) (by decide), ?_⟩; (conv => whnf)
    have g9 : f2 0 = u.toInt64 := g9
    rw [show f2 ((cst 0).toNatClampNeg) = u.toInt64 from g9, lcmp_self]
    refine ⟨fun _ => ?_, fun q => absurd rfl q⟩
    refine hP _ _ _ _ _ ?_; (conv => whnf)
    exact hn _ _ _ _ _ _ _ (Nat.le_refl _) g8
theorem z_noteShows {A : AS} {x s t r : Int32} : (∃ v, (spShows A x s t r).1 = .inl (some (.int v))) ∨ ∃ e, (spShows A x s t r).1 = .inr e ∧ cdL_noteShows e = some (nI (tc01 e)) ∧ ¬ nI (tc01 e) = 0 := by
  unfold spShows; unfold spQ
  (repeat' split) <;> first | exact Or.inl ⟨_, rfl⟩ | exact Or.inr ⟨0, rfl, rfl, by decide⟩ | exact Or.inr ⟨1, rfl, rfl, by decide⟩ | exact Or.inr ⟨2, rfl, rfl, by decide⟩
theorem k_noteShows (hP : LCl sn sx P) (hI : LJ M A A) (ht : t < 600) (h1 : vp_in (nI i + cst 1) sn) (h2 : vp_in (nI i + cst 2) sn) (h3 : vp_in (nI i + cst 3) sn) (h4 : vp_in (nI i + cst 4) sn) (hn : LNx P i t) : P 456 t (LHd i l5 l6 l7 l8) [] M := by
  obtain ⟨a, e1⟩ : ∃ y, y = sx (nI i + cst 1).toNatClampNeg := ⟨_, rfl⟩
  obtain ⟨b, e2⟩ : ∃ y, y = sx (nI i + cst 2).toNatClampNeg := ⟨_, rfl⟩
  obtain ⟨cc, e3⟩ : ∃ y, y = sx (nI i + cst 3).toNatClampNeg := ⟨_, rfl⟩
  obtain ⟨dd, e4⟩ : ∃ y, y = sx (nI i + cst 4).toNatClampNeg := ⟨_, rfl⟩
  obtain ⟨x, M1, u, M2, f2, g1, g2, ⟨fs1, g3⟩, g4, ⟨fs2, g5⟩, g6, g7, g8, g9⟩ := o_thr (k := kX5_noteShows) (k6 := kX6_noteShows) (ml := 7) (cd := cdL_noteShows) (rows := rwL_noteShows) (av := [.int a, .int b, .int cc, .int dd]) (gv := gvI) (tc := tc01) hI (fun MX h => c_noteShows h a b cc dd) (rm_to fun h => m_noteShows (d := 8) h a b cc dd) (fun _ => rfl)
    (fun _ _ _ _ _ _ hcl ho hf hw => by rw [hw]; exact wv_noteShows hcl ho hf) (fun _ _ _ _ _ hcl ho hc => wt_noteShows hcl ho hc) gvI_ex z_noteShows (Or.inl rfl) rfl (by decide)
  refine hP _ _ _ _ _ ?_; (conv => whnf)
  refine ⟨rfl, h1, ?_⟩; rw [← e1]; (conv => whnf)
  refine ⟨rfl, h2, ?_⟩; rw [← e2]; (conv => whnf)
  refine ⟨rfl, h3, ?_⟩; rw [← e3]; (conv => whnf)
  refine ⟨rfl, h4, ?_⟩; rw [← e4]; (conv => whnf)
  refine ⟨ht, Nat.le_of_ble_eq_true rfl, rfl, x, M1, ⟨_, rfl, g1, Nat.le_of_ble_eq_true rfl, g2⟩, ?_⟩; (conv => whnf)
  refine ⟨rfl, h1, ?_⟩; rw [← e1]; (conv => whnf)
  refine ⟨rfl, h2, ?_⟩; rw [← e2]; (conv => whnf)
  refine ⟨rfl, h3, ?_⟩; rw [← e3]; (conv => whnf)
  refine ⟨rfl, h4, ?_⟩; rw [← e4]; (conv => whnf)
  rw [g3]; (conv => whnf)
  refine ⟨Nat.succ_lt_succ ht, Nat.le_of_ble_eq_true rfl, rfl, Or.inl ⟨_, _, g4, ?_⟩⟩; (conv => whnf)
  rw [g5]; (conv => whnf)
  refine ⟨Nat.succ_lt_succ ht, Nat.le_of_ble_eq_true rfl, rfl, Or.inl ⟨_, _, g6, ?_⟩⟩; (conv => whnf)
  refine ⟨fun _ => ?_, fun z => absurd rfl z⟩
  refine hP _ _ _ _ _ ?_; (conv => whnf)
  refine ⟨fun _ => ?_, fun z => ?_⟩
  · refine hP _ _ _ _ _ ?_; (conv => whnf)
    exact hn _ _ _ _ _ _ _ (Nat.le_refl _) g8
  · have z : x = 0 := Classical.byContradiction fun q => z q
    have g9 := g9 z
    (conv => whnf)
    rw [g7]; (conv => whnf)
    refine ⟨vi (n := 0) rfl (by decide) (by decide), ?_⟩; (conv => whnf)
    have g9 : f2 0 = u.toInt64 := g9
    rw [show f2 ((cst 0).toNatClampNeg) = u.toInt64 from g9, lcmp_self]
    refine ⟨fun _ => ?_, fun q => absurd rfl q⟩
    refine hP _ _ _ _ _ ?_; (conv => whnf)
    exact hn _ _ _ _ _ _ _ (Nat.le_refl _) g8
theorem z_dropClue {A : AS} {x : Int32} : (∃ v, (spDrop A x).1 = .inl (some (.int v))) ∨ ∃ e, (spDrop A x).1 = .inr e ∧ cdL_dropClue e = some (nI (tc0 e)) ∧ ¬ nI (tc0 e) = 0 := by
  unfold spDrop
  (repeat' split) <;> first | exact Or.inl ⟨_, rfl⟩ | exact Or.inr ⟨0, rfl, rfl, by decide⟩ | exact Or.inr ⟨1, rfl, rfl, by decide⟩ | exact Or.inr ⟨2, rfl, rfl, by decide⟩
theorem k_dropClue (hP : LCl sn sx P) (hI : LJ M A A) (ht : t < 600) (h1 : vp_in (nI i + cst 1) sn) (h2 : vp_in (nI i + cst 2) sn) (h3 : vp_in (nI i + cst 3) sn) (h4 : vp_in (nI i + cst 4) sn) (hn : LNx P i t) : P 548 t (LHd i l5 l6 l7 l8) [] M := by
  obtain ⟨a, e1⟩ : ∃ y, y = sx (nI i + cst 1).toNatClampNeg := ⟨_, rfl⟩
  obtain ⟨x, M1, u, M2, f2, g1, g2, ⟨fs1, g3⟩, g4, ⟨fs2, g5⟩, g6, g7, g8, g9⟩ := o_thr (k := kX5_dropClue) (k6 := kX6_dropClue) (ml := 4) (cd := cdL_dropClue) (rows := rwL_dropClue) (av := [.int a]) (gv := gvI) (tc := tc0) hI (fun MX h => c_dropClue h a) (rm_to fun h => m_dropClue (d := 8) h a) (fun _ => rfl)
    (fun _ _ _ _ _ _ hcl ho hf hw => by rw [hw]; exact wv_dropClue hcl ho hf) (fun _ _ _ _ _ hcl ho hc => wt_dropClue hcl ho hc) gvI_ex z_dropClue (Or.inl rfl) rfl (by decide)
  refine hP _ _ _ _ _ ?_; (conv => whnf)
  refine ⟨rfl, h1, ?_⟩; rw [← e1]; (conv => whnf)
  refine ⟨ht, Nat.le_of_ble_eq_true rfl, rfl, x, M1, ⟨_, rfl, g1, Nat.le_of_ble_eq_true rfl, g2⟩, ?_⟩; (conv => whnf)
  refine ⟨rfl, h1, ?_⟩; rw [← e1]; (conv => whnf)
  rw [g3]; (conv => whnf)
  refine ⟨Nat.succ_lt_succ ht, Nat.le_of_ble_eq_true rfl, rfl, Or.inl ⟨_, _, g4, ?_⟩⟩; (conv => whnf)
  rw [g5]; (conv => whnf)
  refine ⟨Nat.succ_lt_succ ht, Nat.le_of_ble_eq_true rfl, rfl, Or.inl ⟨_, _, g6, ?_⟩⟩; (conv => whnf)
  refine ⟨fun _ => ?_, fun z => absurd rfl z⟩
  refine hP _ _ _ _ _ ?_; (conv => whnf)
  refine ⟨fun _ => ?_, fun z => ?_⟩
  · refine hP _ _ _ _ _ ?_; (conv => whnf)
    exact hn _ _ _ _ _ _ _ (Nat.le_refl _) g8
  · have z : x = 0 := Classical.byContradiction fun q => z q
    have g9 := g9 z
    (conv => whnf)
    rw [g7]; (conv => whnf)
    refine ⟨vi (n := 0) rfl (by decide) (by decide), ?_⟩; (conv => whnf)
    have g9 : f2 0 = u.toInt64 := g9
    rw [show f2 ((cst 0).toNatClampNeg) = u.toInt64 from g9, lcmp_self]
    refine ⟨fun _ => ?_, fun q => absurd rfl q⟩
    refine hP _ _ _ _ _ ?_; (conv => whnf)
    exact hn _ _ _ _ _ _ _ (Nat.le_refl _) g8
theorem z_dropAll {A : AS} : ∃ w, (spDropAll A).1 = .inl (some (.int w)) := ⟨_, rfl⟩
theorem k_dropAll (hP : LCl sn sx P) (hI : LJ M A A) (ht : t < 600) (h1 : vp_in (nI i + cst 1) sn) (h2 : vp_in (nI i + cst 2) sn) (h3 : vp_in (nI i + cst 3) sn) (h4 : vp_in (nI i + cst 4) sn) (hn : LNx P i t) : P 604 t (LHd i l5 l6 l7 l8) [] M := by
  obtain ⟨fs0, g0⟩ := LJ_0 hI
  obtain ⟨w, hw⟩ := z_dropAll (A := A)
  obtain ⟨M1, M2, g1, ⟨fs1, g3⟩, g4, g8⟩ := o_ret (k := kX5_dropAll) (k6 := kX6_dropAll) (av := []) (w := .int w) (tc := tc0) hI (fun MX h => c_dropAll h) (rm_to fun h => m_dropAll (d := 8) h) (fun _ => rfl) hw (fun _ => rfl)
  refine hP _ _ _ _ _ ?_; (conv => whnf)
  rw [g0]; (conv => whnf)
  refine ⟨Nat.lt_succ_of_lt ht, Nat.le_of_ble_eq_true rfl, rfl, Or.inl ⟨_, _, g1, ?_⟩⟩; (conv => whnf)
  rw [g3]; (conv => whnf)
  refine ⟨Nat.lt_succ_of_lt ht, Nat.le_of_ble_eq_true rfl, rfl, Or.inl ⟨_, _, g4, ?_⟩⟩; (conv => whnf)
  refine ⟨fun _ => ?_, fun z => absurd rfl z⟩
  exact hn _ _ _ _ _ _ _ (Nat.le_succ t) g8
theorem z_ask {A : AS} {x s t r : Int32} : (∃ v, (spAsk A x s t r).1 = .inl (some (.int v))) ∨ ∃ e, (spAsk A x s t r).1 = .inr e ∧ cdL_ask e = some (nI (tc01 e)) ∧ ¬ nI (tc01 e) = 0 := by
  unfold spAsk; unfold spQ
  (repeat' split) <;> first | exact Or.inl ⟨_, rfl⟩ | exact Or.inr ⟨0, rfl, rfl, by decide⟩ | exact Or.inr ⟨1, rfl, rfl, by decide⟩ | exact Or.inr ⟨2, rfl, rfl, by decide⟩
theorem k_ask (hP : LCl sn sx P) (hI : LJ M A A) (ht : t < 600) (h1 : vp_in (nI i + cst 1) sn) (h2 : vp_in (nI i + cst 2) sn) (h3 : vp_in (nI i + cst 3) sn) (h4 : vp_in (nI i + cst 4) sn) (hn : LNx P i t) : P 617 t (LHd i l5 l6 l7 l8) [] M := by
  obtain ⟨a, e1⟩ : ∃ y, y = sx (nI i + cst 1).toNatClampNeg := ⟨_, rfl⟩
  obtain ⟨b, e2⟩ : ∃ y, y = sx (nI i + cst 2).toNatClampNeg := ⟨_, rfl⟩
  obtain ⟨cc, e3⟩ : ∃ y, y = sx (nI i + cst 3).toNatClampNeg := ⟨_, rfl⟩
  obtain ⟨dd, e4⟩ : ∃ y, y = sx (nI i + cst 4).toNatClampNeg := ⟨_, rfl⟩
  obtain ⟨x, M1, u, M2, f2, g1, g2, ⟨fs1, g3⟩, g4, ⟨fs2, g5⟩, g6, g7, g8, g9⟩ := o_thr (k := kX5_ask) (k6 := kX6_ask) (ml := 7) (cd := cdL_ask) (rows := rwL_ask) (av := [.int a, .int b, .int cc, .int dd]) (gv := gvB) (tc := tc01) hI (fun MX h => c_ask h a b cc dd) (rm_to fun h => m_ask (d := 8) h a b cc dd) (fun _ => rfl)
    (fun _ _ _ _ _ _ hcl ho hf hw => wv_ask hcl ho hf hw) (fun _ _ _ _ _ hcl ho hc => wt_ask hcl ho hc) gvB_ex z_ask (Or.inr rfl) rfl (by decide)
  refine hP _ _ _ _ _ ?_; (conv => whnf)
  refine ⟨rfl, h1, ?_⟩; rw [← e1]; (conv => whnf)
  refine ⟨rfl, h2, ?_⟩; rw [← e2]; (conv => whnf)
  refine ⟨rfl, h3, ?_⟩; rw [← e3]; (conv => whnf)
  refine ⟨rfl, h4, ?_⟩; rw [← e4]; (conv => whnf)
  refine ⟨ht, Nat.le_of_ble_eq_true rfl, rfl, x, M1, ⟨_, rfl, g1, Nat.le_of_ble_eq_true rfl, g2⟩, ?_⟩; (conv => whnf)
  refine ⟨rfl, h1, ?_⟩; rw [← e1]; (conv => whnf)
  refine ⟨rfl, h2, ?_⟩; rw [← e2]; (conv => whnf)
  refine ⟨rfl, h3, ?_⟩; rw [← e3]; (conv => whnf)
  refine ⟨rfl, h4, ?_⟩; rw [← e4]; (conv => whnf)
  rw [g3]; (conv => whnf)
  refine ⟨Nat.succ_lt_succ ht, Nat.le_of_ble_eq_true rfl, rfl, Or.inl ⟨_, _, g4, ?_⟩⟩; (conv => whnf)
  rw [g5]; (conv => whnf)
  refine ⟨Nat.succ_lt_succ ht, Nat.le_of_ble_eq_true rfl, rfl, Or.inl ⟨_, _, g6, ?_⟩⟩; (conv => whnf)
  refine ⟨fun _ => ?_, fun z => absurd rfl z⟩
  refine hP _ _ _ _ _ ?_; (conv => whnf)
  refine ⟨fun _ => ?_, fun z => ?_⟩
  · refine hP _ _ _ _ _ ?_; (conv => whnf)
    exact hn _ _ _ _ _ _ _ (Nat.le_refl _) g8
  · have z : x = 0 := Classical.byContradiction fun q => z q
    have g9 := g9 z
    (conv => whnf)
    rw [g7]; (conv => whnf)
    refine ⟨vi (n := 0) rfl (by decide) (by decide), ?_⟩; (conv => whnf)
    refine ⟨fun q => ?_, fun q => ?_⟩
    · refine hP _ _ _ _ _ ?_; (conv => whnf)
      rw [show f2 ((cst 0).toNatClampNeg) = 0 from g9.1 q, show lg_cmp (0 : Int64) (Int64.ofNat (0 : Fin 2).val) = 0 from lcmp_self 0]
      refine ⟨fun _ => ?_, fun q => absurd rfl q⟩
      refine hP _ _ _ _ _ ?_; (conv => whnf)
      exact hn _ _ _ _ _ _ _ (Nat.le_refl _) g8
    · (conv => whnf)
      refine hP _ _ _ _ _ ?_; (conv => whnf)
      rw [show f2 ((cst 0).toNatClampNeg) = 1 from g9.2 q, show lg_cmp (1 : Int64) (Int64.ofNat (1 : Fin 2).val) = 0 from lcmp_self 1]
      refine ⟨fun _ => ?_, fun q => absurd rfl q⟩
      refine hP _ _ _ _ _ ?_; (conv => whnf)
      exact hn _ _ _ _ _ _ _ (Nat.le_refl _) g8
theorem z_look {A : AS} {x s t r : Int32} : (∃ v, (spLook A x s t r).1 = .inl (some (.int v))) ∨ ∃ e, (spLook A x s t r).1 = .inr e ∧ cdL_look e = some (nI (tc01 e)) ∧ ¬ nI (tc01 e) = 0 := by
  unfold spLook; unfold spQ
  (repeat' split) <;> first | exact Or.inl ⟨_, rfl⟩ | exact Or.inr ⟨0, rfl, rfl, by decide⟩ | exact Or.inr ⟨1, rfl, rfl, by decide⟩ | exact Or.inr ⟨2, rfl, rfl, by decide⟩
theorem k_look (hP : LCl sn sx P) (hI : LJ M A A) (ht : t < 600) (h1 : vp_in (nI i + cst 1) sn) (h2 : vp_in (nI i + cst 2) sn) (h3 : vp_in (nI i + cst 3) sn) (h4 : vp_in (nI i + cst 4) sn) (hn : LNx P i t) : P 716 t (LHd i l5 l6 l7 l8) [] M := by
  obtain ⟨a, e1⟩ : ∃ y, y = sx (nI i + cst 1).toNatClampNeg := ⟨_, rfl⟩
  obtain ⟨b, e2⟩ : ∃ y, y = sx (nI i + cst 2).toNatClampNeg := ⟨_, rfl⟩
  obtain ⟨cc, e3⟩ : ∃ y, y = sx (nI i + cst 3).toNatClampNeg := ⟨_, rfl⟩
  obtain ⟨dd, e4⟩ : ∃ y, y = sx (nI i + cst 4).toNatClampNeg := ⟨_, rfl⟩
  obtain ⟨x, M1, u, M2, f2, g1, g2, ⟨fs1, g3⟩, g4, ⟨fs2, g5⟩, g6, g7, g8, g9⟩ := o_thr (k := kX5_look) (k6 := kX6_look) (ml := 7) (cd := cdL_look) (rows := rwL_look) (av := [.int a, .int b, .int cc, .int dd]) (gv := gvI) (tc := tc01) hI (fun MX h => c_look h a b cc dd) (rm_to fun h => m_look (d := 8) h a b cc dd) (fun _ => rfl)
    (fun _ _ _ _ _ _ hcl ho hf hw => by rw [hw]; exact wv_look hcl ho hf) (fun _ _ _ _ _ hcl ho hc => wt_look hcl ho hc) gvI_ex z_look (Or.inl rfl) rfl (by decide)
  refine hP _ _ _ _ _ ?_; (conv => whnf)
  refine ⟨rfl, h1, ?_⟩; rw [← e1]; (conv => whnf)
  refine ⟨rfl, h2, ?_⟩; rw [← e2]; (conv => whnf)
  refine ⟨rfl, h3, ?_⟩; rw [← e3]; (conv => whnf)
  refine ⟨rfl, h4, ?_⟩; rw [← e4]; (conv => whnf)
  refine ⟨ht, Nat.le_of_ble_eq_true rfl, rfl, x, M1, ⟨_, rfl, g1, Nat.le_of_ble_eq_true rfl, g2⟩, ?_⟩; (conv => whnf)
  refine ⟨rfl, h1, ?_⟩; rw [← e1]; (conv => whnf)
  refine ⟨rfl, h2, ?_⟩; rw [← e2]; (conv => whnf)
  refine ⟨rfl, h3, ?_⟩; rw [← e3]; (conv => whnf)
  refine ⟨rfl, h4, ?_⟩; rw [← e4]; (conv => whnf)
  rw [g3]; (conv => whnf)
  refine ⟨Nat.succ_lt_succ ht, Nat.le_of_ble_eq_true rfl, rfl, Or.inl ⟨_, _, g4, ?_⟩⟩; (conv => whnf)
  rw [g5]; (conv => whnf)
  refine ⟨Nat.succ_lt_succ ht, Nat.le_of_ble_eq_true rfl, rfl, Or.inl ⟨_, _, g6, ?_⟩⟩; (conv => whnf)
  refine ⟨fun _ => ?_, fun z => absurd rfl z⟩
  refine hP _ _ _ _ _ ?_; (conv => whnf)
  refine ⟨fun _ => ?_, fun z => ?_⟩
  · refine hP _ _ _ _ _ ?_; (conv => whnf)
    exact hn _ _ _ _ _ _ _ (Nat.le_refl _) g8
  · have z : x = 0 := Classical.byContradiction fun q => z q
    have g9 := g9 z
    (conv => whnf)
    rw [g7]; (conv => whnf)
    refine ⟨vi (n := 0) rfl (by decide) (by decide), ?_⟩; (conv => whnf)
    have g9 : f2 0 = u.toInt64 := g9
    rw [show f2 ((cst 0).toNatClampNeg) = u.toInt64 from g9, lcmp_self]
    refine ⟨fun _ => ?_, fun q => absurd rfl q⟩
    refine hP _ _ _ _ _ ?_; (conv => whnf)
    exact hn _ _ _ _ _ _ _ (Nat.le_refl _) g8
theorem z_accuse {A : AS} {s t r : Int32} : (∃ v, (spAccuse A s t r).1 = .inl (some (.int v))) ∨ ∃ e, (spAccuse A s t r).1 = .inr e ∧ cdL_accuse e = some (nI (tc01 e)) ∧ ¬ nI (tc01 e) = 0 := by
  unfold spAccuse
  (repeat' split) <;> first | exact Or.inl ⟨_, rfl⟩ | exact Or.inr ⟨0, rfl, rfl, by decide⟩ | exact Or.inr ⟨1, rfl, rfl, by decide⟩ | exact Or.inr ⟨2, rfl, rfl, by decide⟩
theorem k_accuse (hP : LCl sn sx P) (hI : LJ M A A) (ht : t < 600) (h1 : vp_in (nI i + cst 1) sn) (h2 : vp_in (nI i + cst 2) sn) (h3 : vp_in (nI i + cst 3) sn) (h4 : vp_in (nI i + cst 4) sn) (hn : LNx P i t) : P 808 t (LHd i l5 l6 l7 l8) [] M := by
  obtain ⟨a, e1⟩ : ∃ y, y = sx (nI i + cst 1).toNatClampNeg := ⟨_, rfl⟩
  obtain ⟨b, e2⟩ : ∃ y, y = sx (nI i + cst 2).toNatClampNeg := ⟨_, rfl⟩
  obtain ⟨cc, e3⟩ : ∃ y, y = sx (nI i + cst 3).toNatClampNeg := ⟨_, rfl⟩
  obtain ⟨x, M1, u, M2, f2, g1, g2, ⟨fs1, g3⟩, g4, ⟨fs2, g5⟩, g6, g7, g8, g9⟩ := o_thr (k := kX5_accuse) (k6 := kX6_accuse) (ml := 6) (cd := cdL_accuse) (rows := rwL_accuse) (av := [.int a, .int b, .int cc]) (gv := gvB) (tc := tc01) hI (fun MX h => c_accuse h a b cc) (rm_to fun h => m_accuse (d := 8) h a b cc) (fun _ => rfl)
    (fun _ _ _ _ _ _ hcl ho hf hw => wv_accuse hcl ho hf hw) (fun _ _ _ _ _ hcl ho hc => wt_accuse hcl ho hc) gvB_ex z_accuse (Or.inr rfl) rfl (by decide)
  refine hP _ _ _ _ _ ?_; (conv => whnf)
  refine ⟨rfl, h1, ?_⟩; rw [← e1]; (conv => whnf)
  refine ⟨rfl, h2, ?_⟩; rw [← e2]; (conv => whnf)
  refine ⟨rfl, h3, ?_⟩; rw [← e3]; (conv => whnf)
  refine ⟨ht, Nat.le_of_ble_eq_true rfl, rfl, x, M1, ⟨_, rfl, g1, Nat.le_of_ble_eq_true rfl, g2⟩, ?_⟩; (conv => whnf)
  refine ⟨rfl, h1, ?_⟩; rw [← e1]; (conv => whnf)
  refine ⟨rfl, h2, ?_⟩; rw [← e2]; (conv => whnf)
  refine ⟨rfl, h3, ?_⟩; rw [← e3]; (conv => whnf)
  rw [g3]; (conv => whnf)
  refine ⟨Nat.succ_lt_succ ht, Nat.le_of_ble_eq_true rfl, rfl, Or.inl ⟨_, _, g4, ?_⟩⟩; (conv => whnf)
  rw [g5]; (conv => whnf)
  refine ⟨Nat.succ_lt_succ ht, Nat.le_of_ble_eq_true rfl, rfl, Or.inl ⟨_, _, g6, ?_⟩⟩; (conv => whnf)
  refine ⟨fun _ => ?_, fun z => absurd rfl z⟩
  refine hP _ _ _ _ _ ?_; (conv => whnf)
  refine ⟨fun _ => ?_, fun z => ?_⟩
  · refine hP _ _ _ _ _ ?_; (conv => whnf)
    exact hn _ _ _ _ _ _ _ (Nat.le_refl _) g8
  · have z : x = 0 := Classical.byContradiction fun q => z q
    have g9 := g9 z
    (conv => whnf)
    rw [g7]; (conv => whnf)
    refine ⟨vi (n := 0) rfl (by decide) (by decide), ?_⟩; (conv => whnf)
    refine ⟨fun q => ?_, fun q => ?_⟩
    · refine hP _ _ _ _ _ ?_; (conv => whnf)
      rw [show f2 ((cst 0).toNatClampNeg) = 0 from g9.1 q, show lg_cmp (0 : Int64) (Int64.ofNat (0 : Fin 2).val) = 0 from lcmp_self 0]
      refine ⟨fun _ => ?_, fun q => absurd rfl q⟩
      refine hP _ _ _ _ _ ?_; (conv => whnf)
      exact hn _ _ _ _ _ _ _ (Nat.le_refl _) g8
    · (conv => whnf)
      refine hP _ _ _ _ _ ?_; (conv => whnf)
      rw [show f2 ((cst 0).toNatClampNeg) = 1 from g9.2 q, show lg_cmp (1 : Int64) (Int64.ofNat (1 : Fin 2).val) = 0 from lcmp_self 1]
      refine ⟨fun _ => ?_, fun q => absurd rfl q⟩
      refine hP _ _ _ _ _ ?_; (conv => whnf)
      exact hn _ _ _ _ _ _ _ (Nat.le_refl _) g8
theorem z_append {A : AS} {x : Int32} : (∃ v, (spAppend A x).1 = .inl (some (.int v))) ∨ ∃ e, (spAppend A x).1 = .inr e ∧ cdL_append e = some (nI (tc21 e)) ∧ ¬ nI (tc21 e) = 0 := by
  unfold spAppend
  (repeat' split) <;> first | exact Or.inl ⟨_, rfl⟩ | exact Or.inr ⟨0, rfl, rfl, by decide⟩ | exact Or.inr ⟨1, rfl, rfl, by decide⟩ | exact Or.inr ⟨2, rfl, rfl, by decide⟩
theorem k_append (hP : LCl sn sx P) (hI : LJ M A A) (ht : t < 600) (h1 : vp_in (nI i + cst 1) sn) (h2 : vp_in (nI i + cst 2) sn) (h3 : vp_in (nI i + cst 3) sn) (h4 : vp_in (nI i + cst 4) sn) (hn : LNx P i t) : P 895 t (LHd i l5 l6 l7 l8) [] M := by
  obtain ⟨a, e1⟩ : ∃ y, y = sx (nI i + cst 1).toNatClampNeg := ⟨_, rfl⟩
  obtain ⟨x, M1, u, M2, f2, g1, g2, ⟨fs1, g3⟩, g4, ⟨fs2, g5⟩, g6, g7, g8, g9⟩ := o_thr (k := kX5_append) (k6 := kX6_append) (ml := 4) (cd := cdL_append) (rows := rwL_append) (av := [.int a]) (gv := gvI) (tc := tc21) hI (fun MX h => c_append h a) (rm_to fun h => m_append (d := 8) h a) (fun _ => rfl)
    (fun _ _ _ _ _ _ hcl ho hf hw => by rw [hw]; exact wv_append hcl ho hf) (fun _ _ _ _ _ hcl ho hc => wt_append hcl ho hc) gvI_ex z_append (Or.inl rfl) rfl (by decide)
  refine hP _ _ _ _ _ ?_; (conv => whnf)
  refine ⟨rfl, h1, ?_⟩; rw [← e1]; (conv => whnf)
  refine ⟨ht, Nat.le_of_ble_eq_true rfl, rfl, x, M1, ⟨_, rfl, g1, Nat.le_of_ble_eq_true rfl, g2⟩, ?_⟩; (conv => whnf)
  refine ⟨rfl, h1, ?_⟩; rw [← e1]; (conv => whnf)
  rw [g3]; (conv => whnf)
  refine ⟨Nat.succ_lt_succ ht, Nat.le_of_ble_eq_true rfl, rfl, Or.inl ⟨_, _, g4, ?_⟩⟩; (conv => whnf)
  rw [g5]; (conv => whnf)
  refine ⟨Nat.succ_lt_succ ht, Nat.le_of_ble_eq_true rfl, rfl, Or.inl ⟨_, _, g6, ?_⟩⟩; (conv => whnf)
  refine ⟨fun _ => ?_, fun z => absurd rfl z⟩
  refine hP _ _ _ _ _ ?_; (conv => whnf)
  refine ⟨fun _ => ?_, fun z => ?_⟩
  · refine hP _ _ _ _ _ ?_; (conv => whnf)
    exact hn _ _ _ _ _ _ _ (Nat.le_refl _) g8
  · have z : x = 0 := Classical.byContradiction fun q => z q
    have g9 := g9 z
    (conv => whnf)
    rw [g7]; (conv => whnf)
    refine ⟨vi (n := 0) rfl (by decide) (by decide), ?_⟩; (conv => whnf)
    have g9 : f2 0 = u.toInt64 := g9
    rw [show f2 ((cst 0).toNatClampNeg) = u.toInt64 from g9, lcmp_self]
    refine ⟨fun _ => ?_, fun q => absurd rfl q⟩
    refine hP _ _ _ _ _ ?_; (conv => whnf)
    exact hn _ _ _ _ _ _ _ (Nat.le_refl _) g8
theorem z_clearBuffer {A : AS} : ∃ w, (spClear A).1 = .inl (some (.int w)) := ⟨_, rfl⟩
theorem k_clearBuffer (hP : LCl sn sx P) (hI : LJ M A A) (ht : t < 600) (h1 : vp_in (nI i + cst 1) sn) (h2 : vp_in (nI i + cst 2) sn) (h3 : vp_in (nI i + cst 3) sn) (h4 : vp_in (nI i + cst 4) sn) (hn : LNx P i t) : P 951 t (LHd i l5 l6 l7 l8) [] M := by
  obtain ⟨fs0, g0⟩ := LJ_0 hI
  obtain ⟨w, hw⟩ := z_clearBuffer (A := A)
  obtain ⟨M1, M2, g1, ⟨fs1, g3⟩, g4, g8⟩ := o_ret (k := kX5_clearBuffer) (k6 := kX6_clearBuffer) (av := []) (w := .int w) (tc := tc0) hI (fun MX h => c_clearBuffer h) (rm_to fun h => m_clearBuffer (d := 8) h) (fun _ => rfl) hw (fun _ => rfl)
  refine hP _ _ _ _ _ ?_; (conv => whnf)
  rw [g0]; (conv => whnf)
  refine ⟨Nat.lt_succ_of_lt ht, Nat.le_of_ble_eq_true rfl, rfl, Or.inl ⟨_, _, g1, ?_⟩⟩; (conv => whnf)
  rw [g3]; (conv => whnf)
  refine ⟨Nat.lt_succ_of_lt ht, Nat.le_of_ble_eq_true rfl, rfl, Or.inl ⟨_, _, g4, ?_⟩⟩; (conv => whnf)
  refine ⟨fun _ => ?_, fun z => absurd rfl z⟩
  exact hn _ _ _ _ _ _ _ (Nat.le_succ t) g8
theorem z_firstError {A : AS} : ∃ w, (spFirst A).1 = .inl (some (.int w)) := ⟨_, rfl⟩
theorem k_firstError (hP : LCl sn sx P) (hI : LJ M A A) (ht : t < 600) (h1 : vp_in (nI i + cst 1) sn) (h2 : vp_in (nI i + cst 2) sn) (h3 : vp_in (nI i + cst 3) sn) (h4 : vp_in (nI i + cst 4) sn) (hn : LNx P i t) : P 964 t (LHd i l5 l6 l7 l8) [] M := by
  obtain ⟨fs0, g0⟩ := LJ_0 hI
  obtain ⟨w, hw⟩ := z_firstError (A := A)
  obtain ⟨M1, M2, g1, ⟨fs1, g3⟩, g4, g8⟩ := o_ret (k := kX5_firstError) (k6 := kX6_firstError) (av := []) (w := .int w) (tc := tc0) hI (fun MX h => c_firstError h) (rm_to fun h => m_firstError (d := 8) h) (fun _ => rfl) hw (fun _ => rfl)
  refine hP _ _ _ _ _ ?_; (conv => whnf)
  rw [g0]; (conv => whnf)
  refine ⟨Nat.lt_succ_of_lt ht, Nat.le_of_ble_eq_true rfl, rfl, Or.inl ⟨_, _, g1, ?_⟩⟩; (conv => whnf)
  rw [g3]; (conv => whnf)
  refine ⟨Nat.lt_succ_of_lt ht, Nat.le_of_ble_eq_true rfl, rfl, Or.inl ⟨_, _, g4, ?_⟩⟩; (conv => whnf)
  refine ⟨fun _ => ?_, fun z => absurd rfl z⟩
  exact hn _ _ _ _ _ _ _ (Nat.le_succ t) g8
theorem z_work {A : AS} : (∃ v, (spWork A).1 = .inl (some (.int v))) ∨ ∃ e, (spWork A).1 = .inr e ∧ cdL_work e = some (nI (tc21 e)) ∧ ¬ nI (tc21 e) = 0 := by
  unfold spWork
  (cases okT A.2.2.2) <;> first | exact Or.inl ⟨_, rfl⟩ | exact Or.inr ⟨0, rfl, rfl, by decide⟩ | exact Or.inr ⟨1, rfl, rfl, by decide⟩ | exact Or.inr ⟨2, rfl, rfl, by decide⟩
theorem k_work (hP : LCl sn sx P) (hI : LJ M A A) (ht : t < 600) (h1 : vp_in (nI i + cst 1) sn) (h2 : vp_in (nI i + cst 2) sn) (h3 : vp_in (nI i + cst 3) sn) (h4 : vp_in (nI i + cst 4) sn) (hn : LNx P i t) : P 977 t (LHd i l5 l6 l7 l8) [] M := by
  obtain ⟨x, M1, u, M2, f2, g1, g2, ⟨fs1, g3⟩, g4, ⟨fs2, g5⟩, g6, g7, g8, g9⟩ := o_thr (k := kX5_work) (k6 := kX6_work) (ml := 3) (cd := cdL_work) (rows := rwL_work) (av := []) (gv := gvI) (tc := tc21) hI (fun MX h => c_work h) (rm_to fun h => m_work (d := 8) h) (fun _ => rfl)
    (fun _ _ _ _ _ _ hcl ho hf hw => by rw [hw]; exact wv_work hcl ho hf) (fun _ _ _ _ _ hcl ho hc => wt_work hcl ho hc) gvI_ex z_work (Or.inl rfl) rfl (by decide)
  refine hP _ _ _ _ _ ?_; (conv => whnf)
  refine ⟨ht, Nat.le_of_ble_eq_true rfl, rfl, x, M1, ⟨_, rfl, g1, Nat.le_of_ble_eq_true rfl, g2⟩, ?_⟩; (conv => whnf)
  rw [g3]; (conv => whnf)
  refine ⟨Nat.succ_lt_succ ht, Nat.le_of_ble_eq_true rfl, rfl, Or.inl ⟨_, _, g4, ?_⟩⟩; (conv => whnf)
  rw [g5]; (conv => whnf)
  refine ⟨Nat.succ_lt_succ ht, Nat.le_of_ble_eq_true rfl, rfl, Or.inl ⟨_, _, g6, ?_⟩⟩; (conv => whnf)
  refine ⟨fun _ => ?_, fun z => absurd rfl z⟩
  refine hP _ _ _ _ _ ?_; (conv => whnf)
  refine ⟨fun _ => ?_, fun z => ?_⟩
  · refine hP _ _ _ _ _ ?_; (conv => whnf)
    exact hn _ _ _ _ _ _ _ (Nat.le_refl _) g8
  · have z : x = 0 := Classical.byContradiction fun q => z q
    have g9 := g9 z
    (conv => whnf)
    rw [g7]; (conv => whnf)
    refine ⟨vi (n := 0) rfl (by decide) (by decide), ?_⟩; (conv => whnf)
    have g9 : f2 0 = u.toInt64 := g9
    rw [show f2 ((cst 0).toNatClampNeg) = u.toInt64 from g9, lcmp_self]
    refine ⟨fun _ => ?_, fun q => absurd rfl q⟩
    refine hP _ _ _ _ _ ?_; (conv => whnf)
    exact hn _ _ _ _ _ _ _ (Nat.le_refl _) g8
theorem z_hasStopped {A : AS} : ∃ w, (spStopped A).1 = .inl (some (.int w)) := ⟨_, rfl⟩
theorem k_hasStopped (hP : LCl sn sx P) (hI : LJ M A A) (ht : t < 600) (h1 : vp_in (nI i + cst 1) sn) (h2 : vp_in (nI i + cst 2) sn) (h3 : vp_in (nI i + cst 3) sn) (h4 : vp_in (nI i + cst 4) sn) (hn : LNx P i t) : P 1021 t (LHd i l5 l6 l7 l8) [] M := by
  obtain ⟨fs0, g0⟩ := LJ_0 hI
  obtain ⟨w, hw⟩ := z_hasStopped (A := A)
  obtain ⟨M1, M2, g1, ⟨fs1, g3⟩, g4, g8⟩ := o_ret (k := kX5_hasStopped) (k6 := kX6_hasStopped) (av := []) (w := .int w) (tc := tc0) hI (fun MX h => c_hasStopped h) (rm_to fun h => m_hasStopped (d := 8) h) (fun _ => rfl) hw (fun _ => rfl)
  refine hP _ _ _ _ _ ?_; (conv => whnf)
  rw [g0]; (conv => whnf)
  refine ⟨Nat.lt_succ_of_lt ht, Nat.le_of_ble_eq_true rfl, rfl, Or.inl ⟨_, _, g1, ?_⟩⟩; (conv => whnf)
  rw [g3]; (conv => whnf)
  refine ⟨Nat.lt_succ_of_lt ht, Nat.le_of_ble_eq_true rfl, rfl, Or.inl ⟨_, _, g4, ?_⟩⟩; (conv => whnf)
  refine ⟨fun _ => ?_, fun z => absurd rfl z⟩
  exact hn _ _ _ _ _ _ _ (Nat.le_succ t) g8
theorem z_stoppedPart {A : AS} : (∃ v, (spPart A).1 = .inl (some (.int v))) ∨ ∃ e, (spPart A).1 = .inr e ∧ cdL_stoppedPart e = some (nI (tc0 e)) ∧ ¬ nI (tc0 e) = 0 := by
  unfold spPart
  (repeat' split) <;> first | exact Or.inl ⟨_, rfl⟩ | exact Or.inr ⟨0, rfl, rfl, by decide⟩ | exact Or.inr ⟨1, rfl, rfl, by decide⟩ | exact Or.inr ⟨2, rfl, rfl, by decide⟩
theorem k_stoppedPart (hP : LCl sn sx P) (hI : LJ M A A) (ht : t < 600) (h1 : vp_in (nI i + cst 1) sn) (h2 : vp_in (nI i + cst 2) sn) (h3 : vp_in (nI i + cst 3) sn) (h4 : vp_in (nI i + cst 4) sn) (hn : LNx P i t) : P 1034 t (LHd i l5 l6 l7 l8) [] M := by
  obtain ⟨x, M1, u, M2, f2, g1, g2, ⟨fs1, g3⟩, g4, ⟨fs2, g5⟩, g6, g7, g8, g9⟩ := o_thr (k := kX5_stoppedPart) (k6 := kX6_stoppedPart) (ml := 3) (cd := cdL_stoppedPart) (rows := rwL_stoppedPart) (av := []) (gv := gvI) (tc := tc0) hI (fun MX h => c_stoppedPart h) (rm_to fun h => m_stoppedPart (d := 8) h) (fun _ => rfl)
    (fun _ _ _ _ _ _ hcl ho hf hw => by rw [hw]; exact wv_stoppedPart hcl ho hf) (fun _ _ _ _ _ hcl ho hc => wt_stoppedPart hcl ho hc) gvI_ex z_stoppedPart (Or.inl rfl) rfl (by decide)
  refine hP _ _ _ _ _ ?_; (conv => whnf)
  refine ⟨ht, Nat.le_of_ble_eq_true rfl, rfl, x, M1, ⟨_, rfl, g1, Nat.le_of_ble_eq_true rfl, g2⟩, ?_⟩; (conv => whnf)
  rw [g3]; (conv => whnf)
  refine ⟨Nat.succ_lt_succ ht, Nat.le_of_ble_eq_true rfl, rfl, Or.inl ⟨_, _, g4, ?_⟩⟩; (conv => whnf)
  rw [g5]; (conv => whnf)
  refine ⟨Nat.succ_lt_succ ht, Nat.le_of_ble_eq_true rfl, rfl, Or.inl ⟨_, _, g6, ?_⟩⟩; (conv => whnf)
  refine ⟨fun _ => ?_, fun z => absurd rfl z⟩
  refine hP _ _ _ _ _ ?_; (conv => whnf)
  refine ⟨fun _ => ?_, fun z => ?_⟩
  · refine hP _ _ _ _ _ ?_; (conv => whnf)
    exact hn _ _ _ _ _ _ _ (Nat.le_refl _) g8
  · have z : x = 0 := Classical.byContradiction fun q => z q
    have g9 := g9 z
    (conv => whnf)
    rw [g7]; (conv => whnf)
    refine ⟨vi (n := 0) rfl (by decide) (by decide), ?_⟩; (conv => whnf)
    have g9 : f2 0 = u.toInt64 := g9
    rw [show f2 ((cst 0).toNatClampNeg) = u.toInt64 from g9, lcmp_self]
    refine ⟨fun _ => ?_, fun q => absurd rfl q⟩
    refine hP _ _ _ _ _ ?_; (conv => whnf)
    exact hn _ _ _ _ _ _ _ (Nat.le_refl _) g8
theorem z_whyStopped {A : AS} : (∃ v, (spWhy A).1 = .inl (some (.int v))) ∨ ∃ e, (spWhy A).1 = .inr e ∧ cdL_whyStopped e = some (nI (tc0 e)) ∧ ¬ nI (tc0 e) = 0 := by
  unfold spWhy
  (repeat' split) <;> first | exact Or.inl ⟨_, rfl⟩ | exact Or.inr ⟨0, rfl, rfl, by decide⟩ | exact Or.inr ⟨1, rfl, rfl, by decide⟩ | exact Or.inr ⟨2, rfl, rfl, by decide⟩
theorem k_whyStopped (hP : LCl sn sx P) (hI : LJ M A A) (ht : t < 600) (h1 : vp_in (nI i + cst 1) sn) (h2 : vp_in (nI i + cst 2) sn) (h3 : vp_in (nI i + cst 3) sn) (h4 : vp_in (nI i + cst 4) sn) (hn : LNx P i t) : P 1078 t (LHd i l5 l6 l7 l8) [] M := by
  obtain ⟨x, M1, u, M2, f2, g1, g2, ⟨fs1, g3⟩, g4, ⟨fs2, g5⟩, g6, g7, g8, g9⟩ := o_thr (k := kX5_whyStopped) (k6 := kX6_whyStopped) (ml := 3) (cd := cdL_whyStopped) (rows := rwL_whyStopped) (av := []) (gv := gvI) (tc := tc0) hI (fun MX h => c_whyStopped h) (rm_to fun h => m_whyStopped (d := 8) h) (fun _ => rfl)
    (fun _ _ _ _ _ _ hcl ho hf hw => by rw [hw]; exact wv_whyStopped hcl ho hf) (fun _ _ _ _ _ hcl ho hc => wt_whyStopped hcl ho hc) gvI_ex z_whyStopped (Or.inl rfl) rfl (by decide)
  refine hP _ _ _ _ _ ?_; (conv => whnf)
  refine ⟨ht, Nat.le_of_ble_eq_true rfl, rfl, x, M1, ⟨_, rfl, g1, Nat.le_of_ble_eq_true rfl, g2⟩, ?_⟩; (conv => whnf)
  rw [g3]; (conv => whnf)
  refine ⟨Nat.succ_lt_succ ht, Nat.le_of_ble_eq_true rfl, rfl, Or.inl ⟨_, _, g4, ?_⟩⟩; (conv => whnf)
  rw [g5]; (conv => whnf)
  refine ⟨Nat.succ_lt_succ ht, Nat.le_of_ble_eq_true rfl, rfl, Or.inl ⟨_, _, g6, ?_⟩⟩; (conv => whnf)
  refine ⟨fun _ => ?_, fun z => absurd rfl z⟩
  refine hP _ _ _ _ _ ?_; (conv => whnf)
  refine ⟨fun _ => ?_, fun z => ?_⟩
  · refine hP _ _ _ _ _ ?_; (conv => whnf)
    exact hn _ _ _ _ _ _ _ (Nat.le_refl _) g8
  · have z : x = 0 := Classical.byContradiction fun q => z q
    have g9 := g9 z
    (conv => whnf)
    rw [g7]; (conv => whnf)
    refine ⟨vi (n := 0) rfl (by decide) (by decide), ?_⟩; (conv => whnf)
    have g9 : f2 0 = u.toInt64 := g9
    rw [show f2 ((cst 0).toNatClampNeg) = u.toInt64 from g9, lcmp_self]
    refine ⟨fun _ => ?_, fun q => absurd rfl q⟩
    refine hP _ _ _ _ _ ?_; (conv => whnf)
    exact hn _ _ _ _ _ _ _ (Nat.le_refl _) g8
theorem z_undo {A : AS} : (∃ v, (spUndo A).1 = .inl (some (.int v))) ∨ ∃ e, (spUndo A).1 = .inr e ∧ cdL_undo e = some (nI (tc0 e)) ∧ ¬ nI (tc0 e) = 0 := by
  unfold spUndo
  (repeat' split) <;> first | exact Or.inl ⟨_, rfl⟩ | exact Or.inr ⟨0, rfl, rfl, by decide⟩ | exact Or.inr ⟨1, rfl, rfl, by decide⟩ | exact Or.inr ⟨2, rfl, rfl, by decide⟩
theorem k_undo (hP : LCl sn sx P) (hI : LJ M A A) (ht : t < 600) (h1 : vp_in (nI i + cst 1) sn) (h2 : vp_in (nI i + cst 2) sn) (h3 : vp_in (nI i + cst 3) sn) (h4 : vp_in (nI i + cst 4) sn) (hn : LNx P i t) : P 1122 t (LHd i l5 l6 l7 l8) [] M := by
  obtain ⟨x, M1, u, M2, f2, g1, g2, ⟨fs1, g3⟩, g4, ⟨fs2, g5⟩, g6, g7, g8, g9⟩ := o_thr (k := kX5_undo) (k6 := kX6_undo) (ml := 3) (cd := cdL_undo) (rows := rwL_undo) (av := []) (gv := gvI) (tc := tc0) hI (fun MX h => c_undo h) (rm_to fun h => m_undo (d := 8) h) (fun _ => rfl)
    (fun _ _ _ _ _ _ hcl ho hf hw => by rw [hw]; exact wv_undo hcl ho hf) (fun _ _ _ _ _ hcl ho hc => wt_undo hcl ho hc) gvI_ex z_undo (Or.inl rfl) rfl (by decide)
  refine hP _ _ _ _ _ ?_; (conv => whnf)
  refine ⟨ht, Nat.le_of_ble_eq_true rfl, rfl, x, M1, ⟨_, rfl, g1, Nat.le_of_ble_eq_true rfl, g2⟩, ?_⟩; (conv => whnf)
  rw [g3]; (conv => whnf)
  refine ⟨Nat.succ_lt_succ ht, Nat.le_of_ble_eq_true rfl, rfl, Or.inl ⟨_, _, g4, ?_⟩⟩; (conv => whnf)
  rw [g5]; (conv => whnf)
  refine ⟨Nat.succ_lt_succ ht, Nat.le_of_ble_eq_true rfl, rfl, Or.inl ⟨_, _, g6, ?_⟩⟩; (conv => whnf)
  refine ⟨fun _ => ?_, fun z => absurd rfl z⟩
  refine hP _ _ _ _ _ ?_; (conv => whnf)
  refine ⟨fun _ => ?_, fun z => ?_⟩
  · refine hP _ _ _ _ _ ?_; (conv => whnf)
    exact hn _ _ _ _ _ _ _ (Nat.le_refl _) g8
  · have z : x = 0 := Classical.byContradiction fun q => z q
    have g9 := g9 z
    (conv => whnf)
    rw [g7]; (conv => whnf)
    refine ⟨vi (n := 0) rfl (by decide) (by decide), ?_⟩; (conv => whnf)
    have g9 : f2 0 = u.toInt64 := g9
    rw [show f2 ((cst 0).toNatClampNeg) = u.toInt64 from g9, lcmp_self]
    refine ⟨fun _ => ?_, fun q => absurd rfl q⟩
    refine hP _ _ _ _ _ ?_; (conv => whnf)
    exact hn _ _ _ _ _ _ _ (Nat.le_refl _) g8
theorem z_keep {A : AS} : ∃ w, (spKeep A).1 = .inl (some (.int w)) := ⟨_, rfl⟩
theorem k_keep (hP : LCl sn sx P) (hI : LJ M A A) (ht : t < 600) (h1 : vp_in (nI i + cst 1) sn) (h2 : vp_in (nI i + cst 2) sn) (h3 : vp_in (nI i + cst 3) sn) (h4 : vp_in (nI i + cst 4) sn) (hn : LNx P i t) : P 1166 t (LHd i l5 l6 l7 l8) [] M := by
  obtain ⟨fs0, g0⟩ := LJ_0 hI
  obtain ⟨w, hw⟩ := z_keep (A := A)
  obtain ⟨M1, M2, g1, ⟨fs1, g3⟩, g4, g8⟩ := o_ret (k := kX5_keep) (k6 := kX6_keep) (av := []) (w := .int w) (tc := tc0) hI (fun MX h => c_keep h) (rm_to fun h => m_keep (d := 8) h) (fun _ => rfl) hw (fun _ => rfl)
  refine hP _ _ _ _ _ ?_; (conv => whnf)
  rw [g0]; (conv => whnf)
  refine ⟨Nat.lt_succ_of_lt ht, Nat.le_of_ble_eq_true rfl, rfl, Or.inl ⟨_, _, g1, ?_⟩⟩; (conv => whnf)
  rw [g3]; (conv => whnf)
  refine ⟨Nat.lt_succ_of_lt ht, Nat.le_of_ble_eq_true rfl, rfl, Or.inl ⟨_, _, g4, ?_⟩⟩; (conv => whnf)
  refine ⟨fun _ => ?_, fun z => absurd rfl z⟩
  exact hn _ _ _ _ _ _ _ (Nat.le_succ t) g8
theorem z_restore {A : AS} : (∃ v, (spRestore A).1 = .inl (some (.int v))) ∨ ∃ e, (spRestore A).1 = .inr e ∧ cdL_restore e = some (nI (tc0 e)) ∧ ¬ nI (tc0 e) = 0 := by
  unfold spRestore
  (repeat' split) <;> first | exact Or.inl ⟨_, rfl⟩ | exact Or.inr ⟨0, rfl, rfl, by decide⟩ | exact Or.inr ⟨1, rfl, rfl, by decide⟩ | exact Or.inr ⟨2, rfl, rfl, by decide⟩
theorem k_restore (hP : LCl sn sx P) (hI : LJ M A A) (ht : t < 600) (h1 : vp_in (nI i + cst 1) sn) (h2 : vp_in (nI i + cst 2) sn) (h3 : vp_in (nI i + cst 3) sn) (h4 : vp_in (nI i + cst 4) sn) (hn : LNx P i t) : P 1179 t (LHd i l5 l6 l7 l8) [] M := by
  obtain ⟨x, M1, u, M2, f2, g1, g2, ⟨fs1, g3⟩, g4, ⟨fs2, g5⟩, g6, g7, g8, g9⟩ := o_thr (k := kX5_restore) (k6 := kX6_restore) (ml := 3) (cd := cdL_restore) (rows := rwL_restore) (av := []) (gv := gvI) (tc := tc0) hI (fun MX h => c_restore h) (rm_to fun h => m_restore (d := 8) h) (fun _ => rfl)
    (fun _ _ _ _ _ _ hcl ho hf hw => by rw [hw]; exact wv_restore hcl ho hf) (fun _ _ _ _ _ hcl ho hc => wt_restore hcl ho hc) gvI_ex z_restore (Or.inl rfl) rfl (by decide)
  refine hP _ _ _ _ _ ?_; (conv => whnf)
  refine ⟨ht, Nat.le_of_ble_eq_true rfl, rfl, x, M1, ⟨_, rfl, g1, Nat.le_of_ble_eq_true rfl, g2⟩, ?_⟩; (conv => whnf)
  rw [g3]; (conv => whnf)
  refine ⟨Nat.succ_lt_succ ht, Nat.le_of_ble_eq_true rfl, rfl, Or.inl ⟨_, _, g4, ?_⟩⟩; (conv => whnf)
  rw [g5]; (conv => whnf)
  refine ⟨Nat.succ_lt_succ ht, Nat.le_of_ble_eq_true rfl, rfl, Or.inl ⟨_, _, g6, ?_⟩⟩; (conv => whnf)
  refine ⟨fun _ => ?_, fun z => absurd rfl z⟩
  refine hP _ _ _ _ _ ?_; (conv => whnf)
  refine ⟨fun _ => ?_, fun z => ?_⟩
  · refine hP _ _ _ _ _ ?_; (conv => whnf)
    exact hn _ _ _ _ _ _ _ (Nat.le_refl _) g8
  · have z : x = 0 := Classical.byContradiction fun q => z q
    have g9 := g9 z
    (conv => whnf)
    rw [g7]; (conv => whnf)
    refine ⟨vi (n := 0) rfl (by decide) (by decide), ?_⟩; (conv => whnf)
    have g9 : f2 0 = u.toInt64 := g9
    rw [show f2 ((cst 0).toNatClampNeg) = u.toInt64 from g9, lcmp_self]
    refine ⟨fun _ => ?_, fun q => absurd rfl q⟩
    refine hP _ _ _ _ _ ?_; (conv => whnf)
    exact hn _ _ _ _ _ _ _ (Nat.le_refl _) g8
theorem z_savedStates {A : AS} : ∃ w, (spSaved A).1 = .inl (some (.int w)) := ⟨_, rfl⟩
theorem k_savedStates (hP : LCl sn sx P) (hI : LJ M A A) (ht : t < 600) (h1 : vp_in (nI i + cst 1) sn) (h2 : vp_in (nI i + cst 2) sn) (h3 : vp_in (nI i + cst 3) sn) (h4 : vp_in (nI i + cst 4) sn) (hn : LNx P i t) : P 1223 t (LHd i l5 l6 l7 l8) [] M := by
  obtain ⟨fs0, g0⟩ := LJ_0 hI
  obtain ⟨w, hw⟩ := z_savedStates (A := A)
  obtain ⟨M1, M2, g1, ⟨fs1, g3⟩, g4, g8⟩ := o_ret (k := kX5_savedStates) (k6 := kX6_savedStates) (av := []) (w := .int w) (tc := tc0) hI (fun MX h => c_savedStates h) (rm_to fun h => m_savedStates (d := 8) h) (fun _ => rfl) hw (fun _ => rfl)
  refine hP _ _ _ _ _ ?_; (conv => whnf)
  rw [g0]; (conv => whnf)
  refine ⟨Nat.lt_succ_of_lt ht, Nat.le_of_ble_eq_true rfl, rfl, Or.inl ⟨_, _, g1, ?_⟩⟩; (conv => whnf)
  rw [g3]; (conv => whnf)
  refine ⟨Nat.lt_succ_of_lt ht, Nat.le_of_ble_eq_true rfl, rfl, Or.inl ⟨_, _, g4, ?_⟩⟩; (conv => whnf)
  refine ⟨fun _ => ?_, fun z => absurd rfl z⟩
  exact hn _ _ _ _ _ _ _ (Nat.le_succ t) g8
theorem z_truePlace {A : AS} {x : Int32} : (∃ v, (spPlace A x).1 = .inl (some (.int v))) ∨ ∃ e, (spPlace A x).1 = .inr e ∧ cdL_truePlace e = some (nI (tc0 e)) ∧ ¬ nI (tc0 e) = 0 := by
  unfold spPlace
  (repeat' split) <;> first | exact Or.inl ⟨_, rfl⟩ | exact Or.inr ⟨0, rfl, rfl, by decide⟩ | exact Or.inr ⟨1, rfl, rfl, by decide⟩ | exact Or.inr ⟨2, rfl, rfl, by decide⟩
theorem k_truePlace (hP : LCl sn sx P) (hI : LJ M A A) (ht : t < 600) (h1 : vp_in (nI i + cst 1) sn) (h2 : vp_in (nI i + cst 2) sn) (h3 : vp_in (nI i + cst 3) sn) (h4 : vp_in (nI i + cst 4) sn) (hn : LNx P i t) : P 1236 t (LHd i l5 l6 l7 l8) [] M := by
  obtain ⟨a, e1⟩ : ∃ y, y = sx (nI i + cst 1).toNatClampNeg := ⟨_, rfl⟩
  obtain ⟨x, M1, u, M2, f2, g1, g2, ⟨fs1, g3⟩, g4, ⟨fs2, g5⟩, g6, g7, g8, g9⟩ := o_thr (k := kX5_truePlace) (k6 := kX6_truePlace) (ml := 4) (cd := cdL_truePlace) (rows := rwL_truePlace) (av := [.int a]) (gv := gvI) (tc := tc0) hI (fun MX h => c_truePlace h a) (rm_to fun h => m_truePlace (d := 8) h a) (fun _ => rfl)
    (fun _ _ _ _ _ _ hcl ho hf hw => by rw [hw]; exact wv_truePlace hcl ho hf) (fun _ _ _ _ _ hcl ho hc => wt_truePlace hcl ho hc) gvI_ex z_truePlace (Or.inl rfl) rfl (by decide)
  refine hP _ _ _ _ _ ?_; (conv => whnf)
  refine ⟨rfl, h1, ?_⟩; rw [← e1]; (conv => whnf)
  refine ⟨ht, Nat.le_of_ble_eq_true rfl, rfl, x, M1, ⟨_, rfl, g1, Nat.le_of_ble_eq_true rfl, g2⟩, ?_⟩; (conv => whnf)
  refine ⟨rfl, h1, ?_⟩; rw [← e1]; (conv => whnf)
  rw [g3]; (conv => whnf)
  refine ⟨Nat.succ_lt_succ ht, Nat.le_of_ble_eq_true rfl, rfl, Or.inl ⟨_, _, g4, ?_⟩⟩; (conv => whnf)
  rw [g5]; (conv => whnf)
  refine ⟨Nat.succ_lt_succ ht, Nat.le_of_ble_eq_true rfl, rfl, Or.inl ⟨_, _, g6, ?_⟩⟩; (conv => whnf)
  refine ⟨fun _ => ?_, fun z => absurd rfl z⟩
  refine hP _ _ _ _ _ ?_; (conv => whnf)
  refine ⟨fun _ => ?_, fun z => ?_⟩
  · refine hP _ _ _ _ _ ?_; (conv => whnf)
    exact hn _ _ _ _ _ _ _ (Nat.le_refl _) g8
  · have z : x = 0 := Classical.byContradiction fun q => z q
    have g9 := g9 z
    (conv => whnf)
    rw [g7]; (conv => whnf)
    refine ⟨vi (n := 0) rfl (by decide) (by decide), ?_⟩; (conv => whnf)
    have g9 : f2 0 = u.toInt64 := g9
    rw [show f2 ((cst 0).toNatClampNeg) = u.toInt64 from g9, lcmp_self]
    refine ⟨fun _ => ?_, fun q => absurd rfl q⟩
    refine hP _ _ _ _ _ ?_; (conv => whnf)
    exact hn _ _ _ _ _ _ _ (Nat.le_refl _) g8
theorem z_trueEnvelope {A : AS} : ∃ w, (spEnv A).1 = .inl (some (.int w)) := ⟨_, rfl⟩
theorem k_trueEnvelope (hP : LCl sn sx P) (hI : LJ M A A) (ht : t < 600) (h1 : vp_in (nI i + cst 1) sn) (h2 : vp_in (nI i + cst 2) sn) (h3 : vp_in (nI i + cst 3) sn) (h4 : vp_in (nI i + cst 4) sn) (hn : LNx P i t) : P 1292 t (LHd i l5 l6 l7 l8) [] M := by
  obtain ⟨fs0, g0⟩ := LJ_0 hI
  obtain ⟨w, hw⟩ := z_trueEnvelope (A := A)
  obtain ⟨M1, M2, g1, ⟨fs1, g3⟩, g4, g8⟩ := o_ret (k := kX5_trueEnvelope) (k6 := kX6_trueEnvelope) (av := []) (w := .int w) (tc := tc0) hI (fun MX h => c_trueEnvelope h) (rm_to fun h => m_trueEnvelope (d := 8) h) (fun _ => rfl) hw (fun _ => rfl)
  refine hP _ _ _ _ _ ?_; (conv => whnf)
  rw [g0]; (conv => whnf)
  refine ⟨Nat.lt_succ_of_lt ht, Nat.le_of_ble_eq_true rfl, rfl, Or.inl ⟨_, _, g1, ?_⟩⟩; (conv => whnf)
  rw [g3]; (conv => whnf)
  refine ⟨Nat.lt_succ_of_lt ht, Nat.le_of_ble_eq_true rfl, rfl, Or.inl ⟨_, _, g4, ?_⟩⟩; (conv => whnf)
  refine ⟨fun _ => ?_, fun z => absurd rfl z⟩
  exact hn _ _ _ _ _ _ _ (Nat.le_succ t) g8
theorem z_clues {A : AS} : ∃ w, (spClues A).1 = .inl (some (.int w)) := ⟨_, rfl⟩
theorem k_clues (hP : LCl sn sx P) (hI : LJ M A A) (ht : t < 600) (h1 : vp_in (nI i + cst 1) sn) (h2 : vp_in (nI i + cst 2) sn) (h3 : vp_in (nI i + cst 3) sn) (h4 : vp_in (nI i + cst 4) sn) (hn : LNx P i t) : P 1305 t (LHd i l5 l6 l7 l8) [] M := by
  obtain ⟨fs0, g0⟩ := LJ_0 hI
  obtain ⟨w, hw⟩ := z_clues (A := A)
  obtain ⟨M1, M2, g1, ⟨fs1, g3⟩, g4, g8⟩ := o_ret (k := kX5_clues) (k6 := kX6_clues) (av := []) (w := .int w) (tc := tc0) hI (fun MX h => c_clues h) (rm_to fun h => m_clues (d := 8) h) (fun _ => rfl) hw (fun _ => rfl)
  refine hP _ _ _ _ _ ?_; (conv => whnf)
  rw [g0]; (conv => whnf)
  refine ⟨Nat.lt_succ_of_lt ht, Nat.le_of_ble_eq_true rfl, rfl, Or.inl ⟨_, _, g1, ?_⟩⟩; (conv => whnf)
  rw [g3]; (conv => whnf)
  refine ⟨Nat.lt_succ_of_lt ht, Nat.le_of_ble_eq_true rfl, rfl, Or.inl ⟨_, _, g4, ?_⟩⟩; (conv => whnf)
  refine ⟨fun _ => ?_, fun z => absurd rfl z⟩
  exact hn _ _ _ _ _ _ _ (Nat.le_succ t) g8
theorem z_kindOf {A : AS} {x : Int32} : (∃ v, (spOf A x (fun k => nI (clG A.1 k).1)).1 = .inl (some (.int v))) ∨ ∃ e, (spOf A x (fun k => nI (clG A.1 k).1)).1 = .inr e ∧ cdL_kindOf e = some (nI (tc0 e)) ∧ ¬ nI (tc0 e) = 0 := by
  unfold spOf
  (repeat' split) <;> first | exact Or.inl ⟨_, rfl⟩ | exact Or.inr ⟨0, rfl, rfl, by decide⟩ | exact Or.inr ⟨1, rfl, rfl, by decide⟩ | exact Or.inr ⟨2, rfl, rfl, by decide⟩
theorem k_kindOf (hP : LCl sn sx P) (hI : LJ M A A) (ht : t < 600) (h1 : vp_in (nI i + cst 1) sn) (h2 : vp_in (nI i + cst 2) sn) (h3 : vp_in (nI i + cst 3) sn) (h4 : vp_in (nI i + cst 4) sn) (hn : LNx P i t) : P 1318 t (LHd i l5 l6 l7 l8) [] M := by
  obtain ⟨a, e1⟩ : ∃ y, y = sx (nI i + cst 1).toNatClampNeg := ⟨_, rfl⟩
  obtain ⟨x, M1, u, M2, f2, g1, g2, ⟨fs1, g3⟩, g4, ⟨fs2, g5⟩, g6, g7, g8, g9⟩ := o_thr (k := kX5_kindOf) (k6 := kX6_kindOf) (ml := 4) (cd := cdL_kindOf) (rows := rwL_kindOf) (av := [.int a]) (gv := gvI) (tc := tc0) hI (fun MX h => c_kindOf h a) (rm_to fun h => m_kindOf (d := 8) h a) (fun _ => rfl)
    (fun _ _ _ _ _ _ hcl ho hf hw => by rw [hw]; exact wv_kindOf hcl ho hf) (fun _ _ _ _ _ hcl ho hc => wt_kindOf hcl ho hc) gvI_ex z_kindOf (Or.inl rfl) rfl (by decide)
  refine hP _ _ _ _ _ ?_; (conv => whnf)
  refine ⟨rfl, h1, ?_⟩; rw [← e1]; (conv => whnf)
  refine ⟨ht, Nat.le_of_ble_eq_true rfl, rfl, x, M1, ⟨_, rfl, g1, Nat.le_of_ble_eq_true rfl, g2⟩, ?_⟩; (conv => whnf)
  refine ⟨rfl, h1, ?_⟩; rw [← e1]; (conv => whnf)
  rw [g3]; (conv => whnf)
  refine ⟨Nat.succ_lt_succ ht, Nat.le_of_ble_eq_true rfl, rfl, Or.inl ⟨_, _, g4, ?_⟩⟩; (conv => whnf)
  rw [g5]; (conv => whnf)
  refine ⟨Nat.succ_lt_succ ht, Nat.le_of_ble_eq_true rfl, rfl, Or.inl ⟨_, _, g6, ?_⟩⟩; (conv => whnf)
  refine ⟨fun _ => ?_, fun z => absurd rfl z⟩
  refine hP _ _ _ _ _ ?_; (conv => whnf)
  refine ⟨fun _ => ?_, fun z => ?_⟩
  · refine hP _ _ _ _ _ ?_; (conv => whnf)
    exact hn _ _ _ _ _ _ _ (Nat.le_refl _) g8
  · have z : x = 0 := Classical.byContradiction fun q => z q
    have g9 := g9 z
    (conv => whnf)
    rw [g7]; (conv => whnf)
    refine ⟨vi (n := 0) rfl (by decide) (by decide), ?_⟩; (conv => whnf)
    have g9 : f2 0 = u.toInt64 := g9
    rw [show f2 ((cst 0).toNatClampNeg) = u.toInt64 from g9, lcmp_self]
    refine ⟨fun _ => ?_, fun q => absurd rfl q⟩
    refine hP _ _ _ _ _ ?_; (conv => whnf)
    exact hn _ _ _ _ _ _ _ (Nat.le_refl _) g8
theorem z_playerOf {A : AS} {x : Int32} : (∃ v, (spOf A x (fun k => plI (clG A.1 k))).1 = .inl (some (.int v))) ∨ ∃ e, (spOf A x (fun k => plI (clG A.1 k))).1 = .inr e ∧ cdL_playerOf e = some (nI (tc0 e)) ∧ ¬ nI (tc0 e) = 0 := by
  unfold spOf
  (repeat' split) <;> first | exact Or.inl ⟨_, rfl⟩ | exact Or.inr ⟨0, rfl, rfl, by decide⟩ | exact Or.inr ⟨1, rfl, rfl, by decide⟩ | exact Or.inr ⟨2, rfl, rfl, by decide⟩
theorem k_playerOf (hP : LCl sn sx P) (hI : LJ M A A) (ht : t < 600) (h1 : vp_in (nI i + cst 1) sn) (h2 : vp_in (nI i + cst 2) sn) (h3 : vp_in (nI i + cst 3) sn) (h4 : vp_in (nI i + cst 4) sn) (hn : LNx P i t) : P 1374 t (LHd i l5 l6 l7 l8) [] M := by
  obtain ⟨a, e1⟩ : ∃ y, y = sx (nI i + cst 1).toNatClampNeg := ⟨_, rfl⟩
  obtain ⟨x, M1, u, M2, f2, g1, g2, ⟨fs1, g3⟩, g4, ⟨fs2, g5⟩, g6, g7, g8, g9⟩ := o_thr (k := kX5_playerOf) (k6 := kX6_playerOf) (ml := 4) (cd := cdL_playerOf) (rows := rwL_playerOf) (av := [.int a]) (gv := gvI) (tc := tc0) hI (fun MX h => c_playerOf h a) (rm_to fun h => m_playerOf (d := 8) h a) (fun _ => rfl)
    (fun _ _ _ _ _ _ hcl ho hf hw => by rw [hw]; exact wv_playerOf hcl ho hf) (fun _ _ _ _ _ hcl ho hc => wt_playerOf hcl ho hc) gvI_ex z_playerOf (Or.inl rfl) rfl (by decide)
  refine hP _ _ _ _ _ ?_; (conv => whnf)
  refine ⟨rfl, h1, ?_⟩; rw [← e1]; (conv => whnf)
  refine ⟨ht, Nat.le_of_ble_eq_true rfl, rfl, x, M1, ⟨_, rfl, g1, Nat.le_of_ble_eq_true rfl, g2⟩, ?_⟩; (conv => whnf)
  refine ⟨rfl, h1, ?_⟩; rw [← e1]; (conv => whnf)
  rw [g3]; (conv => whnf)
  refine ⟨Nat.succ_lt_succ ht, Nat.le_of_ble_eq_true rfl, rfl, Or.inl ⟨_, _, g4, ?_⟩⟩; (conv => whnf)
  rw [g5]; (conv => whnf)
  refine ⟨Nat.succ_lt_succ ht, Nat.le_of_ble_eq_true rfl, rfl, Or.inl ⟨_, _, g6, ?_⟩⟩; (conv => whnf)
  refine ⟨fun _ => ?_, fun z => absurd rfl z⟩
  refine hP _ _ _ _ _ ?_; (conv => whnf)
  refine ⟨fun _ => ?_, fun z => ?_⟩
  · refine hP _ _ _ _ _ ?_; (conv => whnf)
    exact hn _ _ _ _ _ _ _ (Nat.le_refl _) g8
  · have z : x = 0 := Classical.byContradiction fun q => z q
    have g9 := g9 z
    (conv => whnf)
    rw [g7]; (conv => whnf)
    refine ⟨vi (n := 0) rfl (by decide) (by decide), ?_⟩; (conv => whnf)
    have g9 : f2 0 = u.toInt64 := g9
    rw [show f2 ((cst 0).toNatClampNeg) = u.toInt64 from g9, lcmp_self]
    refine ⟨fun _ => ?_, fun q => absurd rfl q⟩
    refine hP _ _ _ _ _ ?_; (conv => whnf)
    exact hn _ _ _ _ _ _ _ (Nat.le_refl _) g8
theorem z_cardsOf {A : AS} {x : Int32} : (∃ v, (spOf A x (fun k => nI (clG A.1 k).2.2)).1 = .inl (some (.int v))) ∨ ∃ e, (spOf A x (fun k => nI (clG A.1 k).2.2)).1 = .inr e ∧ cdL_cardsOf e = some (nI (tc0 e)) ∧ ¬ nI (tc0 e) = 0 := by
  unfold spOf
  (repeat' split) <;> first | exact Or.inl ⟨_, rfl⟩ | exact Or.inr ⟨0, rfl, rfl, by decide⟩ | exact Or.inr ⟨1, rfl, rfl, by decide⟩ | exact Or.inr ⟨2, rfl, rfl, by decide⟩
theorem k_cardsOf (hP : LCl sn sx P) (hI : LJ M A A) (ht : t < 600) (h1 : vp_in (nI i + cst 1) sn) (h2 : vp_in (nI i + cst 2) sn) (h3 : vp_in (nI i + cst 3) sn) (h4 : vp_in (nI i + cst 4) sn) (hn : LNx P i t) : P 1430 t (LHd i l5 l6 l7 l8) [] M := by
  obtain ⟨a, e1⟩ : ∃ y, y = sx (nI i + cst 1).toNatClampNeg := ⟨_, rfl⟩
  obtain ⟨x, M1, u, M2, f2, g1, g2, ⟨fs1, g3⟩, g4, ⟨fs2, g5⟩, g6, g7, g8, g9⟩ := o_thr (k := kX5_cardsOf) (k6 := kX6_cardsOf) (ml := 4) (cd := cdL_cardsOf) (rows := rwL_cardsOf) (av := [.int a]) (gv := gvI) (tc := tc0) hI (fun MX h => c_cardsOf h a) (rm_to fun h => m_cardsOf (d := 8) h a) (fun _ => rfl)
    (fun _ _ _ _ _ _ hcl ho hf hw => by rw [hw]; exact wv_cardsOf hcl ho hf) (fun _ _ _ _ _ hcl ho hc => wt_cardsOf hcl ho hc) gvI_ex z_cardsOf (Or.inl rfl) rfl (by decide)
  refine hP _ _ _ _ _ ?_; (conv => whnf)
  refine ⟨rfl, h1, ?_⟩; rw [← e1]; (conv => whnf)
  refine ⟨ht, Nat.le_of_ble_eq_true rfl, rfl, x, M1, ⟨_, rfl, g1, Nat.le_of_ble_eq_true rfl, g2⟩, ?_⟩; (conv => whnf)
  refine ⟨rfl, h1, ?_⟩; rw [← e1]; (conv => whnf)
  rw [g3]; (conv => whnf)
  refine ⟨Nat.succ_lt_succ ht, Nat.le_of_ble_eq_true rfl, rfl, Or.inl ⟨_, _, g4, ?_⟩⟩; (conv => whnf)
  rw [g5]; (conv => whnf)
  refine ⟨Nat.succ_lt_succ ht, Nat.le_of_ble_eq_true rfl, rfl, Or.inl ⟨_, _, g6, ?_⟩⟩; (conv => whnf)
  refine ⟨fun _ => ?_, fun z => absurd rfl z⟩
  refine hP _ _ _ _ _ ?_; (conv => whnf)
  refine ⟨fun _ => ?_, fun z => ?_⟩
  · refine hP _ _ _ _ _ ?_; (conv => whnf)
    exact hn _ _ _ _ _ _ _ (Nat.le_refl _) g8
  · have z : x = 0 := Classical.byContradiction fun q => z q
    have g9 := g9 z
    (conv => whnf)
    rw [g7]; (conv => whnf)
    refine ⟨vi (n := 0) rfl (by decide) (by decide), ?_⟩; (conv => whnf)
    have g9 : f2 0 = u.toInt64 := g9
    rw [show f2 ((cst 0).toNatClampNeg) = u.toInt64 from g9, lcmp_self]
    refine ⟨fun _ => ?_, fun q => absurd rfl q⟩
    refine hP _ _ _ _ _ ?_; (conv => whnf)
    exact hn _ _ _ _ _ _ _ (Nat.le_refl _) g8
theorem z_isTrue {A : AS} {x : Int32} : (∃ v, (spOf A x (fun k => bI (agG A.1 k))).1 = .inl (some (.int v))) ∨ ∃ e, (spOf A x (fun k => bI (agG A.1 k))).1 = .inr e ∧ cdL_isTrue e = some (nI (tc0 e)) ∧ ¬ nI (tc0 e) = 0 := by
  unfold spOf
  (repeat' split) <;> first | exact Or.inl ⟨_, rfl⟩ | exact Or.inr ⟨0, rfl, rfl, by decide⟩ | exact Or.inr ⟨1, rfl, rfl, by decide⟩ | exact Or.inr ⟨2, rfl, rfl, by decide⟩
theorem k_isTrue (hP : LCl sn sx P) (hI : LJ M A A) (ht : t < 600) (h1 : vp_in (nI i + cst 1) sn) (h2 : vp_in (nI i + cst 2) sn) (h3 : vp_in (nI i + cst 3) sn) (h4 : vp_in (nI i + cst 4) sn) (hn : LNx P i t) : P 1486 t (LHd i l5 l6 l7 l8) [] M := by
  obtain ⟨a, e1⟩ : ∃ y, y = sx (nI i + cst 1).toNatClampNeg := ⟨_, rfl⟩
  obtain ⟨x, M1, u, M2, f2, g1, g2, ⟨fs1, g3⟩, g4, ⟨fs2, g5⟩, g6, g7, g8, g9⟩ := o_thr (k := kX5_isTrue) (k6 := kX6_isTrue) (ml := 4) (cd := cdL_isTrue) (rows := rwL_isTrue) (av := [.int a]) (gv := gvB) (tc := tc0) hI (fun MX h => c_isTrue h a) (rm_to fun h => m_isTrue (d := 8) h a) (fun _ => rfl)
    (fun _ _ _ _ _ _ hcl ho hf hw => wv_isTrue hcl ho hf hw) (fun _ _ _ _ _ hcl ho hc => wt_isTrue hcl ho hc) gvB_ex z_isTrue (Or.inr rfl) rfl (by decide)
  refine hP _ _ _ _ _ ?_; (conv => whnf)
  refine ⟨rfl, h1, ?_⟩; rw [← e1]; (conv => whnf)
  refine ⟨ht, Nat.le_of_ble_eq_true rfl, rfl, x, M1, ⟨_, rfl, g1, Nat.le_of_ble_eq_true rfl, g2⟩, ?_⟩; (conv => whnf)
  refine ⟨rfl, h1, ?_⟩; rw [← e1]; (conv => whnf)
  rw [g3]; (conv => whnf)
  refine ⟨Nat.succ_lt_succ ht, Nat.le_of_ble_eq_true rfl, rfl, Or.inl ⟨_, _, g4, ?_⟩⟩; (conv => whnf)
  rw [g5]; (conv => whnf)
  refine ⟨Nat.succ_lt_succ ht, Nat.le_of_ble_eq_true rfl, rfl, Or.inl ⟨_, _, g6, ?_⟩⟩; (conv => whnf)
  refine ⟨fun _ => ?_, fun z => absurd rfl z⟩
  refine hP _ _ _ _ _ ?_; (conv => whnf)
  refine ⟨fun _ => ?_, fun z => ?_⟩
  · refine hP _ _ _ _ _ ?_; (conv => whnf)
    exact hn _ _ _ _ _ _ _ (Nat.le_refl _) g8
  · have z : x = 0 := Classical.byContradiction fun q => z q
    have g9 := g9 z
    (conv => whnf)
    rw [g7]; (conv => whnf)
    refine ⟨vi (n := 0) rfl (by decide) (by decide), ?_⟩; (conv => whnf)
    refine ⟨fun q => ?_, fun q => ?_⟩
    · refine hP _ _ _ _ _ ?_; (conv => whnf)
      rw [show f2 ((cst 0).toNatClampNeg) = 0 from g9.1 q, show lg_cmp (0 : Int64) (Int64.ofNat (0 : Fin 2).val) = 0 from lcmp_self 0]
      refine ⟨fun _ => ?_, fun q => absurd rfl q⟩
      refine hP _ _ _ _ _ ?_; (conv => whnf)
      exact hn _ _ _ _ _ _ _ (Nat.le_refl _) g8
    · (conv => whnf)
      refine hP _ _ _ _ _ ?_; (conv => whnf)
      rw [show f2 ((cst 0).toNatClampNeg) = 1 from g9.2 q, show lg_cmp (1 : Int64) (Int64.ofNat (1 : Fin 2).val) = 0 from lcmp_self 1]
      refine ⟨fun _ => ?_, fun q => absurd rfl q⟩
      refine hP _ _ _ _ _ ?_; (conv => whnf)
      exact hn _ _ _ _ _ _ _ (Nat.le_refl _) g8
theorem z_untrueClues {A : AS} : ∃ w, (spUntrue A).1 = .inl (some (.int w)) := ⟨_, rfl⟩
theorem k_untrueClues (hP : LCl sn sx P) (hI : LJ M A A) (ht : t < 600) (h1 : vp_in (nI i + cst 1) sn) (h2 : vp_in (nI i + cst 2) sn) (h3 : vp_in (nI i + cst 3) sn) (h4 : vp_in (nI i + cst 4) sn) (hn : LNx P i t) : P 1549 t (LHd i l5 l6 l7 l8) [] M := by
  obtain ⟨fs0, g0⟩ := LJ_0 hI
  obtain ⟨w, hw⟩ := z_untrueClues (A := A)
  obtain ⟨M1, M2, g1, ⟨fs1, g3⟩, g4, g8⟩ := o_ret (k := kX5_untrueClues) (k6 := kX6_untrueClues) (av := []) (w := .int w) (tc := tc0) hI (fun MX h => c_untrue h) (rm_to fun h => m_untrueClues (d := 8) h) (fun _ => rfl) hw (fun _ => rfl)
  refine hP _ _ _ _ _ ?_; (conv => whnf)
  rw [g0]; (conv => whnf)
  refine ⟨Nat.lt_succ_of_lt ht, Nat.le_of_ble_eq_true rfl, rfl, Or.inl ⟨_, _, g1, ?_⟩⟩; (conv => whnf)
  rw [g3]; (conv => whnf)
  refine ⟨Nat.lt_succ_of_lt ht, Nat.le_of_ble_eq_true rfl, rfl, Or.inl ⟨_, _, g4, ?_⟩⟩; (conv => whnf)
  refine ⟨fun _ => ?_, fun z => absurd rfl z⟩
  exact hn _ _ _ _ _ _ _ (Nat.le_succ t) g8
theorem z_deals {A : AS} : ∃ w, (sp0 A (nI (dT A.1.1))).1 = .inl (some (.int w)) := ⟨_, rfl⟩
theorem k_deals (hP : LCl sn sx P) (hI : LJ M A A) (ht : t < 600) (h1 : vp_in (nI i + cst 1) sn) (h2 : vp_in (nI i + cst 2) sn) (h3 : vp_in (nI i + cst 3) sn) (h4 : vp_in (nI i + cst 4) sn) (hn : LNx P i t) : P 1562 t (LHd i l5 l6 l7 l8) [] M := by
  obtain ⟨fs0, g0⟩ := LJ_0 hI
  obtain ⟨w, hw⟩ := z_deals (A := A)
  obtain ⟨M1, M2, g1, ⟨fs1, g3⟩, g4, g8⟩ := o_ret (k := kX5_deals) (k6 := kX6_deals) (av := []) (w := .int w) (tc := tc0) hI (fun MX h => c_deals h) (rm_to fun h => m_deals (d := 8) h) (fun _ => rfl) hw (fun _ => rfl)
  refine hP _ _ _ _ _ ?_; (conv => whnf)
  rw [g0]; (conv => whnf)
  refine ⟨Nat.lt_succ_of_lt ht, Nat.le_of_ble_eq_true rfl, rfl, Or.inl ⟨_, _, g1, ?_⟩⟩; (conv => whnf)
  rw [g3]; (conv => whnf)
  refine ⟨Nat.lt_succ_of_lt ht, Nat.le_of_ble_eq_true rfl, rfl, Or.inl ⟨_, _, g4, ?_⟩⟩; (conv => whnf)
  refine ⟨fun _ => ?_, fun z => absurd rfl z⟩
  exact hn _ _ _ _ _ _ _ (Nat.le_succ t) g8
theorem z_dealsByHands {A : AS} : ∃ w, (sp0 A (nI (dT A.1.1))).1 = .inl (some (.int w)) := ⟨_, rfl⟩
theorem k_dealsByHands (hP : LCl sn sx P) (hI : LJ M A A) (ht : t < 600) (h1 : vp_in (nI i + cst 1) sn) (h2 : vp_in (nI i + cst 2) sn) (h3 : vp_in (nI i + cst 3) sn) (h4 : vp_in (nI i + cst 4) sn) (hn : LNx P i t) : P 1575 t (LHd i l5 l6 l7 l8) [] M := by
  obtain ⟨fs0, g0⟩ := LJ_0 hI
  obtain ⟨w, hw⟩ := z_dealsByHands (A := A)
  obtain ⟨M1, M2, g1, ⟨fs1, g3⟩, g4, g8⟩ := o_ret (k := kX5_dealsByHands) (k6 := kX6_dealsByHands) (av := []) (w := .int w) (tc := tc0) hI (fun MX h => c_dealsByHands h) (rm_to fun h => m_dealsByHands (d := 8) h) (fun _ => rfl) hw (fun _ => rfl)
  refine hP _ _ _ _ _ ?_; (conv => whnf)
  rw [g0]; (conv => whnf)
  refine ⟨Nat.lt_succ_of_lt ht, Nat.le_of_ble_eq_true rfl, rfl, Or.inl ⟨_, _, g1, ?_⟩⟩; (conv => whnf)
  rw [g3]; (conv => whnf)
  refine ⟨Nat.lt_succ_of_lt ht, Nat.le_of_ble_eq_true rfl, rfl, Or.inl ⟨_, _, g4, ?_⟩⟩; (conv => whnf)
  refine ⟨fun _ => ?_, fun z => absurd rfl z⟩
  exact hn _ _ _ _ _ _ _ (Nat.le_succ t) g8
theorem z_dealsWith {A : AS} {x y : Int32} : (∃ v, (sp2 A x y 9 4 (fun a b => nI (dCA A.1.1 a b))).1 = .inl (some (.int v))) ∨ ∃ e, (sp2 A x y 9 4 (fun a b => nI (dCA A.1.1 a b))).1 = .inr e ∧ cdL_dealsWith e = some (nI (tc0 e)) ∧ ¬ nI (tc0 e) = 0 := by
  unfold sp2
  (repeat' split) <;> first | exact Or.inl ⟨_, rfl⟩ | exact Or.inr ⟨0, rfl, rfl, by decide⟩ | exact Or.inr ⟨1, rfl, rfl, by decide⟩ | exact Or.inr ⟨2, rfl, rfl, by decide⟩
theorem k_dealsWith (hP : LCl sn sx P) (hI : LJ M A A) (ht : t < 600) (h1 : vp_in (nI i + cst 1) sn) (h2 : vp_in (nI i + cst 2) sn) (h3 : vp_in (nI i + cst 3) sn) (h4 : vp_in (nI i + cst 4) sn) (hn : LNx P i t) : P 1588 t (LHd i l5 l6 l7 l8) [] M := by
  obtain ⟨a, e1⟩ : ∃ y, y = sx (nI i + cst 1).toNatClampNeg := ⟨_, rfl⟩
  obtain ⟨b, e2⟩ : ∃ y, y = sx (nI i + cst 2).toNatClampNeg := ⟨_, rfl⟩
  obtain ⟨x, M1, u, M2, f2, g1, g2, ⟨fs1, g3⟩, g4, ⟨fs2, g5⟩, g6, g7, g8, g9⟩ := o_thr (k := kX5_dealsWith) (k6 := kX6_dealsWith) (ml := 5) (cd := cdL_dealsWith) (rows := rwL_dealsWith) (av := [.int a, .int b]) (gv := gvI) (tc := tc0) hI (fun MX h => c_dealsWith h a b) (rm_to fun h => m_dealsWith (d := 8) h a b) (fun _ => rfl)
    (fun _ _ _ _ _ _ hcl ho hf hw => by rw [hw]; exact wv_dealsWith hcl ho hf) (fun _ _ _ _ _ hcl ho hc => wt_dealsWith hcl ho hc) gvI_ex z_dealsWith (Or.inl rfl) rfl (by decide)
  refine hP _ _ _ _ _ ?_; (conv => whnf)
  refine ⟨rfl, h1, ?_⟩; rw [← e1]; (conv => whnf)
  refine ⟨rfl, h2, ?_⟩; rw [← e2]; (conv => whnf)
  refine ⟨ht, Nat.le_of_ble_eq_true rfl, rfl, x, M1, ⟨_, rfl, g1, Nat.le_of_ble_eq_true rfl, g2⟩, ?_⟩; (conv => whnf)
  refine ⟨rfl, h1, ?_⟩; rw [← e1]; (conv => whnf)
  refine ⟨rfl, h2, ?_⟩; rw [← e2]; (conv => whnf)
  rw [g3]; (conv => whnf)
  refine ⟨Nat.succ_lt_succ ht, Nat.le_of_ble_eq_true rfl, rfl, Or.inl ⟨_, _, g4, ?_⟩⟩; (conv => whnf)
  rw [g5]; (conv => whnf)
  refine ⟨Nat.succ_lt_succ ht, Nat.le_of_ble_eq_true rfl, rfl, Or.inl ⟨_, _, g6, ?_⟩⟩; (conv => whnf)
  refine ⟨fun _ => ?_, fun z => absurd rfl z⟩
  refine hP _ _ _ _ _ ?_; (conv => whnf)
  refine ⟨fun _ => ?_, fun z => ?_⟩
  · refine hP _ _ _ _ _ ?_; (conv => whnf)
    exact hn _ _ _ _ _ _ _ (Nat.le_refl _) g8
  · have z : x = 0 := Classical.byContradiction fun q => z q
    have g9 := g9 z
    (conv => whnf)
    rw [g7]; (conv => whnf)
    refine ⟨vi (n := 0) rfl (by decide) (by decide), ?_⟩; (conv => whnf)
    have g9 : f2 0 = u.toInt64 := g9
    rw [show f2 ((cst 0).toNatClampNeg) = u.toInt64 from g9, lcmp_self]
    refine ⟨fun _ => ?_, fun q => absurd rfl q⟩
    refine hP _ _ _ _ _ ?_; (conv => whnf)
    exact hn _ _ _ _ _ _ _ (Nat.le_refl _) g8
theorem z_mayBe {A : AS} {x y : Int32} : (∃ v, (sp2 A x y 9 4 (fun a b => bI (Nat.blt 0 (dCA A.1.1 a b)))).1 = .inl (some (.int v))) ∨ ∃ e, (sp2 A x y 9 4 (fun a b => bI (Nat.blt 0 (dCA A.1.1 a b)))).1 = .inr e ∧ cdL_mayBe e = some (nI (tc0 e)) ∧ ¬ nI (tc0 e) = 0 := by
  unfold sp2
  (repeat' split) <;> first | exact Or.inl ⟨_, rfl⟩ | exact Or.inr ⟨0, rfl, rfl, by decide⟩ | exact Or.inr ⟨1, rfl, rfl, by decide⟩ | exact Or.inr ⟨2, rfl, rfl, by decide⟩
theorem k_mayBe (hP : LCl sn sx P) (hI : LJ M A A) (ht : t < 600) (h1 : vp_in (nI i + cst 1) sn) (h2 : vp_in (nI i + cst 2) sn) (h3 : vp_in (nI i + cst 3) sn) (h4 : vp_in (nI i + cst 4) sn) (hn : LNx P i t) : P 1656 t (LHd i l5 l6 l7 l8) [] M := by
  obtain ⟨a, e1⟩ : ∃ y, y = sx (nI i + cst 1).toNatClampNeg := ⟨_, rfl⟩
  obtain ⟨b, e2⟩ : ∃ y, y = sx (nI i + cst 2).toNatClampNeg := ⟨_, rfl⟩
  obtain ⟨x, M1, u, M2, f2, g1, g2, ⟨fs1, g3⟩, g4, ⟨fs2, g5⟩, g6, g7, g8, g9⟩ := o_thr (k := kX5_mayBe) (k6 := kX6_mayBe) (ml := 5) (cd := cdL_mayBe) (rows := rwL_mayBe) (av := [.int a, .int b]) (gv := gvB) (tc := tc0) hI (fun MX h => c_mayBe h a b) (rm_to fun h => m_mayBe (d := 8) h a b) (fun _ => rfl)
    (fun _ _ _ _ _ _ hcl ho hf hw => wv_mayBe hcl ho hf hw) (fun _ _ _ _ _ hcl ho hc => wt_mayBe hcl ho hc) gvB_ex z_mayBe (Or.inr rfl) rfl (by decide)
  refine hP _ _ _ _ _ ?_; (conv => whnf)
  refine ⟨rfl, h1, ?_⟩; rw [← e1]; (conv => whnf)
  refine ⟨rfl, h2, ?_⟩; rw [← e2]; (conv => whnf)
  refine ⟨ht, Nat.le_of_ble_eq_true rfl, rfl, x, M1, ⟨_, rfl, g1, Nat.le_of_ble_eq_true rfl, g2⟩, ?_⟩; (conv => whnf)
  refine ⟨rfl, h1, ?_⟩; rw [← e1]; (conv => whnf)
  refine ⟨rfl, h2, ?_⟩; rw [← e2]; (conv => whnf)
  rw [g3]; (conv => whnf)
  refine ⟨Nat.succ_lt_succ ht, Nat.le_of_ble_eq_true rfl, rfl, Or.inl ⟨_, _, g4, ?_⟩⟩; (conv => whnf)
  rw [g5]; (conv => whnf)
  refine ⟨Nat.succ_lt_succ ht, Nat.le_of_ble_eq_true rfl, rfl, Or.inl ⟨_, _, g6, ?_⟩⟩; (conv => whnf)
  refine ⟨fun _ => ?_, fun z => absurd rfl z⟩
  refine hP _ _ _ _ _ ?_; (conv => whnf)
  refine ⟨fun _ => ?_, fun z => ?_⟩
  · refine hP _ _ _ _ _ ?_; (conv => whnf)
    exact hn _ _ _ _ _ _ _ (Nat.le_refl _) g8
  · have z : x = 0 := Classical.byContradiction fun q => z q
    have g9 := g9 z
    (conv => whnf)
    rw [g7]; (conv => whnf)
    refine ⟨vi (n := 0) rfl (by decide) (by decide), ?_⟩; (conv => whnf)
    refine ⟨fun q => ?_, fun q => ?_⟩
    · refine hP _ _ _ _ _ ?_; (conv => whnf)
      rw [show f2 ((cst 0).toNatClampNeg) = 0 from g9.1 q, show lg_cmp (0 : Int64) (Int64.ofNat (0 : Fin 2).val) = 0 from lcmp_self 0]
      refine ⟨fun _ => ?_, fun q => absurd rfl q⟩
      refine hP _ _ _ _ _ ?_; (conv => whnf)
      exact hn _ _ _ _ _ _ _ (Nat.le_refl _) g8
    · (conv => whnf)
      refine hP _ _ _ _ _ ?_; (conv => whnf)
      rw [show f2 ((cst 0).toNatClampNeg) = 1 from g9.2 q, show lg_cmp (1 : Int64) (Int64.ofNat (1 : Fin 2).val) = 0 from lcmp_self 1]
      refine ⟨fun _ => ?_, fun q => absurd rfl q⟩
      refine hP _ _ _ _ _ ?_; (conv => whnf)
      exact hn _ _ _ _ _ _ _ (Nat.le_refl _) g8
theorem z_certainPlace {A : AS} {x : Int32} : (∃ v, (sp1 A x 9 (fun a => splG (dT A.1.1) (dCA A.1.1 a) 4 0)).1 = .inl (some (.int v))) ∨ ∃ e, (sp1 A x 9 (fun a => splG (dT A.1.1) (dCA A.1.1 a) 4 0)).1 = .inr e ∧ cdL_certainPlace e = some (nI (tc0 e)) ∧ ¬ nI (tc0 e) = 0 := by
  unfold sp1
  (repeat' split) <;> first | exact Or.inl ⟨_, rfl⟩ | exact Or.inr ⟨0, rfl, rfl, by decide⟩ | exact Or.inr ⟨1, rfl, rfl, by decide⟩ | exact Or.inr ⟨2, rfl, rfl, by decide⟩
theorem k_certainPlace (hP : LCl sn sx P) (hI : LJ M A A) (ht : t < 600) (h1 : vp_in (nI i + cst 1) sn) (h2 : vp_in (nI i + cst 2) sn) (h3 : vp_in (nI i + cst 3) sn) (h4 : vp_in (nI i + cst 4) sn) (hn : LNx P i t) : P 1731 t (LHd i l5 l6 l7 l8) [] M := by
  obtain ⟨a, e1⟩ : ∃ y, y = sx (nI i + cst 1).toNatClampNeg := ⟨_, rfl⟩
  obtain ⟨x, M1, u, M2, f2, g1, g2, ⟨fs1, g3⟩, g4, ⟨fs2, g5⟩, g6, g7, g8, g9⟩ := o_thr (k := kX5_certainPlace) (k6 := kX6_certainPlace) (ml := 4) (cd := cdL_certainPlace) (rows := rwL_certainPlace) (av := [.int a]) (gv := gvI) (tc := tc0) hI (fun MX h => c_certainPlace h a) (rm_to fun h => m_certainPlace (d := 8) h a) (fun _ => rfl)
    (fun _ _ _ _ _ _ hcl ho hf hw => by rw [hw]; exact wv_certainPlace hcl ho hf) (fun _ _ _ _ _ hcl ho hc => wt_certainPlace hcl ho hc) gvI_ex z_certainPlace (Or.inl rfl) rfl (by decide)
  refine hP _ _ _ _ _ ?_; (conv => whnf)
  refine ⟨rfl, h1, ?_⟩; rw [← e1]; (conv => whnf)
  refine ⟨ht, Nat.le_of_ble_eq_true rfl, rfl, x, M1, ⟨_, rfl, g1, Nat.le_of_ble_eq_true rfl, g2⟩, ?_⟩; (conv => whnf)
  refine ⟨rfl, h1, ?_⟩; rw [← e1]; (conv => whnf)
  rw [g3]; (conv => whnf)
  refine ⟨Nat.succ_lt_succ ht, Nat.le_of_ble_eq_true rfl, rfl, Or.inl ⟨_, _, g4, ?_⟩⟩; (conv => whnf)
  rw [g5]; (conv => whnf)
  refine ⟨Nat.succ_lt_succ ht, Nat.le_of_ble_eq_true rfl, rfl, Or.inl ⟨_, _, g6, ?_⟩⟩; (conv => whnf)
  refine ⟨fun _ => ?_, fun z => absurd rfl z⟩
  refine hP _ _ _ _ _ ?_; (conv => whnf)
  refine ⟨fun _ => ?_, fun z => ?_⟩
  · refine hP _ _ _ _ _ ?_; (conv => whnf)
    exact hn _ _ _ _ _ _ _ (Nat.le_refl _) g8
  · have z : x = 0 := Classical.byContradiction fun q => z q
    have g9 := g9 z
    (conv => whnf)
    rw [g7]; (conv => whnf)
    refine ⟨vi (n := 0) rfl (by decide) (by decide), ?_⟩; (conv => whnf)
    have g9 : f2 0 = u.toInt64 := g9
    rw [show f2 ((cst 0).toNatClampNeg) = u.toInt64 from g9, lcmp_self]
    refine ⟨fun _ => ?_, fun q => absurd rfl q⟩
    refine hP _ _ _ _ _ ?_; (conv => whnf)
    exact hn _ _ _ _ _ _ _ (Nat.le_refl _) g8
theorem z_certainCards {A : AS} : ∃ w, (sp0 A (nI (cntN (fun c => spB (dT A.1.1) (dCA A.1.1 c)) 9))).1 = .inl (some (.int w)) := ⟨_, rfl⟩
theorem k_certainCards (hP : LCl sn sx P) (hI : LJ M A A) (ht : t < 600) (h1 : vp_in (nI i + cst 1) sn) (h2 : vp_in (nI i + cst 2) sn) (h3 : vp_in (nI i + cst 3) sn) (h4 : vp_in (nI i + cst 4) sn) (hn : LNx P i t) : P 1787 t (LHd i l5 l6 l7 l8) [] M := by
  obtain ⟨fs0, g0⟩ := LJ_0 hI
  obtain ⟨w, hw⟩ := z_certainCards (A := A)
  obtain ⟨M1, M2, g1, ⟨fs1, g3⟩, g4, g8⟩ := o_ret (k := kX5_certainCards) (k6 := kX6_certainCards) (av := []) (w := .int w) (tc := tc0) hI (fun MX h => c_certainCards h) (rm_to fun h => m_certainCards (d := 8) h) (fun _ => rfl) hw (fun _ => rfl)
  refine hP _ _ _ _ _ ?_; (conv => whnf)
  rw [g0]; (conv => whnf)
  refine ⟨Nat.lt_succ_of_lt ht, Nat.le_of_ble_eq_true rfl, rfl, Or.inl ⟨_, _, g1, ?_⟩⟩; (conv => whnf)
  rw [g3]; (conv => whnf)
  refine ⟨Nat.lt_succ_of_lt ht, Nat.le_of_ble_eq_true rfl, rfl, Or.inl ⟨_, _, g4, ?_⟩⟩; (conv => whnf)
  refine ⟨fun _ => ?_, fun z => absurd rfl z⟩
  exact hn _ _ _ _ _ _ _ (Nat.le_succ t) g8
theorem z_isBroken {A : AS} : ∃ w, (sp0 A (bI (shB A.1.1))).1 = .inl (some (.int w)) := ⟨_, rfl⟩
theorem k_isBroken (hP : LCl sn sx P) (hI : LJ M A A) (ht : t < 600) (h1 : vp_in (nI i + cst 1) sn) (h2 : vp_in (nI i + cst 2) sn) (h3 : vp_in (nI i + cst 3) sn) (h4 : vp_in (nI i + cst 4) sn) (hn : LNx P i t) : P 1800 t (LHd i l5 l6 l7 l8) [] M := by
  obtain ⟨fs0, g0⟩ := LJ_0 hI
  obtain ⟨w, hw⟩ := z_isBroken (A := A)
  obtain ⟨M1, M2, g1, ⟨fs1, g3⟩, g4, g8⟩ := o_ret (k := kX5_isBroken) (k6 := kX6_isBroken) (av := []) (w := .int w) (tc := tc0) hI (fun MX h => c_isBroken h) (rm_to fun h => m_isBroken (d := 8) h) (fun _ => rfl) hw (fun _ => rfl)
  refine hP _ _ _ _ _ ?_; (conv => whnf)
  rw [g0]; (conv => whnf)
  refine ⟨Nat.lt_succ_of_lt ht, Nat.le_of_ble_eq_true rfl, rfl, Or.inl ⟨_, _, g1, ?_⟩⟩; (conv => whnf)
  rw [g3]; (conv => whnf)
  refine ⟨Nat.lt_succ_of_lt ht, Nat.le_of_ble_eq_true rfl, rfl, Or.inl ⟨_, _, g4, ?_⟩⟩; (conv => whnf)
  refine ⟨fun _ => ?_, fun z => absurd rfl z⟩
  exact hn _ _ _ _ _ _ _ (Nat.le_succ t) g8
theorem z_mayBeByRules {A : AS} {x y : Int32} : (∃ v, (sp2 A x y 9 4 (fun a b => bI ((shW A.1.1 a).testBit b))).1 = .inl (some (.int v))) ∨ ∃ e, (sp2 A x y 9 4 (fun a b => bI ((shW A.1.1 a).testBit b))).1 = .inr e ∧ cdL_mayBeByRules e = some (nI (tc0 e)) ∧ ¬ nI (tc0 e) = 0 := by
  unfold sp2
  (repeat' split) <;> first | exact Or.inl ⟨_, rfl⟩ | exact Or.inr ⟨0, rfl, rfl, by decide⟩ | exact Or.inr ⟨1, rfl, rfl, by decide⟩ | exact Or.inr ⟨2, rfl, rfl, by decide⟩
theorem k_mayBeByRules (hP : LCl sn sx P) (hI : LJ M A A) (ht : t < 600) (h1 : vp_in (nI i + cst 1) sn) (h2 : vp_in (nI i + cst 2) sn) (h3 : vp_in (nI i + cst 3) sn) (h4 : vp_in (nI i + cst 4) sn) (hn : LNx P i t) : P 1813 t (LHd i l5 l6 l7 l8) [] M := by
  obtain ⟨a, e1⟩ : ∃ y, y = sx (nI i + cst 1).toNatClampNeg := ⟨_, rfl⟩
  obtain ⟨b, e2⟩ : ∃ y, y = sx (nI i + cst 2).toNatClampNeg := ⟨_, rfl⟩
  obtain ⟨x, M1, u, M2, f2, g1, g2, ⟨fs1, g3⟩, g4, ⟨fs2, g5⟩, g6, g7, g8, g9⟩ := o_thr (k := kX5_mayBeByRules) (k6 := kX6_mayBeByRules) (ml := 5) (cd := cdL_mayBeByRules) (rows := rwL_mayBeByRules) (av := [.int a, .int b]) (gv := gvB) (tc := tc0) hI (fun MX h => c_mayBeByRules h a b) (rm_to fun h => m_mayBeByRules (d := 8) h a b) (fun _ => rfl)
    (fun _ _ _ _ _ _ hcl ho hf hw => wv_mayBeByRules hcl ho hf hw) (fun _ _ _ _ _ hcl ho hc => wt_mayBeByRules hcl ho hc) gvB_ex z_mayBeByRules (Or.inr rfl) rfl (by decide)
  refine hP _ _ _ _ _ ?_; (conv => whnf)
  refine ⟨rfl, h1, ?_⟩; rw [← e1]; (conv => whnf)
  refine ⟨rfl, h2, ?_⟩; rw [← e2]; (conv => whnf)
  refine ⟨ht, Nat.le_of_ble_eq_true rfl, rfl, x, M1, ⟨_, rfl, g1, Nat.le_of_ble_eq_true rfl, g2⟩, ?_⟩; (conv => whnf)
  refine ⟨rfl, h1, ?_⟩; rw [← e1]; (conv => whnf)
  refine ⟨rfl, h2, ?_⟩; rw [← e2]; (conv => whnf)
  rw [g3]; (conv => whnf)
  refine ⟨Nat.succ_lt_succ ht, Nat.le_of_ble_eq_true rfl, rfl, Or.inl ⟨_, _, g4, ?_⟩⟩; (conv => whnf)
  rw [g5]; (conv => whnf)
  refine ⟨Nat.succ_lt_succ ht, Nat.le_of_ble_eq_true rfl, rfl, Or.inl ⟨_, _, g6, ?_⟩⟩; (conv => whnf)
  refine ⟨fun _ => ?_, fun z => absurd rfl z⟩
  refine hP _ _ _ _ _ ?_; (conv => whnf)
  refine ⟨fun _ => ?_, fun z => ?_⟩
  · refine hP _ _ _ _ _ ?_; (conv => whnf)
    exact hn _ _ _ _ _ _ _ (Nat.le_refl _) g8
  · have z : x = 0 := Classical.byContradiction fun q => z q
    have g9 := g9 z
    (conv => whnf)
    rw [g7]; (conv => whnf)
    refine ⟨vi (n := 0) rfl (by decide) (by decide), ?_⟩; (conv => whnf)
    refine ⟨fun q => ?_, fun q => ?_⟩
    · refine hP _ _ _ _ _ ?_; (conv => whnf)
      rw [show f2 ((cst 0).toNatClampNeg) = 0 from g9.1 q, show lg_cmp (0 : Int64) (Int64.ofNat (0 : Fin 2).val) = 0 from lcmp_self 0]
      refine ⟨fun _ => ?_, fun q => absurd rfl q⟩
      refine hP _ _ _ _ _ ?_; (conv => whnf)
      exact hn _ _ _ _ _ _ _ (Nat.le_refl _) g8
    · (conv => whnf)
      refine hP _ _ _ _ _ ?_; (conv => whnf)
      rw [show f2 ((cst 0).toNatClampNeg) = 1 from g9.2 q, show lg_cmp (1 : Int64) (Int64.ofNat (1 : Fin 2).val) = 0 from lcmp_self 1]
      refine ⟨fun _ => ?_, fun q => absurd rfl q⟩
      refine hP _ _ _ _ _ ?_; (conv => whnf)
      exact hn _ _ _ _ _ _ _ (Nat.le_refl _) g8
theorem z_placeByRules {A : AS} {x : Int32} : (∃ v, (sp1 A x 9 (fun a => oplG (shW A.1.1 a) 4 0)).1 = .inl (some (.int v))) ∨ ∃ e, (sp1 A x 9 (fun a => oplG (shW A.1.1 a) 4 0)).1 = .inr e ∧ cdL_placeByRules e = some (nI (tc0 e)) ∧ ¬ nI (tc0 e) = 0 := by
  unfold sp1
  (repeat' split) <;> first | exact Or.inl ⟨_, rfl⟩ | exact Or.inr ⟨0, rfl, rfl, by decide⟩ | exact Or.inr ⟨1, rfl, rfl, by decide⟩ | exact Or.inr ⟨2, rfl, rfl, by decide⟩
theorem k_placeByRules (hP : LCl sn sx P) (hI : LJ M A A) (ht : t < 600) (h1 : vp_in (nI i + cst 1) sn) (h2 : vp_in (nI i + cst 2) sn) (h3 : vp_in (nI i + cst 3) sn) (h4 : vp_in (nI i + cst 4) sn) (hn : LNx P i t) : P 1888 t (LHd i l5 l6 l7 l8) [] M := by
  obtain ⟨a, e1⟩ : ∃ y, y = sx (nI i + cst 1).toNatClampNeg := ⟨_, rfl⟩
  obtain ⟨x, M1, u, M2, f2, g1, g2, ⟨fs1, g3⟩, g4, ⟨fs2, g5⟩, g6, g7, g8, g9⟩ := o_thr (k := kX5_placeByRules) (k6 := kX6_placeByRules) (ml := 4) (cd := cdL_placeByRules) (rows := rwL_placeByRules) (av := [.int a]) (gv := gvI) (tc := tc0) hI (fun MX h => c_placeByRules h a) (rm_to fun h => m_placeByRules (d := 8) h a) (fun _ => rfl)
    (fun _ _ _ _ _ _ hcl ho hf hw => by rw [hw]; exact wv_placeByRules hcl ho hf) (fun _ _ _ _ _ hcl ho hc => wt_placeByRules hcl ho hc) gvI_ex z_placeByRules (Or.inl rfl) rfl (by decide)
  refine hP _ _ _ _ _ ?_; (conv => whnf)
  refine ⟨rfl, h1, ?_⟩; rw [← e1]; (conv => whnf)
  refine ⟨ht, Nat.le_of_ble_eq_true rfl, rfl, x, M1, ⟨_, rfl, g1, Nat.le_of_ble_eq_true rfl, g2⟩, ?_⟩; (conv => whnf)
  refine ⟨rfl, h1, ?_⟩; rw [← e1]; (conv => whnf)
  rw [g3]; (conv => whnf)
  refine ⟨Nat.succ_lt_succ ht, Nat.le_of_ble_eq_true rfl, rfl, Or.inl ⟨_, _, g4, ?_⟩⟩; (conv => whnf)
  rw [g5]; (conv => whnf)
  refine ⟨Nat.succ_lt_succ ht, Nat.le_of_ble_eq_true rfl, rfl, Or.inl ⟨_, _, g6, ?_⟩⟩; (conv => whnf)
  refine ⟨fun _ => ?_, fun z => absurd rfl z⟩
  refine hP _ _ _ _ _ ?_; (conv => whnf)
  refine ⟨fun _ => ?_, fun z => ?_⟩
  · refine hP _ _ _ _ _ ?_; (conv => whnf)
    exact hn _ _ _ _ _ _ _ (Nat.le_refl _) g8
  · have z : x = 0 := Classical.byContradiction fun q => z q
    have g9 := g9 z
    (conv => whnf)
    rw [g7]; (conv => whnf)
    refine ⟨vi (n := 0) rfl (by decide) (by decide), ?_⟩; (conv => whnf)
    have g9 : f2 0 = u.toInt64 := g9
    rw [show f2 ((cst 0).toNatClampNeg) = u.toInt64 from g9, lcmp_self]
    refine ⟨fun _ => ?_, fun q => absurd rfl q⟩
    refine hP _ _ _ _ _ ?_; (conv => whnf)
    exact hn _ _ _ _ _ _ _ (Nat.le_refl _) g8
theorem z_crossedOff {A : AS} : ∃ w, (sp0 A (nI 36 - nI (rl_sum 9 (shW A.1.1)))).1 = .inl (some (.int w)) := ⟨_, rfl⟩
theorem k_crossedOff (hP : LCl sn sx P) (hI : LJ M A A) (ht : t < 600) (h1 : vp_in (nI i + cst 1) sn) (h2 : vp_in (nI i + cst 2) sn) (h3 : vp_in (nI i + cst 3) sn) (h4 : vp_in (nI i + cst 4) sn) (hn : LNx P i t) : P 1944 t (LHd i l5 l6 l7 l8) [] M := by
  obtain ⟨fs0, g0⟩ := LJ_0 hI
  obtain ⟨w, hw⟩ := z_crossedOff (A := A)
  obtain ⟨M1, M2, g1, ⟨fs1, g3⟩, g4, g8⟩ := o_ret (k := kX5_crossedOff) (k6 := kX6_crossedOff) (av := []) (w := .int w) (tc := tc0) hI (fun MX h => c_crossedOff h) (rm_to fun h => m_crossedOff (d := 8) h) (fun _ => rfl) hw (fun _ => rfl)
  refine hP _ _ _ _ _ ?_; (conv => whnf)
  rw [g0]; (conv => whnf)
  refine ⟨Nat.lt_succ_of_lt ht, Nat.le_of_ble_eq_true rfl, rfl, Or.inl ⟨_, _, g1, ?_⟩⟩; (conv => whnf)
  rw [g3]; (conv => whnf)
  refine ⟨Nat.lt_succ_of_lt ht, Nat.le_of_ble_eq_true rfl, rfl, Or.inl ⟨_, _, g4, ?_⟩⟩; (conv => whnf)
  refine ⟨fun _ => ?_, fun z => absurd rfl z⟩
  exact hn _ _ _ _ _ _ _ (Nat.le_succ t) g8
theorem z_hiddenCrosses {A : AS} : ∃ w, (sp0 A (nI (rl_sum 9 (shW A.1.1)) - nI (cntN (fun j => Nat.blt 0 (dCA A.1.1 (j / 4) (j % 4))) 36))).1 = .inl (some (.int w)) := ⟨_, rfl⟩
theorem k_hiddenCrosses (hP : LCl sn sx P) (hI : LJ M A A) (ht : t < 600) (h1 : vp_in (nI i + cst 1) sn) (h2 : vp_in (nI i + cst 2) sn) (h3 : vp_in (nI i + cst 3) sn) (h4 : vp_in (nI i + cst 4) sn) (hn : LNx P i t) : P 1957 t (LHd i l5 l6 l7 l8) [] M := by
  obtain ⟨fs0, g0⟩ := LJ_0 hI
  obtain ⟨w, hw⟩ := z_hiddenCrosses (A := A)
  obtain ⟨M1, M2, g1, ⟨fs1, g3⟩, g4, g8⟩ := o_ret (k := kX5_hiddenCrosses) (k6 := kX6_hiddenCrosses) (av := []) (w := .int w) (tc := tc0) hI (fun MX h => c_hiddenCrosses h) (rm_to fun h => m_hiddenCrosses (d := 8) h) (fun _ => rfl) hw (fun _ => rfl)
  refine hP _ _ _ _ _ ?_; (conv => whnf)
  rw [g0]; (conv => whnf)
  refine ⟨Nat.lt_succ_of_lt ht, Nat.le_of_ble_eq_true rfl, rfl, Or.inl ⟨_, _, g1, ?_⟩⟩; (conv => whnf)
  rw [g3]; (conv => whnf)
  refine ⟨Nat.lt_succ_of_lt ht, Nat.le_of_ble_eq_true rfl, rfl, Or.inl ⟨_, _, g4, ?_⟩⟩; (conv => whnf)
  refine ⟨fun _ => ?_, fun z => absurd rfl z⟩
  exact hn _ _ _ _ _ _ _ (Nat.le_succ t) g8
theorem z_envelopeDeals {A : AS} {x : Int32} : (∃ v, (sp1 A x 27 (fun a => nI (dIE A.1.1 a))).1 = .inl (some (.int v))) ∨ ∃ e, (sp1 A x 27 (fun a => nI (dIE A.1.1 a))).1 = .inr e ∧ cdL_envelopeDeals e = some (nI (tc0 e)) ∧ ¬ nI (tc0 e) = 0 := by
  unfold sp1
  (repeat' split) <;> first | exact Or.inl ⟨_, rfl⟩ | exact Or.inr ⟨0, rfl, rfl, by decide⟩ | exact Or.inr ⟨1, rfl, rfl, by decide⟩ | exact Or.inr ⟨2, rfl, rfl, by decide⟩
theorem k_envelopeDeals (hP : LCl sn sx P) (hI : LJ M A A) (ht : t < 600) (h1 : vp_in (nI i + cst 1) sn) (h2 : vp_in (nI i + cst 2) sn) (h3 : vp_in (nI i + cst 3) sn) (h4 : vp_in (nI i + cst 4) sn) (hn : LNx P i t) : P 1970 t (LHd i l5 l6 l7 l8) [] M := by
  obtain ⟨a, e1⟩ : ∃ y, y = sx (nI i + cst 1).toNatClampNeg := ⟨_, rfl⟩
  obtain ⟨x, M1, u, M2, f2, g1, g2, ⟨fs1, g3⟩, g4, ⟨fs2, g5⟩, g6, g7, g8, g9⟩ := o_thr (k := kX5_envelopeDeals) (k6 := kX6_envelopeDeals) (ml := 4) (cd := cdL_envelopeDeals) (rows := rwL_envelopeDeals) (av := [.int a]) (gv := gvI) (tc := tc0) hI (fun MX h => c_envelopeDeals h a) (rm_to fun h => m_envelopeDeals (d := 8) h a) (fun _ => rfl)
    (fun _ _ _ _ _ _ hcl ho hf hw => by rw [hw]; exact wv_envelopeDeals hcl ho hf) (fun _ _ _ _ _ hcl ho hc => wt_envelopeDeals hcl ho hc) gvI_ex z_envelopeDeals (Or.inl rfl) rfl (by decide)
  refine hP _ _ _ _ _ ?_; (conv => whnf)
  refine ⟨rfl, h1, ?_⟩; rw [← e1]; (conv => whnf)
  refine ⟨ht, Nat.le_of_ble_eq_true rfl, rfl, x, M1, ⟨_, rfl, g1, Nat.le_of_ble_eq_true rfl, g2⟩, ?_⟩; (conv => whnf)
  refine ⟨rfl, h1, ?_⟩; rw [← e1]; (conv => whnf)
  rw [g3]; (conv => whnf)
  refine ⟨Nat.succ_lt_succ ht, Nat.le_of_ble_eq_true rfl, rfl, Or.inl ⟨_, _, g4, ?_⟩⟩; (conv => whnf)
  rw [g5]; (conv => whnf)
  refine ⟨Nat.succ_lt_succ ht, Nat.le_of_ble_eq_true rfl, rfl, Or.inl ⟨_, _, g6, ?_⟩⟩; (conv => whnf)
  refine ⟨fun _ => ?_, fun z => absurd rfl z⟩
  refine hP _ _ _ _ _ ?_; (conv => whnf)
  refine ⟨fun _ => ?_, fun z => ?_⟩
  · refine hP _ _ _ _ _ ?_; (conv => whnf)
    exact hn _ _ _ _ _ _ _ (Nat.le_refl _) g8
  · have z : x = 0 := Classical.byContradiction fun q => z q
    have g9 := g9 z
    (conv => whnf)
    rw [g7]; (conv => whnf)
    refine ⟨vi (n := 0) rfl (by decide) (by decide), ?_⟩; (conv => whnf)
    have g9 : f2 0 = u.toInt64 := g9
    rw [show f2 ((cst 0).toNatClampNeg) = u.toInt64 from g9, lcmp_self]
    refine ⟨fun _ => ?_, fun q => absurd rfl q⟩
    refine hP _ _ _ _ _ ?_; (conv => whnf)
    exact hn _ _ _ _ _ _ _ (Nat.le_refl _) g8
theorem z_envelopes {A : AS} : ∃ w, (sp0 A (nI (cntN (fun t => Nat.blt 0 (dIE A.1.1 t)) 27))).1 = .inl (some (.int w)) := ⟨_, rfl⟩
theorem k_envelopes (hP : LCl sn sx P) (hI : LJ M A A) (ht : t < 600) (h1 : vp_in (nI i + cst 1) sn) (h2 : vp_in (nI i + cst 2) sn) (h3 : vp_in (nI i + cst 3) sn) (h4 : vp_in (nI i + cst 4) sn) (hn : LNx P i t) : P 2026 t (LHd i l5 l6 l7 l8) [] M := by
  obtain ⟨fs0, g0⟩ := LJ_0 hI
  obtain ⟨w, hw⟩ := z_envelopes (A := A)
  obtain ⟨M1, M2, g1, ⟨fs1, g3⟩, g4, g8⟩ := o_ret (k := kX5_envelopes) (k6 := kX6_envelopes) (av := []) (w := .int w) (tc := tc0) hI (fun MX h => c_envelopes h) (rm_to fun h => m_envelopes (d := 8) h) (fun _ => rfl) hw (fun _ => rfl)
  refine hP _ _ _ _ _ ?_; (conv => whnf)
  rw [g0]; (conv => whnf)
  refine ⟨Nat.lt_succ_of_lt ht, Nat.le_of_ble_eq_true rfl, rfl, Or.inl ⟨_, _, g1, ?_⟩⟩; (conv => whnf)
  rw [g3]; (conv => whnf)
  refine ⟨Nat.lt_succ_of_lt ht, Nat.le_of_ble_eq_true rfl, rfl, Or.inl ⟨_, _, g4, ?_⟩⟩; (conv => whnf)
  refine ⟨fun _ => ?_, fun z => absurd rfl z⟩
  exact hn _ _ _ _ _ _ _ (Nat.le_succ t) g8
theorem z_bestAccusation {A : AS} : (∃ v, (spBestA A).1 = .inl (some (.int v))) ∨ ∃ e, (spBestA A).1 = .inr e ∧ cdL_bestAccusation e = some (nI (tc0 e)) ∧ ¬ nI (tc0 e) = 0 := by
  unfold spBestA
  (repeat' split) <;> first | exact Or.inl ⟨_, rfl⟩ | exact Or.inr ⟨0, rfl, rfl, by decide⟩ | exact Or.inr ⟨1, rfl, rfl, by decide⟩ | exact Or.inr ⟨2, rfl, rfl, by decide⟩
theorem k_bestAccusation (hP : LCl sn sx P) (hI : LJ M A A) (ht : t < 600) (h1 : vp_in (nI i + cst 1) sn) (h2 : vp_in (nI i + cst 2) sn) (h3 : vp_in (nI i + cst 3) sn) (h4 : vp_in (nI i + cst 4) sn) (hn : LNx P i t) : P 2039 t (LHd i l5 l6 l7 l8) [] M := by
  obtain ⟨x, M1, u, M2, f2, g1, g2, ⟨fs1, g3⟩, g4, ⟨fs2, g5⟩, g6, g7, g8, g9⟩ := o_thr (k := kX5_bestAccusation) (k6 := kX6_bestAccusation) (ml := 3) (cd := cdL_bestAccusation) (rows := rwL_bestAccusation) (av := []) (gv := gvI) (tc := tc0) hI (fun MX h => c_bestAccusation h) (rm_to fun h => m_bestAccusation (d := 8) h) (fun _ => rfl)
    (fun _ _ _ _ _ _ hcl ho hf hw => by rw [hw]; exact wv_bestAccusation hcl ho hf) (fun _ _ _ _ _ hcl ho hc => wt_bestAccusation hcl ho hc) gvI_ex z_bestAccusation (Or.inl rfl) rfl (by decide)
  refine hP _ _ _ _ _ ?_; (conv => whnf)
  refine ⟨ht, Nat.le_of_ble_eq_true rfl, rfl, x, M1, ⟨_, rfl, g1, Nat.le_of_ble_eq_true rfl, g2⟩, ?_⟩; (conv => whnf)
  rw [g3]; (conv => whnf)
  refine ⟨Nat.succ_lt_succ ht, Nat.le_of_ble_eq_true rfl, rfl, Or.inl ⟨_, _, g4, ?_⟩⟩; (conv => whnf)
  rw [g5]; (conv => whnf)
  refine ⟨Nat.succ_lt_succ ht, Nat.le_of_ble_eq_true rfl, rfl, Or.inl ⟨_, _, g6, ?_⟩⟩; (conv => whnf)
  refine ⟨fun _ => ?_, fun z => absurd rfl z⟩
  refine hP _ _ _ _ _ ?_; (conv => whnf)
  refine ⟨fun _ => ?_, fun z => ?_⟩
  · refine hP _ _ _ _ _ ?_; (conv => whnf)
    exact hn _ _ _ _ _ _ _ (Nat.le_refl _) g8
  · have z : x = 0 := Classical.byContradiction fun q => z q
    have g9 := g9 z
    (conv => whnf)
    rw [g7]; (conv => whnf)
    refine ⟨vi (n := 0) rfl (by decide) (by decide), ?_⟩; (conv => whnf)
    have g9 : f2 0 = u.toInt64 := g9
    rw [show f2 ((cst 0).toNatClampNeg) = u.toInt64 from g9, lcmp_self]
    refine ⟨fun _ => ?_, fun q => absurd rfl q⟩
    refine hP _ _ _ _ _ ?_; (conv => whnf)
    exact hn _ _ _ _ _ _ _ (Nat.le_refl _) g8
theorem z_isSolved {A : AS} : ∃ w, (sp0 A (bI (Nat.beq (cntN (fun t => Nat.blt 0 (dIE A.1.1 t)) 27) 1))).1 = .inl (some (.int w)) := ⟨_, rfl⟩
theorem k_isSolved (hP : LCl sn sx P) (hI : LJ M A A) (ht : t < 600) (h1 : vp_in (nI i + cst 1) sn) (h2 : vp_in (nI i + cst 2) sn) (h3 : vp_in (nI i + cst 3) sn) (h4 : vp_in (nI i + cst 4) sn) (hn : LNx P i t) : P 2083 t (LHd i l5 l6 l7 l8) [] M := by
  obtain ⟨fs0, g0⟩ := LJ_0 hI
  obtain ⟨w, hw⟩ := z_isSolved (A := A)
  obtain ⟨M1, M2, g1, ⟨fs1, g3⟩, g4, g8⟩ := o_ret (k := kX5_isSolved) (k6 := kX6_isSolved) (av := []) (w := .int w) (tc := tc0) hI (fun MX h => c_isSolved h) (rm_to fun h => m_isSolved (d := 8) h) (fun _ => rfl) hw (fun _ => rfl)
  refine hP _ _ _ _ _ ?_; (conv => whnf)
  rw [g0]; (conv => whnf)
  refine ⟨Nat.lt_succ_of_lt ht, Nat.le_of_ble_eq_true rfl, rfl, Or.inl ⟨_, _, g1, ?_⟩⟩; (conv => whnf)
  rw [g3]; (conv => whnf)
  refine ⟨Nat.lt_succ_of_lt ht, Nat.le_of_ble_eq_true rfl, rfl, Or.inl ⟨_, _, g4, ?_⟩⟩; (conv => whnf)
  refine ⟨fun _ => ?_, fun z => absurd rfl z⟩
  exact hn _ _ _ _ _ _ _ (Nat.le_succ t) g8
theorem z_dealsIfPassed {A : AS} {x y : Int32} : (∃ v, (sp2 A x y 3 27 (fun a b => nI (wnN A.1.1 a b))).1 = .inl (some (.int v))) ∨ ∃ e, (sp2 A x y 3 27 (fun a b => nI (wnN A.1.1 a b))).1 = .inr e ∧ cdL_dealsIfPassed e = some (nI (tc0 e)) ∧ ¬ nI (tc0 e) = 0 := by
  unfold sp2
  (repeat' split) <;> first | exact Or.inl ⟨_, rfl⟩ | exact Or.inr ⟨0, rfl, rfl, by decide⟩ | exact Or.inr ⟨1, rfl, rfl, by decide⟩ | exact Or.inr ⟨2, rfl, rfl, by decide⟩
theorem k_dealsIfPassed (hP : LCl sn sx P) (hI : LJ M A A) (ht : t < 600) (h1 : vp_in (nI i + cst 1) sn) (h2 : vp_in (nI i + cst 2) sn) (h3 : vp_in (nI i + cst 3) sn) (h4 : vp_in (nI i + cst 4) sn) (hn : LNx P i t) : P 2096 t (LHd i l5 l6 l7 l8) [] M := by
  obtain ⟨a, e1⟩ : ∃ y, y = sx (nI i + cst 1).toNatClampNeg := ⟨_, rfl⟩
  obtain ⟨b, e2⟩ : ∃ y, y = sx (nI i + cst 2).toNatClampNeg := ⟨_, rfl⟩
  obtain ⟨x, M1, u, M2, f2, g1, g2, ⟨fs1, g3⟩, g4, ⟨fs2, g5⟩, g6, g7, g8, g9⟩ := o_thr (k := kX5_dealsIfPassed) (k6 := kX6_dealsIfPassed) (ml := 5) (cd := cdL_dealsIfPassed) (rows := rwL_dealsIfPassed) (av := [.int a, .int b]) (gv := gvI) (tc := tc0) hI (fun MX h => c_dealsIfPassed h a b) (rm_to fun h => m_dealsIfPassed (d := 8) h a b) (fun _ => rfl)
    (fun _ _ _ _ _ _ hcl ho hf hw => by rw [hw]; exact wv_dealsIfPassed hcl ho hf) (fun _ _ _ _ _ hcl ho hc => wt_dealsIfPassed hcl ho hc) gvI_ex z_dealsIfPassed (Or.inl rfl) rfl (by decide)
  refine hP _ _ _ _ _ ?_; (conv => whnf)
  refine ⟨rfl, h1, ?_⟩; rw [← e1]; (conv => whnf)
  refine ⟨rfl, h2, ?_⟩; rw [← e2]; (conv => whnf)
  refine ⟨ht, Nat.le_of_ble_eq_true rfl, rfl, x, M1, ⟨_, rfl, g1, Nat.le_of_ble_eq_true rfl, g2⟩, ?_⟩; (conv => whnf)
  refine ⟨rfl, h1, ?_⟩; rw [← e1]; (conv => whnf)
  refine ⟨rfl, h2, ?_⟩; rw [← e2]; (conv => whnf)
  rw [g3]; (conv => whnf)
  refine ⟨Nat.succ_lt_succ ht, Nat.le_of_ble_eq_true rfl, rfl, Or.inl ⟨_, _, g4, ?_⟩⟩; (conv => whnf)
  rw [g5]; (conv => whnf)
  refine ⟨Nat.succ_lt_succ ht, Nat.le_of_ble_eq_true rfl, rfl, Or.inl ⟨_, _, g6, ?_⟩⟩; (conv => whnf)
  refine ⟨fun _ => ?_, fun z => absurd rfl z⟩
  refine hP _ _ _ _ _ ?_; (conv => whnf)
  refine ⟨fun _ => ?_, fun z => ?_⟩
  · refine hP _ _ _ _ _ ?_; (conv => whnf)
    exact hn _ _ _ _ _ _ _ (Nat.le_refl _) g8
  · have z : x = 0 := Classical.byContradiction fun q => z q
    have g9 := g9 z
    (conv => whnf)
    rw [g7]; (conv => whnf)
    refine ⟨vi (n := 0) rfl (by decide) (by decide), ?_⟩; (conv => whnf)
    have g9 : f2 0 = u.toInt64 := g9
    rw [show f2 ((cst 0).toNatClampNeg) = u.toInt64 from g9, lcmp_self]
    refine ⟨fun _ => ?_, fun q => absurd rfl q⟩
    refine hP _ _ _ _ _ ?_; (conv => whnf)
    exact hn _ _ _ _ _ _ _ (Nat.le_refl _) g8
theorem z_leftBy {A : AS} {x y : Int32} : (∃ v, (sp2 A x y 3 27 (fun a b => nI (lvs (dT A.1.1) (wnN A.1.1 a b)))).1 = .inl (some (.int v))) ∨ ∃ e, (sp2 A x y 3 27 (fun a b => nI (lvs (dT A.1.1) (wnN A.1.1 a b)))).1 = .inr e ∧ cdL_leftBy e = some (nI (tc0 e)) ∧ ¬ nI (tc0 e) = 0 := by
  unfold sp2
  (repeat' split) <;> first | exact Or.inl ⟨_, rfl⟩ | exact Or.inr ⟨0, rfl, rfl, by decide⟩ | exact Or.inr ⟨1, rfl, rfl, by decide⟩ | exact Or.inr ⟨2, rfl, rfl, by decide⟩
theorem k_leftBy (hP : LCl sn sx P) (hI : LJ M A A) (ht : t < 600) (h1 : vp_in (nI i + cst 1) sn) (h2 : vp_in (nI i + cst 2) sn) (h3 : vp_in (nI i + cst 3) sn) (h4 : vp_in (nI i + cst 4) sn) (hn : LNx P i t) : P 2164 t (LHd i l5 l6 l7 l8) [] M := by
  obtain ⟨a, e1⟩ : ∃ y, y = sx (nI i + cst 1).toNatClampNeg := ⟨_, rfl⟩
  obtain ⟨b, e2⟩ : ∃ y, y = sx (nI i + cst 2).toNatClampNeg := ⟨_, rfl⟩
  obtain ⟨x, M1, u, M2, f2, g1, g2, ⟨fs1, g3⟩, g4, ⟨fs2, g5⟩, g6, g7, g8, g9⟩ := o_thr (k := kX5_leftBy) (k6 := kX6_leftBy) (ml := 5) (cd := cdL_leftBy) (rows := rwL_leftBy) (av := [.int a, .int b]) (gv := gvI) (tc := tc0) hI (fun MX h => c_leftBy h a b) (rm_to fun h => m_leftBy (d := 8) h a b) (fun _ => rfl)
    (fun _ _ _ _ _ _ hcl ho hf hw => by rw [hw]; exact wv_leftBy hcl ho hf) (fun _ _ _ _ _ hcl ho hc => wt_leftBy hcl ho hc) gvI_ex z_leftBy (Or.inl rfl) rfl (by decide)
  refine hP _ _ _ _ _ ?_; (conv => whnf)
  refine ⟨rfl, h1, ?_⟩; rw [← e1]; (conv => whnf)
  refine ⟨rfl, h2, ?_⟩; rw [← e2]; (conv => whnf)
  refine ⟨ht, Nat.le_of_ble_eq_true rfl, rfl, x, M1, ⟨_, rfl, g1, Nat.le_of_ble_eq_true rfl, g2⟩, ?_⟩; (conv => whnf)
  refine ⟨rfl, h1, ?_⟩; rw [← e1]; (conv => whnf)
  refine ⟨rfl, h2, ?_⟩; rw [← e2]; (conv => whnf)
  rw [g3]; (conv => whnf)
  refine ⟨Nat.succ_lt_succ ht, Nat.le_of_ble_eq_true rfl, rfl, Or.inl ⟨_, _, g4, ?_⟩⟩; (conv => whnf)
  rw [g5]; (conv => whnf)
  refine ⟨Nat.succ_lt_succ ht, Nat.le_of_ble_eq_true rfl, rfl, Or.inl ⟨_, _, g6, ?_⟩⟩; (conv => whnf)
  refine ⟨fun _ => ?_, fun z => absurd rfl z⟩
  refine hP _ _ _ _ _ ?_; (conv => whnf)
  refine ⟨fun _ => ?_, fun z => ?_⟩
  · refine hP _ _ _ _ _ ?_; (conv => whnf)
    exact hn _ _ _ _ _ _ _ (Nat.le_refl _) g8
  · have z : x = 0 := Classical.byContradiction fun q => z q
    have g9 := g9 z
    (conv => whnf)
    rw [g7]; (conv => whnf)
    refine ⟨vi (n := 0) rfl (by decide) (by decide), ?_⟩; (conv => whnf)
    have g9 : f2 0 = u.toInt64 := g9
    rw [show f2 ((cst 0).toNatClampNeg) = u.toInt64 from g9, lcmp_self]
    refine ⟨fun _ => ?_, fun q => absurd rfl q⟩
    refine hP _ _ _ _ _ ?_; (conv => whnf)
    exact hn _ _ _ _ _ _ _ (Nat.le_refl _) g8
theorem z_bestQuestion {A : AS} {x : Int32} : (∃ v, (spBestQ A x).1 = .inl (some (.int v))) ∨ ∃ e, (spBestQ A x).1 = .inr e ∧ cdL_bestQuestion e = some (nI (tc01 e)) ∧ ¬ nI (tc01 e) = 0 := by
  unfold spBestQ
  (repeat' split) <;> first | exact Or.inl ⟨_, rfl⟩ | exact Or.inr ⟨0, rfl, rfl, by decide⟩ | exact Or.inr ⟨1, rfl, rfl, by decide⟩ | exact Or.inr ⟨2, rfl, rfl, by decide⟩
theorem k_bestQuestion (hP : LCl sn sx P) (hI : LJ M A A) (ht : t < 600) (h1 : vp_in (nI i + cst 1) sn) (h2 : vp_in (nI i + cst 2) sn) (h3 : vp_in (nI i + cst 3) sn) (h4 : vp_in (nI i + cst 4) sn) (hn : LNx P i t) : P 2232 t (LHd i l5 l6 l7 l8) [] M := by
  obtain ⟨a, e1⟩ : ∃ y, y = sx (nI i + cst 1).toNatClampNeg := ⟨_, rfl⟩
  obtain ⟨x, M1, u, M2, f2, g1, g2, ⟨fs1, g3⟩, g4, ⟨fs2, g5⟩, g6, g7, g8, g9⟩ := o_thr (k := kX5_bestQuestion) (k6 := kX6_bestQuestion) (ml := 4) (cd := cdL_bestQuestion) (rows := rwL_bestQuestion) (av := [.int a]) (gv := gvI) (tc := tc01) hI (fun MX h => c_bestQuestion h a) (rm_to fun h => m_bestQuestion (d := 8) h a) (fun _ => rfl)
    (fun _ _ _ _ _ _ hcl ho hf hw => by rw [hw]; exact wv_bestQuestion hcl ho hf) (fun _ _ _ _ _ hcl ho hc => wt_bestQuestion hcl ho hc) gvI_ex z_bestQuestion (Or.inl rfl) rfl (by decide)
  refine hP _ _ _ _ _ ?_; (conv => whnf)
  refine ⟨rfl, h1, ?_⟩; rw [← e1]; (conv => whnf)
  refine ⟨ht, Nat.le_of_ble_eq_true rfl, rfl, x, M1, ⟨_, rfl, g1, Nat.le_of_ble_eq_true rfl, g2⟩, ?_⟩; (conv => whnf)
  refine ⟨rfl, h1, ?_⟩; rw [← e1]; (conv => whnf)
  rw [g3]; (conv => whnf)
  refine ⟨Nat.succ_lt_succ ht, Nat.le_of_ble_eq_true rfl, rfl, Or.inl ⟨_, _, g4, ?_⟩⟩; (conv => whnf)
  rw [g5]; (conv => whnf)
  refine ⟨Nat.succ_lt_succ ht, Nat.le_of_ble_eq_true rfl, rfl, Or.inl ⟨_, _, g6, ?_⟩⟩; (conv => whnf)
  refine ⟨fun _ => ?_, fun z => absurd rfl z⟩
  refine hP _ _ _ _ _ ?_; (conv => whnf)
  refine ⟨fun _ => ?_, fun z => ?_⟩
  · refine hP _ _ _ _ _ ?_; (conv => whnf)
    exact hn _ _ _ _ _ _ _ (Nat.le_refl _) g8
  · have z : x = 0 := Classical.byContradiction fun q => z q
    have g9 := g9 z
    (conv => whnf)
    rw [g7]; (conv => whnf)
    refine ⟨vi (n := 0) rfl (by decide) (by decide), ?_⟩; (conv => whnf)
    have g9 : f2 0 = u.toInt64 := g9
    rw [show f2 ((cst 0).toNatClampNeg) = u.toInt64 from g9, lcmp_self]
    refine ⟨fun _ => ?_, fun q => absurd rfl q⟩
    refine hP _ _ _ _ _ ?_; (conv => whnf)
    exact hn _ _ _ _ _ _ _ (Nat.le_refl _) g8
theorem z_dealsWithout {A : AS} {x : Int32} : (∃ v, (spOf A x (fun k => nI (dT A.1.1 + dHB A.1.1 k))).1 = .inl (some (.int v))) ∨ ∃ e, (spOf A x (fun k => nI (dT A.1.1 + dHB A.1.1 k))).1 = .inr e ∧ cdL_dealsWithout e = some (nI (tc0 e)) ∧ ¬ nI (tc0 e) = 0 := by
  unfold spOf
  (repeat' split) <;> first | exact Or.inl ⟨_, rfl⟩ | exact Or.inr ⟨0, rfl, rfl, by decide⟩ | exact Or.inr ⟨1, rfl, rfl, by decide⟩ | exact Or.inr ⟨2, rfl, rfl, by decide⟩
theorem k_dealsWithout (hP : LCl sn sx P) (hI : LJ M A A) (ht : t < 600) (h1 : vp_in (nI i + cst 1) sn) (h2 : vp_in (nI i + cst 2) sn) (h3 : vp_in (nI i + cst 3) sn) (h4 : vp_in (nI i + cst 4) sn) (hn : LNx P i t) : P 2288 t (LHd i l5 l6 l7 l8) [] M := by
  obtain ⟨a, e1⟩ : ∃ y, y = sx (nI i + cst 1).toNatClampNeg := ⟨_, rfl⟩
  obtain ⟨x, M1, u, M2, f2, g1, g2, ⟨fs1, g3⟩, g4, ⟨fs2, g5⟩, g6, g7, g8, g9⟩ := o_thr (k := kX5_dealsWithout) (k6 := kX6_dealsWithout) (ml := 4) (cd := cdL_dealsWithout) (rows := rwL_dealsWithout) (av := [.int a]) (gv := gvI) (tc := tc0) hI (fun MX h => c_dealsWithout h a) (rm_to fun h => m_dealsWithout (d := 8) h a) (fun _ => rfl)
    (fun _ _ _ _ _ _ hcl ho hf hw => by rw [hw]; exact wv_dealsWithout hcl ho hf) (fun _ _ _ _ _ hcl ho hc => wt_dealsWithout hcl ho hc) gvI_ex z_dealsWithout (Or.inl rfl) rfl (by decide)
  refine hP _ _ _ _ _ ?_; (conv => whnf)
  refine ⟨rfl, h1, ?_⟩; rw [← e1]; (conv => whnf)
  refine ⟨ht, Nat.le_of_ble_eq_true rfl, rfl, x, M1, ⟨_, rfl, g1, Nat.le_of_ble_eq_true rfl, g2⟩, ?_⟩; (conv => whnf)
  refine ⟨rfl, h1, ?_⟩; rw [← e1]; (conv => whnf)
  rw [g3]; (conv => whnf)
  refine ⟨Nat.succ_lt_succ ht, Nat.le_of_ble_eq_true rfl, rfl, Or.inl ⟨_, _, g4, ?_⟩⟩; (conv => whnf)
  rw [g5]; (conv => whnf)
  refine ⟨Nat.succ_lt_succ ht, Nat.le_of_ble_eq_true rfl, rfl, Or.inl ⟨_, _, g6, ?_⟩⟩; (conv => whnf)
  refine ⟨fun _ => ?_, fun z => absurd rfl z⟩
  refine hP _ _ _ _ _ ?_; (conv => whnf)
  refine ⟨fun _ => ?_, fun z => ?_⟩
  · refine hP _ _ _ _ _ ?_; (conv => whnf)
    exact hn _ _ _ _ _ _ _ (Nat.le_refl _) g8
  · have z : x = 0 := Classical.byContradiction fun q => z q
    have g9 := g9 z
    (conv => whnf)
    rw [g7]; (conv => whnf)
    refine ⟨vi (n := 0) rfl (by decide) (by decide), ?_⟩; (conv => whnf)
    have g9 : f2 0 = u.toInt64 := g9
    rw [show f2 ((cst 0).toNatClampNeg) = u.toInt64 from g9, lcmp_self]
    refine ⟨fun _ => ?_, fun q => absurd rfl q⟩
    refine hP _ _ _ _ _ ?_; (conv => whnf)
    exact hn _ _ _ _ _ _ _ (Nat.le_refl _) g8
theorem z_idleClues {A : AS} : ∃ w, (sp0 A (nI (cntN (fun k => Nat.beq (dT A.1.1 + dHB A.1.1 k) (dT A.1.1)) A.1.1.length))).1 = .inl (some (.int w)) := ⟨_, rfl⟩
theorem k_idleClues (hP : LCl sn sx P) (hI : LJ M A A) (ht : t < 600) (h1 : vp_in (nI i + cst 1) sn) (h2 : vp_in (nI i + cst 2) sn) (h3 : vp_in (nI i + cst 3) sn) (h4 : vp_in (nI i + cst 4) sn) (hn : LNx P i t) : P 2344 t (LHd i l5 l6 l7 l8) [] M := by
  obtain ⟨fs0, g0⟩ := LJ_0 hI
  obtain ⟨w, hw⟩ := z_idleClues (A := A)
  obtain ⟨M1, M2, g1, ⟨fs1, g3⟩, g4, g8⟩ := o_ret (k := kX5_idleClues) (k6 := kX6_idleClues) (av := []) (w := .int w) (tc := tc0) hI (fun MX h => c_idleClues h) (rm_to fun h => m_idleClues (d := 8) h) (fun _ => rfl) hw (fun _ => rfl)
  refine hP _ _ _ _ _ ?_; (conv => whnf)
  rw [g0]; (conv => whnf)
  refine ⟨Nat.lt_succ_of_lt ht, Nat.le_of_ble_eq_true rfl, rfl, Or.inl ⟨_, _, g1, ?_⟩⟩; (conv => whnf)
  rw [g3]; (conv => whnf)
  refine ⟨Nat.lt_succ_of_lt ht, Nat.le_of_ble_eq_true rfl, rfl, Or.inl ⟨_, _, g4, ?_⟩⟩; (conv => whnf)
  refine ⟨fun _ => ?_, fun z => absurd rfl z⟩
  exact hn _ _ _ _ _ _ _ (Nat.le_succ t) g8
theorem z_chance {A : AS} : ∃ w, (spChance A).1 = .inl (some (.double w)) := ⟨_, rfl⟩
theorem k_chance (hP : LCl sn sx P) (hI : LJ M A A) (ht : t < 600) (h1 : vp_in (nI i + cst 1) sn) (h2 : vp_in (nI i + cst 2) sn) (h3 : vp_in (nI i + cst 3) sn) (h4 : vp_in (nI i + cst 4) sn) (hn : LNx P i t) : P 2357 t (LHd i l5 l6 l7 l8) [] M := by
  obtain ⟨fs0, g0⟩ := LJ_0 hI
  obtain ⟨w, hw⟩ := z_chance (A := A)
  obtain ⟨M1, M2, g1, ⟨fs1, g3⟩, g4, g8⟩ := o_ret (k := kX5_chance) (k6 := kX6_chance) (av := []) (w := .double w) (tc := tc0) hI (fun MX h => c_chance h) (rm_to fun h => m_chance (d := 8) h) (fun _ => rfl) hw (fun _ => rfl)
  refine hP _ _ _ _ _ ?_; (conv => whnf)
  rw [g0]; (conv => whnf)
  refine ⟨Nat.lt_succ_of_lt ht, Nat.le_of_ble_eq_true rfl, rfl, Or.inl ⟨_, _, g1, ?_⟩⟩; (conv => whnf)
  rw [g3]; (conv => whnf)
  refine ⟨Nat.lt_succ_of_lt ht, Nat.le_of_ble_eq_true rfl, rfl, Or.inl ⟨_, _, g4, ?_⟩⟩; (conv => whnf)
  refine ⟨fun _ => ?_, fun q => ?_⟩
  · refine hP _ _ _ _ _ ?_; (conv => whnf)
    exact hn _ _ _ _ _ _ _ (Nat.le_succ t) g8
  · (conv => whnf)
    refine ⟨fun q2 => absurd q2 q, fun _ => ?_⟩
    (conv => whnf)
    refine ⟨fun _ => ?_, fun q2 => absurd q q2⟩
    refine hP _ _ _ _ _ ?_; (conv => whnf)
    exact hn _ _ _ _ _ _ _ (Nat.le_succ t) g8
theorem z_digest {A : AS} : ∃ w, (spDig A).1 = .inl (some (.long w)) := ⟨_, rfl⟩
theorem k_digest (hP : LCl sn sx P) (hI : LJ M A A) (ht : t < 600) (h1 : vp_in (nI i + cst 1) sn) (h2 : vp_in (nI i + cst 2) sn) (h3 : vp_in (nI i + cst 3) sn) (h4 : vp_in (nI i + cst 4) sn) (hn : LNx P i t) : P 2398 t (LHd i l5 l6 l7 l8) [] M := by
  obtain ⟨fs0, g0⟩ := LJ_0 hI
  obtain ⟨w, hw⟩ := z_digest (A := A)
  obtain ⟨M1, M2, g1, ⟨fs1, g3⟩, g4, g8⟩ := o_ret (k := kX5_digest) (k6 := kX6_digest) (av := []) (w := .long w) (tc := tc0) hI (fun MX h => c_digest h) (rm_to fun h => m_digest (d := 8) h) (fun _ => rfl) hw (fun _ => rfl)
  refine hP _ _ _ _ _ ?_; (conv => whnf)
  rw [g0]; (conv => whnf)
  refine ⟨Nat.lt_succ_of_lt ht, Nat.le_of_ble_eq_true rfl, rfl, Or.inl ⟨_, _, g1, ?_⟩⟩; (conv => whnf)
  rw [g3]; (conv => whnf)
  refine ⟨Nat.lt_succ_of_lt ht, Nat.le_of_ble_eq_true rfl, rfl, Or.inl ⟨_, _, g4, ?_⟩⟩; (conv => whnf)
  rw [lcmp_self]
  refine ⟨fun _ => ?_, fun q => absurd rfl q⟩
  exact hn _ _ _ _ _ _ _ (Nat.le_succ t) g8
end LC
