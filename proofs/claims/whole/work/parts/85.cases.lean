/-! the fifty cases of the law -/
def LCl (sn : Nat) (sx : Nat → Int32) (P : Nat → LK) : Prop := ∀ pc t L S N, lW (fun a av N v N1 => Cl 20 a av N (.inl v) N1) (fun _ _ _ => False) SCw (fun S _ => S = [.int 1]) wn sn sx P (fndC lawR pc) t L S N → P pc t L S N
abbrev LHd (i : Nat) (l5 l6 l7 l8 : Option Value) : Lcs := [some (.ref 99), some (.ref 0), some (.ref 50), some (.ref 61), some (.int (nI i)), l5, l6, l7, l8]
def LNx (P : Nat → LK) (i t : Nat) : Prop := ∀ (l5 l6 l7 l8 : Option Value) (t' : Nat) (M' : Mem) (A' : AS), t' ≤ t + 1 → LJ M' A' A' → P 2412 t' (LHd i l5 l6 l7 l8) [] M'
theorem lcmp_self (x : Int64) : lg_cmp x x = 0 := by
  unfold lg_cmp
  simp
theorem rm_to {k6 : Nat} {tc : Nat → Nat} {av : List Value} {Z : Res × AS} {A : AS} (h : ∀ {vT : Int32} {aS aH : IA} {vM : Int32} {aN : IA} {vS : Int32} {aX : IA} {vL vP vW : Int32} {aR : IA} {vR : Int32} {aD : IA} {vF : Int32} {aW aI aQ aL : IA} {vB : Int32}, rfR aS aH vM aN vS aX vL A → RO tc k6 20 (rfM vT aS aH vM aN vS aX vL vP vW aR vR aD vF aW aI aQ aL vB) av Z) : ∀ t mm, RM t mm A → RO tc k6 20 mm av Z := by
  intro t mm hR
  obtain ⟨_, _, _, _, _, _, _, _, _, _, _, _, _, _, _, _, _, _, rfl, hr⟩ := hR
  exact h hr
def gvI (v : Int32) (w : Int64) : Prop := w = v.toInt64
def gvB (v : Int32) (w : Int64) : Prop := (v = 0 → w = 0) ∧ (¬ v = 0 → w = 1)
theorem gvI_ex (v : Int32) : ∃ w, gvI v w := ⟨_, rfl⟩
theorem gvB_ex (v : Int32) : ∃ w, gvB v w := by
  by_cases h : v = 0
  · exact ⟨0, fun _ => rfl, fun z => absurd h z⟩
  · exact ⟨1, fun z => absurd z h, fun _ => rfl⟩
section LC
variable {sn : Nat} {sx : Nat → Int32} {P : Nat → LK} {i t : Nat} {M : Mem} {A : AS} {l5 l6 l7 l8 : Option Value}
theorem z_exchange {A : AS} {x y : Int32} : (∃ v, (spExch A x y).1 = .inl (some (.int v))) ∨ ∃ e, (spExch A x y).1 = .inr e ∧ cdL_exchange e = some (nI (tc01 e)) ∧ ¬ nI (tc01 e) = 0 := by
  unfold spExch
  (repeat' split) <;> first | exact Or.inl ⟨_, rfl⟩ | exact Or.inr ⟨0, rfl, rfl, by decide⟩ | exact Or.inr ⟨1, rfl, rfl, by decide⟩ | exact Or.inr ⟨2, rfl, rfl, by decide⟩
theorem k_exchange (hP : LCl sn sx P) (hI : LJ M A A) (ht : t < 600) (h1 : vp_in (nI i + cst 1) sn) (h2 : vp_in (nI i + cst 2) sn) (h3 : vp_in (nI i + cst 3) sn) (h4 : vp_in (nI i + cst 4) sn) (hn : LNx P i t) : P 252 t (LHd i l5 l6 l7 l8) [] M := by
  obtain ⟨a, e1⟩ : ∃ y, y = sx (nI i + cst 1).toNatClampNeg := ⟨_, rfl⟩
  obtain ⟨b, e2⟩ : ∃ y, y = sx (nI i + cst 2).toNatClampNeg := ⟨_, rfl⟩
  obtain ⟨x, M1, u, M2, f2, g1, g2, ⟨fs1, g3⟩, g4, ⟨fs2, g5⟩, g6, g7, g8, g9⟩ := o_thr (k := kX5_exchange) (k6 := kX6_exchange) (ml := 5) (cd := cdL_exchange) (rows := rwL_exchange) (av := [.int a, .int b]) (gv := gvI) (tc := tc01) hI (fun MX h => c_exchange h a b) (rm_to fun h => m_exchange (d := 8) h a b) (fun _ => rfl)
    (fun _ _ _ _ _ _ hcl ho hf hw => by rw [hw]; exact wv_exchange hcl ho hf) (fun _ _ _ _ _ hcl ho hc => wt_exchange hcl ho hc) gvI_ex z_exchange (Or.inl rfl) rfl (by decide)
  refine hP _ _ _ _ _ ?_; (conv => whnf)
  refine ⟨rfl, h1, ?_⟩; rw [← e1]; (conv => whnf)
  refine ⟨rfl, h2, ?_⟩; rw [← e2]; (conv => whnf)
  refine ⟨ht, Nat.le_of_ble_eq_true rfl, rfl, x, M1, ⟨_, rfl, g1, Nat.le_of_ble_eq_true rfl, g2⟩, ?_⟩; (conv => whnf)
  refine ⟨rfl, h1, ?_⟩; rw [← e1]; (conv => whnf)
  refine ⟨rfl, h2, ?_⟩; rw [← e2]; (conv => whnf)
  rw [g3]; (conv => whnf)
  refine ⟨Nat.succ_lt_succ ht, Nat.le_of_ble_eq_true rfl, rfl, Or.inl ⟨_, _, g4, ?_⟩⟩; (conv => whnf)
  rw [g5]; (conv => whnf)
  refine ⟨Nat.succ_lt_succ ht, Nat.le_of_ble_eq_true rfl, rfl, Or.inl ⟨_, _, g6, ?_⟩⟩; (conv => whnf)
  refine ⟨fun _ => ?_, fun z => absurd rfl z⟩
  refine hP _ _ _ _ _ ?_; (conv => whnf)
  refine ⟨fun _ => ?_, fun z => ?_⟩
  · refine hP _ _ _ _ _ ?_; (conv => whnf)
    exact hn _ _ _ _ _ _ _ (Nat.le_refl _) g8
  · have z : x = 0 := Classical.byContradiction fun q => z q
    have g9 := g9 z
    (conv => whnf)
    rw [g7]; (conv => whnf)
    refine ⟨vi (n := 0) rfl (by decide) (by decide), ?_⟩; (conv => whnf)
    have g9 : f2 0 = u.toInt64 := g9
    rw [show f2 ((cst 0).toNatClampNeg) = u.toInt64 from g9, lcmp_self]
    refine ⟨fun _ => ?_, fun q => absurd rfl q⟩
    refine hP _ _ _ _ _ ?_; (conv => whnf)
    exact hn _ _ _ _ _ _ _ (Nat.le_refl _) g8
theorem z_dropAll {A : AS} : ∃ w, (spDropAll A).1 = .inl (some (.int w)) := ⟨_, rfl⟩
theorem k_dropAll (hP : LCl sn sx P) (hI : LJ M A A) (ht : t < 600) (h1 : vp_in (nI i + cst 1) sn) (h2 : vp_in (nI i + cst 2) sn) (h3 : vp_in (nI i + cst 3) sn) (h4 : vp_in (nI i + cst 4) sn) (hn : LNx P i t) : P 604 t (LHd i l5 l6 l7 l8) [] M := by
  obtain ⟨fs0, g0⟩ := LJ_0 hI
  obtain ⟨w, hw⟩ := z_dropAll (A := A)
  obtain ⟨M1, M2, g1, ⟨fs1, g3⟩, g4, g8⟩ := o_ret (k := kX5_dropAll) (k6 := kX6_dropAll) (av := []) (w := .int w) (tc := tc0) hI (fun MX h => c_dropAll h) (rm_to fun h => m_dropAll (d := 8) h) (fun _ => rfl) hw (fun _ => rfl)
  refine hP _ _ _ _ _ ?_; (conv => whnf)
  rw [g0]; (conv => whnf)
  refine ⟨Nat.lt_succ_of_lt ht, Nat.le_of_ble_eq_true rfl, rfl, Or.inl ⟨_, _, g1, ?_⟩⟩; (conv => whnf)
  rw [g3]; (conv => whnf)
  refine ⟨Nat.lt_succ_of_lt ht, Nat.le_of_ble_eq_true rfl, rfl, Or.inl ⟨_, _, g4, ?_⟩⟩; (conv => whnf)
  refine ⟨fun _ => ?_, fun z => absurd rfl z⟩
  exact hn _ _ _ _ _ _ _ (Nat.le_succ t) g8
theorem z_ask {A : AS} {x s t r : Int32} : (∃ v, (spAsk A x s t r).1 = .inl (some (.int v))) ∨ ∃ e, (spAsk A x s t r).1 = .inr e ∧ cdL_ask e = some (nI (tc01 e)) ∧ ¬ nI (tc01 e) = 0 := by
  unfold spAsk; unfold spQ
  (repeat' split) <;> first | exact Or.inl ⟨_, rfl⟩ | exact Or.inr ⟨0, rfl, rfl, by decide⟩ | exact Or.inr ⟨1, rfl, rfl, by decide⟩ | exact Or.inr ⟨2, rfl, rfl, by decide⟩
theorem k_ask (hP : LCl sn sx P) (hI : LJ M A A) (ht : t < 600) (h1 : vp_in (nI i + cst 1) sn) (h2 : vp_in (nI i + cst 2) sn) (h3 : vp_in (nI i + cst 3) sn) (h4 : vp_in (nI i + cst 4) sn) (hn : LNx P i t) : P 617 t (LHd i l5 l6 l7 l8) [] M := by
  obtain ⟨a, e1⟩ : ∃ y, y = sx (nI i + cst 1).toNatClampNeg := ⟨_, rfl⟩
  obtain ⟨b, e2⟩ : ∃ y, y = sx (nI i + cst 2).toNatClampNeg := ⟨_, rfl⟩
  obtain ⟨cc, e3⟩ : ∃ y, y = sx (nI i + cst 3).toNatClampNeg := ⟨_, rfl⟩
  obtain ⟨dd, e4⟩ : ∃ y, y = sx (nI i + cst 4).toNatClampNeg := ⟨_, rfl⟩
  obtain ⟨x, M1, u, M2, f2, g1, g2, ⟨fs1, g3⟩, g4, ⟨fs2, g5⟩, g6, g7, g8, g9⟩ := o_thr (k := kX5_ask) (k6 := kX6_ask) (ml := 7) (cd := cdL_ask) (rows := rwL_ask) (av := [.int a, .int b, .int cc, .int dd]) (gv := gvB) (tc := tc01) hI (fun MX h => c_ask h a b cc dd) (rm_to fun h => m_ask (d := 8) h a b cc dd) (fun _ => rfl)
    (fun _ _ _ _ _ _ hcl ho hf hw => wv_ask hcl ho hf hw) (fun _ _ _ _ _ hcl ho hc => wt_ask hcl ho hc) gvB_ex z_ask (Or.inr rfl) rfl (by decide)
  refine hP _ _ _ _ _ ?_; (conv => whnf)
  refine ⟨rfl, h1, ?_⟩; rw [← e1]; (conv => whnf)
  refine ⟨rfl, h2, ?_⟩; rw [← e2]; (conv => whnf)
  refine ⟨rfl, h3, ?_⟩; rw [← e3]; (conv => whnf)
  refine ⟨rfl, h4, ?_⟩; rw [← e4]; (conv => whnf)
  refine ⟨ht, Nat.le_of_ble_eq_true rfl, rfl, x, M1, ⟨_, rfl, g1, Nat.le_of_ble_eq_true rfl, g2⟩, ?_⟩; (conv => whnf)
  refine ⟨rfl, h1, ?_⟩; rw [← e1]; (conv => whnf)
  refine ⟨rfl, h2, ?_⟩; rw [← e2]; (conv => whnf)
  refine ⟨rfl, h3, ?_⟩; rw [← e3]; (conv => whnf)
  refine ⟨rfl, h4, ?_⟩; rw [← e4]; (conv => whnf)
  rw [g3]; (conv => whnf)
  refine ⟨Nat.succ_lt_succ ht, Nat.le_of_ble_eq_true rfl, rfl, Or.inl ⟨_, _, g4, ?_⟩⟩; (conv => whnf)
  rw [g5]; (conv => whnf)
  refine ⟨Nat.succ_lt_succ ht, Nat.le_of_ble_eq_true rfl, rfl, Or.inl ⟨_, _, g6, ?_⟩⟩; (conv => whnf)
  refine ⟨fun _ => ?_, fun z => absurd rfl z⟩
  refine hP _ _ _ _ _ ?_; (conv => whnf)
  refine ⟨fun _ => ?_, fun z => ?_⟩
  · refine hP _ _ _ _ _ ?_; (conv => whnf)
    exact hn _ _ _ _ _ _ _ (Nat.le_refl _) g8
  · have z : x = 0 := Classical.byContradiction fun q => z q
    have g9 := g9 z
    (conv => whnf)
    rw [g7]; (conv => whnf)
    refine ⟨vi (n := 0) rfl (by decide) (by decide), ?_⟩; (conv => whnf)
    refine ⟨fun q => ?_, fun q => ?_⟩
    · refine hP _ _ _ _ _ ?_; (conv => whnf)
      rw [show f2 ((cst 0).toNatClampNeg) = 0 from g9.1 q, show lg_cmp (0 : Int64) (Int64.ofNat (0 : Fin 2).val) = 0 from lcmp_self 0]
      refine ⟨fun _ => ?_, fun q => absurd rfl q⟩
      refine hP _ _ _ _ _ ?_; (conv => whnf)
      exact hn _ _ _ _ _ _ _ (Nat.le_refl _) g8
    · (conv => whnf)
      refine hP _ _ _ _ _ ?_; (conv => whnf)
      rw [show f2 ((cst 0).toNatClampNeg) = 1 from g9.2 q, show lg_cmp (1 : Int64) (Int64.ofNat (1 : Fin 2).val) = 0 from lcmp_self 1]
      refine ⟨fun _ => ?_, fun q => absurd rfl q⟩
      refine hP _ _ _ _ _ ?_; (conv => whnf)
      exact hn _ _ _ _ _ _ _ (Nat.le_refl _) g8
theorem z_work {A : AS} : (∃ v, (spWork A).1 = .inl (some (.int v))) ∨ ∃ e, (spWork A).1 = .inr e ∧ cdL_work e = some (nI (tc21 e)) ∧ ¬ nI (tc21 e) = 0 := by
  unfold spWork
  (cases okT A.2.2.2) <;> first | exact Or.inl ⟨_, rfl⟩ | exact Or.inr ⟨0, rfl, rfl, by decide⟩ | exact Or.inr ⟨1, rfl, rfl, by decide⟩ | exact Or.inr ⟨2, rfl, rfl, by decide⟩
theorem k_work (hP : LCl sn sx P) (hI : LJ M A A) (ht : t < 600) (h1 : vp_in (nI i + cst 1) sn) (h2 : vp_in (nI i + cst 2) sn) (h3 : vp_in (nI i + cst 3) sn) (h4 : vp_in (nI i + cst 4) sn) (hn : LNx P i t) : P 977 t (LHd i l5 l6 l7 l8) [] M := by
  obtain ⟨x, M1, u, M2, f2, g1, g2, ⟨fs1, g3⟩, g4, ⟨fs2, g5⟩, g6, g7, g8, g9⟩ := o_thr (k := kX5_work) (k6 := kX6_work) (ml := 3) (cd := cdL_work) (rows := rwL_work) (av := []) (gv := gvI) (tc := tc21) hI (fun MX h => c_work h) (rm_to fun h => m_work (d := 8) h) (fun _ => rfl)
    (fun _ _ _ _ _ _ hcl ho hf hw => by rw [hw]; exact wv_work hcl ho hf) (fun _ _ _ _ _ hcl ho hc => wt_work hcl ho hc) gvI_ex z_work (Or.inl rfl) rfl (by decide)
  refine hP _ _ _ _ _ ?_; (conv => whnf)
  refine ⟨ht, Nat.le_of_ble_eq_true rfl, rfl, x, M1, ⟨_, rfl, g1, Nat.le_of_ble_eq_true rfl, g2⟩, ?_⟩; (conv => whnf)
  rw [g3]; (conv => whnf)
  refine ⟨Nat.succ_lt_succ ht, Nat.le_of_ble_eq_true rfl, rfl, Or.inl ⟨_, _, g4, ?_⟩⟩; (conv => whnf)
  rw [g5]; (conv => whnf)
  refine ⟨Nat.succ_lt_succ ht, Nat.le_of_ble_eq_true rfl, rfl, Or.inl ⟨_, _, g6, ?_⟩⟩; (conv => whnf)
  refine ⟨fun _ => ?_, fun z => absurd rfl z⟩
  refine hP _ _ _ _ _ ?_; (conv => whnf)
  refine ⟨fun _ => ?_, fun z => ?_⟩
  · refine hP _ _ _ _ _ ?_; (conv => whnf)
    exact hn _ _ _ _ _ _ _ (Nat.le_refl _) g8
  · have z : x = 0 := Classical.byContradiction fun q => z q
    have g9 := g9 z
    (conv => whnf)
    rw [g7]; (conv => whnf)
    refine ⟨vi (n := 0) rfl (by decide) (by decide), ?_⟩; (conv => whnf)
    have g9 : f2 0 = u.toInt64 := g9
    rw [show f2 ((cst 0).toNatClampNeg) = u.toInt64 from g9, lcmp_self]
    refine ⟨fun _ => ?_, fun q => absurd rfl q⟩
    refine hP _ _ _ _ _ ?_; (conv => whnf)
    exact hn _ _ _ _ _ _ _ (Nat.le_refl _) g8
theorem z_chance {A : AS} : ∃ w, (spChance A).1 = .inl (some (.double w)) := ⟨_, rfl⟩
theorem k_chance (hP : LCl sn sx P) (hI : LJ M A A) (ht : t < 600) (h1 : vp_in (nI i + cst 1) sn) (h2 : vp_in (nI i + cst 2) sn) (h3 : vp_in (nI i + cst 3) sn) (h4 : vp_in (nI i + cst 4) sn) (hn : LNx P i t) : P 2357 t (LHd i l5 l6 l7 l8) [] M := by
  obtain ⟨fs0, g0⟩ := LJ_0 hI
  obtain ⟨w, hw⟩ := z_chance (A := A)
  obtain ⟨M1, M2, g1, ⟨fs1, g3⟩, g4, g8⟩ := o_ret (k := kX5_chance) (k6 := kX6_chance) (av := []) (w := .double w) (tc := tc0) hI (fun MX h => c_chance h) (rm_to fun h => m_chance (d := 8) h) (fun _ => rfl) hw (fun _ => rfl)
  refine hP _ _ _ _ _ ?_; (conv => whnf)
  rw [g0]; (conv => whnf)
  refine ⟨Nat.lt_succ_of_lt ht, Nat.le_of_ble_eq_true rfl, rfl, Or.inl ⟨_, _, g1, ?_⟩⟩; (conv => whnf)
  rw [g3]; (conv => whnf)
  refine ⟨Nat.lt_succ_of_lt ht, Nat.le_of_ble_eq_true rfl, rfl, Or.inl ⟨_, _, g4, ?_⟩⟩; (conv => whnf)
  refine ⟨fun _ => ?_, fun q => ?_⟩
  · refine hP _ _ _ _ _ ?_; (conv => whnf)
    exact hn _ _ _ _ _ _ _ (Nat.le_succ t) g8
  · (conv => whnf)
    refine ⟨fun q2 => absurd q2 q, fun _ => ?_⟩
    (conv => whnf)
    refine ⟨fun _ => ?_, fun q2 => absurd q q2⟩
    refine hP _ _ _ _ _ ?_; (conv => whnf)
    exact hn _ _ _ _ _ _ _ (Nat.le_succ t) g8
theorem z_digest {A : AS} : ∃ w, (spDig A).1 = .inl (some (.long w)) := ⟨_, rfl⟩
theorem k_digest (hP : LCl sn sx P) (hI : LJ M A A) (ht : t < 600) (h1 : vp_in (nI i + cst 1) sn) (h2 : vp_in (nI i + cst 2) sn) (h3 : vp_in (nI i + cst 3) sn) (h4 : vp_in (nI i + cst 4) sn) (hn : LNx P i t) : P 2398 t (LHd i l5 l6 l7 l8) [] M := by
  obtain ⟨fs0, g0⟩ := LJ_0 hI
  obtain ⟨w, hw⟩ := z_digest (A := A)
  obtain ⟨M1, M2, g1, ⟨fs1, g3⟩, g4, g8⟩ := o_ret (k := kX5_digest) (k6 := kX6_digest) (av := []) (w := .long w) (tc := tc0) hI (fun MX h => c_digest h) (rm_to fun h => m_digest (d := 8) h) (fun _ => rfl) hw (fun _ => rfl)
  refine hP _ _ _ _ _ ?_; (conv => whnf)
  rw [g0]; (conv => whnf)
  refine ⟨Nat.lt_succ_of_lt ht, Nat.le_of_ble_eq_true rfl, rfl, Or.inl ⟨_, _, g1, ?_⟩⟩; (conv => whnf)
  rw [g3]; (conv => whnf)
  refine ⟨Nat.lt_succ_of_lt ht, Nat.le_of_ble_eq_true rfl, rfl, Or.inl ⟨_, _, g4, ?_⟩⟩; (conv => whnf)
  rw [lcmp_self]
  refine ⟨fun _ => ?_, fun q => absurd rfl q⟩
  exact hn _ _ _ _ _ _ _ (Nat.le_succ t) g8
end LC
