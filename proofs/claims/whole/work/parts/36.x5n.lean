/-! work: a text done part by part -/
theorem stp_59 {t t' : RS} (hv : V t) (h : rdS t 59 = some t') : t.2.2.2 = 4 := by
  rcases rdS_cases h hv.2.1 with ⟨_, hl, _⟩ | ⟨_, hl, _⟩ | ⟨_, hl, _⟩ | ⟨_, hl, _⟩ | ⟨h0, _, _⟩ | ⟨h0, _, _, _⟩
  · have := lim_cases hl; omega
  · omega
  · omega
  · omega
  · exact h0
  · exact h0
theorem pt_V {t : RS} (hv : V t) (h : t.2.2.2 = 4) : ptOK (ptS t) := ⟨hv.2.2.1 (by omega), hv.2.2.2.2.2 h, hv.2.2.2.2.1 (by omega)⟩
theorem ptsS_s {s s' : RS} {c : Nat} {l : List Nat} (h : rdS s c = some s') : ptsS s (c :: l) = if c = 59 then ptS s :: ptsS s' l else ptsS s' l := by
  show (match rdS s c with | some s' => if c = 59 then ptS s :: ptsS s' l else ptsS s' l | none => []) = _
  rw [h]
theorem ptsS_n {s : RS} {c : Nat} {l : List Nat} (h : rdS s c = none) : ptsS s (c :: l) = [] := by
  show (match rdS s c with | some s' => if c = 59 then ptS s :: ptsS s' l else ptsS s' l | none => []) = _
  rw [h]
theorem ptsS_ok : ∀ (l : List Nat) (t e : RS), V t → (∀ c ∈ l, c < 2 ^ 31) → runR t l = some e → e.2.2.2 = 4 → ∀ x ∈ ptsS t l, ptOK x := by
  intro l
  induction l with
  | nil =>
    intro t e hv _ hr he x hx
    have hte : t = e := Option.some.inj hr
    rcases List.mem_cons.mp hx with q | q
    · rw [q]; exact pt_V hv (by rw [hte]; exact he)
    · cases q
  | cons c l ih =>
    intro t e hv hc hr he x hx
    cases hs : rdS t c with
    | none => rw [runR_n hs] at hr; cases hr
    | some t' =>
      rw [runR_s hs] at hr
      rw [ptsS_s hs] at hx
      have h1 := ih t' e (V_step hv (hc c List.mem_cons_self) hs) (fun y hy => hc y (List.mem_cons_of_mem _ hy)) hr he
      by_cases h59 : c = 59
      · rw [if_pos h59] at hx
        rcases List.mem_cons.mp hx with q | q
        · rw [q]; rw [h59] at hs; exact pt_V hv (stp_59 hv hs)
        · exact h1 x q
      · rw [if_neg h59] at hx
        exact h1 x hx
theorem ptsS_len : ∀ (l : List Nat) (t : RS), (ptsS t l).length ≤ l.length + 1 := by
  intro l
  induction l with
  | nil => intro t; exact Nat.le_refl _
  | cons c l ih =>
    intro t
    cases hs : rdS t c with
    | none => rw [ptsS_n hs]; exact Nat.zero_le _
    | some t' =>
      rw [ptsS_s hs]
      have := ih t'
      by_cases h59 : c = 59
      · rw [if_pos h59]; show (ptsS t' l).length + 1 ≤ l.length + 1 + 1; omega
      · rw [if_neg h59]; show (ptsS t' l).length ≤ l.length + 1 + 1; omega
theorem runP_n : ∀ (xs : List rl_C) (a : SA) (n : Nat), (runP a xs n).1 ≤ n + xs.length := by
  intro xs
  induction xs with
  | nil => intro a n; exact Nat.le_refl _
  | cons x xs ih =>
    intro a n
    unfold runP
    by_cases h : (doP a x).1 = 0
    · rw [if_pos h]
      have := ih (doP a x).2 (n + 1)
      show _ ≤ n + (xs.length + 1)
      omega
    · rw [if_neg h]; exact Nat.le_add_right _ _
theorem doP_ev {s t : RS} (a : SA) (h : ev s t) (h4 : s.2.2.2 = 4) (hv : V s) : doP a (ptS s) = doP a (ptS t) := by
  obtain ⟨s1, s2, s3, s4⟩ := s
  obtain ⟨t1, t2, t3, t4⟩ := t
  obtain ⟨e1, e2, e3, e4⟩ := h
  have h4 : s4 = 4 := h4
  obtain rfl : s1 = t1 := e2 (by show s4 ≠ 0; omega)
  obtain rfl : s3 = t3 := e3 h4
  show doP a (s1, s2, s3) = doP a (s1, t2, s3)
  by_cases hn : npl s1 = true
  · obtain rfl : s2 = t2 := e4 (by show 2 ≤ s4; omega) hn
    rfl
  · have hl : 0 < lim s1 := hv.2.2.1 (by show 1 ≤ s4; omega)
    have hx : s1 = 33 ∨ s1 = 105 ∨ s1 = 110 ∨ s1 = 120 := by
      rcases lim_cases hl with (e | e) | (e | e | e | e | e | e | e) | e <;> subst e <;> first | omega | exact absurd rfl hn
    rcases hx with e | e | e | e <;> subst e <;> rfl
theorem runP_0 {a : SA} {x : rl_C} {r : List rl_C} {n : Nat} (h : (doP a x).1 = 0) : runP a (x :: r) n = runP (doP a x).2 r (n + 1) := if_pos h
theorem runP_1 {a : SA} {x : rl_C} {r : List rl_C} {n : Nat} (h : ¬ (doP a x).1 = 0) : runP a (x :: r) n = (n, (doP a x).1, (doP a x).2) := if_neg h
section X5N
variable {d : Nat} {M : Mem} {A : AS} {now snap : StR} {rows : Nat → StR} {sv : Nat → Option Nat} {buf : IA} {rd : RS} {D : DC} {H : HC} {R : RC} {sc hs ln : Int32}
theorem runP_ex (D : DC) (H : HC) (R : RC) : ∀ (xs : List rl_C) (a : SA) (n : Nat) (now : StR), stR now a → (∀ x ∈ xs, ptOK x) → (runP a xs n).2.1 < 3 ∧ ∃ now', stR now' (runP a xs n).2.2 := by
  intro xs
  induction xs with
  | nil => intro a n now h _; exact ⟨Nat.zero_lt_succ _, now, h⟩
  | cons x xs ih =>
    intro a n now h hx
    obtain ⟨now', h1, h2, -⟩ := s_doPart (d := 0) (snap := now) (rows := fun _ => now) (sv := fun _ => none) (buf := fun _ => 0) (rd := (0, 0, 0, 0)) (D := D) (H := H) (R := R) (sc := 0) (hs := 0) (ln := 0) h (hx x List.mem_cons_self)
    unfold runP
    by_cases h0 : (doP a x).1 = 0
    · rw [if_pos h0]
      exact ih _ _ now' h1 (fun y hy => hx y (List.mem_cons_of_mem _ hy))
    · rw [if_neg h0]
      exact ⟨h2, now', h1⟩
def t00 : RS := (0, 0, 0, 0)
def wkA (A : AS) : Nat × (Nat × SA) := runP A.1 (ptsS t00 A.2.2.2) 0
def okT (t : List Nat) : Bool := match runR t00 t with | some e => Nat.beq e.2.2.2 4 | none => false
def wkS (q : Nat × (Nat × SA)) : SA := (q.2.2.1, (q.2.2.2.1, ((bif Nat.beq q.2.1 0 then 0 else q.1), q.2.1)))
def spWork (A : AS) : Res × AS := bif okT A.2.2.2 then (rV (nI (wkA A).1), (wkS (wkA A), A.2.1, svA A, [])) else (.inr 2, A)
theorem stR_stop {s : StR} {a : SA} (h : stR s a) {p w : Nat} (hp : p < 100) (hw : w < 3) : stR (s.1, s.2.1, s.2.2.1, s.2.2.2.1, s.2.2.2.2.1, nI p, nI w) (a.1, a.2.1, (p, w)) := by
  obtain ⟨h1, h2, h3, h4, h5, h6⟩ := h
  exact ⟨h1, h2, h3, rfl, rfl, h6.1, h6.2.1, h6.2.2.1, hp, hw⟩
theorem g_work {r0 : Nat} (hr0 : r0 < 5) (hn5 : A.2.2.1.length ≤ 5) (hnow : stR now A.1) (ht : txR buf A.2.2.2) (hrd : rd.1 < 2 ^ 31) (hok : okT A.2.2.2 = true) :
    ∃ (now2 : StR) (rd2 : RS), stR now2 (wkS (wkA A)) ∧ rd2.1 < 2 ^ 31 ∧
    Cl (d + 5) kX5_work [.ref 0] (cM now snap rows (svF r0) buf rd D H R (nI A.2.2.1.length) hs (nI A.2.2.2.length)) (rV (nI (wkA A).1))
      (cM now2 snap (rowsU rows (svI A.2.2.1.length r0) (cpyS (rows (svI A.2.2.1.length r0)) now)) (svF (svR A.2.2.1.length r0)) buf rd2 (D0 D) (H0c H) (R0c R) (nI (svN A.2.2.1.length)) hs (nI 0)) := by
  have h60 := ht.1
  have hlt := tx_lt ht
  have hlt31 : ∀ c ∈ A.2.2.2, c < 2 ^ 31 := fun c hc => Nat.lt_trans (hlt c hc) (by decide)
  obtain ⟨e0, he0, he4⟩ : ∃ e, runR t00 A.2.2.2 = some e ∧ e.2.2.2 = 4 := by
    unfold okT at hok
    cases hq : runR t00 A.2.2.2 with
    | none => rw [hq] at hok; cases hok
    | some e => rw [hq] at hok; exact ⟨e, rfl, Nat.eq_of_beq_eq_true hok⟩
  have hV00 : V t00 := V_0 (0, 0, 0, 0) (by decide)
  obtain ⟨eq1, eq2, eq3⟩ := ev_err A.2.2.2 t00 _ (ev_0 (0, 0, 0, 0) rd) hV00 hlt31
  obtain ⟨e1, he1, hev1⟩ := eq2 e0 he0
  have he14 : e1.2.2.2 = 4 := by rw [← hev1.1]; exact he4
  have hVe1 := V_run _ _ _ (V_0 rd hrd) hlt31 he1
  have herr := (errP_run A.2.2.2 _).2 e1 he1
  have hpt := ptsS_ok A.2.2.2 t00 e0 hV00 hlt31 he0 he4
  obtain ⟨hw3, nowF, hF⟩ := runP_ex D H R (ptsS t00 A.2.2.2) A.1 0 now hnow hpt
  have hnn := runP_n (ptsS t00 A.2.2.2) A.1 0
  have hpl := ptsS_len A.2.2.2 t00
  have hn61 : (wkA A).1 ≤ 61 := by unfold wkA; omega
  have hw3 : (wkA A).2.1 < 3 := hw3
  have hF : stR nowF (wkA A).2.2 := hF
  have hst : ∀ s : StR, stR s (wkA A).2.2 → stR (s.1, s.2.1, s.2.2.1, s.2.2.2.1, s.2.2.2.2.1, nI (bif Nat.beq (wkA A).2.1 0 then 0 else (wkA A).1), nI (wkA A).2.1) (wkS (wkA A)) := fun s hs => stR_stop hs (by
    cases Nat.beq (wkA A).2.1 0 with
    | true => show 0 < 100; decide
    | false => show (wkA A).1 < 100; omega) hw3
  obtain ⟨rd', g1, g2, gk⟩ := g_firstError (d := d) (now := now) (snap := snap) (rows := rows) (sv := svF r0) (rd := rd) (D := D) (H := H) (R := R) (sc := nI A.2.2.1.length) (hs := hs) ht hrd
  have hrd' := g2 e1 he1
  subst hrd'
  rw [herr] at gk
  have hrem := s_remember (d := d + 2) (now := now) (snap := snap) (rows := rows) (buf := buf) (rd := rd') (D := D) (H := H) (R := R) (hs := hs) (ln := nI A.2.2.2.length) hr0 hn5
  generalize hfin : wkA A = fin at *
  generalize rowsU rows (svI A.2.2.1.length r0) (cpyS (rows (svI A.2.2.1.length r0)) now) = RR at *
  generalize svF (svR A.2.2.1.length r0) = SV at *
  generalize nI (svN A.2.2.1.length) = SC at *
  suffices hh : ∃ r M', (r = rV (nI fin.1) ∧ ∃ (now2 : StR) (rd2 : RS), stR now2 (wkS fin) ∧ rd2.1 < 2 ^ 31 ∧ M' = (cM now2 snap RR SV buf rd2 (D0 D) (H0c H) (R0c R) SC hs (nI 0))) ∧
      Cl (d + 5) kX5_work [.ref 0] (cM now snap rows (svF r0) buf rd D H R (nI A.2.2.1.length) hs (nI A.2.2.2.length)) r M' by
    obtain ⟨r, M', ⟨rfl, n2, r2, q1, q2, rfl⟩, q3⟩ := hh
    exact ⟨n2, r2, q1, q2, q3⟩
  refine Cl_goQ e_X5_work rfl (Nat.le_of_ble_eq_true rfl) (fun r M' q => by obtain ⟨-, n2, r2, -, -, rfl⟩ := q; rfl) (⟨_, _, rfl, _, rd', hst nowF hF, g1, rfl⟩) ?_; intro P hP; refine hP _ _ _ _ ?_; (conv => whnf)
  refine ⟨Nat.le_of_ble_eq_true rfl, rfl, ?_⟩; (conv => whnf)
  refine Or.inl ⟨_, _, gk, ?_⟩; (conv => whnf)
  refine b2 A.2.2.2.length A.2.2.2.length rfl rfl (by omega) (by omega) (fun (q : A.2.2.2.length < A.2.2.2.length) => by omega) (fun _ => ?_); (conv => whnf)
  refine ⟨Nat.le_of_ble_eq_true rfl, rfl, ?_⟩; (conv => whnf)
  refine Or.inl ⟨_, _, Cl_wr [38] (s_mayEnd (d := d + 3) (s := rd') hVe1.2.1) 1 rfl rfl ⟨rfl, trivial⟩ (cM now snap rows (svF r0) buf rd' D H R (nI A.2.2.1.length) hs (nI A.2.2.2.length)) rfl, ?_⟩; (conv => whnf)
  refine b1 1 (by rw [he14]; rfl) (by omega) (fun _ => ?_) (fun (q : ¬ ¬ 1 = 0) => by omega); (conv => whnf)
  refine hP _ _ _ _ ?_; (conv => whnf)
  refine ⟨Nat.le_of_ble_eq_true rfl, rfl, ?_⟩; (conv => whnf)
  refine Or.inl ⟨_, _, hrem, ?_⟩; (conv => whnf)
  refine ⟨Nat.le_of_ble_eq_true rfl, rfl, ?_⟩; (conv => whnf)
  refine Or.inl ⟨_, _, Cl_wr [38] (s_begin (d := d + 3) (s := rd')) 1 rfl rfl ⟨rfl, trivial⟩ (cM now snap RR SV buf (rd'.1, rd'.2.1, rd'.2.2.1, 0) (D0 D) (H0c H) (R0c R) SC hs (nI A.2.2.2.length)) rfl, ?_⟩; (conv => whnf)
  have h148 : ∀ (nw : StR) (s : RS) (x1 x2 : Int32), stR nw fin.2.2 → s.1 < 2 ^ 31 → x1 = nI fin.1 → x2 = nI fin.2.1 → P 148 [some (.ref 0), some (.int x1), some (.int x2), none, none] [] (cM nw snap RR SV buf s (D0 D) (H0c H) (R0c R) SC hs (nI A.2.2.2.length)) := by
    intro nw s x1 x2 hs1 hs2 hx1 hx2
    subst hx1
    subst hx2
    have hh := hst nw hs1
    refine hP _ _ _ _ ?_; (conv => whnf)
    refine ⟨⟨rfl, rfl⟩, ?_⟩; (conv => whnf)
    refine b1 fin.2.1 rfl (by omega) (fun (q : ¬ fin.2.1 = 0) => ?_) (fun (q : ¬ ¬ fin.2.1 = 0) => ?_)
    · rw [nbf q] at hh
      refine hP _ _ _ _ ?_; (conv => whnf)
      refine hP _ _ _ _ ?_; (conv => whnf)
      refine ⟨⟨rfl, rfl⟩, ?_⟩; (conv => whnf)
      refine ⟨⟨rfl, rfl⟩, ?_⟩; (conv => whnf)
      exact ⟨rfl, ⟨.int, rfl, rfl⟩, rfl, _, s, hh, hs2, rfl⟩
    · rw [nbt (Decidable.not_not.mp q)] at hh
      (conv => whnf)
      refine hP _ _ _ _ ?_; (conv => whnf)
      refine ⟨⟨rfl, rfl⟩, ?_⟩; (conv => whnf)
      refine ⟨⟨rfl, rfl⟩, ?_⟩; (conv => whnf)
      exact ⟨rfl, ⟨.int, rfl, rfl⟩, rfl, _, s, hh, hs2, rfl⟩
  have h48 : ∀ (nw : StR) (s : RS) (i : Nat) (x1 x2 x3 : Int32), stR nw fin.2.2 → s.1 < 2 ^ 31 → x1 = nI fin.1 → x2 = nI fin.2.1 → x3 = nI i → i < 100 → (A.2.2.2.length < i ∨ fin.2.1 ≠ 0) → P 48 [some (.ref 0), some (.int x1), some (.int x2), some (.int x3), none] [] (cM nw snap RR SV buf s (D0 D) (H0c H) (R0c R) SC hs (nI A.2.2.2.length)) := by
    intro nw s i x1 x2 x3 hs1 hs2 hx1 hx2 hx3 hi hd
    refine hP _ _ _ _ ?_; (conv => whnf)
    refine b2 i A.2.2.2.length hx3 rfl (by omega) (by omega) (fun _ => ?_) (fun q => ?_)
    · exact h148 nw s x1 x2 hs1 hs2 hx1 hx2
    · (conv => whnf)
      refine b1 fin.2.1 hx2 (by omega) (fun _ => ?_) (fun q2 => absurd (hd.resolve_left q) q2)
      exact h148 nw s x1 x2 hs1 hs2 hx1 hx2
  have h132 : ∀ (nw : StR) (s : RS) (c : Nat) (x1 x2 x3 x4 : Int32), x4 = nI c → c < 2 ^ 30 → V s → (∀ s' : RS, s'.1 < 2 ^ 31 → (∀ e, rdS s c = some e → s' = e) → P 48 [some (.ref 0), some (.int x1), some (.int x2), some (.int (x3 + nI 1)), none] [] (cM nw snap RR SV buf s' (D0 D) (H0c H) (R0c R) SC hs (nI A.2.2.2.length))) →
      P 132 [some (.ref 0), some (.int x1), some (.int x2), some (.int x3), some (.int x4)] [] (cM nw snap RR SV buf s (D0 D) (H0c H) (R0c R) SC hs (nI A.2.2.2.length)) := by
    intro nw s c x1 x2 x3 x4 hx4 hc hv k
    subst hx4
    obtain ⟨b, s', t1, t2, t3, hk⟩ := a_take (d := d + 1) (now := nw) (snap := snap) (rows := RR) (sv := SV) (buf := buf) (D := D0 D) (H := H0c H) (R := R0c R) (sc := SC) (hs := hs) (ln := nI A.2.2.2.length) hv hc
    refine hP _ _ _ _ ?_; (conv => whnf)
    refine ⟨Nat.le_of_ble_eq_true rfl, rfl, ?_⟩; (conv => whnf)
    refine Or.inl ⟨_, _, hk, ?_⟩; (conv => whnf)
    exact k s' t1 (fun e he => (t2 e he).2)
  have h85 : ∀ (nw : StR) (a : SA) (s t : RS) (n : Nat) (x3 : Int32), V s → ev s t → s.2.2.2 = 4 → stR nw a →
      (∀ nw', stR nw' (doP a (ptS t)).2 → (doP a (ptS t)).1 = 0 → P 132 [some (.ref 0), some (.int (nI n + nI 1)), some (.int (nI 0)), some (.int x3), some (.int (nI 59))] [] (cM nw' snap RR SV buf s (D0 D) (H0c H) (R0c R) SC hs (nI A.2.2.2.length))) →
      (∀ nw', stR nw' (doP a (ptS t)).2 → ¬ (doP a (ptS t)).1 = 0 → P 132 [some (.ref 0), some (.int (nI n)), some (.int (nI (doP a (ptS t)).1)), some (.int x3), some (.int (nI 59))] [] (cM nw' snap RR SV buf s (D0 D) (H0c H) (R0c R) SC hs (nI A.2.2.2.length))) →
      P 85 [some (.ref 0), some (.int (nI n)), some (.int (nI 0)), some (.int x3), none] [.int (nI 59)] (cM nw snap RR SV buf s (D0 D) (H0c H) (R0c R) SC hs (nI A.2.2.2.length)) := by
    intro nw a s t n x3 hv hev h4 hst k0 k1
    obtain ⟨now', s1, s2, hk⟩ := s_doPart (d := d) (snap := snap) (rows := RR) (sv := SV) (buf := buf) (rd := s) (D := D0 D) (H := H0c H) (R := R0c R) (sc := SC) (hs := hs) (ln := nI A.2.2.2.length) hst (pt_V hv h4)
    rw [doP_ev a hev h4 hv] at s1 s2 hk
    refine hP _ _ _ _ ?_; (conv => whnf)
    refine b2 59 59 rfl rfl (by omega) (by omega) (fun (q : ¬ 59 = 59) => by omega) (fun _ => ?_); (conv => whnf)
    refine ⟨Nat.le_of_ble_eq_true rfl, rfl, ?_⟩; (conv => whnf)
    refine Or.inl ⟨_, _, hk, ?_⟩; (conv => whnf)
    refine b1 (doP a (ptS t)).1 rfl (by omega) (fun (q : ¬ (doP a (ptS t)).1 = 0) => ?_) (fun (q : ¬ ¬ (doP a (ptS t)).1 = 0) => ?_)
    · refine hP _ _ _ _ ?_; (conv => whnf)
      refine hP _ _ _ _ ?_; (conv => whnf)
      exact k1 now' s1 q
    · have q := Decidable.not_not.mp q
      have e : P 132 [some (.ref 0), some (.int (nI n + nI 1)), some (.int (nI (doP a (ptS t)).1)), some (.int x3), some (.int (nI 59))] [] (cM now' snap RR SV buf s (D0 D) (H0c H) (R0c R) SC hs (nI A.2.2.2.length)) := by
        rw [q]; exact k0 now' s1 q
      (conv => whnf)
      refine hP _ _ _ _ ?_; (conv => whnf)
      exact e
  have lp : ∀ (l : List Nat) (i n : Nat) (s t : RS) (a : SA) (nw : StR) (x1 x3 : Int32), x1 = nI n → x3 = nI i → i + l.length = A.2.2.2.length → (∀ k, l[k]? = A.2.2.2[i + k]?) → V s → V t → ev s t → runR t l = some e0 → stR nw a → runP a (ptsS t l) n = fin →
      P 48 [some (.ref 0), some (.int x1), some (.int (nI 0)), some (.int x3), none] [] (cM nw snap RR SV buf s (D0 D) (H0c H) (R0c R) SC hs (nI A.2.2.2.length)) := by
    intro l
    induction l with
    | nil =>
      intro i n s t a nw x1 x3 hx1 hx3 hi _ hv hvt hev hr hst hf
      subst hx1
      subst hx3
      have hi : i = A.2.2.2.length := hi
      have hte : t = e0 := Option.some.inj hr
      have h4 : s.2.2.2 = 4 := by rw [hev.1, hte]; exact he4
      refine hP _ _ _ _ ?_; (conv => whnf)
      refine b2 i A.2.2.2.length rfl rfl (by omega) (by omega) (fun (q : A.2.2.2.length < i) => by omega) (fun _ => ?_); (conv => whnf)
      refine b1 0 rfl (by omega) (fun (q : ¬ 0 = 0) => by omega) (fun _ => ?_); (conv => whnf)
      refine b2 i A.2.2.2.length rfl rfl (by omega) (by omega) (fun _ => ?_) (fun (q : ¬ A.2.2.2.length ≤ i) => by omega)
      refine hP _ _ _ _ ?_; (conv => whnf)
      refine h85 nw a s t n _ hv hev h4 hst (fun nw' s1 q => ?_) (fun nw' s1 q => ?_)
      · refine h132 nw' s 59 _ _ _ _ rfl (by decide) hv (fun s' t1 _ => ?_)
        have hf2 : (n + 1, 0, (doP a (ptS t)).2) = fin := by
          rw [← hf]
          show _ = runP a [ptS t] n
          rw [runP_0 q]; rfl
        exact h48 nw' s' (i + 1) _ _ _ (by rw [← hf2]; exact s1) t1 (by rw [← hf2]; exact nI_1 n) (by rw [← hf2]) (nI_1 i) (by omega) (Or.inl (by omega))
      · refine h132 nw' s 59 _ _ _ _ rfl (by decide) hv (fun s' t1 _ => ?_)
        have hf2 : (n, (doP a (ptS t)).1, (doP a (ptS t)).2) = fin := by
          rw [← hf]
          show _ = runP a [ptS t] n
          rw [runP_1 q]
        exact h48 nw' s' (i + 1) _ _ _ (by rw [← hf2]; exact s1) t1 (by rw [← hf2]) (by rw [← hf2]) (nI_1 i) (by omega) (Or.inl (by omega))
    | cons c l ih =>
      intro i n s t a nw x1 x3 hx1 hx3 hi hl hv hvt hev hr hst hf
      subst hx1
      subst hx3
      have hil : i < A.2.2.2.length := by rw [← hi]; show i < i + (l.length + 1); omega
      have hc0 : A.2.2.2[i]? = some c := (hl 0).symm
      have hbc := ht.2 i c hc0
      have hc30 := hlt c (List.mem_of_getElem? hc0)
      have hb : buf (nI i).toNatClampNeg = nI c := by rw [nI_clamp (by omega)]; exact hbc.1
      have hi2 : i + 1 + l.length = A.2.2.2.length := by
        have hi : i + (l.length + 1) = A.2.2.2.length := hi
        omega
      have hl2 : ∀ k, l[k]? = A.2.2.2[i + 1 + k]? := fun k => by
        have := hl (k + 1)
        rw [show i + 1 + k = i + (k + 1) by omega]
        exact this
      rcases ev_step (c := c) hev hv.2.1 with ⟨z1, z2⟩ | ⟨s2, t2, z1, z2, hev2⟩
      · rw [runR_n z2] at hr; cases hr
      rw [runR_s z2] at hr
      rw [ptsS_s z2] at hf
      have hvs2 := V_step hv (by omega) z1
      have hvt2 := V_step hvt (by omega) z2
      refine hP _ _ _ _ ?_; (conv => whnf)
      refine b2 i A.2.2.2.length rfl rfl (by omega) (by omega) (fun (q : A.2.2.2.length < i) => by omega) (fun _ => ?_); (conv => whnf)
      refine b1 0 rfl (by omega) (fun (q : ¬ 0 = 0) => by omega) (fun _ => ?_); (conv => whnf)
      refine b2 i A.2.2.2.length rfl rfl (by omega) (by omega) (fun (q : A.2.2.2.length ≤ i) => by omega) (fun _ => ?_); (conv => whnf)
      refine b2 i 60 rfl rfl (by omega) (by omega) (fun (q : 60 ≤ i) => by omega) (fun _ => ?_); (conv => whnf)
      refine ⟨vi rfl (show i < 60 by omega) (by decide), ?_⟩; (conv => whnf)
      show P 85 _ [.int (buf (nI i).toNatClampNeg)] _
      rw [hb]
      by_cases h59 : c = 59
      · subst h59
        rw [if_pos rfl] at hf
        have h4 : s.2.2.2 = 4 := stp_59 hv z1
        refine h85 nw a s t n _ hv hev h4 hst (fun nw' s1 q => ?_) (fun nw' s1 q => ?_)
        · refine h132 nw' s 59 _ _ _ _ rfl (by decide) hv (fun s' t1 u => ?_)
          have hs' := u s2 z1
          subst hs'
          rw [runP_0 q] at hf
          exact ih (i + 1) (n + 1) s' t2 _ nw' _ _ (nI_1 n) (nI_1 i) hi2 hl2 hvs2 hvt2 hev2 hr s1 hf
        · refine h132 nw' s 59 _ _ _ _ rfl (by decide) hv (fun s' t1 _ => ?_)
          rw [runP_1 q] at hf
          exact h48 nw' s' (i + 1) _ _ _ (by rw [← hf]; exact s1) t1 (by rw [← hf]) (by rw [← hf]) (nI_1 i) (by omega) (Or.inr (by rw [← hf]; exact q))
      · rw [if_neg h59] at hf
        refine hP _ _ _ _ ?_; (conv => whnf)
        refine b2 c 59 rfl rfl (by omega) (by omega) (fun _ => ?_) (fun (q : ¬ ¬ c = 59) => absurd h59 q)
        refine h132 nw s c _ _ _ _ rfl hc30 hv (fun s' t1 u => ?_)
        have hs' := u s2 z1
        subst hs'
        exact ih (i + 1) n s' t2 _ nw _ _ rfl (nI_1 i) hi2 hl2 hvs2 hvt2 hev2 hr hst hf
  refine lp A.2.2.2 0 0 _ t00 A.1 now _ _ rfl rfl (Nat.zero_add _) (fun k => by rw [Nat.zero_add]) (V_0 _ hVe1.1) hV00 ?_ he0 hnow hfin
  exact ev_0 rd' (0, 0, 0, 0)
theorem c_work (hM : CR M A) : ∃ M', Cl (d + 5) kX5_work [.ref 0] M (spWork A).1 M' ∧ CR M' (spWork A).2 := by
  obtain ⟨now, snap, rows, r, buf, rd, D, H, R, rfl, h1, h2, h3, h4, h5, h6, h7, h8, h9, h10⟩ := hM
  unfold spWork
  by_cases hok : okT A.2.2.2 = true
  · rw [hok]
    obtain ⟨now2, rd2, q1, q2, hk⟩ := g_work (d := d) (snap := snap) (rows := rows) (D := D) (H := H) (R := R) (hs := bI A.2.1.isSome) h1 h4 h2 h6 h7 hok
    refine ⟨_, hk, ?_⟩
    have hB : CRr (A.1, A.2.1, A.2.2.1, []) now snap rows r buf rd2 D H R := ⟨h1, h2, h3, h4, h5, ⟨Nat.zero_le _, fun j c z => (by cases z)⟩, q2, h8, h9, h10⟩
    exact CR_chg hB q1
  · have hok : okT A.2.2.2 = false := by
      cases hb : okT A.2.2.2 with
      | true => exact absurd hb hok
      | false => rfl
    rw [hok]
    have hlt31 : ∀ c ∈ A.2.2.2, c < 2 ^ 31 := fun c hc => Nat.lt_trans (tx_lt h6 c hc) (by decide)
    have h60 := h6.1
    obtain ⟨rd', g1, g2, gk⟩ := g_firstError (d := d) (now := now) (snap := snap) (rows := rows) (sv := svF r) (rd := rd) (D := D) (H := H) (R := R) (sc := nI A.2.2.1.length) (hs := bI A.2.1.isSome) h6 h7
    obtain ⟨eq1, eq2, eq3⟩ := ev_err A.2.2.2 t00 _ (ev_0 (0, 0, 0, 0) rd) (V_0 (0, 0, 0, 0) (by decide)) hlt31
    refine ⟨cMA A now snap rows r buf rd' D H R, ?_, now, snap, rows, r, buf, rd', D, H, R, rfl, h1, h2, h3, h4, h5, h6, g1, h8, h9, h10⟩
    unfold okT at hok
    cases hr : runR t00 A.2.2.2 with
    | none =>
      have hn := (errP_run A.2.2.2 _).1 (eq3 hr)
      refine Cl_go e_X5_work (Nat.le_of_ble_eq_true rfl) rfl ?_; intro P hP; refine hP _ _ _ _ ?_; (conv => whnf)
      refine ⟨Nat.le_of_ble_eq_true rfl, rfl, ?_⟩; (conv => whnf)
      refine Or.inl ⟨_, _, gk, ?_⟩; (conv => whnf)
      refine b2 _ A.2.2.2.length rfl rfl (by omega) (by omega) (fun _ => ?_) (fun q => absurd hn q)
      refine hP _ _ _ _ ?_; (conv => whnf)
      exact ⟨rfl, rfl⟩
    | some e =>
      rw [hr] at hok
      obtain ⟨e1, he1, hev1⟩ := eq2 e hr
      have he14 : ¬ e1.2.2.2 = 4 := fun z => by
        have : e.2.2.2 = 4 := by rw [hev1.1]; exact z
        have hok : Nat.beq e.2.2.2 4 = false := hok
        rw [this] at hok
        cases hok
      have hVe1 := V_run _ _ _ (V_0 rd h7) hlt31 he1
      have herr := (errP_run A.2.2.2 _).2 e1 he1
      have hrd' := g2 e1 he1
      subst hrd'
      rw [herr] at gk
      refine Cl_go e_X5_work (Nat.le_of_ble_eq_true rfl) rfl ?_; intro P hP; refine hP _ _ _ _ ?_; (conv => whnf)
      refine ⟨Nat.le_of_ble_eq_true rfl, rfl, ?_⟩; (conv => whnf)
      refine Or.inl ⟨_, _, gk, ?_⟩; (conv => whnf)
      refine b2 A.2.2.2.length A.2.2.2.length rfl rfl (by omega) (by omega) (fun (q : A.2.2.2.length < A.2.2.2.length) => by omega) (fun _ => ?_); (conv => whnf)
      refine ⟨Nat.le_of_ble_eq_true rfl, rfl, ?_⟩; (conv => whnf)
      refine Or.inl ⟨_, _, Cl_wr [38] (s_mayEnd (d := d + 3) (s := rd') hVe1.2.1) 1 rfl rfl ⟨rfl, trivial⟩ (cM now snap rows (svF r) buf rd' D H R (nI A.2.2.1.length) (bI A.2.1.isSome) (nI A.2.2.2.length)) rfl, ?_⟩; (conv => whnf)
      refine b1 0 (by rw [nbf he14]; rfl) (by omega) (fun (q : ¬ 0 = 0) => by omega) (fun _ => ?_); (conv => whnf)
      refine hP _ _ _ _ ?_; (conv => whnf)
      exact ⟨rfl, rfl⟩
end X5N
