/-! texts: read and done -/
def errP (s : RS) : List Nat → Nat
  | [] => 0
  | c :: r => match rdS s c with
    | some s' => errP s' r + 1
    | none => 0
def runR (s : RS) : List Nat → Option RS
  | [] => some s
  | c :: r => match rdS s c with
    | some s' => runR s' r
    | none => none
def ptS (s : RS) : rl_C := (s.1, s.2.1, s.2.2.1)
/-- the parts of a text that can be read to its end -/
def ptsS (s : RS) : List Nat → List rl_C
  | [] => [ptS s]
  | c :: r => match rdS s c with
    | some s' => if c = 59 then ptS s :: ptsS s' r else ptsS s' r
    | none => []
def runP (a : SA) : List rl_C → Nat → Nat × (Nat × SA)
  | [], n => (n, 0, a)
  | x :: r, n => if (doP a x).1 = 0 then runP (doP a x).2 r (n + 1) else (n, (doP a x).1, (doP a x).2)
def ev (s t : RS) : Prop := s.2.2.2 = t.2.2.2 ∧ (s.2.2.2 ≠ 0 → s.1 = t.1) ∧ (s.2.2.2 = 4 → s.2.2.1 = t.2.2.1) ∧ (2 ≤ s.2.2.2 → npl s.1 = true → s.2.1 = t.2.1)
def V (s : RS) : Prop := s.1 < 2 ^ 31 ∧ s.2.2.2 < 5 ∧ (1 ≤ s.2.2.2 → 0 < lim s.1) ∧ (s.2.2.2 = 1 → npl s.1 = true) ∧ (2 ≤ s.2.2.2 → npl s.1 = true → s.2.1 < 3) ∧ (s.2.2.2 = 4 → s.2.2.1 < lim s.1)
theorem V_rd {s : RS} (h : V s) : rdV s := ⟨h.1, h.2.1, fun q => Nat.lt_of_lt_of_le (h.2.2.2.2.2 q) (lim_le _)⟩
theorem rdS_cases {s s' : RS} {c : Nat} (h : rdS s c = some s') (h5 : s.2.2.2 < 5) :
    (s.2.2.2 = 0 ∧ 0 < lim c ∧ s' = (c, s.2.1, s.2.2.1, bif npl c then 1 else 3)) ∨ (s.2.2.2 = 1 ∧ (48 ≤ c ∧ c ≤ 50) ∧ s' = (s.1, c - 48, s.2.2.1, 2)) ∨ (s.2.2.2 = 2 ∧ c = 58 ∧ s' = (s.1, s.2.1, s.2.2.1, 3)) ∨
    (s.2.2.2 = 3 ∧ ((48 ≤ c ∧ c ≤ 57) ∧ c - 48 < lim s.1) ∧ s' = (s.1, s.2.1, c - 48, 4)) ∨ (s.2.2.2 = 4 ∧ c = 59 ∧ s' = (s.1, s.2.1, s.2.2.1, 0)) ∨
    (s.2.2.2 = 4 ∧ ¬ c = 59 ∧ ((48 ≤ c ∧ c ≤ 57) ∧ s.2.2.1 ≠ 0 ∧ 10 * s.2.2.1 + (c - 48) < lim s.1) ∧ s' = (s.1, s.2.1, 10 * s.2.2.1 + (c - 48), 4)) := by
  unfold rdS at h
  by_cases h0 : s.2.2.2 = 0
  · rw [if_pos h0] at h
    by_cases hl : 0 < lim c
    · rw [if_pos hl] at h; exact Or.inl ⟨h0, hl, (Option.some.inj h).symm⟩
    · rw [if_neg hl] at h; cases h
  rw [if_neg h0] at h
  by_cases h1 : s.2.2.2 = 1
  · rw [if_pos h1] at h
    by_cases hl : 48 ≤ c ∧ c ≤ 50
    · rw [if_pos hl] at h; exact Or.inr (Or.inl ⟨h1, hl, (Option.some.inj h).symm⟩)
    · rw [if_neg hl] at h; cases h
  rw [if_neg h1] at h
  by_cases h2 : s.2.2.2 = 2
  · rw [if_pos h2] at h
    by_cases hl : c = 58
    · rw [if_pos hl] at h; exact Or.inr (Or.inr (Or.inl ⟨h2, hl, (Option.some.inj h).symm⟩))
    · rw [if_neg hl] at h; cases h
  rw [if_neg h2] at h
  by_cases h3 : s.2.2.2 = 3
  · rw [if_pos h3] at h
    by_cases hl : (48 ≤ c ∧ c ≤ 57) ∧ c - 48 < lim s.1
    · rw [if_pos hl] at h; exact Or.inr (Or.inr (Or.inr (Or.inl ⟨h3, hl, (Option.some.inj h).symm⟩)))
    · rw [if_neg hl] at h; cases h
  rw [if_neg h3] at h
  have h4 : s.2.2.2 = 4 := by omega
  by_cases hc : c = 59
  · rw [if_pos hc] at h; exact Or.inr (Or.inr (Or.inr (Or.inr (Or.inl ⟨h4, hc, (Option.some.inj h).symm⟩))))
  rw [if_neg hc] at h
  by_cases hl : (48 ≤ c ∧ c ≤ 57) ∧ s.2.2.1 ≠ 0 ∧ 10 * s.2.2.1 + (c - 48) < lim s.1
  · rw [if_pos hl] at h; exact Or.inr (Or.inr (Or.inr (Or.inr (Or.inr ⟨h4, hc, hl, (Option.some.inj h).symm⟩))))
  · rw [if_neg hl] at h; cases h
theorem V_step {s s' : RS} {c : Nat} (hv : V s) (hc : c < 2 ^ 31) (h : rdS s c = some s') : V s' := by
  obtain ⟨v1, v2, v3, v4, v5, v6⟩ := hv
  rcases rdS_cases h v2 with ⟨h0, hl, rfl⟩ | ⟨h0, hl, rfl⟩ | ⟨h0, hl, rfl⟩ | ⟨h0, hl, rfl⟩ | ⟨h0, hl, rfl⟩ | ⟨h0, hn, hl, rfl⟩
  · refine ⟨hc, ?_, fun _ => hl, fun (q : (bif npl c then 1 else 3) = 1) => ?_, fun (q : 2 ≤ (bif npl c then 1 else 3)) (q2 : npl c = true) => ?_, fun (q : (bif npl c then 1 else 3) = 4) => ?_⟩
    · show (bif npl c then 1 else 3) < 5
      cases npl c <;> decide
    · show npl c = true
      cases hb : npl c with
      | true => rfl
      | false => rw [hb] at q; cases q
    · rw [q2] at q; exact absurd q (by decide)
    · cases hb : npl c <;> rw [hb] at q <;> cases q
  · exact ⟨v1, by show 2 < 5; omega, fun _ => v3 (by omega), fun (q : 2 = 1) => by omega, fun _ _ => by show c - 48 < 3; omega, fun (q : 2 = 4) => by omega⟩
  · exact ⟨v1, by show 3 < 5; omega, fun _ => v3 (by omega), fun (q : 3 = 1) => by omega, fun _ q => v5 (by omega) q, fun (q : 3 = 4) => by omega⟩
  · exact ⟨v1, by show 4 < 5; omega, fun _ => v3 (by omega), fun (q : 4 = 1) => by omega, fun _ q => v5 (by omega) q, fun _ => hl.2⟩
  · exact ⟨v1, by show 0 < 5; omega, fun (q : 1 ≤ 0) => by omega, fun (q : 0 = 1) => by omega, fun (q : 2 ≤ 0) => by omega, fun (q : 0 = 4) => by omega⟩
  · exact ⟨v1, by show 4 < 5; omega, fun _ => v3 (by omega), fun (q : 4 = 1) => by omega, fun _ q => v5 (by omega) q, fun _ => hl.2.2⟩
theorem rdS_0 {s : RS} {c : Nat} (h : s.2.2.2 = 0) : rdS s c = if 0 < lim c then some (c, s.2.1, s.2.2.1, bif npl c then 1 else 3) else none := by
  unfold rdS
  exact if_pos h
theorem rdS_1 {s : RS} {c : Nat} (h : s.2.2.2 = 1) : rdS s c = if 48 ≤ c ∧ c ≤ 50 then some (s.1, c - 48, s.2.2.1, 2) else none := by
  unfold rdS
  exact (if_neg (by omega)).trans (if_pos h)
theorem rdS_2 {s : RS} {c : Nat} (h : s.2.2.2 = 2) : rdS s c = if c = 58 then some (s.1, s.2.1, s.2.2.1, 3) else none := by
  unfold rdS
  exact (if_neg (by omega)).trans ((if_neg (by omega)).trans (if_pos h))
theorem rdS_3 {s : RS} {c : Nat} (h : s.2.2.2 = 3) : rdS s c = if (48 ≤ c ∧ c ≤ 57) ∧ c - 48 < lim s.1 then some (s.1, s.2.1, c - 48, 4) else none := by
  unfold rdS
  exact (if_neg (by omega)).trans ((if_neg (by omega)).trans ((if_neg (by omega)).trans (if_pos h)))
theorem rdS_4 {s : RS} {c : Nat} (h : s.2.2.2 = 4) : rdS s c = if c = 59 then some (s.1, s.2.1, s.2.2.1, 0) else if (48 ≤ c ∧ c ≤ 57) ∧ s.2.2.1 ≠ 0 ∧ 10 * s.2.2.1 + (c - 48) < lim s.1 then some (s.1, s.2.1, 10 * s.2.2.1 + (c - 48), 4) else none := by
  unfold rdS
  exact (if_neg (by omega)).trans ((if_neg (by omega)).trans ((if_neg (by omega)).trans (if_neg (by omega))))
theorem ev_step {s t : RS} {c : Nat} (h : ev s t) (h5 : s.2.2.2 < 5) : (rdS s c = none ∧ rdS t c = none) ∨ ∃ s' t', rdS s c = some s' ∧ rdS t c = some t' ∧ ev s' t' := by
  obtain ⟨e1, e2, e3, e4⟩ := h
  have hcs : s.2.2.2 = 0 ∨ s.2.2.2 = 1 ∨ s.2.2.2 = 2 ∨ s.2.2.2 = 3 ∨ s.2.2.2 = 4 := by omega
  rcases hcs with h0 | h0 | h0 | h0 | h0
  · rw [rdS_0 h0, rdS_0 (s := t) (by omega)]
    by_cases hl : 0 < lim c
    · rw [if_pos hl, if_pos hl]
      refine Or.inr ⟨_, _, rfl, rfl, rfl, fun _ => rfl, fun (q : (bif npl c then 1 else 3) = 4) => ?_, fun (q : 2 ≤ (bif npl c then 1 else 3)) (q2 : npl c = true) => ?_⟩
      · cases hb : npl c <;> rw [hb] at q <;> cases q
      · rw [q2] at q; exact absurd q (by decide)
    · rw [if_neg hl, if_neg hl]; exact Or.inl ⟨rfl, rfl⟩
  · rw [rdS_1 h0, rdS_1 (s := t) (by omega)]
    by_cases hl : 48 ≤ c ∧ c ≤ 50
    · rw [if_pos hl, if_pos hl]
      exact Or.inr ⟨_, _, rfl, rfl, rfl, fun _ => e2 (by omega), fun (q : 2 = 4) => by omega, fun _ _ => rfl⟩
    · rw [if_neg hl, if_neg hl]; exact Or.inl ⟨rfl, rfl⟩
  · rw [rdS_2 h0, rdS_2 (s := t) (by omega)]
    by_cases hl : c = 58
    · rw [if_pos hl, if_pos hl]
      exact Or.inr ⟨_, _, rfl, rfl, rfl, fun _ => e2 (by omega), fun (q : 3 = 4) => by omega, fun _ q => e4 (by omega) q⟩
    · rw [if_neg hl, if_neg hl]; exact Or.inl ⟨rfl, rfl⟩
  · have e := e2 (by omega)
    rw [rdS_3 h0, rdS_3 (s := t) (by omega), ← e]
    by_cases hl : (48 ≤ c ∧ c ≤ 57) ∧ c - 48 < lim s.1
    · rw [if_pos hl, if_pos hl]
      exact Or.inr ⟨_, _, rfl, rfl, rfl, fun _ => rfl, fun _ => rfl, fun _ q => e4 (by omega) q⟩
    · rw [if_neg hl, if_neg hl]; exact Or.inl ⟨rfl, rfl⟩
  · have e := e2 (by omega)
    have e' := e3 h0
    rw [rdS_4 h0, rdS_4 (s := t) (by omega), ← e, ← e']
    by_cases hc : c = 59
    · rw [if_pos hc, if_pos hc]
      exact Or.inr ⟨_, _, rfl, rfl, rfl, fun _ => rfl, fun (q : 0 = 4) => by omega, fun (q : 2 ≤ 0) => by omega⟩
    · rw [if_neg hc, if_neg hc]
      by_cases hl : (48 ≤ c ∧ c ≤ 57) ∧ s.2.2.1 ≠ 0 ∧ 10 * s.2.2.1 + (c - 48) < lim s.1
      · rw [if_pos hl, if_pos hl]
        exact Or.inr ⟨_, _, rfl, rfl, rfl, fun _ => rfl, fun _ => rfl, fun _ q => e4 (by omega) q⟩
      · rw [if_neg hl, if_neg hl]; exact Or.inl ⟨rfl, rfl⟩
theorem errP_s {s s' : RS} {c : Nat} {l : List Nat} (h : rdS s c = some s') : errP s (c :: l) = errP s' l + 1 := by
  show (match rdS s c with | some s' => errP s' l + 1 | none => 0) = _
  rw [h]
theorem errP_n {s : RS} {c : Nat} {l : List Nat} (h : rdS s c = none) : errP s (c :: l) = 0 := by
  show (match rdS s c with | some s' => errP s' l + 1 | none => 0) = _
  rw [h]
theorem runR_s {s s' : RS} {c : Nat} {l : List Nat} (h : rdS s c = some s') : runR s (c :: l) = runR s' l := by
  show (match rdS s c with | some s' => runR s' l | none => none) = _
  rw [h]
theorem runR_n {s : RS} {c : Nat} {l : List Nat} (h : rdS s c = none) : runR s (c :: l) = none := by
  show (match rdS s c with | some s' => runR s' l | none => none) = _
  rw [h]
theorem ev_err : ∀ (l : List Nat) (s t : RS), ev s t → V s → (∀ c ∈ l, c < 2 ^ 31) → errP s l = errP t l ∧ (∀ e, runR s l = some e → ∃ e', runR t l = some e' ∧ ev e e') ∧ (runR s l = none → runR t l = none) := by
  intro l
  induction l with
  | nil => intro s t h _ _; exact ⟨rfl, fun e he => ⟨t, rfl, by rw [← Option.some.inj he]; exact h⟩, fun q => (by cases q)⟩
  | cons c r ih =>
    intro s t h hv hc
    rcases ev_step (c := c) h hv.2.1 with ⟨h1, h2⟩ | ⟨s', t', h1, h2, h3⟩
    · unfold errP runR
      rw [h1, h2]
      exact ⟨rfl, fun e he => (by cases he), fun _ => rfl⟩
    · unfold errP runR
      rw [h1, h2]
      obtain ⟨i1, i2, i3⟩ := ih s' t' h3 (V_step hv (hc c List.mem_cons_self) h1) (fun x hx => hc x (List.mem_cons_of_mem _ hx))
      exact ⟨congrArg (· + 1) i1, i2, i3⟩
theorem errP_run : ∀ (l : List Nat) (s : RS), (runR s l = none → errP s l < l.length) ∧ (∀ e, runR s l = some e → errP s l = l.length) := by
  intro l
  induction l with
  | nil => intro s; exact ⟨fun q => (by cases q), fun _ _ => rfl⟩
  | cons c r ih =>
    intro s
    unfold errP runR
    cases h : rdS s c with
    | none => exact ⟨fun _ => Nat.succ_pos _, fun e q => (by cases q)⟩
    | some s' => exact ⟨fun q => Nat.succ_lt_succ ((ih s').1 q), fun e q => congrArg (· + 1) ((ih s').2 e q)⟩
theorem V_0 (s : RS) (h : s.1 < 2 ^ 31) : V (s.1, s.2.1, s.2.2.1, 0) := ⟨h, by show 0 < 5; omega, fun (q : 1 ≤ 0) => by omega, fun (q : 0 = 1) => by omega, fun (q : 2 ≤ 0) => by omega, fun (q : 0 = 4) => by omega⟩
theorem ev_0 (s t : RS) : ev (s.1, s.2.1, s.2.2.1, 0) (t.1, t.2.1, t.2.2.1, 0) := ⟨rfl, fun q => absurd rfl q, fun (q : 0 = 4) => by omega, fun (q : 2 ≤ 0) => by omega⟩
theorem V_run : ∀ (l : List Nat) (s e : RS), V s → (∀ c ∈ l, c < 2 ^ 31) → runR s l = some e → V e := by
  intro l
  induction l with
  | nil => intro s e hv _ h; rw [← Option.some.inj h]; exact hv
  | cons c r ih =>
    intro s e hv hc h
    unfold runR at h
    cases hr : rdS s c with
    | none => rw [hr] at h; cases h
    | some s' =>
      rw [hr] at h
      exact ih s' e (V_step hv (hc c List.mem_cons_self) hr) (fun x hx => hc x (List.mem_cons_of_mem _ hx)) h
theorem tx_lt {buf : IA} {t : List Nat} (h : txR buf t) : ∀ c ∈ t, c < 2 ^ 30 := by
  intro c hc
  obtain ⟨j, hj⟩ := List.getElem?_of_mem hc
  have := h.2 j c hj
  omega
section X5M
variable {d : Nat} {M : Mem} {A : AS} {now snap : StR} {rows : Nat → StR} {sv : Nat → Option Nat} {buf : IA} {rd : RS} {D : DC} {H : HC} {R : RC} {sc hs ln : Int32}
theorem a_take {s : RS} {c : Nat} (hv : V s) (hc : c < 2 ^ 30) : ∃ (b : Bool) (s' : RS), s'.1 < 2 ^ 31 ∧ (∀ e, rdS s c = some e → b = true ∧ s' = e) ∧ (rdS s c = none → b = false) ∧ Cl (d + 3) kX4_take [.ref 38, .int (nI c)] (cM now snap rows sv buf s D H R sc hs ln) (rV (bI b)) (cM now snap rows sv buf s' D H R sc hs ln) := by
  obtain ⟨r, N, h1, h2⟩ := s_take (d := d) (V_rd hv) hc
  unfold tkR at h1
  cases hr : rdS s c with
  | some s' =>
    rw [hr] at h1
    obtain ⟨rfl, rfl⟩ := h1
    refine ⟨true, s', (V_step hv (by omega) hr).1, fun e he => ⟨rfl, Option.some.inj he⟩, fun q => (by cases q), ?_⟩
    exact Cl_wr [38] h2 1 rfl rfl ⟨rfl, trivial⟩ _ rfl
  | none =>
    rw [hr] at h1
    obtain ⟨rfl, s', h3, rfl⟩ := h1
    refine ⟨false, s', h3, fun e he => (by cases he), fun _ => rfl, ?_⟩
    exact Cl_wr [38] h2 1 rfl rfl ⟨rfl, trivial⟩ _ rfl
theorem g_firstError {t : List Nat} (ht : txR buf t) (hrd : rd.1 < 2 ^ 31) : ∃ rd' : RS, rd'.1 < 2 ^ 31 ∧ (∀ e, runR (rd.1, rd.2.1, rd.2.2.1, 0) t = some e → rd' = e) ∧
    Cl (d + 4) kX5_firstError [.ref 0] (cM now snap rows sv buf rd D H R sc hs (nI t.length)) (rV (nI (errP (rd.1, rd.2.1, rd.2.2.1, 0) t))) (cM now snap rows sv buf rd' D H R sc hs (nI t.length)) := by
  have h60 := ht.1
  have hlt := tx_lt ht
  have hlt31 : ∀ c ∈ t, c < 2 ^ 31 := fun c hc => Nat.lt_trans (hlt c hc) (by decide)
  have hV0 := V_0 rd hrd
  have hne : ∃ rd' : RS, rd'.1 < 2 ^ 31 ∧ (∀ e, runR (rd.1, rd.2.1, rd.2.2.1, 0) t = some e → rd' = e) := by
    cases hr : runR (rd.1, rd.2.1, rd.2.2.1, 0) t with
    | none => exact ⟨rd, hrd, fun e he => by cases he⟩
    | some e => exact ⟨e, (V_run t _ e hV0 hlt31 hr).1, fun e' he => Option.some.inj he⟩
  suffices hh : ∃ r M', (r = rV (nI (errP (rd.1, rd.2.1, rd.2.2.1, 0) t)) ∧ ∃ rd' : RS, rd'.1 < 2 ^ 31 ∧ (∀ e, runR (rd.1, rd.2.1, rd.2.2.1, 0) t = some e → rd' = e) ∧ M' = cM now snap rows sv buf rd' D H R sc hs (nI t.length)) ∧ Cl (d + 4) kX5_firstError [.ref 0] (cM now snap rows sv buf rd D H R sc hs (nI t.length)) r M' by
    obtain ⟨r, M', ⟨rfl, rd', h1, h2, rfl⟩, h3⟩ := hh
    exact ⟨rd', h1, h2, h3⟩
  obtain ⟨w, w1, w2⟩ := hne
  refine Cl_goQ e_X5_firstError rfl (Nat.le_of_ble_eq_true rfl) (fun r M' q => by obtain ⟨-, rd', -, -, rfl⟩ := q; rfl) (⟨_, _, rfl, w, w1, w2, rfl⟩) ?_; intro P hP; refine hP _ _ _ _ ?_; (conv => whnf)
  refine ⟨Nat.le_of_ble_eq_true rfl, rfl, ?_⟩; (conv => whnf)
  refine Or.inl ⟨_, _, Cl_wr [38] (s_begin (d := d + 2) (s := rd)) 1 rfl rfl ⟨rfl, trivial⟩ (cM now snap rows sv buf (rd.1, rd.2.1, rd.2.2.1, 0) D H R sc hs (nI t.length)) rfl, ?_⟩; (conv => whnf)
  have lp : ∀ (l : List Nat) (i : Nat) (s : RS) (x : Int32) (N : Mem), x = nI i → i + l.length = t.length → (∀ k, l[k]? = t[i + k]?) → V s → errP (rd.1, rd.2.1, rd.2.2.1, 0) t = i + errP s l → runR (rd.1, rd.2.1, rd.2.2.1, 0) t = runR s l → N = cM now snap rows sv buf s D H R sc hs (nI t.length) →
      P 9 [some (.ref 0), some (.int x)] [] N := by
    intro l
    induction l with
    | nil =>
      intro i s x N hx hi _ hv he hr hN
      subst hN
      have hi : i = t.length := hi
      refine hP _ _ _ _ ?_; (conv => whnf)
      refine b2 i t.length hx rfl (by omega) (by omega) (fun _ => ?_) (fun (q : ¬ t.length ≤ i) => by omega)
      refine hP _ _ _ _ ?_; (conv => whnf)
      refine ⟨rfl, ⟨.int, rfl, rfl⟩, rI ?_, s, hv.1, fun e hh => ?_, rfl⟩
      · rw [he, hi]; rfl
      · rw [hr] at hh; exact Option.some.inj hh
    | cons c l ih =>
      intro i s x N hx hi hl hv he hr hN
      subst hN
      subst hx
      have hil : i < t.length := by rw [← hi]; show i < i + (l.length + 1); omega
      have hc0 : t[i]? = some c := (hl 0).symm
      have hbc := ht.2 i c hc0
      have hc30 := hlt c (List.mem_of_getElem? hc0)
      have hb : buf (nI i).toNatClampNeg = nI c := by rw [nI_clamp (by omega)]; exact hbc.1
      obtain ⟨b, s', t1, t2, t3, hk⟩ := a_take (d := d) (now := now) (snap := snap) (rows := rows) (sv := sv) (buf := buf) (D := D) (H := H) (R := R) (sc := sc) (hs := hs) (ln := nI t.length) hv hc30
      rw [← hb] at hk
      refine hP _ _ _ _ ?_; (conv => whnf)
      refine b2 i t.length rfl rfl (by omega) (by omega) (fun (q : t.length ≤ i) => by omega) (fun _ => ?_); (conv => whnf)
      refine b2 i 60 rfl rfl (by omega) (by omega) (fun (q : 60 ≤ i) => by omega) (fun _ => ?_); (conv => whnf)
      refine ⟨vi rfl (show i < 60 by omega) (by decide), ?_⟩; (conv => whnf)
      refine ⟨Nat.le_of_ble_eq_true rfl, rfl, ?_⟩; (conv => whnf)
      refine Or.inl ⟨_, _, hk, ?_⟩; (conv => whnf)
      cases hrs : rdS s c with
      | none =>
        rw [errP_n hrs] at he
        rw [runR_n hrs] at hr
        have hbf := t3 hrs
        subst hbf
        refine b1 0 rfl (by omega) (fun (q : ¬ 0 = 0) => by omega) (fun _ => ?_); (conv => whnf)
        refine ⟨rfl, ⟨.int, rfl, rfl⟩, rI ?_, s', t1, fun e hh => ?_, rfl⟩
        · rw [he]; rfl
        · rw [hr] at hh; cases hh
      | some e =>
        rw [errP_s hrs] at he
        rw [runR_s hrs] at hr
        obtain ⟨hbt, hse⟩ := t2 e hrs
        subst hbt
        subst hse
        refine b1 1 rfl (by omega) (fun _ => ?_) (fun (q : ¬ ¬ 1 = 0) => by omega)
        refine hP _ _ _ _ ?_; (conv => whnf)
        refine ih (i + 1) s' _ _ (nI_1 i) ?_ (fun k => ?_) (V_step hv (by omega) hrs) ?_ hr rfl
        · have hi : i + (l.length + 1) = t.length := hi
          omega
        · have := hl (k + 1)
          rw [show i + 1 + k = i + (k + 1) by omega]
          exact this
        · rw [he]
          show i + (errP s' l + 1) = _
          omega
  exact lp t 0 _ _ _ rfl (Nat.zero_add _) (fun k => by rw [Nat.zero_add]) hV0 (Nat.zero_add _).symm rfl rfl
def spFirst (A : AS) : Res × AS := (rV (nI (errP (0, 0, 0, 0) A.2.2.2)), A)
theorem c_firstError (hM : CR M A) : ∃ M', Cl (d + 4) kX5_firstError [.ref 0] M (spFirst A).1 M' ∧ CR M' (spFirst A).2 := by
  obtain ⟨now, snap, rows, r, buf, rd, D, H, R, rfl, h1, h2, h3, h4, h5, h6, h7, h8, h9, h10⟩ := hM
  obtain ⟨rd', q1, -, hk⟩ := g_firstError (d := d) (now := now) (snap := snap) (rows := rows) (sv := svF r) (D := D) (H := H) (R := R) (sc := nI A.2.2.1.length) (hs := bI A.2.1.isSome) h6 h7
  have hev := ev_err A.2.2.2 _ _ (ev_0 rd (0, 0, 0, 0)) (V_0 rd h7) (fun c hc => Nat.lt_trans (tx_lt h6 c hc) (by decide))
  rw [hev.1] at hk
  exact ⟨_, hk, now, snap, rows, r, buf, rd', D, H, R, rfl, h1, h2, h3, h4, h5, h6, q1, h8, h9, h10⟩
end X5M
